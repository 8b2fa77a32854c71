noncomputable def f_X12_run_J156 (h : ZH) (a0 : Nat) (a1 : Int32) (h15 : ZH) : Option (Int32 × ZH) :=
  (zg_I h15 a0 10 35).bind fun v16 => some ((v16, h15))
noncomputable def f_X12_run_J148 (h : ZH) (a0 : Nat) (a1 : Int32) (y3_13 : Int32) (x4_26 : Int32) (x5_27 : Int32) (h28 : ZH) : Option ((Int32 × Int32 × ZH) ⊕ (Int32 × ZH)) :=
  zz_let (x5_27 + (1 : Int32)) fun v29 => some (.inl (v29, x4_26, h28))
noncomputable def f_X12_run_J95 (h : ZH) (a0 : Nat) (a1 : Int32) (x2_22 : Int32) (y3_13 : Int32) (x4_23 : Int32) (x5_24 : Int32) (h25 : ZH) : Option ((Int32 × Int32 × ZH) ⊕ (Int32 × ZH)) :=
  if x5_24 ≤ x2_22 then (f_X12_run_J148 h a0 a1 y3_13 (x4_23 + (1 : Int32)) x5_24 h25) else (zz_isO h25 a0 10 <| (f_X12_comesOut h25 a0 x2_22 x5_24).bind fun (v30, h31) => if v30 = 0 then ((zg_R h31 a0 10 33).bind fun v32 => (zg_I h31 a0 10 35).bind fun v33 => (zs_I h31 v32 1 v33 (x4_23 + (1 : Int32))).bind fun h34 => (zg_R h34 a0 10 34).bind fun v35 => (zg_I h34 a0 10 35).bind fun v36 => (zg_I h34 a0 10 36).bind fun v37 => (zs_I h34 v35 1 v36 v37).bind fun h38 => (zg_I h38 a0 10 35).bind fun v39 => (zp_V h38 a0 10 35 (.int (v39 + (1 : Int32)))).bind fun h40 => f_X12_run_J148 h a0 a1 y3_13 (x4_23 + (1 : Int32)) x5_24 h40) else (f_X12_run_J148 h a0 a1 y3_13 (x4_23 + (1 : Int32)) x5_24 h31))
noncomputable def f_X12_run_L71 (h : ZH) (a0 : Nat) (a1 : Int32) (y2_19 : Int32) (y3_13 : Int32) (y4_20 : Int32) (h21 : ZH) (x5_18 : Int32)  : Option ((Int32) ⊕ ((Int32 × Int32 × ZH) ⊕ (Int32 × ZH))) :=
  if y3_13 ≤ x5_18 then ((f_X12_run_J95 h a0 a1 y2_19 y3_13 y4_20 x5_18 h21).map Sum.inr) else ((zg_R h21 a0 10 31).bind fun v41 => (zl_I h21 v41 1 x5_18).bind fun v42 => if v42 = (10 : Int32) then ((f_X12_run_J95 h a0 a1 y2_19 y3_13 y4_20 x5_18 h21).map Sum.inr) else (some (.inl (x5_18 + (1 : Int32)))))
noncomputable def f_X12_run_L56 (h : ZH) (a0 : Nat) (a1 : Int32) (y3_13 : Int32) (x2_11 : Int32) (x4_12 : Int32) (h14 : ZH)  : Option ((Int32 × Int32 × ZH) ⊕ (Int32 × ZH)) :=
  if y3_13 ≤ x2_11 then ((f_X12_run_J156 h a0 a1 h14).map Sum.inr) else ((zg_I h14 a0 10 36).bind fun v17 => if v17 = 0 then (zz_loop (fun st : (Int32) => f_X12_run_L71 h a0 a1 x2_11 y3_13 x4_12 h14 (st)) (x2_11)) else ((f_X12_run_J156 h a0 a1 h14).map Sum.inr))
noncomputable def f_X12_run (h : ZH) (a0 : Nat) (a1 : Int32) : Option (Int32 × ZH) :=
  (zp_V h a0 10 0 (.int ((0 : Int32)))).bind fun h1 => (zg_I h1 a0 10 30).bind fun v2 => (f_X12_in h1 (a1.toInt64) (0 : Int64) ((v2 - (1 : Int32)).toInt64)).bind fun v3 => if v3 = 0 then (some (((-2 : Int32), h1))) else (zz_isO h1 a0 10 <| (f_X12_begin h1 a0).bind fun h4 => (zp_V h4 a0 10 35 (.int ((0 : Int32)))).bind fun h5 => (zp_V h5 a0 10 36 (.int ((0 : Int32)))).bind fun h6 => zz_let ((600 : Int32) * a1) fun v7 => (zg_R h6 a0 10 32).bind fun v8 => (zl_I h6 v8 1 a1).bind fun v9 => zz_let (v7 + v9) fun v10 => zz_loop (fun st : (Int32 × Int32 × ZH) => f_X12_run_L56 h a0 a1 v10 (st.1) (st.2.1) (st.2.2)) (v7, (0 : Int32), h6))
abbrev rm_X12_run : Room := { frames := 5, cells := 0, slots := 0, locals := 122 }
set_option maxRecDepth 100000 in
set_option maxHeartbeats 4000000 in
theorem c_X12_run {l : Launch} {D : va_G} {dA : Nat → ClassId} {A : Nat → Prop} {h : ZH} {n : Nat} (a0 : Nat) (a1 : Int32) {r : Int32} {hx : ZH} (hf : f_X12_run h a0 a1 = some (r, hx)) : Met l yX12_run (zz_ws yX12_run cX12_run 6 (some .int)) rm_X12_run (zz_P D dA A h n [.ref (a0), .int (a1)]) (zz_Q D dA A (some (.int r)) hx n) 0 0 A := by
  refine zz_met (by decide) (Nat.le_of_ble_eq_true rfl) ?_
  intro p e s m args below meth c ls S K hret hlk hnm hl Z
  replace hl : lv_has ls 6 [(0, .ref (a0)), (1, .int (a1))] := hl
  obtain ⟨K0, hR0, hk⟩ : ∃ K0 : (Int32 × ZH) → Prop, (∀ x, K0 x → x = (r, hx)) ∧ K0 (r, hx) := ⟨fun x => x = (r, hx), fun _ h => h, rfl⟩
  have J156 : ∀ (h15 : ZH) (x : (Int32 × ZH)), f_X12_run_J156 h a0 a1 h15 = some x → K0 x → ∀ (H : Heap) (locs : List Loc) (ls : Array Slot), zz_B D dA A h15 n s.heap H locs → lv_has ls 6 [(0, .ref (a0))] → zz_W p l e rm_X12_run s m args below meth c D dA A (some (.int r)) hx n 0 0 H locs 0 0 156 ls [] := by
    intro h15 x hv hk H locs ls Z hl
    unfold f_X12_run_J156 at hv
    refine lv_aload_n S.1 S.2.1 dX12_run_156 rfl (lv_at hl 0 rfl) ?_
    refine zz_gI S K Z hv zc_10 (by decide) gf_X12_237 dX12_run_157 (fun v16 hv => ?_)
    replace hk := zz_fin hv hk
    obtain ⟨rfl, rfl⟩ := Prod.mk.inj (hR0 _ hk)
    exact zz_iret S Z hret hlk dX12_run_160 (Nat.le_refl _) (Nat.le_refl _)
  have L56 : ∀ (y3_13 : Int32) (st : (Int32 × Int32 × ZH)) (x : (Int32 × ZH)), zz_loop (fun st : (Int32 × Int32 × ZH) => f_X12_run_L56 h a0 a1 y3_13 (st.1) (st.2.1) (st.2.2)) st = some x → K0 x → (fun st : (Int32 × Int32 × ZH) => ∀ (H : Heap) (locs : List Loc) (ls : Array Slot), zz_B D dA A (st.2.2) n s.heap H locs → lv_has ls 6 [(0, .ref (a0)), (2, .int ((st.1))), (3, .int (y3_13)), (4, .int ((st.2.1)))] → zz_W p l e rm_X12_run s m args below meth c D dA A (some (.int r)) hx n 0 0 H locs 0 0 56 ls []) st := by
    intro y3_13
    refine zz_loop_go (K := K0) ?_
    intro K1 hP1 hR1
    have J148 : ∀ (x4_26 : Int32) (x5_27 : Int32) (h28 : ZH) (x : ((Int32 × Int32 × ZH) ⊕ (Int32 × ZH))), f_X12_run_J148 h a0 a1 y3_13 x4_26 x5_27 h28 = some x → K1 x → ∀ (H : Heap) (locs : List Loc) (ls : Array Slot), zz_B D dA A h28 n s.heap H locs → lv_has ls 6 [(0, .ref (a0)), (3, .int (y3_13)), (4, .int (x4_26)), (5, .int (x5_27))] → zz_W p l e rm_X12_run s m args below meth c D dA A (some (.int r)) hx n 0 0 H locs 0 0 148 ls [] := by
      intro x4_26 x5_27 h28 x hv hk H locs ls Z hl
      unfold f_X12_run_J148 at hv
      refine lv_iload S.1 S.2.1 dX12_run_148 (lv_at hl 3 rfl) ?_
      refine lv_iconst (v := (1 : Int32)) S.1 S.2.1 dX12_run_150 (by decide) ?_
      refine lv_iadd S.1 S.2.1 dX12_run_151 ?_
      refine zz_lt hv (G := fun w => W _ _ _ _ _ _ _ _ _ _ _ _ _ _ _ (F0 _ _ _ (.int w :: _))) (fun v29 hv => ?_)
      refine lv_istore_n (lv' := [(2, .int (v29)), (0, .ref (a0)), (3, .int (y3_13)), (4, .int (x4_26)), (5, .int (x5_27))]) S.1 S.2.1 dX12_run_152 rfl hl (by decide) rfl (fun ls hl => ?_)
      refine lv_goto (tgt := 56) S.1 S.2.1 dX12_run_153 (by decide) ?_
      replace hk := zz_fin hv hk
      exact hP1 _ hk H locs ls Z (lv_sub hl [1, 0, 2, 3] rfl)
    have J95 : ∀ (x2_22 : Int32) (x4_23 : Int32) (x5_24 : Int32) (h25 : ZH) (x : ((Int32 × Int32 × ZH) ⊕ (Int32 × ZH))), f_X12_run_J95 h a0 a1 x2_22 y3_13 x4_23 x5_24 h25 = some x → K1 x → ∀ (H : Heap) (locs : List Loc) (ls : Array Slot), zz_B D dA A h25 n s.heap H locs → lv_has ls 6 [(0, .ref (a0)), (2, .int (x2_22)), (3, .int (y3_13)), (4, .int (x4_23)), (5, .int (x5_24))] → zz_W p l e rm_X12_run s m args below meth c D dA A (some (.int r)) hx n 0 0 H locs 0 0 95 ls [] := by
      intro x2_22 x4_23 x5_24 h25 x hv hk H locs ls Z hl
      unfold f_X12_run_J95 at hv
      refine lv_iinc (v := x4_23 + (1 : Int32)) (lv' := [(4, .int (x4_23 + (1 : Int32))), (0, .ref (a0)), (2, .int (x2_22)), (3, .int (y3_13)), (5, .int (x5_24))]) S.1 S.2.1 dX12_run_95 hl (k := 3) rfl rfl (by decide) rfl (fun ls hl => ?_)
      refine lv_iload S.1 S.2.1 dX12_run_98 (lv_at hl 4 rfl) ?_
      refine lv_iload_n S.1 S.2.1 dX12_run_100 rfl (lv_at hl 2 rfl) ?_
      refine lv_icmp_le (tgt := 148) S.1 S.2.1 dX12_run_101 (by decide) (fun hc => ?_) (fun hc => ?_)
      · replace hv := (if_pos hc).symm.trans hv
        exact J148 (x4_23 + (1 : Int32)) x5_24 h25 _ hv hk H locs ls Z (lv_sub hl [1, 3, 0, 4] rfl)
      · replace hv := (if_neg hc).symm.trans hv
        refine lv_aload_n S.1 S.2.1 dX12_run_104 rfl (lv_at hl 1 rfl) ?_
        refine lv_iload_n S.1 S.2.1 dX12_run_105 rfl (lv_at hl 2 rfl) ?_
        refine lv_iload S.1 S.2.1 dX12_run_106 (lv_at hl 4 rfl) ?_
        obtain ⟨hci, hv⟩ := zz_isO_s hv
        obtain ⟨⟨v30, h31⟩, hq, hv⟩ := zz_bd hv
        refine zz_V [.int (x2_22), .int (x5_24)] S K Z hci zc_10 rfl (c_X12_comesOut a0 x2_22 x5_24 hq) ⟨rfl, rfl⟩ gm_X12_comesOut gmv_X12_comesOut gl_X12_240 ⟨by decide, by decide⟩ rfl hl.1 rfl (Nat.le_of_ble_eq_true rfl) dX12_run_108 ⟨Nat.zero_le _, Nat.zero_le _⟩ (fun H locs Z => ?_)
        show W _ _ _ _ _ _ _ _ _ _ _ _ 0 0 _ (F0 m 111 ls [.int (v30)])
        refine lv_if_ne (tgt := 148) S.1 S.2.1 dX12_run_111 (by decide) (fun hc => ?_) (fun hc => ?_)
        · replace hv := (if_neg hc).symm.trans hv
          exact J148 (x4_23 + (1 : Int32)) x5_24 h31 _ hv hk H locs ls Z (lv_sub hl [1, 3, 0, 4] rfl)
        · replace hv := (if_pos hc).symm.trans hv
          refine lv_aload_n S.1 S.2.1 dX12_run_114 rfl (lv_at hl 1 rfl) ?_
          refine zz_gR S K Z hv zc_10 (by decide) gf_X12_88 dX12_run_115 (fun v32 hv => ?_)
          refine lv_aload_n S.1 S.2.1 dX12_run_118 rfl (lv_at hl 1 rfl) ?_
          refine zz_gI S K Z hv zc_10 (by decide) gf_X12_237 dX12_run_119 (fun v33 hv => ?_)
          refine lv_iload S.1 S.2.1 dX12_run_122 (lv_at hl 0 rfl) ?_
          refine zz_iast S K Z hv dX12_run_124 (fun h34 H locs hv Z => ?_)
          refine lv_aload_n S.1 S.2.1 dX12_run_125 rfl (lv_at hl 1 rfl) ?_
          refine zz_gR S K Z hv zc_10 (by decide) gf_X12_91 dX12_run_126 (fun v35 hv => ?_)
          refine lv_aload_n S.1 S.2.1 dX12_run_129 rfl (lv_at hl 1 rfl) ?_
          refine zz_gI S K Z hv zc_10 (by decide) gf_X12_237 dX12_run_130 (fun v36 hv => ?_)
          refine lv_aload_n S.1 S.2.1 dX12_run_133 rfl (lv_at hl 1 rfl) ?_
          refine zz_gI S K Z hv zc_10 (by decide) gf_X12_234 dX12_run_134 (fun v37 hv => ?_)
          refine zz_iast S K Z hv dX12_run_137 (fun h38 H locs hv Z => ?_)
          refine lv_aload_n S.1 S.2.1 dX12_run_138 rfl (lv_at hl 1 rfl) ?_
          refine lv_dup S.1 S.2.1 dX12_run_139 rfl ?_
          refine zz_gI S K Z hv zc_10 (by decide) gf_X12_237 dX12_run_140 (fun v39 hv => ?_)
          refine lv_iconst (v := (1 : Int32)) S.1 S.2.1 dX12_run_143 (by decide) ?_
          refine lv_iadd S.1 S.2.1 dX12_run_144 ?_
          refine zz_put S K Z hv zc_10 (by decide) gf_X12_237 rfl rfl rfl dX12_run_145 (fun h40 H locs hv Z => ?_)
          exact J148 (x4_23 + (1 : Int32)) x5_24 h40 _ hv hk H locs ls Z (lv_sub hl [1, 3, 0, 4] rfl)
    have L71 : ∀ (y2_19 : Int32) (y4_20 : Int32) (h21 : ZH) (st : (Int32)) (x : ((Int32 × Int32 × ZH) ⊕ (Int32 × ZH))), zz_loop (fun st : (Int32) => f_X12_run_L71 h a0 a1 y2_19 y3_13 y4_20 h21 (st)) st = some x → K1 x → (fun st : (Int32) => ∀ (H : Heap) (locs : List Loc) (ls : Array Slot), zz_B D dA A h21 n s.heap H locs → lv_has ls 6 [(0, .ref (a0)), (2, .int (y2_19)), (3, .int (y3_13)), (4, .int (y4_20)), (5, .int ((st)))] → zz_W p l e rm_X12_run s m args below meth c D dA A (some (.int r)) hx n 0 0 H locs 0 0 71 ls []) st := by
      intro y2_19 y4_20 h21
      refine zz_loop_go (K := K1) ?_
      intro K2 hP2 hR2
      rintro x5_18 x hv hk H locs ls Z hl
      replace hv : f_X12_run_L71 h a0 a1 y2_19 y3_13 y4_20 h21 x5_18 = some x := hv
      unfold f_X12_run_L71 at hv
      replace hl : lv_has ls 6 [(0, .ref (a0)), (2, .int (y2_19)), (3, .int (y3_13)), (4, .int (y4_20)), (5, .int (x5_18))] := hl
      replace Z : zz_B D dA A h21 n s.heap H locs := Z
      show zz_W p l e rm_X12_run s m args below meth c D dA A (some (.int r)) hx n 0 0 H locs 0 0 71 ls []
      refine lv_iload S.1 S.2.1 dX12_run_71 (lv_at hl 4 rfl) ?_
      refine lv_iload_n S.1 S.2.1 dX12_run_73 rfl (lv_at hl 2 rfl) ?_
      refine lv_icmp_ge (tgt := 95) S.1 S.2.1 dX12_run_74 (by decide) (fun hc => ?_) (fun hc => ?_)
      · replace hv := (if_pos hc).symm.trans hv
        obtain ⟨_, hv, hk⟩ := zz_mapk hv hk
        replace hk := hR2 _ hk
        exact J95 y2_19 y4_20 x5_18 h21 _ hv hk H locs ls Z (lv_sub hl [0, 1, 2, 3, 4] rfl)
      · replace hv := (if_neg hc).symm.trans hv
        refine lv_aload_n S.1 S.2.1 dX12_run_77 rfl (lv_at hl 0 rfl) ?_
        refine zz_gR S K Z hv zc_10 (by decide) gf_X12_82 dX12_run_78 (fun v41 hv => ?_)
        refine lv_iload S.1 S.2.1 dX12_run_81 (lv_at hl 4 rfl) ?_
        refine zz_iald S K Z hv dX12_run_83 (fun v42 hv => ?_)
        refine lv_bipush (v := (10 : Int32)) S.1 S.2.1 dX12_run_84 (by decide) ?_
        refine lv_icmp_eq (tgt := 95) S.1 S.2.1 dX12_run_86 (by decide) (fun hc => ?_) (fun hc => ?_)
        · replace hv := (if_pos hc).symm.trans hv
          obtain ⟨_, hv, hk⟩ := zz_mapk hv hk
          replace hk := hR2 _ hk
          exact J95 y2_19 y4_20 x5_18 h21 _ hv hk H locs ls Z (lv_sub hl [0, 1, 2, 3, 4] rfl)
        · replace hv := (if_neg hc).symm.trans hv
          refine lv_iinc (v := x5_18 + (1 : Int32)) (lv' := [(5, .int (x5_18 + (1 : Int32))), (0, .ref (a0)), (2, .int (y2_19)), (3, .int (y3_13)), (4, .int (y4_20))]) S.1 S.2.1 dX12_run_89 hl (k := 4) rfl rfl (by decide) rfl (fun ls hl => ?_)
          refine lv_goto (tgt := 71) S.1 S.2.1 dX12_run_92 (by decide) ?_
          replace hk := zz_fin hv hk
          exact hP2 _ hk H locs ls Z (lv_sub hl [1, 2, 3, 4, 0] rfl)
    rintro ⟨x2_11, x4_12, h14⟩ x hv hk H locs ls Z hl
    replace hv : f_X12_run_L56 h a0 a1 y3_13 x2_11 x4_12 h14 = some x := hv
    unfold f_X12_run_L56 at hv
    replace hl : lv_has ls 6 [(0, .ref (a0)), (2, .int (x2_11)), (3, .int (y3_13)), (4, .int (x4_12))] := hl
    replace Z : zz_B D dA A h14 n s.heap H locs := Z
    show zz_W p l e rm_X12_run s m args below meth c D dA A (some (.int r)) hx n 0 0 H locs 0 0 56 ls []
    refine lv_iload_n S.1 S.2.1 dX12_run_56 rfl (lv_at hl 1 rfl) ?_
    refine lv_iload_n S.1 S.2.1 dX12_run_57 rfl (lv_at hl 2 rfl) ?_
    refine lv_icmp_ge (tgt := 156) S.1 S.2.1 dX12_run_58 (by decide) (fun hc => ?_) (fun hc => ?_)
    · replace hv := (if_pos hc).symm.trans hv
      obtain ⟨_, hv, hk⟩ := zz_mapk hv hk
      replace hk := hR1 _ hk
      exact J156 h14 _ hv hk H locs ls Z (lv_sub hl [0] rfl)
    · replace hv := (if_neg hc).symm.trans hv
      refine lv_aload_n S.1 S.2.1 dX12_run_61 rfl (lv_at hl 0 rfl) ?_
      refine zz_gI S K Z hv zc_10 (by decide) gf_X12_234 dX12_run_62 (fun v17 hv => ?_)
      refine lv_if_ne (tgt := 156) S.1 S.2.1 dX12_run_65 (by decide) (fun hc => ?_) (fun hc => ?_)
      · replace hv := (if_neg hc).symm.trans hv
        obtain ⟨_, hv, hk⟩ := zz_mapk hv hk
        replace hk := hR1 _ hk
        exact J156 h14 _ hv hk H locs ls Z (lv_sub hl [0] rfl)
      · replace hv := (if_pos hc).symm.trans hv
        refine lv_iload_n S.1 S.2.1 dX12_run_68 rfl (lv_at hl 1 rfl) ?_
        refine lv_istore (lv' := [(5, .int (x2_11)), (0, .ref (a0)), (2, .int (x2_11)), (3, .int (y3_13)), (4, .int (x4_12))]) S.1 S.2.1 dX12_run_69 hl (by decide) rfl (fun ls hl => ?_)
        exact L71 x2_11 x4_12 h14 (x2_11) _ hv hk H locs ls Z (lv_sub hl [1, 2, 3, 4, 0] rfl)
  have hv := hf
  unfold f_X12_run at hv
  clear hf
  obtain ⟨x, hxx⟩ : ∃ x, x = (r, hx) := ⟨_, rfl⟩
  rw [← hxx] at hv hk
  have ⟨H, hH⟩ : ∃ H, H = s.heap := ⟨_, rfl⟩
  have ⟨locs, hlo⟩ : ∃ q : List Loc, q = [] := ⟨_, rfl⟩
  have Z : zz_B D dA A h n s.heap H locs := by rw [hH, hlo]; exact Z
  have key : zz_W p l e rm_X12_run s m args below meth c D dA A (some (.int r)) hx n 0 0 H locs 0 0 0 ls [] := by
    clear hH hlo hxx
    refine lv_aload_n S.1 S.2.1 dX12_run_0 rfl (lv_at hl 0 rfl) ?_
    refine lv_iconst (v := (0 : Int32)) S.1 S.2.1 dX12_run_1 (by decide) ?_
    refine zz_put S K Z hv zc_10 (by decide) gf_X12_1 rfl rfl rfl dX12_run_2 (fun h1 H locs hv Z => ?_)
    refine lv_iload_n S.1 S.2.1 dX12_run_5 rfl (lv_at hl 1 rfl) ?_
    refine lv_i2l S.1 S.2.1 dX12_run_6 rfl ?_
    refine lv_lconst (v := (0 : Int64)) S.1 S.2.1 dX12_run_7 (by decide) ?_
    refine lv_aload_n S.1 S.2.1 dX12_run_8 rfl (lv_at hl 0 rfl) ?_
    refine zz_gI S K Z hv zc_10 (by decide) gf_X12_210 dX12_run_9 (fun v2 hv => ?_)
    refine lv_iconst (v := (1 : Int32)) S.1 S.2.1 dX12_run_12 (by decide) ?_
    refine lv_isub S.1 S.2.1 dX12_run_13 ?_
    refine lv_i2l S.1 S.2.1 dX12_run_14 rfl ?_
    obtain ⟨v3, hq, hv⟩ := zz_bd hv
    refine zz_S [.long (a1.toInt64), .long ((0 : Int64)), .long ((v2 - (1 : Int32)).toInt64)] S K Z (c_X12_in (a1.toInt64) (0 : Int64) ((v2 - (1 : Int32)).toInt64) hq) ⟨rfl, rfl⟩ gm_X12_in gs_X12_in gl_X12_105 ⟨by decide, by decide⟩ rfl hl.1 rfl (Nat.le_of_ble_eq_true rfl) dX12_run_15 ⟨Nat.zero_le _, Nat.zero_le _⟩ (fun H locs Z => ?_)
    show W _ _ _ _ _ _ _ _ _ _ _ _ 0 0 _ (F0 m 18 ls [.int (v3)])
    refine lv_if_ne (tgt := 24) S.1 S.2.1 dX12_run_18 (by decide) (fun hc => ?_) (fun hc => ?_)
    · replace hv := (if_neg hc).symm.trans hv
      refine lv_aload_n S.1 S.2.1 dX12_run_24 rfl (lv_at hl 0 rfl) ?_
      obtain ⟨hci, hv⟩ := zz_isO_s hv
      obtain ⟨h4, hq, hv⟩ := zz_bd hv
      refine zz_V [] S K Z hci zc_10 rfl (c_X12_begin a0 hq) ⟨rfl, rfl⟩ gm_X12_begin gmv_X12_begin gl_X12_100 ⟨by decide, by decide⟩ rfl hl.1 rfl (Nat.le_of_ble_eq_true rfl) dX12_run_25 ⟨Nat.zero_le _, Nat.zero_le _⟩ (fun H locs Z => ?_)
      show W _ _ _ _ _ _ _ _ _ _ _ _ 0 0 _ (F0 m 28 ls [])
      refine lv_aload_n S.1 S.2.1 dX12_run_28 rfl (lv_at hl 0 rfl) ?_
      refine lv_iconst (v := (0 : Int32)) S.1 S.2.1 dX12_run_29 (by decide) ?_
      refine zz_put S K Z hv zc_10 (by decide) gf_X12_237 rfl rfl rfl dX12_run_30 (fun h5 H locs hv Z => ?_)
      refine lv_aload_n S.1 S.2.1 dX12_run_33 rfl (lv_at hl 0 rfl) ?_
      refine lv_iconst (v := (0 : Int32)) S.1 S.2.1 dX12_run_34 (by decide) ?_
      refine zz_put S K Z hv zc_10 (by decide) gf_X12_234 rfl rfl rfl dX12_run_35 (fun h6 H locs hv Z => ?_)
      refine lv_sipush (v := (600 : Int32)) S.1 S.2.1 dX12_run_38 (by decide) ?_
      refine lv_iload_n S.1 S.2.1 dX12_run_41 rfl (lv_at hl 1 rfl) ?_
      refine lv_imul S.1 S.2.1 dX12_run_42 ?_
      refine zz_lt hv (G := fun w => W _ _ _ _ _ _ _ _ _ _ _ _ _ _ _ (F0 _ _ _ (.int w :: _))) (fun v7 hv => ?_)
      refine lv_istore_n (lv' := [(2, .int (v7)), (0, .ref (a0)), (1, .int (a1))]) S.1 S.2.1 dX12_run_43 rfl hl (by decide) rfl (fun ls hl => ?_)
      refine lv_iload_n S.1 S.2.1 dX12_run_44 rfl (lv_at hl 0 rfl) ?_
      refine lv_aload_n S.1 S.2.1 dX12_run_45 rfl (lv_at hl 1 rfl) ?_
      refine zz_gR S K Z hv zc_10 (by decide) gf_X12_85 dX12_run_46 (fun v8 hv => ?_)
      refine lv_iload_n S.1 S.2.1 dX12_run_49 rfl (lv_at hl 2 rfl) ?_
      refine zz_iald S K Z hv dX12_run_50 (fun v9 hv => ?_)
      refine lv_iadd S.1 S.2.1 dX12_run_51 ?_
      refine zz_lt hv (G := fun w => W _ _ _ _ _ _ _ _ _ _ _ _ _ _ _ (F0 _ _ _ (.int w :: _))) (fun v10 hv => ?_)
      refine lv_istore_n (lv' := [(3, .int (v10)), (2, .int (v7)), (0, .ref (a0)), (1, .int (a1))]) S.1 S.2.1 dX12_run_52 rfl hl (by decide) rfl (fun ls hl => ?_)
      refine lv_iconst (v := (0 : Int32)) S.1 S.2.1 dX12_run_53 (by decide) ?_
      refine lv_istore (lv' := [(4, .int ((0 : Int32))), (3, .int (v10)), (2, .int (v7)), (0, .ref (a0)), (1, .int (a1))]) S.1 S.2.1 dX12_run_54 hl (by decide) rfl (fun ls hl => ?_)
      exact L56 v10 (v7, (0 : Int32), h6) _ hv hk H locs ls Z (lv_sub hl [3, 2, 1, 0] rfl)
    · replace hv := (if_pos hc).symm.trans hv
      refine lv_bipush (v := (-2 : Int32)) S.1 S.2.1 dX12_run_21 (by decide) ?_
      replace hk := zz_fin hv hk
      obtain ⟨rfl, rfl⟩ := Prod.mk.inj (hR0 _ hk)
      exact zz_iret S Z hret hlk dX12_run_23 (Nat.le_refl _) (Nat.le_refl _)
  rw [hH, hlo] at key
  exact key

noncomputable def f_X12_failed (h : ZH) (a0 : Nat) (a1 : Int32) (a2 : Int32) : Option (Int32 × ZH) :=
  (zp_V h a0 10 0 (.int ((0 : Int32)))).bind fun h1 => (zg_I h1 a0 10 35).bind fun v2 => (f_X12_in h1 (a1.toInt64) (0 : Int64) ((v2 - (1 : Int32)).toInt64)).bind fun v3 => if v3 = 0 then (some (((-2 : Int32), h1))) else (if a2 = 0 then ((zg_R h1 a0 10 33).bind fun v6 => (zl_I h1 v6 1 a1).bind fun v7 => some ((v7, h1))) else (if a2 = (1 : Int32) then ((zg_R h1 a0 10 34).bind fun v4 => (zl_I h1 v4 1 a1).bind fun v5 => some ((v5, h1))) else (some (((-3 : Int32), h1)))))
abbrev rm_X12_failed : Room := { frames := 1, cells := 0, slots := 0, locals := 25 }
set_option maxRecDepth 100000 in
set_option maxHeartbeats 4000000 in
theorem c_X12_failed {l : Launch} {D : va_G} {dA : Nat → ClassId} {A : Nat → Prop} {h : ZH} {n : Nat} (a0 : Nat) (a1 : Int32) (a2 : Int32) {r : Int32} {hx : ZH} (hf : f_X12_failed h a0 a1 a2 = some (r, hx)) : Met l yX12_failed (zz_ws yX12_failed cX12_failed 3 (some .int)) rm_X12_failed (zz_P D dA A h n [.ref (a0), .int (a1), .int (a2)]) (zz_Q D dA A (some (.int r)) hx n) 0 0 A := by
  refine zz_met (by decide) (Nat.le_of_ble_eq_true rfl) ?_
  intro p e s m args below meth c ls S K hret hlk hnm hl Z
  replace hl : lv_has ls 3 [(0, .ref (a0)), (1, .int (a1)), (2, .int (a2))] := hl
  obtain ⟨K0, hR0, hk⟩ : ∃ K0 : (Int32 × ZH) → Prop, (∀ x, K0 x → x = (r, hx)) ∧ K0 (r, hx) := ⟨fun x => x = (r, hx), fun _ h => h, rfl⟩
  have hv := hf
  unfold f_X12_failed at hv
  clear hf
  obtain ⟨x, hxx⟩ : ∃ x, x = (r, hx) := ⟨_, rfl⟩
  rw [← hxx] at hv hk
  have ⟨H, hH⟩ : ∃ H, H = s.heap := ⟨_, rfl⟩
  have ⟨locs, hlo⟩ : ∃ q : List Loc, q = [] := ⟨_, rfl⟩
  have Z : zz_B D dA A h n s.heap H locs := by rw [hH, hlo]; exact Z
  have key : zz_W p l e rm_X12_failed s m args below meth c D dA A (some (.int r)) hx n 0 0 H locs 0 0 0 ls [] := by
    clear hH hlo hxx
    refine lv_aload_n S.1 S.2.1 dX12_failed_0 rfl (lv_at hl 0 rfl) ?_
    refine lv_iconst (v := (0 : Int32)) S.1 S.2.1 dX12_failed_1 (by decide) ?_
    refine zz_put S K Z hv zc_10 (by decide) gf_X12_1 rfl rfl rfl dX12_failed_2 (fun h1 H locs hv Z => ?_)
    refine lv_iload_n S.1 S.2.1 dX12_failed_5 rfl (lv_at hl 1 rfl) ?_
    refine lv_i2l S.1 S.2.1 dX12_failed_6 rfl ?_
    refine lv_lconst (v := (0 : Int64)) S.1 S.2.1 dX12_failed_7 (by decide) ?_
    refine lv_aload_n S.1 S.2.1 dX12_failed_8 rfl (lv_at hl 0 rfl) ?_
    refine zz_gI S K Z hv zc_10 (by decide) gf_X12_237 dX12_failed_9 (fun v2 hv => ?_)
    refine lv_iconst (v := (1 : Int32)) S.1 S.2.1 dX12_failed_12 (by decide) ?_
    refine lv_isub S.1 S.2.1 dX12_failed_13 ?_
    refine lv_i2l S.1 S.2.1 dX12_failed_14 rfl ?_
    obtain ⟨v3, hq, hv⟩ := zz_bd hv
    refine zz_S [.long (a1.toInt64), .long ((0 : Int64)), .long ((v2 - (1 : Int32)).toInt64)] S K Z (c_X12_in (a1.toInt64) (0 : Int64) ((v2 - (1 : Int32)).toInt64) hq) ⟨rfl, rfl⟩ gm_X12_in gs_X12_in gl_X12_105 ⟨by decide, by decide⟩ rfl hl.1 rfl (Nat.le_of_ble_eq_true rfl) dX12_failed_15 ⟨Nat.zero_le _, Nat.zero_le _⟩ (fun H locs Z => ?_)
    show W _ _ _ _ _ _ _ _ _ _ _ _ 0 0 _ (F0 m 18 ls [.int (v3)])
    refine lv_if_ne (tgt := 24) S.1 S.2.1 dX12_failed_18 (by decide) (fun hc => ?_) (fun hc => ?_)
    · replace hv := (if_neg hc).symm.trans hv
      refine lv_iload_n S.1 S.2.1 dX12_failed_24 rfl (lv_at hl 2 rfl) ?_
      refine lv_if_ne (tgt := 37) S.1 S.2.1 dX12_failed_25 (by decide) (fun hc => ?_) (fun hc => ?_)
      · replace hv := (if_neg hc).symm.trans hv
        refine lv_iload_n S.1 S.2.1 dX12_failed_37 rfl (lv_at hl 2 rfl) ?_
        refine lv_iconst (v := (1 : Int32)) S.1 S.2.1 dX12_failed_38 (by decide) ?_
        refine lv_icmp_ne (tgt := 51) S.1 S.2.1 dX12_failed_39 (by decide) (fun hc => ?_) (fun hc => ?_)
        · replace hv := (if_neg hc).symm.trans hv
          refine lv_bipush (v := (-3 : Int32)) S.1 S.2.1 dX12_failed_51 (by decide) ?_
          replace hk := zz_fin hv hk
          obtain ⟨rfl, rfl⟩ := Prod.mk.inj (hR0 _ hk)
          exact zz_iret S Z hret hlk dX12_failed_53 (Nat.le_refl _) (Nat.le_refl _)
        · replace hv := (if_pos hc).symm.trans hv
          refine lv_aload_n S.1 S.2.1 dX12_failed_42 rfl (lv_at hl 0 rfl) ?_
          refine zz_gR S K Z hv zc_10 (by decide) gf_X12_91 dX12_failed_43 (fun v4 hv => ?_)
          refine lv_iload_n S.1 S.2.1 dX12_failed_46 rfl (lv_at hl 1 rfl) ?_
          refine zz_iald S K Z hv dX12_failed_47 (fun v5 hv => ?_)
          refine lv_goto (tgt := 53) S.1 S.2.1 dX12_failed_48 (by decide) ?_
          replace hk := zz_fin hv hk
          obtain ⟨rfl, rfl⟩ := Prod.mk.inj (hR0 _ hk)
          exact zz_iret S Z hret hlk dX12_failed_53 (Nat.le_refl _) (Nat.le_refl _)
      · replace hv := (if_pos hc).symm.trans hv
        refine lv_aload_n S.1 S.2.1 dX12_failed_28 rfl (lv_at hl 0 rfl) ?_
        refine zz_gR S K Z hv zc_10 (by decide) gf_X12_88 dX12_failed_29 (fun v6 hv => ?_)
        refine lv_iload_n S.1 S.2.1 dX12_failed_32 rfl (lv_at hl 1 rfl) ?_
        refine zz_iald S K Z hv dX12_failed_33 (fun v7 hv => ?_)
        refine lv_goto (tgt := 53) S.1 S.2.1 dX12_failed_34 (by decide) ?_
        replace hk := zz_fin hv hk
        obtain ⟨rfl, rfl⟩ := Prod.mk.inj (hR0 _ hk)
        exact zz_iret S Z hret hlk dX12_failed_53 (Nat.le_refl _) (Nat.le_refl _)
    · replace hv := (if_pos hc).symm.trans hv
      refine lv_bipush (v := (-2 : Int32)) S.1 S.2.1 dX12_failed_21 (by decide) ?_
      replace hk := zz_fin hv hk
      obtain ⟨rfl, rfl⟩ := Prod.mk.inj (hR0 _ hk)
      exact zz_iret S Z hret hlk dX12_failed_23 (Nat.le_refl _) (Nat.le_refl _)
  rw [hH, hlo] at key
  exact key

noncomputable def f_X12_endOf_L2 (h : ZH) (a0 : Nat) (a1 : Int32) (x2_1 : Int32)  : Option ((Int32) ⊕ (Int32)) :=
  (zg_I h a0 10 2).bind fun v2 => if v2 ≤ x2_1 then ((some (x2_1)).map Sum.inr) else ((zg_R h a0 10 1).bind fun v3 => (zl_I h v3 1 x2_1).bind fun v4 => if v4 = (10 : Int32) then ((some (x2_1)).map Sum.inr) else (some (.inl (x2_1 + (1 : Int32)))))
noncomputable def f_X12_endOf (h : ZH) (a0 : Nat) (a1 : Int32) : Option (Int32) :=
  zz_loop (fun st : (Int32) => f_X12_endOf_L2 h a0 a1 (st)) (a1)
abbrev rm_X12_endOf : Room := { frames := 0, cells := 0, slots := 0, locals := 0 }
set_option maxRecDepth 100000 in
set_option maxHeartbeats 4000000 in
theorem c_X12_endOf {l : Launch} {D : va_G} {dA : Nat → ClassId} {A : Nat → Prop} {h : ZH} {n : Nat} (a0 : Nat) (a1 : Int32) {r : Int32} (hf : f_X12_endOf h a0 a1 = some r) : Met l yX12_endOf (zz_ws yX12_endOf cX12_endOf 3 (some .int)) rm_X12_endOf (zz_P D dA A h n [.ref (a0), .int (a1)]) (zz_Q D dA A (some (.int r)) h n) 0 0 A := by
  refine zz_met (by decide) (Nat.le_of_ble_eq_true rfl) ?_
  intro p e s m args below meth c ls S K hret hlk hnm hl Z
  replace hl : lv_has ls 3 [(0, .ref (a0)), (1, .int (a1))] := hl
  obtain ⟨K0, hR0, hk⟩ : ∃ K0 : (Int32) → Prop, (∀ x, K0 x → x = r) ∧ K0 r := ⟨fun x => x = r, fun _ h => h, rfl⟩
  have L2 : ∀ (st : (Int32)) (x : (Int32)), zz_loop (fun st : (Int32) => f_X12_endOf_L2 h a0 a1 (st)) st = some x → K0 x → (fun st : (Int32) => ∀ (H : Heap) (locs : List Loc) (ls : Array Slot), zz_B D dA A h n s.heap H locs → lv_has ls 3 [(0, .ref (a0)), (2, .int ((st)))] → zz_W p l e rm_X12_endOf s m args below meth c D dA A (some (.int r)) h n 0 0 H locs 0 0 2 ls []) st := by
    refine zz_loop_go (K := K0) ?_
    intro K1 hP1 hR1
    rintro x2_1 x hv hk H locs ls Z hl
    replace hv : f_X12_endOf_L2 h a0 a1 x2_1 = some x := hv
    unfold f_X12_endOf_L2 at hv
    replace hl : lv_has ls 3 [(0, .ref (a0)), (2, .int (x2_1))] := hl
    replace Z : zz_B D dA A h n s.heap H locs := Z
    show zz_W p l e rm_X12_endOf s m args below meth c D dA A (some (.int r)) h n 0 0 H locs 0 0 2 ls []
    refine lv_iload_n S.1 S.2.1 dX12_endOf_2 rfl (lv_at hl 1 rfl) ?_
    refine lv_aload_n S.1 S.2.1 dX12_endOf_3 rfl (lv_at hl 0 rfl) ?_
    refine zz_gI S K Z hv zc_10 (by decide) gf_X12_109 dX12_endOf_4 (fun v2 hv => ?_)
    refine lv_icmp_ge (tgt := 27) S.1 S.2.1 dX12_endOf_7 (by decide) (fun hc => ?_) (fun hc => ?_)
    · replace hv := (if_pos hc).symm.trans hv
      obtain ⟨_, hv, hk⟩ := zz_mapk hv hk
      replace hk := hR1 _ hk
      refine lv_iload_n S.1 S.2.1 dX12_endOf_27 rfl (lv_at hl 1 rfl) ?_
      replace hk := zz_fin hv hk
      obtain rfl := hR0 _ hk
      exact zz_iret S Z hret hlk dX12_endOf_28 (Nat.le_refl _) (Nat.le_refl _)
    · replace hv := (if_neg hc).symm.trans hv
      refine lv_aload_n S.1 S.2.1 dX12_endOf_10 rfl (lv_at hl 0 rfl) ?_
      refine zz_gR S K Z hv zc_10 (by decide) gf_X12_13 dX12_endOf_11 (fun v3 hv => ?_)
      refine lv_iload_n S.1 S.2.1 dX12_endOf_14 rfl (lv_at hl 1 rfl) ?_
      refine zz_iald S K Z hv dX12_endOf_15 (fun v4 hv => ?_)
      refine lv_bipush (v := (10 : Int32)) S.1 S.2.1 dX12_endOf_16 (by decide) ?_
      refine lv_icmp_eq (tgt := 27) S.1 S.2.1 dX12_endOf_18 (by decide) (fun hc => ?_) (fun hc => ?_)
      · replace hv := (if_pos hc).symm.trans hv
        obtain ⟨_, hv, hk⟩ := zz_mapk hv hk
        replace hk := hR1 _ hk
        refine lv_iload_n S.1 S.2.1 dX12_endOf_27 rfl (lv_at hl 1 rfl) ?_
        replace hk := zz_fin hv hk
        obtain rfl := hR0 _ hk
        exact zz_iret S Z hret hlk dX12_endOf_28 (Nat.le_refl _) (Nat.le_refl _)
      · replace hv := (if_neg hc).symm.trans hv
        refine lv_iinc (v := x2_1 + (1 : Int32)) (lv' := [(2, .int (x2_1 + (1 : Int32))), (0, .ref (a0))]) S.1 S.2.1 dX12_endOf_21 hl (k := 1) rfl rfl (by decide) rfl (fun ls hl => ?_)
        refine lv_goto (tgt := 2) S.1 S.2.1 dX12_endOf_24 (by decide) ?_
        replace hk := zz_fin hv hk
        exact hP1 _ hk H locs ls Z (lv_sub hl [1, 0] rfl)
  have hv := hf
  unfold f_X12_endOf at hv
  clear hf
  obtain ⟨x, hxx⟩ : ∃ x, x = r := ⟨_, rfl⟩
  rw [← hxx] at hv hk
  have ⟨H, hH⟩ : ∃ H, H = s.heap := ⟨_, rfl⟩
  have ⟨locs, hlo⟩ : ∃ q : List Loc, q = [] := ⟨_, rfl⟩
  have Z : zz_B D dA A h n s.heap H locs := by rw [hH, hlo]; exact Z
  have key : zz_W p l e rm_X12_endOf s m args below meth c D dA A (some (.int r)) h n 0 0 H locs 0 0 0 ls [] := by
    clear hH hlo hxx
    refine lv_iload_n S.1 S.2.1 dX12_endOf_0 rfl (lv_at hl 1 rfl) ?_
    refine lv_istore_n (lv' := [(2, .int (a1)), (0, .ref (a0)), (1, .int (a1))]) S.1 S.2.1 dX12_endOf_1 rfl hl (by decide) rfl (fun ls hl => ?_)
    exact L2  (a1) _ hv hk H locs ls Z (lv_sub hl [1, 0] rfl)
  rw [hH, hlo] at key
  exact key

noncomputable def f_X12_wrongTranscript_L83 (h : ZH) (a0 : Nat) (y2_9 : Int32) (y3_10 : Int32) (x4_8 : Int32)  : Option ((Int32) ⊕ ((Int32 × Int32) ⊕ (Int32))) :=
  if y3_10 ≤ x4_8 then ((zz_let (y3_10 + (1 : Int32)) fun v11 => some (.inl (v11, y2_9 + (1 : Int32)))).map Sum.inr) else ((zg_R h a0 10 1).bind fun v12 => (zl_I h v12 1 x4_8).bind fun v13 => (f_X12_isSign h v13).bind fun v14 => if v14 = 0 then (((some (x4_8)).map Sum.inr).map Sum.inr) else (some (.inl (x4_8 + (1 : Int32)))))
noncomputable def f_X12_wrongTranscript_J74 (h : ZH) (a0 : Nat) (x1_5 : Int32) (x2_6 : Int32) : Option ((Int32 × Int32) ⊕ (Int32)) :=
  zz_isO h a0 10 <| (f_X12_endOf h a0 x1_5).bind fun v7 => zz_loop (fun st : (Int32) => f_X12_wrongTranscript_L83 h a0 x2_6 v7 (st)) (x1_5)
noncomputable def f_X12_wrongTranscript_J67 (h : ZH) (a0 : Nat) (x1_19 : Int32) (x2_20 : Int32) (s21 : Int32) : Option ((Int32 × Int32) ⊕ (Int32)) :=
  if s21 < 0 then (f_X12_wrongTranscript_J74 h a0 x1_19 x2_20) else ((some (s21)).map Sum.inr)
noncomputable def f_X12_wrongTranscript_L4 (h : ZH) (a0 : Nat) (x1_1 : Int32) (x2_2 : Int32)  : Option ((Int32 × Int32) ⊕ (Int32)) :=
  (zg_I h a0 10 2).bind fun v3 => if v3 ≤ x1_1 then ((zz_ne (2 : Int32) <| if (x2_2 - x2_2 / (2 : Int32) * (2 : Int32)) = (1 : Int32) then ((zg_I h a0 10 2).bind fun v4 => some (v4)) else (some ((-1 : Int32)))).map Sum.inr) else (if x2_2 = (40 : Int32) then ((some (x1_1)).map Sum.inr) else (zz_ne (2 : Int32) <| if (x2_2 - x2_2 / (2 : Int32) * (2 : Int32)) = 0 then ((zg_R h a0 10 1).bind fun v15 => (zl_I h v15 1 x1_1).bind fun v16 => if v16 = (62 : Int32) then (zz_isO h a0 10 <| (f_X12_byteAt h a0 (x1_1 + (1 : Int32))).bind fun v17 => if v17 = (32 : Int32) then (zz_isO h a0 10 <| (f_X12_wrongWords h a0 (x1_1 + (2 : Int32)) (1 : Int32)).bind fun v18 => f_X12_wrongTranscript_J67 h a0 x1_1 x2_2 v18) else (f_X12_wrongTranscript_J67 h a0 x1_1 x2_2 (x1_1 + (1 : Int32)))) else (f_X12_wrongTranscript_J67 h a0 x1_1 x2_2 x1_1)) else (f_X12_wrongTranscript_J74 h a0 x1_1 x2_2)))
noncomputable def f_X12_wrongTranscript (h : ZH) (a0 : Nat) : Option (Int32) :=
  zz_loop (fun st : (Int32 × Int32) => f_X12_wrongTranscript_L4 h a0 (st.1) (st.2)) ((0 : Int32), (0 : Int32))
abbrev rm_X12_wrongTranscript : Room := { frames := 3, cells := 0, slots := 0, locals := 71 }
set_option maxRecDepth 100000 in
set_option maxHeartbeats 4000000 in
theorem c_X12_wrongTranscript {l : Launch} {D : va_G} {dA : Nat → ClassId} {A : Nat → Prop} {h : ZH} {n : Nat} (a0 : Nat) {r : Int32} (hf : f_X12_wrongTranscript h a0 = some r) : Met l yX12_wrongTranscript (zz_ws yX12_wrongTranscript cX12_wrongTranscript 5 (some .int)) rm_X12_wrongTranscript (zz_P D dA A h n [.ref (a0)]) (zz_Q D dA A (some (.int r)) h n) 0 0 A := by
  refine zz_met (by decide) (Nat.le_of_ble_eq_true rfl) ?_
  intro p e s m args below meth c ls S K hret hlk hnm hl Z
  replace hl : lv_has ls 5 [(0, .ref (a0))] := hl
  obtain ⟨K0, hR0, hk⟩ : ∃ K0 : (Int32) → Prop, (∀ x, K0 x → x = r) ∧ K0 r := ⟨fun x => x = r, fun _ h => h, rfl⟩
  have L4 : ∀ (st : (Int32 × Int32)) (x : (Int32)), zz_loop (fun st : (Int32 × Int32) => f_X12_wrongTranscript_L4 h a0 (st.1) (st.2)) st = some x → K0 x → (fun st : (Int32 × Int32) => ∀ (H : Heap) (locs : List Loc) (ls : Array Slot), zz_B D dA A h n s.heap H locs → lv_has ls 5 [(0, .ref (a0)), (1, .int ((st.1))), (2, .int ((st.2)))] → zz_W p l e rm_X12_wrongTranscript s m args below meth c D dA A (some (.int r)) h n 0 0 H locs 0 0 4 ls []) st := by
    refine zz_loop_go (K := K0) ?_
    intro K1 hP1 hR1
    have L83 : ∀ (y2_9 : Int32) (y3_10 : Int32) (st : (Int32)) (x : ((Int32 × Int32) ⊕ (Int32))), zz_loop (fun st : (Int32) => f_X12_wrongTranscript_L83 h a0 y2_9 y3_10 (st)) st = some x → K1 x → (fun st : (Int32) => ∀ (H : Heap) (locs : List Loc) (ls : Array Slot), zz_B D dA A h n s.heap H locs → lv_has ls 5 [(0, .ref (a0)), (2, .int (y2_9)), (3, .int (y3_10)), (4, .int ((st)))] → zz_W p l e rm_X12_wrongTranscript s m args below meth c D dA A (some (.int r)) h n 0 0 H locs 0 0 83 ls []) st := by
      intro y2_9 y3_10
      refine zz_loop_go (K := K1) ?_
      intro K2 hP2 hR2
      rintro x4_8 x hv hk H locs ls Z hl
      replace hv : f_X12_wrongTranscript_L83 h a0 y2_9 y3_10 x4_8 = some x := hv
      unfold f_X12_wrongTranscript_L83 at hv
      replace hl : lv_has ls 5 [(0, .ref (a0)), (2, .int (y2_9)), (3, .int (y3_10)), (4, .int (x4_8))] := hl
      replace Z : zz_B D dA A h n s.heap H locs := Z
      show zz_W p l e rm_X12_wrongTranscript s m args below meth c D dA A (some (.int r)) h n 0 0 H locs 0 0 83 ls []
      refine lv_iload S.1 S.2.1 dX12_wrongTranscript_83 (lv_at hl 3 rfl) ?_
      refine lv_iload_n S.1 S.2.1 dX12_wrongTranscript_85 rfl (lv_at hl 2 rfl) ?_
      refine lv_icmp_ge (tgt := 111) S.1 S.2.1 dX12_wrongTranscript_86 (by decide) (fun hc => ?_) (fun hc => ?_)
      · replace hv := (if_pos hc).symm.trans hv
        obtain ⟨_, hv, hk⟩ := zz_mapk hv hk
        replace hk := hR2 _ hk
        refine lv_iload_n S.1 S.2.1 dX12_wrongTranscript_111 rfl (lv_at hl 2 rfl) ?_
        refine lv_iconst (v := (1 : Int32)) S.1 S.2.1 dX12_wrongTranscript_112 (by decide) ?_
        refine lv_iadd S.1 S.2.1 dX12_wrongTranscript_113 ?_
        refine zz_lt hv (G := fun w => W _ _ _ _ _ _ _ _ _ _ _ _ _ _ _ (F0 _ _ _ (.int w :: _))) (fun v11 hv => ?_)
        refine lv_istore_n (lv' := [(1, .int (v11)), (0, .ref (a0)), (2, .int (y2_9)), (3, .int (y3_10)), (4, .int (x4_8))]) S.1 S.2.1 dX12_wrongTranscript_114 rfl hl (by decide) rfl (fun ls hl => ?_)
        refine lv_iinc (v := y2_9 + (1 : Int32)) (lv' := [(2, .int (y2_9 + (1 : Int32))), (1, .int (v11)), (0, .ref (a0)), (3, .int (y3_10)), (4, .int (x4_8))]) S.1 S.2.1 dX12_wrongTranscript_115 hl (k := 2) rfl rfl (by decide) rfl (fun ls hl => ?_)
        refine lv_goto (tgt := 4) S.1 S.2.1 dX12_wrongTranscript_118 (by decide) ?_
        replace hk := zz_fin hv hk
        exact hP1 _ hk H locs ls Z (lv_sub hl [2, 1, 0] rfl)
      · replace hv := (if_neg hc).symm.trans hv
        refine lv_aload_n S.1 S.2.1 dX12_wrongTranscript_89 rfl (lv_at hl 0 rfl) ?_
        refine zz_gR S K Z hv zc_10 (by decide) gf_X12_13 dX12_wrongTranscript_90 (fun v12 hv => ?_)
        refine lv_iload S.1 S.2.1 dX12_wrongTranscript_93 (lv_at hl 3 rfl) ?_
        refine zz_iald S K Z hv dX12_wrongTranscript_95 (fun v13 hv => ?_)
        obtain ⟨v14, hq, hv⟩ := zz_bd hv
        refine zz_S [.int (v13)] S K Z (c_X12_isSign v13 hq) ⟨rfl, rfl⟩ gm_X12_isSign gs_X12_isSign gl_X12_135 ⟨by decide, by decide⟩ rfl hl.1 rfl (Nat.le_of_ble_eq_true rfl) dX12_wrongTranscript_96 ⟨Nat.zero_le _, Nat.zero_le _⟩ (fun H locs Z => ?_)
        show W _ _ _ _ _ _ _ _ _ _ _ _ 0 0 _ (F0 m 99 ls [.int (v14)])
        refine lv_if_ne (tgt := 105) S.1 S.2.1 dX12_wrongTranscript_99 (by decide) (fun hc => ?_) (fun hc => ?_)
        · replace hv := (if_neg hc).symm.trans hv
          refine lv_iinc (v := x4_8 + (1 : Int32)) (lv' := [(4, .int (x4_8 + (1 : Int32))), (0, .ref (a0)), (2, .int (y2_9)), (3, .int (y3_10))]) S.1 S.2.1 dX12_wrongTranscript_105 hl (k := 3) rfl rfl (by decide) rfl (fun ls hl => ?_)
          refine lv_goto (tgt := 83) S.1 S.2.1 dX12_wrongTranscript_108 (by decide) ?_
          replace hk := zz_fin hv hk
          exact hP2 _ hk H locs ls Z (lv_sub hl [1, 2, 3, 0] rfl)
        · replace hv := (if_pos hc).symm.trans hv
          obtain ⟨_, hv, hk⟩ := zz_mapk hv hk
          replace hk := hR2 _ hk
          obtain ⟨_, hv, hk⟩ := zz_mapk hv hk
          replace hk := hR1 _ hk
          refine lv_iload S.1 S.2.1 dX12_wrongTranscript_102 (lv_at hl 3 rfl) ?_
          replace hk := zz_fin hv hk
          obtain rfl := hR0 _ hk
          exact zz_iret S Z hret hlk dX12_wrongTranscript_104 (Nat.le_refl _) (Nat.le_refl _)
    have J74 : ∀ (x1_5 : Int32) (x2_6 : Int32) (x : ((Int32 × Int32) ⊕ (Int32))), f_X12_wrongTranscript_J74 h a0 x1_5 x2_6 = some x → K1 x → ∀ (H : Heap) (locs : List Loc) (ls : Array Slot), zz_B D dA A h n s.heap H locs → lv_has ls 5 [(0, .ref (a0)), (1, .int (x1_5)), (2, .int (x2_6))] → zz_W p l e rm_X12_wrongTranscript s m args below meth c D dA A (some (.int r)) h n 0 0 H locs 0 0 74 ls [] := by
      intro x1_5 x2_6 x hv hk H locs ls Z hl
      unfold f_X12_wrongTranscript_J74 at hv
      refine lv_aload_n S.1 S.2.1 dX12_wrongTranscript_74 rfl (lv_at hl 0 rfl) ?_
      refine lv_iload_n S.1 S.2.1 dX12_wrongTranscript_75 rfl (lv_at hl 1 rfl) ?_
      obtain ⟨hci, hv⟩ := zz_isO_s hv
      obtain ⟨v7, hq, hv⟩ := zz_bd hv
      refine zz_V [.int (x1_5)] S K Z hci zc_10 rfl (c_X12_endOf a0 x1_5 hq) ⟨rfl, rfl⟩ gm_X12_endOf gmv_X12_endOf gl_X12_243 ⟨by decide, by decide⟩ rfl hl.1 rfl (Nat.le_of_ble_eq_true rfl) dX12_wrongTranscript_76 ⟨Nat.zero_le _, Nat.zero_le _⟩ (fun H locs Z => ?_)
      show W _ _ _ _ _ _ _ _ _ _ _ _ 0 0 _ (F0 m 79 ls [.int (v7)])
      refine lv_istore_n (lv' := [(3, .int (v7)), (0, .ref (a0)), (1, .int (x1_5)), (2, .int (x2_6))]) S.1 S.2.1 dX12_wrongTranscript_79 rfl hl (by decide) rfl (fun ls hl => ?_)
      refine lv_iload_n S.1 S.2.1 dX12_wrongTranscript_80 rfl (lv_at hl 2 rfl) ?_
      refine lv_istore (lv' := [(4, .int (x1_5)), (3, .int (v7)), (0, .ref (a0)), (1, .int (x1_5)), (2, .int (x2_6))]) S.1 S.2.1 dX12_wrongTranscript_81 hl (by decide) rfl (fun ls hl => ?_)
      exact L83 x2_6 v7 (x1_5) _ hv hk H locs ls Z (lv_sub hl [2, 4, 1, 0] rfl)
    have J67 : ∀ (x1_19 : Int32) (x2_20 : Int32) (s21 : Int32) (x : ((Int32 × Int32) ⊕ (Int32))), f_X12_wrongTranscript_J67 h a0 x1_19 x2_20 s21 = some x → K1 x → ∀ (H : Heap) (locs : List Loc) (ls : Array Slot), zz_B D dA A h n s.heap H locs → lv_has ls 5 [(0, .ref (a0)), (1, .int (x1_19)), (2, .int (x2_20))] → zz_W p l e rm_X12_wrongTranscript s m args below meth c D dA A (some (.int r)) h n 0 0 H locs 0 0 67 ls [.int (s21)] := by
      intro x1_19 x2_20 s21 x hv hk H locs ls Z hl
      unfold f_X12_wrongTranscript_J67 at hv
      refine lv_istore_n (lv' := [(3, .int (s21)), (0, .ref (a0)), (1, .int (x1_19)), (2, .int (x2_20))]) S.1 S.2.1 dX12_wrongTranscript_67 rfl hl (by decide) rfl (fun ls hl => ?_)
      refine lv_iload_n S.1 S.2.1 dX12_wrongTranscript_68 rfl (lv_at hl 0 rfl) ?_
      refine lv_if_lt (tgt := 74) S.1 S.2.1 dX12_wrongTranscript_69 (by decide) (fun hc => ?_) (fun hc => ?_)
      · replace hv := (if_pos hc).symm.trans hv
        exact J74 x1_19 x2_20 _ hv hk H locs ls Z (lv_sub hl [1, 2, 3] rfl)
      · replace hv := (if_neg hc).symm.trans hv
        obtain ⟨_, hv, hk⟩ := zz_mapk hv hk
        replace hk := hR1 _ hk
        refine lv_iload_n S.1 S.2.1 dX12_wrongTranscript_72 rfl (lv_at hl 0 rfl) ?_
        replace hk := zz_fin hv hk
        obtain rfl := hR0 _ hk
        exact zz_iret S Z hret hlk dX12_wrongTranscript_73 (Nat.le_refl _) (Nat.le_refl _)
    rintro ⟨x1_1, x2_2⟩ x hv hk H locs ls Z hl
    replace hv : f_X12_wrongTranscript_L4 h a0 x1_1 x2_2 = some x := hv
    unfold f_X12_wrongTranscript_L4 at hv
    replace hl : lv_has ls 5 [(0, .ref (a0)), (1, .int (x1_1)), (2, .int (x2_2))] := hl
    replace Z : zz_B D dA A h n s.heap H locs := Z
    show zz_W p l e rm_X12_wrongTranscript s m args below meth c D dA A (some (.int r)) h n 0 0 H locs 0 0 4 ls []
    refine lv_iload_n S.1 S.2.1 dX12_wrongTranscript_4 rfl (lv_at hl 1 rfl) ?_
    refine lv_aload_n S.1 S.2.1 dX12_wrongTranscript_5 rfl (lv_at hl 0 rfl) ?_
    refine zz_gI S K Z hv zc_10 (by decide) gf_X12_109 dX12_wrongTranscript_6 (fun v3 hv => ?_)
    refine lv_icmp_ge (tgt := 121) S.1 S.2.1 dX12_wrongTranscript_9 (by decide) (fun hc => ?_) (fun hc => ?_)
    · replace hv := (if_pos hc).symm.trans hv
      obtain ⟨_, hv, hk⟩ := zz_mapk hv hk
      replace hk := hR1 _ hk
      refine lv_iload_n S.1 S.2.1 dX12_wrongTranscript_121 rfl (lv_at hl 2 rfl) ?_
      refine lv_iconst (v := (2 : Int32)) S.1 S.2.1 dX12_wrongTranscript_122 (by decide) ?_
      obtain ⟨hne, hv⟩ := zz_ne_s hv
      refine lv_irem S.1 S.2.1 dX12_wrongTranscript_123 hne ?_
      refine lv_iconst (v := (1 : Int32)) S.1 S.2.1 dX12_wrongTranscript_124 (by decide) ?_
      refine lv_icmp_ne (tgt := 135) S.1 S.2.1 dX12_wrongTranscript_125 (by decide) (fun hc => ?_) (fun hc => ?_)
      · replace hv := (if_neg hc).symm.trans hv
        refine lv_iconst (v := (-1 : Int32)) S.1 S.2.1 dX12_wrongTranscript_135 (by decide) ?_
        replace hk := zz_fin hv hk
        obtain rfl := hR0 _ hk
        exact zz_iret S Z hret hlk dX12_wrongTranscript_136 (Nat.le_refl _) (Nat.le_refl _)
      · replace hv := (if_pos hc).symm.trans hv
        refine lv_aload_n S.1 S.2.1 dX12_wrongTranscript_128 rfl (lv_at hl 0 rfl) ?_
        refine zz_gI S K Z hv zc_10 (by decide) gf_X12_109 dX12_wrongTranscript_129 (fun v4 hv => ?_)
        refine lv_goto (tgt := 136) S.1 S.2.1 dX12_wrongTranscript_132 (by decide) ?_
        replace hk := zz_fin hv hk
        obtain rfl := hR0 _ hk
        exact zz_iret S Z hret hlk dX12_wrongTranscript_136 (Nat.le_refl _) (Nat.le_refl _)
    · replace hv := (if_neg hc).symm.trans hv
      refine lv_iload_n S.1 S.2.1 dX12_wrongTranscript_12 rfl (lv_at hl 2 rfl) ?_
      refine lv_bipush (v := (40 : Int32)) S.1 S.2.1 dX12_wrongTranscript_13 (by decide) ?_
      refine lv_icmp_ne (tgt := 20) S.1 S.2.1 dX12_wrongTranscript_15 (by decide) (fun hc => ?_) (fun hc => ?_)
      · replace hv := (if_neg hc).symm.trans hv
        refine lv_iload_n S.1 S.2.1 dX12_wrongTranscript_20 rfl (lv_at hl 2 rfl) ?_
        refine lv_iconst (v := (2 : Int32)) S.1 S.2.1 dX12_wrongTranscript_21 (by decide) ?_
        obtain ⟨hne, hv⟩ := zz_ne_s hv
        refine lv_irem S.1 S.2.1 dX12_wrongTranscript_22 hne ?_
        refine lv_if_ne (tgt := 74) S.1 S.2.1 dX12_wrongTranscript_23 (by decide) (fun hc => ?_) (fun hc => ?_)
        · replace hv := (if_neg hc).symm.trans hv
          exact J74 x1_1 x2_2 _ hv hk H locs ls Z (lv_sub hl [0, 1, 2] rfl)
        · replace hv := (if_pos hc).symm.trans hv
          refine lv_aload_n S.1 S.2.1 dX12_wrongTranscript_26 rfl (lv_at hl 0 rfl) ?_
          refine zz_gR S K Z hv zc_10 (by decide) gf_X12_13 dX12_wrongTranscript_27 (fun v15 hv => ?_)
          refine lv_iload_n S.1 S.2.1 dX12_wrongTranscript_30 rfl (lv_at hl 1 rfl) ?_
          refine zz_iald S K Z hv dX12_wrongTranscript_31 (fun v16 hv => ?_)
          refine lv_bipush (v := (62 : Int32)) S.1 S.2.1 dX12_wrongTranscript_32 (by decide) ?_
          refine lv_icmp_eq (tgt := 41) S.1 S.2.1 dX12_wrongTranscript_34 (by decide) (fun hc => ?_) (fun hc => ?_)
          · replace hv := (if_pos hc).symm.trans hv
            refine lv_aload_n S.1 S.2.1 dX12_wrongTranscript_41 rfl (lv_at hl 0 rfl) ?_
            refine lv_iload_n S.1 S.2.1 dX12_wrongTranscript_42 rfl (lv_at hl 1 rfl) ?_
            refine lv_iconst (v := (1 : Int32)) S.1 S.2.1 dX12_wrongTranscript_43 (by decide) ?_
            refine lv_iadd S.1 S.2.1 dX12_wrongTranscript_44 ?_
            obtain ⟨hci, hv⟩ := zz_isO_s hv
            obtain ⟨v17, hq, hv⟩ := zz_bd hv
            refine zz_V [.int (x1_1 + (1 : Int32))] S K Z hci zc_10 rfl (c_X12_byteAt a0 (x1_1 + (1 : Int32)) hq) ⟨rfl, rfl⟩ gm_X12_byteAt gmv_X12_byteAt gl_X12_184 ⟨by decide, by decide⟩ rfl hl.1 rfl (Nat.le_of_ble_eq_true rfl) dX12_wrongTranscript_45 ⟨Nat.zero_le _, Nat.zero_le _⟩ (fun H locs Z => ?_)
            show W _ _ _ _ _ _ _ _ _ _ _ _ 0 0 _ (F0 m 48 ls [.int (v17)])
            refine lv_bipush (v := (32 : Int32)) S.1 S.2.1 dX12_wrongTranscript_48 (by decide) ?_
            refine lv_icmp_eq (tgt := 59) S.1 S.2.1 dX12_wrongTranscript_50 (by decide) (fun hc => ?_) (fun hc => ?_)
            · replace hv := (if_pos hc).symm.trans hv
              refine lv_aload_n S.1 S.2.1 dX12_wrongTranscript_59 rfl (lv_at hl 0 rfl) ?_
              refine lv_iload_n S.1 S.2.1 dX12_wrongTranscript_60 rfl (lv_at hl 1 rfl) ?_
              refine lv_iconst (v := (2 : Int32)) S.1 S.2.1 dX12_wrongTranscript_61 (by decide) ?_
              refine lv_iadd S.1 S.2.1 dX12_wrongTranscript_62 ?_
              refine lv_iconst (v := (1 : Int32)) S.1 S.2.1 dX12_wrongTranscript_63 (by decide) ?_
              obtain ⟨hci, hv⟩ := zz_isO_s hv
              obtain ⟨v18, hq, hv⟩ := zz_bd hv
              refine zz_V [.int (x1_1 + (2 : Int32)), .int ((1 : Int32))] S K Z hci zc_10 rfl (c_X12_wrongWords a0 (x1_1 + (2 : Int32)) (1 : Int32) hq) ⟨rfl, rfl⟩ gm_X12_wrongWords gmv_X12_wrongWords gl_X12_193 ⟨by decide, by decide⟩ rfl hl.1 rfl (Nat.le_of_ble_eq_true rfl) dX12_wrongTranscript_64 ⟨Nat.zero_le _, Nat.zero_le _⟩ (fun H locs Z => ?_)
              show W _ _ _ _ _ _ _ _ _ _ _ _ 0 0 _ (F0 m 67 ls [.int (v18)])
              exact J67 x1_1 x2_2 v18 _ hv hk H locs ls Z (lv_sub hl [0, 1, 2] rfl)
            · replace hv := (if_neg hc).symm.trans hv
              refine lv_iload_n S.1 S.2.1 dX12_wrongTranscript_53 rfl (lv_at hl 1 rfl) ?_
              refine lv_iconst (v := (1 : Int32)) S.1 S.2.1 dX12_wrongTranscript_54 (by decide) ?_
              refine lv_iadd S.1 S.2.1 dX12_wrongTranscript_55 ?_
              refine lv_goto (tgt := 67) S.1 S.2.1 dX12_wrongTranscript_56 (by decide) ?_
              exact J67 x1_1 x2_2 (x1_1 + (1 : Int32)) _ hv hk H locs ls Z (lv_sub hl [0, 1, 2] rfl)
          · replace hv := (if_neg hc).symm.trans hv
            refine lv_iload_n S.1 S.2.1 dX12_wrongTranscript_37 rfl (lv_at hl 1 rfl) ?_
            refine lv_goto (tgt := 67) S.1 S.2.1 dX12_wrongTranscript_38 (by decide) ?_
            exact J67 x1_1 x2_2 x1_1 _ hv hk H locs ls Z (lv_sub hl [0, 1, 2] rfl)
      · replace hv := (if_pos hc).symm.trans hv
        obtain ⟨_, hv, hk⟩ := zz_mapk hv hk
        replace hk := hR1 _ hk
        refine lv_iload_n S.1 S.2.1 dX12_wrongTranscript_18 rfl (lv_at hl 1 rfl) ?_
        replace hk := zz_fin hv hk
        obtain rfl := hR0 _ hk
        exact zz_iret S Z hret hlk dX12_wrongTranscript_19 (Nat.le_refl _) (Nat.le_refl _)
  have hv := hf
  unfold f_X12_wrongTranscript at hv
  clear hf
  obtain ⟨x, hxx⟩ : ∃ x, x = r := ⟨_, rfl⟩
  rw [← hxx] at hv hk
  have ⟨H, hH⟩ : ∃ H, H = s.heap := ⟨_, rfl⟩
  have ⟨locs, hlo⟩ : ∃ q : List Loc, q = [] := ⟨_, rfl⟩
  have Z : zz_B D dA A h n s.heap H locs := by rw [hH, hlo]; exact Z
  have key : zz_W p l e rm_X12_wrongTranscript s m args below meth c D dA A (some (.int r)) h n 0 0 H locs 0 0 0 ls [] := by
    clear hH hlo hxx
    refine lv_iconst (v := (0 : Int32)) S.1 S.2.1 dX12_wrongTranscript_0 (by decide) ?_
    refine lv_istore_n (lv' := [(1, .int ((0 : Int32))), (0, .ref (a0))]) S.1 S.2.1 dX12_wrongTranscript_1 rfl hl (by decide) rfl (fun ls hl => ?_)
    refine lv_iconst (v := (0 : Int32)) S.1 S.2.1 dX12_wrongTranscript_2 (by decide) ?_
    refine lv_istore_n (lv' := [(2, .int ((0 : Int32))), (1, .int ((0 : Int32))), (0, .ref (a0))]) S.1 S.2.1 dX12_wrongTranscript_3 rfl hl (by decide) rfl (fun ls hl => ?_)
    exact L4  ((0 : Int32), (0 : Int32)) _ hv hk H locs ls Z (lv_sub hl [2, 1, 0] rfl)
  rw [hH, hlo] at key
  exact key

noncomputable def f_X12_isLine_J141 (h : ZH) (a0 : Nat) (a1 : Int32) (a2 : Int32) (a3 : Int32) (a4 : Int32) (y5_9 : Int32) (x7_15 : Int32) (s16 : Int32) : Option ((Int32 × Int32) ⊕ (Int32)) :=
  some (.inl (s16, x7_15 + (1 : Int32)))
noncomputable def f_X12_isLine_L100 (h : ZH) (a0 : Nat) (a1 : Int32) (a2 : Int32) (a3 : Int32) (a4 : Int32) (y5_9 : Int32) (x6_7 : Int32) (x7_8 : Int32)  : Option ((Int32 × Int32) ⊕ (Int32)) :=
  if y5_9 ≤ x7_8 then ((zz_ok (x6_7 = 0 ∨ x6_7 = 1) <| some (x6_7)).map Sum.inr) else (if x6_7 = 0 then ((zz_ok (x6_7 = 0 ∨ x6_7 = 1) <| some (x6_7)).map Sum.inr) else ((zg_R h a0 10 1).bind fun v10 => (zl_I h v10 1 (a1 + x7_8)).bind fun v11 => (zg_R h a0 10 28).bind fun v12 => (zl_I h v12 1 (3 : Int32)).bind fun v13 => zz_isO h a0 10 <| (f_X12_signOf h a0 v13 x7_8).bind fun v14 => if v11 = v14 then (f_X12_isLine_J141 h a0 a1 a2 a3 a4 y5_9 x7_8 (1 : Int32)) else (f_X12_isLine_J141 h a0 a1 a2 a3 a4 y5_9 x7_8 (0 : Int32))))
noncomputable def f_X12_isLine_J95 (h : ZH) (a0 : Nat) (a1 : Int32) (a2 : Int32) (a3 : Int32) (a4 : Int32) (x5_5 : Int32) (s6 : Int32) : Option (Int32) :=
  zz_loop (fun st : (Int32 × Int32) => f_X12_isLine_L100 h a0 a1 a2 a3 a4 x5_5 (st.1) (st.2)) (s6, (0 : Int32))
noncomputable def f_X12_isLine (h : ZH) (a0 : Nat) (a1 : Int32) (a2 : Int32) (a3 : Int32) (a4 : Int32) : Option (Int32) :=
  zz_let (a2 - a1) fun v1 => if a4 = 0 then (if a3 ≤ 0 then ((zg_R h a0 10 28).bind fun v2 => (zl_I h v2 1 (3 : Int32)).bind fun v3 => zz_isO h a0 10 <| (f_X12_signsOf h a0 v3).bind fun v4 => if v1 = v4 then (f_X12_isLine_J95 h a0 a1 a2 a3 a4 v1 (1 : Int32)) else (f_X12_isLine_J95 h a0 a1 a2 a3 a4 v1 (0 : Int32))) else (if v1 = (2 : Int32) then ((zg_R h a0 10 1).bind fun v17 => (zl_I h v17 1 a1).bind fun v18 => if v18 = (33 : Int32) then ((zg_R h a0 10 1).bind fun v19 => (zl_I h v19 1 (a1 + (1 : Int32))).bind fun v20 => if v20 = ((48 : Int32) + a3) then (some ((1 : Int32))) else (some ((0 : Int32)))) else (some ((0 : Int32)))) else (some ((0 : Int32))))) else (if v1 = (1 : Int32) then ((zg_R h a0 10 1).bind fun v21 => (zl_I h v21 1 a1).bind fun v22 => if v22 = (46 : Int32) then (some ((1 : Int32))) else (some ((0 : Int32)))) else (some ((0 : Int32))))
abbrev rm_X12_isLine : Room := { frames := 1, cells := 0, slots := 0, locals := 22 }
set_option maxRecDepth 100000 in
set_option maxHeartbeats 4000000 in
theorem c_X12_isLine {l : Launch} {D : va_G} {dA : Nat → ClassId} {A : Nat → Prop} {h : ZH} {n : Nat} (a0 : Nat) (a1 : Int32) (a2 : Int32) (a3 : Int32) (a4 : Int32) {r : Int32} (hf : f_X12_isLine h a0 a1 a2 a3 a4 = some r) : Met l yX12_isLine (zz_ws yX12_isLine cX12_isLine 8 (some .boolean)) rm_X12_isLine (zz_P D dA A h n [.ref (a0), .int (a1), .int (a2), .int (a3), .int (a4)]) (zz_Q D dA A (some (.int r)) h n) 0 0 A := by
  refine zz_met (by decide) (Nat.le_of_ble_eq_true rfl) ?_
  intro p e s m args below meth c ls S K hret hlk hnm hl Z
  replace hl : lv_has ls 8 [(0, .ref (a0)), (1, .int (a1)), (2, .int (a2)), (3, .int (a3)), (4, .int (a4))] := hl
  obtain ⟨K0, hR0, hk⟩ : ∃ K0 : (Int32) → Prop, (∀ x, K0 x → x = r) ∧ K0 r := ⟨fun x => x = r, fun _ h => h, rfl⟩
  have L100 : ∀ (y5_9 : Int32) (st : (Int32 × Int32)) (x : (Int32)), zz_loop (fun st : (Int32 × Int32) => f_X12_isLine_L100 h a0 a1 a2 a3 a4 y5_9 (st.1) (st.2)) st = some x → K0 x → (fun st : (Int32 × Int32) => ∀ (H : Heap) (locs : List Loc) (ls : Array Slot), zz_B D dA A h n s.heap H locs → lv_has ls 8 [(0, .ref (a0)), (1, .int (a1)), (5, .int (y5_9)), (6, .int ((st.1))), (7, .int ((st.2)))] → zz_W p l e rm_X12_isLine s m args below meth c D dA A (some (.int r)) h n 0 0 H locs 0 0 100 ls []) st := by
    intro y5_9
    refine zz_loop_go (K := K0) ?_
    intro K1 hP1 hR1
    have J141 : ∀ (x7_15 : Int32) (s16 : Int32) (x : ((Int32 × Int32) ⊕ (Int32))), f_X12_isLine_J141 h a0 a1 a2 a3 a4 y5_9 x7_15 s16 = some x → K1 x → ∀ (H : Heap) (locs : List Loc) (ls : Array Slot), zz_B D dA A h n s.heap H locs → lv_has ls 8 [(0, .ref (a0)), (1, .int (a1)), (5, .int (y5_9)), (7, .int (x7_15))] → zz_W p l e rm_X12_isLine s m args below meth c D dA A (some (.int r)) h n 0 0 H locs 0 0 141 ls [.int (s16)] := by
      intro x7_15 s16 x hv hk H locs ls Z hl
      unfold f_X12_isLine_J141 at hv
      refine lv_istore (lv' := [(6, .int (s16)), (0, .ref (a0)), (1, .int (a1)), (5, .int (y5_9)), (7, .int (x7_15))]) S.1 S.2.1 dX12_isLine_141 hl (by decide) rfl (fun ls hl => ?_)
      refine lv_iinc (v := x7_15 + (1 : Int32)) (lv' := [(7, .int (x7_15 + (1 : Int32))), (6, .int (s16)), (0, .ref (a0)), (1, .int (a1)), (5, .int (y5_9))]) S.1 S.2.1 dX12_isLine_143 hl (k := 4) rfl rfl (by decide) rfl (fun ls hl => ?_)
      refine lv_goto (tgt := 100) S.1 S.2.1 dX12_isLine_146 (by decide) ?_
      replace hk := zz_fin hv hk
      exact hP1 _ hk H locs ls Z (lv_sub hl [2, 3, 4, 1, 0] rfl)
    rintro ⟨x6_7, x7_8⟩ x hv hk H locs ls Z hl
    replace hv : f_X12_isLine_L100 h a0 a1 a2 a3 a4 y5_9 x6_7 x7_8 = some x := hv
    unfold f_X12_isLine_L100 at hv
    replace hl : lv_has ls 8 [(0, .ref (a0)), (1, .int (a1)), (5, .int (y5_9)), (6, .int (x6_7)), (7, .int (x7_8))] := hl
    replace Z : zz_B D dA A h n s.heap H locs := Z
    show zz_W p l e rm_X12_isLine s m args below meth c D dA A (some (.int r)) h n 0 0 H locs 0 0 100 ls []
    refine lv_iload S.1 S.2.1 dX12_isLine_100 (lv_at hl 4 rfl) ?_
    refine lv_iload S.1 S.2.1 dX12_isLine_102 (lv_at hl 2 rfl) ?_
    refine lv_icmp_ge (tgt := 149) S.1 S.2.1 dX12_isLine_104 (by decide) (fun hc => ?_) (fun hc => ?_)
    · replace hv := (if_pos hc).symm.trans hv
      obtain ⟨_, hv, hk⟩ := zz_mapk hv hk
      replace hk := hR1 _ hk
      refine lv_iload S.1 S.2.1 dX12_isLine_149 (lv_at hl 3 rfl) ?_
      obtain ⟨hok, hv⟩ := zz_ok_s hv
      replace hk := zz_fin hv hk
      obtain rfl := hR0 _ hk
      exact zz_zret S Z hret hok hlk dX12_isLine_151 (Nat.le_refl _) (Nat.le_refl _)
    · replace hv := (if_neg hc).symm.trans hv
      refine lv_iload S.1 S.2.1 dX12_isLine_107 (lv_at hl 3 rfl) ?_
      refine lv_if_eq (tgt := 149) S.1 S.2.1 dX12_isLine_109 (by decide) (fun hc => ?_) (fun hc => ?_)
      · replace hv := (if_pos hc).symm.trans hv
        obtain ⟨_, hv, hk⟩ := zz_mapk hv hk
        replace hk := hR1 _ hk
        refine lv_iload S.1 S.2.1 dX12_isLine_149 (lv_at hl 3 rfl) ?_
        obtain ⟨hok, hv⟩ := zz_ok_s hv
        replace hk := zz_fin hv hk
        obtain rfl := hR0 _ hk
        exact zz_zret S Z hret hok hlk dX12_isLine_151 (Nat.le_refl _) (Nat.le_refl _)
      · replace hv := (if_neg hc).symm.trans hv
        refine lv_aload_n S.1 S.2.1 dX12_isLine_112 rfl (lv_at hl 0 rfl) ?_
        refine zz_gR S K Z hv zc_10 (by decide) gf_X12_13 dX12_isLine_113 (fun v10 hv => ?_)
        refine lv_iload_n S.1 S.2.1 dX12_isLine_116 rfl (lv_at hl 1 rfl) ?_
        refine lv_iload S.1 S.2.1 dX12_isLine_117 (lv_at hl 4 rfl) ?_
        refine lv_iadd S.1 S.2.1 dX12_isLine_119 ?_
        refine zz_iald S K Z hv dX12_isLine_120 (fun v11 hv => ?_)
        refine lv_aload_n S.1 S.2.1 dX12_isLine_121 rfl (lv_at hl 0 rfl) ?_
        refine lv_aload_n S.1 S.2.1 dX12_isLine_122 rfl (lv_at hl 0 rfl) ?_
        refine zz_gR S K Z hv zc_10 (by decide) gf_X12_75 dX12_isLine_123 (fun v12 hv => ?_)
        refine lv_iconst (v := (3 : Int32)) S.1 S.2.1 dX12_isLine_126 (by decide) ?_
        refine zz_iald S K Z hv dX12_isLine_127 (fun v13 hv => ?_)
        refine lv_iload S.1 S.2.1 dX12_isLine_128 (lv_at hl 4 rfl) ?_
        obtain ⟨hci, hv⟩ := zz_isO_s hv
        obtain ⟨v14, hq, hv⟩ := zz_bd hv
        refine zz_V [.int (v13), .int (x7_8)] S K Z hci zc_10 rfl (c_X12_signOf a0 v13 x7_8 hq) ⟨rfl, rfl⟩ gm_X12_signOf gmv_X12_signOf gl_X12_216 ⟨by decide, by decide⟩ rfl hl.1 rfl (Nat.le_of_ble_eq_true rfl) dX12_isLine_130 ⟨Nat.zero_le _, Nat.zero_le _⟩ (fun H locs Z => ?_)
        show W _ _ _ _ _ _ _ _ _ _ _ _ 0 0 _ (F0 m 133 ls [.int (v14), .int (v11)])
        refine lv_icmp_ne (tgt := 140) S.1 S.2.1 dX12_isLine_133 (by decide) (fun hc => ?_) (fun hc => ?_)
        · replace hv := (if_neg hc).symm.trans hv
          refine lv_iconst (v := (0 : Int32)) S.1 S.2.1 dX12_isLine_140 (by decide) ?_
          exact J141 x7_8 (0 : Int32) _ hv hk H locs ls Z (lv_sub hl [0, 1, 2, 4] rfl)
        · replace hv := (if_pos hc).symm.trans hv
          refine lv_iconst (v := (1 : Int32)) S.1 S.2.1 dX12_isLine_136 (by decide) ?_
          refine lv_goto (tgt := 141) S.1 S.2.1 dX12_isLine_137 (by decide) ?_
          exact J141 x7_8 (1 : Int32) _ hv hk H locs ls Z (lv_sub hl [0, 1, 2, 4] rfl)
  have J95 : ∀ (x5_5 : Int32) (s6 : Int32) (x : (Int32)), f_X12_isLine_J95 h a0 a1 a2 a3 a4 x5_5 s6 = some x → K0 x → ∀ (H : Heap) (locs : List Loc) (ls : Array Slot), zz_B D dA A h n s.heap H locs → lv_has ls 8 [(0, .ref (a0)), (1, .int (a1)), (5, .int (x5_5))] → zz_W p l e rm_X12_isLine s m args below meth c D dA A (some (.int r)) h n 0 0 H locs 0 0 95 ls [.int (s6)] := by
    intro x5_5 s6 x hv hk H locs ls Z hl
    unfold f_X12_isLine_J95 at hv
    refine lv_istore (lv' := [(6, .int (s6)), (0, .ref (a0)), (1, .int (a1)), (5, .int (x5_5))]) S.1 S.2.1 dX12_isLine_95 hl (by decide) rfl (fun ls hl => ?_)
    refine lv_iconst (v := (0 : Int32)) S.1 S.2.1 dX12_isLine_97 (by decide) ?_
    refine lv_istore (lv' := [(7, .int ((0 : Int32))), (6, .int (s6)), (0, .ref (a0)), (1, .int (a1)), (5, .int (x5_5))]) S.1 S.2.1 dX12_isLine_98 hl (by decide) rfl (fun ls hl => ?_)
    exact L100 x5_5 (s6, (0 : Int32)) _ hv hk H locs ls Z (lv_sub hl [2, 3, 4, 1, 0] rfl)
  have hv := hf
  unfold f_X12_isLine at hv
  clear hf
  obtain ⟨x, hxx⟩ : ∃ x, x = r := ⟨_, rfl⟩
  rw [← hxx] at hv hk
  have ⟨H, hH⟩ : ∃ H, H = s.heap := ⟨_, rfl⟩
  have ⟨locs, hlo⟩ : ∃ q : List Loc, q = [] := ⟨_, rfl⟩
  have Z : zz_B D dA A h n s.heap H locs := by rw [hH, hlo]; exact Z
  have key : zz_W p l e rm_X12_isLine s m args below meth c D dA A (some (.int r)) h n 0 0 H locs 0 0 0 ls [] := by
    clear hH hlo hxx
    refine lv_iload_n S.1 S.2.1 dX12_isLine_0 rfl (lv_at hl 2 rfl) ?_
    refine lv_iload_n S.1 S.2.1 dX12_isLine_1 rfl (lv_at hl 1 rfl) ?_
    refine lv_isub S.1 S.2.1 dX12_isLine_2 ?_
    refine zz_lt hv (G := fun w => W _ _ _ _ _ _ _ _ _ _ _ _ _ _ _ (F0 _ _ _ (.int w :: _))) (fun v1 hv => ?_)
    refine lv_istore (lv' := [(5, .int (v1)), (0, .ref (a0)), (1, .int (a1)), (2, .int (a2)), (3, .int (a3)), (4, .int (a4))]) S.1 S.2.1 dX12_isLine_3 hl (by decide) rfl (fun ls hl => ?_)
    refine lv_iload S.1 S.2.1 dX12_isLine_5 (lv_at hl 5 rfl) ?_
    refine lv_if_eq (tgt := 33) S.1 S.2.1 dX12_isLine_7 (by decide) (fun hc => ?_) (fun hc => ?_)
    · replace hv := (if_pos hc).symm.trans hv
      refine lv_iload_n S.1 S.2.1 dX12_isLine_33 rfl (lv_at hl 4 rfl) ?_
      refine lv_if_le (tgt := 75) S.1 S.2.1 dX12_isLine_34 (by decide) (fun hc => ?_) (fun hc => ?_)
      · replace hv := (if_pos hc).symm.trans hv
        refine lv_iload S.1 S.2.1 dX12_isLine_75 (lv_at hl 0 rfl) ?_
        refine lv_aload_n S.1 S.2.1 dX12_isLine_77 rfl (lv_at hl 1 rfl) ?_
        refine lv_aload_n S.1 S.2.1 dX12_isLine_78 rfl (lv_at hl 1 rfl) ?_
        refine zz_gR S K Z hv zc_10 (by decide) gf_X12_75 dX12_isLine_79 (fun v2 hv => ?_)
        refine lv_iconst (v := (3 : Int32)) S.1 S.2.1 dX12_isLine_82 (by decide) ?_
        refine zz_iald S K Z hv dX12_isLine_83 (fun v3 hv => ?_)
        obtain ⟨hci, hv⟩ := zz_isO_s hv
        obtain ⟨v4, hq, hv⟩ := zz_bd hv
        refine zz_V [.int (v3)] S K Z hci zc_10 rfl (c_X12_signsOf a0 v3 hq) ⟨rfl, rfl⟩ gm_X12_signsOf gmv_X12_signsOf gl_X12_213 ⟨by decide, by decide⟩ rfl hl.1 rfl (Nat.le_of_ble_eq_true rfl) dX12_isLine_84 ⟨Nat.zero_le _, Nat.zero_le _⟩ (fun H locs Z => ?_)
        show W _ _ _ _ _ _ _ _ _ _ _ _ 0 0 _ (F0 m 87 ls [.int (v4), .int (v1)])
        refine lv_icmp_ne (tgt := 94) S.1 S.2.1 dX12_isLine_87 (by decide) (fun hc => ?_) (fun hc => ?_)
        · replace hv := (if_neg hc).symm.trans hv
          refine lv_iconst (v := (0 : Int32)) S.1 S.2.1 dX12_isLine_94 (by decide) ?_
          exact J95 v1 (0 : Int32) _ hv hk H locs ls Z (lv_sub hl [1, 2, 0] rfl)
        · replace hv := (if_pos hc).symm.trans hv
          refine lv_iconst (v := (1 : Int32)) S.1 S.2.1 dX12_isLine_90 (by decide) ?_
          refine lv_goto (tgt := 95) S.1 S.2.1 dX12_isLine_91 (by decide) ?_
          exact J95 v1 (1 : Int32) _ hv hk H locs ls Z (lv_sub hl [1, 2, 0] rfl)
      · replace hv := (if_neg hc).symm.trans hv
        refine lv_iload S.1 S.2.1 dX12_isLine_37 (lv_at hl 0 rfl) ?_
        refine lv_iconst (v := (2 : Int32)) S.1 S.2.1 dX12_isLine_39 (by decide) ?_
        refine lv_icmp_ne (tgt := 73) S.1 S.2.1 dX12_isLine_40 (by decide) (fun hc => ?_) (fun hc => ?_)
        · replace hv := (if_neg hc).symm.trans hv
          refine lv_iconst (v := (0 : Int32)) S.1 S.2.1 dX12_isLine_73 (by decide) ?_
          replace hk := zz_fin hv hk
          obtain rfl := hR0 _ hk
          exact zz_zret S Z hret (by decide) hlk dX12_isLine_74 (Nat.le_refl _) (Nat.le_refl _)
        · replace hv := (if_pos hc).symm.trans hv
          refine lv_aload_n S.1 S.2.1 dX12_isLine_43 rfl (lv_at hl 1 rfl) ?_
          refine zz_gR S K Z hv zc_10 (by decide) gf_X12_13 dX12_isLine_44 (fun v17 hv => ?_)
          refine lv_iload_n S.1 S.2.1 dX12_isLine_47 rfl (lv_at hl 2 rfl) ?_
          refine zz_iald S K Z hv dX12_isLine_48 (fun v18 hv => ?_)
          refine lv_bipush (v := (33 : Int32)) S.1 S.2.1 dX12_isLine_49 (by decide) ?_
          refine lv_icmp_ne (tgt := 73) S.1 S.2.1 dX12_isLine_51 (by decide) (fun hc => ?_) (fun hc => ?_)
          · replace hv := (if_neg hc).symm.trans hv
            refine lv_iconst (v := (0 : Int32)) S.1 S.2.1 dX12_isLine_73 (by decide) ?_
            replace hk := zz_fin hv hk
            obtain rfl := hR0 _ hk
            exact zz_zret S Z hret (by decide) hlk dX12_isLine_74 (Nat.le_refl _) (Nat.le_refl _)
          · replace hv := (if_pos hc).symm.trans hv
            refine lv_aload_n S.1 S.2.1 dX12_isLine_54 rfl (lv_at hl 1 rfl) ?_
            refine zz_gR S K Z hv zc_10 (by decide) gf_X12_13 dX12_isLine_55 (fun v19 hv => ?_)
            refine lv_iload_n S.1 S.2.1 dX12_isLine_58 rfl (lv_at hl 2 rfl) ?_
            refine lv_iconst (v := (1 : Int32)) S.1 S.2.1 dX12_isLine_59 (by decide) ?_
            refine lv_iadd S.1 S.2.1 dX12_isLine_60 ?_
            refine zz_iald S K Z hv dX12_isLine_61 (fun v20 hv => ?_)
            refine lv_bipush (v := (48 : Int32)) S.1 S.2.1 dX12_isLine_62 (by decide) ?_
            refine lv_iload_n S.1 S.2.1 dX12_isLine_64 rfl (lv_at hl 4 rfl) ?_
            refine lv_iadd S.1 S.2.1 dX12_isLine_65 ?_
            refine lv_icmp_ne (tgt := 73) S.1 S.2.1 dX12_isLine_66 (by decide) (fun hc => ?_) (fun hc => ?_)
            · replace hv := (if_neg hc).symm.trans hv
              refine lv_iconst (v := (0 : Int32)) S.1 S.2.1 dX12_isLine_73 (by decide) ?_
              replace hk := zz_fin hv hk
              obtain rfl := hR0 _ hk
              exact zz_zret S Z hret (by decide) hlk dX12_isLine_74 (Nat.le_refl _) (Nat.le_refl _)
            · replace hv := (if_pos hc).symm.trans hv
              refine lv_iconst (v := (1 : Int32)) S.1 S.2.1 dX12_isLine_69 (by decide) ?_
              refine lv_goto (tgt := 74) S.1 S.2.1 dX12_isLine_70 (by decide) ?_
              replace hk := zz_fin hv hk
              obtain rfl := hR0 _ hk
              exact zz_zret S Z hret (by decide) hlk dX12_isLine_74 (Nat.le_refl _) (Nat.le_refl _)
    · replace hv := (if_neg hc).symm.trans hv
      refine lv_iload S.1 S.2.1 dX12_isLine_10 (lv_at hl 0 rfl) ?_
      refine lv_iconst (v := (1 : Int32)) S.1 S.2.1 dX12_isLine_12 (by decide) ?_
      refine lv_icmp_ne (tgt := 31) S.1 S.2.1 dX12_isLine_13 (by decide) (fun hc => ?_) (fun hc => ?_)
      · replace hv := (if_neg hc).symm.trans hv
        refine lv_iconst (v := (0 : Int32)) S.1 S.2.1 dX12_isLine_31 (by decide) ?_
        replace hk := zz_fin hv hk
        obtain rfl := hR0 _ hk
        exact zz_zret S Z hret (by decide) hlk dX12_isLine_32 (Nat.le_refl _) (Nat.le_refl _)
      · replace hv := (if_pos hc).symm.trans hv
        refine lv_aload_n S.1 S.2.1 dX12_isLine_16 rfl (lv_at hl 1 rfl) ?_
        refine zz_gR S K Z hv zc_10 (by decide) gf_X12_13 dX12_isLine_17 (fun v21 hv => ?_)
        refine lv_iload_n S.1 S.2.1 dX12_isLine_20 rfl (lv_at hl 2 rfl) ?_
        refine zz_iald S K Z hv dX12_isLine_21 (fun v22 hv => ?_)
        refine lv_bipush (v := (46 : Int32)) S.1 S.2.1 dX12_isLine_22 (by decide) ?_
        refine lv_icmp_ne (tgt := 31) S.1 S.2.1 dX12_isLine_24 (by decide) (fun hc => ?_) (fun hc => ?_)
        · replace hv := (if_neg hc).symm.trans hv
          refine lv_iconst (v := (0 : Int32)) S.1 S.2.1 dX12_isLine_31 (by decide) ?_
          replace hk := zz_fin hv hk
          obtain rfl := hR0 _ hk
          exact zz_zret S Z hret (by decide) hlk dX12_isLine_32 (Nat.le_refl _) (Nat.le_refl _)
        · replace hv := (if_pos hc).symm.trans hv
          refine lv_iconst (v := (1 : Int32)) S.1 S.2.1 dX12_isLine_27 (by decide) ?_
          refine lv_goto (tgt := 32) S.1 S.2.1 dX12_isLine_28 (by decide) ?_
          replace hk := zz_fin hv hk
          obtain rfl := hR0 _ hk
          exact zz_zret S Z hret (by decide) hlk dX12_isLine_32 (Nat.le_refl _) (Nat.le_refl _)
  rw [hH, hlo] at key
  exact key

noncomputable def f_X12_replay_J148 (h : ZH) (a0 : Nat) (x4_9 : Int32) (h10 : ZH) : Option (Int32 × ZH) :=
  (zp_V h10 a0 10 2 (.int ((0 : Int32)))).bind fun h11 => some ((x4_9, h11))
noncomputable def f_X12_replay_J138 (h : ZH) (a0 : Nat) (x3_31 : Int32) (x8_32 : Int32) (s33 : Int32) (h34 : ZH) : Option ((Int32 × Int32 × Int32 × ZH) ⊕ (Int32 × ZH)) :=
  zz_let (x8_32 + (1 : Int32)) fun v35 => some (.inl (v35, x3_31, s33, h34))
noncomputable def f_X12_replay_J101 (h : ZH) (a0 : Nat) (x3_24 : Int32) (x5_25 : Int32) (x6_26 : Int32) (s27 : Int32) (h28 : ZH) : Option ((Int32 × Int32 × Int32 × ZH) ⊕ (Int32 × ZH)) :=
  zz_isO h28 a0 10 <| (f_X12_endOf h28 a0 (x5_25 + (1 : Int32))).bind fun v29 => zz_isO h28 a0 10 <| (f_X12_isLine h28 a0 (x5_25 + (1 : Int32)) v29 s27 x6_26).bind fun v30 => if v30 = 0 then (f_X12_replay_J138 h a0 (x3_24 + (2 : Int32)) v29 (x3_24 + (2 : Int32)) h28) else (f_X12_replay_J138 h a0 (x3_24 + (2 : Int32)) v29 (0 : Int32) h28)
noncomputable def f_X12_replay_J69 (h : ZH) (a0 : Nat) (x2_15 : Int32) (x3_16 : Int32) (x5_17 : Int32) (s18 : Int32) (h19 : ZH) : Option ((Int32 × Int32 × Int32 × ZH) ⊕ (Int32 × ZH)) :=
  if s18 = 0 then ((zg_R h19 a0 10 1).bind fun v20 => zz_isO h19 a0 10 <| (f_X12_wordAt h19 a0 v20 (x2_15 + (2 : Int32)) ((x5_17 - x2_15) - (2 : Int32))).bind fun v21 => zz_isO h19 a0 10 <| (f_X12_says h19 a0 v21).bind fun (v22, h23) => f_X12_replay_J101 h a0 x3_16 x5_17 s18 v22 h23) else (f_X12_replay_J101 h a0 x3_16 x5_17 s18 (0 : Int32) h19)
noncomputable def f_X12_replay_L35 (h : ZH) (a0 : Nat) (x2_4 : Int32) (x3_5 : Int32) (x4_6 : Int32) (h7 : ZH)  : Option ((Int32 × Int32 × Int32 × ZH) ⊕ (Int32 × ZH)) :=
  (zg_I h7 a0 10 2).bind fun v8 => if v8 ≤ x2_4 then ((f_X12_replay_J148 h a0 x4_6 h7).map Sum.inr) else (if x4_6 = 0 then (zz_isO h7 a0 10 <| (f_X12_endOf h7 a0 x2_4).bind fun v12 => (zg_R h7 a0 10 28).bind fun v13 => (zl_I h7 v13 1 (1 : Int32)).bind fun v14 => if v14 = 0 then (f_X12_replay_J69 h a0 x2_4 x3_5 v12 (0 : Int32) h7) else (f_X12_replay_J69 h a0 x2_4 x3_5 v12 (1 : Int32) h7)) else ((f_X12_replay_J148 h a0 x4_6 h7).map Sum.inr))
noncomputable def f_X12_replay (h : ZH) (a0 : Nat) : Option (Int32 × ZH) :=
  (zp_V h a0 10 0 (.int ((0 : Int32)))).bind fun h1 => zz_isO h1 a0 10 <| (f_X12_wrongTranscript h1 a0).bind fun v2 => if v2 < 0 then (zz_isO h1 a0 10 <| (f_X12_begin h1 a0).bind fun h3 => zz_loop (fun st : (Int32 × Int32 × Int32 × ZH) => f_X12_replay_L35 h a0 (st.1) (st.2.1) (st.2.2.1) (st.2.2.2)) ((0 : Int32), (0 : Int32), (0 : Int32), h3)) else ((zp_V h1 a0 10 2 (.int ((0 : Int32)))).bind fun h36 => some (((-10 : Int32) - v2, h36)))
abbrev rm_X12_replay : Room := { frames := 4, cells := 0, slots := 0, locals := 95 }
set_option maxRecDepth 100000 in
set_option maxHeartbeats 4000000 in
theorem c_X12_replay {l : Launch} {D : va_G} {dA : Nat → ClassId} {A : Nat → Prop} {h : ZH} {n : Nat} (a0 : Nat) {r : Int32} {hx : ZH} (hf : f_X12_replay h a0 = some (r, hx)) : Met l yX12_replay (zz_ws yX12_replay cX12_replay 9 (some .int)) rm_X12_replay (zz_P D dA A h n [.ref (a0)]) (zz_Q D dA A (some (.int r)) hx n) 0 0 A := by
  refine zz_met (by decide) (Nat.le_of_ble_eq_true rfl) ?_
  intro p e s m args below meth c ls S K hret hlk hnm hl Z
  replace hl : lv_has ls 9 [(0, .ref (a0))] := hl
  obtain ⟨K0, hR0, hk⟩ : ∃ K0 : (Int32 × ZH) → Prop, (∀ x, K0 x → x = (r, hx)) ∧ K0 (r, hx) := ⟨fun x => x = (r, hx), fun _ h => h, rfl⟩
  have J148 : ∀ (x4_9 : Int32) (h10 : ZH) (x : (Int32 × ZH)), f_X12_replay_J148 h a0 x4_9 h10 = some x → K0 x → ∀ (H : Heap) (locs : List Loc) (ls : Array Slot), zz_B D dA A h10 n s.heap H locs → lv_has ls 9 [(0, .ref (a0)), (4, .int (x4_9))] → zz_W p l e rm_X12_replay s m args below meth c D dA A (some (.int r)) hx n 0 0 H locs 0 0 148 ls [] := by
    intro x4_9 h10 x hv hk H locs ls Z hl
    unfold f_X12_replay_J148 at hv
    refine lv_aload_n S.1 S.2.1 dX12_replay_148 rfl (lv_at hl 0 rfl) ?_
    refine lv_iconst (v := (0 : Int32)) S.1 S.2.1 dX12_replay_149 (by decide) ?_
    refine zz_put S K Z hv zc_10 (by decide) gf_X12_109 rfl rfl rfl dX12_replay_150 (fun h11 H locs hv Z => ?_)
    refine lv_iload S.1 S.2.1 dX12_replay_153 (lv_at hl 1 rfl) ?_
    replace hk := zz_fin hv hk
    obtain ⟨rfl, rfl⟩ := Prod.mk.inj (hR0 _ hk)
    exact zz_iret S Z hret hlk dX12_replay_155 (Nat.le_refl _) (Nat.le_refl _)
  have L35 : ∀ (st : (Int32 × Int32 × Int32 × ZH)) (x : (Int32 × ZH)), zz_loop (fun st : (Int32 × Int32 × Int32 × ZH) => f_X12_replay_L35 h a0 (st.1) (st.2.1) (st.2.2.1) (st.2.2.2)) st = some x → K0 x → (fun st : (Int32 × Int32 × Int32 × ZH) => ∀ (H : Heap) (locs : List Loc) (ls : Array Slot), zz_B D dA A (st.2.2.2) n s.heap H locs → lv_has ls 9 [(0, .ref (a0)), (2, .int ((st.1))), (3, .int ((st.2.1))), (4, .int ((st.2.2.1)))] → zz_W p l e rm_X12_replay s m args below meth c D dA A (some (.int r)) hx n 0 0 H locs 0 0 35 ls []) st := by
    refine zz_loop_go (K := K0) ?_
    intro K1 hP1 hR1
    have J138 : ∀ (x3_31 : Int32) (x8_32 : Int32) (s33 : Int32) (h34 : ZH) (x : ((Int32 × Int32 × Int32 × ZH) ⊕ (Int32 × ZH))), f_X12_replay_J138 h a0 x3_31 x8_32 s33 h34 = some x → K1 x → ∀ (H : Heap) (locs : List Loc) (ls : Array Slot), zz_B D dA A h34 n s.heap H locs → lv_has ls 9 [(0, .ref (a0)), (3, .int (x3_31)), (8, .int (x8_32))] → zz_W p l e rm_X12_replay s m args below meth c D dA A (some (.int r)) hx n 0 0 H locs 0 0 138 ls [.int (s33)] := by
      intro x3_31 x8_32 s33 h34 x hv hk H locs ls Z hl
      unfold f_X12_replay_J138 at hv
      refine lv_istore (lv' := [(4, .int (s33)), (0, .ref (a0)), (3, .int (x3_31)), (8, .int (x8_32))]) S.1 S.2.1 dX12_replay_138 hl (by decide) rfl (fun ls hl => ?_)
      refine lv_iload S.1 S.2.1 dX12_replay_140 (lv_at hl 3 rfl) ?_
      refine lv_iconst (v := (1 : Int32)) S.1 S.2.1 dX12_replay_142 (by decide) ?_
      refine lv_iadd S.1 S.2.1 dX12_replay_143 ?_
      refine zz_lt hv (G := fun w => W _ _ _ _ _ _ _ _ _ _ _ _ _ _ _ (F0 _ _ _ (.int w :: _))) (fun v35 hv => ?_)
      refine lv_istore_n (lv' := [(2, .int (v35)), (4, .int (s33)), (0, .ref (a0)), (3, .int (x3_31)), (8, .int (x8_32))]) S.1 S.2.1 dX12_replay_144 rfl hl (by decide) rfl (fun ls hl => ?_)
      refine lv_goto (tgt := 35) S.1 S.2.1 dX12_replay_145 (by decide) ?_
      replace hk := zz_fin hv hk
      exact hP1 _ hk H locs ls Z (lv_sub hl [2, 0, 3, 1] rfl)
    have J101 : ∀ (x3_24 : Int32) (x5_25 : Int32) (x6_26 : Int32) (s27 : Int32) (h28 : ZH) (x : ((Int32 × Int32 × Int32 × ZH) ⊕ (Int32 × ZH))), f_X12_replay_J101 h a0 x3_24 x5_25 x6_26 s27 h28 = some x → K1 x → ∀ (H : Heap) (locs : List Loc) (ls : Array Slot), zz_B D dA A h28 n s.heap H locs → lv_has ls 9 [(0, .ref (a0)), (3, .int (x3_24)), (5, .int (x5_25)), (6, .int (x6_26))] → zz_W p l e rm_X12_replay s m args below meth c D dA A (some (.int r)) hx n 0 0 H locs 0 0 101 ls [.int (s27)] := by
      intro x3_24 x5_25 x6_26 s27 h28 x hv hk H locs ls Z hl
      unfold f_X12_replay_J101 at hv
      refine lv_istore (lv' := [(7, .int (s27)), (0, .ref (a0)), (3, .int (x3_24)), (5, .int (x5_25)), (6, .int (x6_26))]) S.1 S.2.1 dX12_replay_101 hl (by decide) rfl (fun ls hl => ?_)
      refine lv_aload_n S.1 S.2.1 dX12_replay_103 rfl (lv_at hl 1 rfl) ?_
      refine lv_iload S.1 S.2.1 dX12_replay_104 (lv_at hl 3 rfl) ?_
      refine lv_iconst (v := (1 : Int32)) S.1 S.2.1 dX12_replay_106 (by decide) ?_
      refine lv_iadd S.1 S.2.1 dX12_replay_107 ?_
      obtain ⟨hci, hv⟩ := zz_isO_s hv
      obtain ⟨v29, hq, hv⟩ := zz_bd hv
      refine zz_V [.int (x5_25 + (1 : Int32))] S K Z hci zc_10 rfl (c_X12_endOf a0 (x5_25 + (1 : Int32)) hq) ⟨rfl, rfl⟩ gm_X12_endOf gmv_X12_endOf gl_X12_243 ⟨by decide, by decide⟩ rfl hl.1 rfl (Nat.le_of_ble_eq_true rfl) dX12_replay_108 ⟨Nat.zero_le _, Nat.zero_le _⟩ (fun H locs Z => ?_)
      show W _ _ _ _ _ _ _ _ _ _ _ _ 0 0 _ (F0 m 111 ls [.int (v29)])
      refine lv_istore (lv' := [(8, .int (v29)), (7, .int (s27)), (0, .ref (a0)), (3, .int (x3_24)), (5, .int (x5_25)), (6, .int (x6_26))]) S.1 S.2.1 dX12_replay_111 hl (by decide) rfl (fun ls hl => ?_)
      refine lv_iinc (v := x3_24 + (2 : Int32)) (lv' := [(3, .int (x3_24 + (2 : Int32))), (8, .int (v29)), (7, .int (s27)), (0, .ref (a0)), (5, .int (x5_25)), (6, .int (x6_26))]) S.1 S.2.1 dX12_replay_113 hl (k := 3) rfl rfl (by decide) rfl (fun ls hl => ?_)
      refine lv_aload_n S.1 S.2.1 dX12_replay_116 rfl (lv_at hl 3 rfl) ?_
      refine lv_iload S.1 S.2.1 dX12_replay_117 (lv_at hl 4 rfl) ?_
      refine lv_iconst (v := (1 : Int32)) S.1 S.2.1 dX12_replay_119 (by decide) ?_
      refine lv_iadd S.1 S.2.1 dX12_replay_120 ?_
      refine lv_iload S.1 S.2.1 dX12_replay_121 (lv_at hl 1 rfl) ?_
      refine lv_iload S.1 S.2.1 dX12_replay_123 (lv_at hl 2 rfl) ?_
      refine lv_iload S.1 S.2.1 dX12_replay_125 (lv_at hl 5 rfl) ?_
      obtain ⟨hci, hv⟩ := zz_isO_s hv
      obtain ⟨v30, hq, hv⟩ := zz_bd hv
      refine zz_V [.int (x5_25 + (1 : Int32)), .int (v29), .int (s27), .int (x6_26)] S K Z hci zc_10 rfl (c_X12_isLine a0 (x5_25 + (1 : Int32)) v29 s27 x6_26 hq) ⟨rfl, rfl⟩ gm_X12_isLine gmv_X12_isLine gl_X12_250 ⟨by decide, by decide⟩ rfl hl.1 rfl (Nat.le_of_ble_eq_true rfl) dX12_replay_127 ⟨Nat.zero_le _, Nat.zero_le _⟩ (fun H locs Z => ?_)
      show W _ _ _ _ _ _ _ _ _ _ _ _ 0 0 _ (F0 m 130 ls [.int (v30)])
      refine lv_if_eq (tgt := 137) S.1 S.2.1 dX12_replay_130 (by decide) (fun hc => ?_) (fun hc => ?_)
      · replace hv := (if_pos hc).symm.trans hv
        refine lv_iload_n S.1 S.2.1 dX12_replay_137 rfl (lv_at hl 0 rfl) ?_
        exact J138 (x3_24 + (2 : Int32)) v29 (x3_24 + (2 : Int32)) h28 _ hv hk H locs ls Z (lv_sub hl [3, 0, 1] rfl)
      · replace hv := (if_neg hc).symm.trans hv
        refine lv_iconst (v := (0 : Int32)) S.1 S.2.1 dX12_replay_133 (by decide) ?_
        refine lv_goto (tgt := 138) S.1 S.2.1 dX12_replay_134 (by decide) ?_
        exact J138 (x3_24 + (2 : Int32)) v29 (0 : Int32) h28 _ hv hk H locs ls Z (lv_sub hl [3, 0, 1] rfl)
    have J69 : ∀ (x2_15 : Int32) (x3_16 : Int32) (x5_17 : Int32) (s18 : Int32) (h19 : ZH) (x : ((Int32 × Int32 × Int32 × ZH) ⊕ (Int32 × ZH))), f_X12_replay_J69 h a0 x2_15 x3_16 x5_17 s18 h19 = some x → K1 x → ∀ (H : Heap) (locs : List Loc) (ls : Array Slot), zz_B D dA A h19 n s.heap H locs → lv_has ls 9 [(0, .ref (a0)), (2, .int (x2_15)), (3, .int (x3_16)), (5, .int (x5_17))] → zz_W p l e rm_X12_replay s m args below meth c D dA A (some (.int r)) hx n 0 0 H locs 0 0 69 ls [.int (s18)] := by
      intro x2_15 x3_16 x5_17 s18 h19 x hv hk H locs ls Z hl
      unfold f_X12_replay_J69 at hv
      refine lv_istore (lv' := [(6, .int (s18)), (0, .ref (a0)), (2, .int (x2_15)), (3, .int (x3_16)), (5, .int (x5_17))]) S.1 S.2.1 dX12_replay_69 hl (by decide) rfl (fun ls hl => ?_)
      refine lv_iload S.1 S.2.1 dX12_replay_71 (lv_at hl 0 rfl) ?_
      refine lv_if_eq (tgt := 80) S.1 S.2.1 dX12_replay_73 (by decide) (fun hc => ?_) (fun hc => ?_)
      · replace hv := (if_pos hc).symm.trans hv
        refine lv_aload_n S.1 S.2.1 dX12_replay_80 rfl (lv_at hl 1 rfl) ?_
        refine lv_aload_n S.1 S.2.1 dX12_replay_81 rfl (lv_at hl 1 rfl) ?_
        refine lv_aload_n S.1 S.2.1 dX12_replay_82 rfl (lv_at hl 1 rfl) ?_
        refine zz_gR S K Z hv zc_10 (by decide) gf_X12_13 dX12_replay_83 (fun v20 hv => ?_)
        refine lv_iload_n S.1 S.2.1 dX12_replay_86 rfl (lv_at hl 2 rfl) ?_
        refine lv_iconst (v := (2 : Int32)) S.1 S.2.1 dX12_replay_87 (by decide) ?_
        refine lv_iadd S.1 S.2.1 dX12_replay_88 ?_
        refine lv_iload S.1 S.2.1 dX12_replay_89 (lv_at hl 4 rfl) ?_
        refine lv_iload_n S.1 S.2.1 dX12_replay_91 rfl (lv_at hl 2 rfl) ?_
        refine lv_isub S.1 S.2.1 dX12_replay_92 ?_
        refine lv_iconst (v := (2 : Int32)) S.1 S.2.1 dX12_replay_93 (by decide) ?_
        refine lv_isub S.1 S.2.1 dX12_replay_94 ?_
        obtain ⟨hci, hv⟩ := zz_isO_s hv
        obtain ⟨v21, hq, hv⟩ := zz_bd hv
        refine zz_V [.ref (v20), .int (x2_15 + (2 : Int32)), .int ((x5_17 - x2_15) - (2 : Int32))] S K Z hci zc_10 rfl (c_X12_wordAt a0 v20 (x2_15 + (2 : Int32)) ((x5_17 - x2_15) - (2 : Int32)) hq) ⟨rfl, rfl⟩ gm_X12_wordAt gmv_X12_wordAt gl_X12_131 ⟨by decide, by decide⟩ rfl hl.1 rfl (Nat.le_of_ble_eq_true rfl) dX12_replay_95 ⟨Nat.zero_le _, Nat.zero_le _⟩ (fun H locs Z => ?_)
        show W _ _ _ _ _ _ _ _ _ _ _ _ 0 0 _ (F0 m 98 ls [.int (v21), .ref (a0)])
        obtain ⟨hci, hv⟩ := zz_isO_s hv
        obtain ⟨⟨v22, h23⟩, hq, hv⟩ := zz_bd hv
        refine zz_V [.int (v21)] S K Z hci zc_10 rfl (c_X12_says a0 v21 hq) ⟨rfl, rfl⟩ gm_X12_says gmv_X12_says gl_X12_231 ⟨by decide, by decide⟩ rfl hl.1 rfl (Nat.le_of_ble_eq_true rfl) dX12_replay_98 ⟨Nat.zero_le _, Nat.zero_le _⟩ (fun H locs Z => ?_)
        show W _ _ _ _ _ _ _ _ _ _ _ _ 0 0 _ (F0 m 101 ls [.int (v22)])
        exact J101 x3_16 x5_17 s18 v22 h23 _ hv hk H locs ls Z (lv_sub hl [1, 3, 4, 0] rfl)
      · replace hv := (if_neg hc).symm.trans hv
        refine lv_iconst (v := (0 : Int32)) S.1 S.2.1 dX12_replay_76 (by decide) ?_
        refine lv_goto (tgt := 101) S.1 S.2.1 dX12_replay_77 (by decide) ?_
        exact J101 x3_16 x5_17 s18 (0 : Int32) h19 _ hv hk H locs ls Z (lv_sub hl [1, 3, 4, 0] rfl)
    rintro ⟨x2_4, x3_5, x4_6, h7⟩ x hv hk H locs ls Z hl
    replace hv : f_X12_replay_L35 h a0 x2_4 x3_5 x4_6 h7 = some x := hv
    unfold f_X12_replay_L35 at hv
    replace hl : lv_has ls 9 [(0, .ref (a0)), (2, .int (x2_4)), (3, .int (x3_5)), (4, .int (x4_6))] := hl
    replace Z : zz_B D dA A h7 n s.heap H locs := Z
    show zz_W p l e rm_X12_replay s m args below meth c D dA A (some (.int r)) hx n 0 0 H locs 0 0 35 ls []
    refine lv_iload_n S.1 S.2.1 dX12_replay_35 rfl (lv_at hl 1 rfl) ?_
    refine lv_aload_n S.1 S.2.1 dX12_replay_36 rfl (lv_at hl 0 rfl) ?_
    refine zz_gI S K Z hv zc_10 (by decide) gf_X12_109 dX12_replay_37 (fun v8 hv => ?_)
    refine lv_icmp_ge (tgt := 148) S.1 S.2.1 dX12_replay_40 (by decide) (fun hc => ?_) (fun hc => ?_)
    · replace hv := (if_pos hc).symm.trans hv
      obtain ⟨_, hv, hk⟩ := zz_mapk hv hk
      replace hk := hR1 _ hk
      exact J148 x4_6 h7 _ hv hk H locs ls Z (lv_sub hl [0, 3] rfl)
    · replace hv := (if_neg hc).symm.trans hv
      refine lv_iload S.1 S.2.1 dX12_replay_43 (lv_at hl 3 rfl) ?_
      refine lv_if_ne (tgt := 148) S.1 S.2.1 dX12_replay_45 (by decide) (fun hc => ?_) (fun hc => ?_)
      · replace hv := (if_neg hc).symm.trans hv
        obtain ⟨_, hv, hk⟩ := zz_mapk hv hk
        replace hk := hR1 _ hk
        exact J148 x4_6 h7 _ hv hk H locs ls Z (lv_sub hl [0, 3] rfl)
      · replace hv := (if_pos hc).symm.trans hv
        refine lv_aload_n S.1 S.2.1 dX12_replay_48 rfl (lv_at hl 0 rfl) ?_
        refine lv_iload_n S.1 S.2.1 dX12_replay_49 rfl (lv_at hl 1 rfl) ?_
        obtain ⟨hci, hv⟩ := zz_isO_s hv
        obtain ⟨v12, hq, hv⟩ := zz_bd hv
        refine zz_V [.int (x2_4)] S K Z hci zc_10 rfl (c_X12_endOf a0 x2_4 hq) ⟨rfl, rfl⟩ gm_X12_endOf gmv_X12_endOf gl_X12_243 ⟨by decide, by decide⟩ rfl hl.1 rfl (Nat.le_of_ble_eq_true rfl) dX12_replay_50 ⟨Nat.zero_le _, Nat.zero_le _⟩ (fun H locs Z => ?_)
        show W _ _ _ _ _ _ _ _ _ _ _ _ 0 0 _ (F0 m 53 ls [.int (v12)])
        refine lv_istore (lv' := [(5, .int (v12)), (0, .ref (a0)), (2, .int (x2_4)), (3, .int (x3_5)), (4, .int (x4_6))]) S.1 S.2.1 dX12_replay_53 hl (by decide) rfl (fun ls hl => ?_)
        refine lv_aload_n S.1 S.2.1 dX12_replay_55 rfl (lv_at hl 1 rfl) ?_
        refine zz_gR S K Z hv zc_10 (by decide) gf_X12_75 dX12_replay_56 (fun v13 hv => ?_)
        refine lv_iconst (v := (1 : Int32)) S.1 S.2.1 dX12_replay_59 (by decide) ?_
        refine zz_iald S K Z hv dX12_replay_60 (fun v14 hv => ?_)
        refine lv_if_eq (tgt := 68) S.1 S.2.1 dX12_replay_61 (by decide) (fun hc => ?_) (fun hc => ?_)
        · replace hv := (if_pos hc).symm.trans hv
          refine lv_iconst (v := (0 : Int32)) S.1 S.2.1 dX12_replay_68 (by decide) ?_
          exact J69 x2_4 x3_5 v12 (0 : Int32) h7 _ hv hk H locs ls Z (lv_sub hl [1, 2, 3, 0] rfl)
        · replace hv := (if_neg hc).symm.trans hv
          refine lv_iconst (v := (1 : Int32)) S.1 S.2.1 dX12_replay_64 (by decide) ?_
          refine lv_goto (tgt := 69) S.1 S.2.1 dX12_replay_65 (by decide) ?_
          exact J69 x2_4 x3_5 v12 (1 : Int32) h7 _ hv hk H locs ls Z (lv_sub hl [1, 2, 3, 0] rfl)
  have hv := hf
  unfold f_X12_replay at hv
  clear hf
  obtain ⟨x, hxx⟩ : ∃ x, x = (r, hx) := ⟨_, rfl⟩
  rw [← hxx] at hv hk
  have ⟨H, hH⟩ : ∃ H, H = s.heap := ⟨_, rfl⟩
  have ⟨locs, hlo⟩ : ∃ q : List Loc, q = [] := ⟨_, rfl⟩
  have Z : zz_B D dA A h n s.heap H locs := by rw [hH, hlo]; exact Z
  have key : zz_W p l e rm_X12_replay s m args below meth c D dA A (some (.int r)) hx n 0 0 H locs 0 0 0 ls [] := by
    clear hH hlo hxx
    refine lv_aload_n S.1 S.2.1 dX12_replay_0 rfl (lv_at hl 0 rfl) ?_
    refine lv_iconst (v := (0 : Int32)) S.1 S.2.1 dX12_replay_1 (by decide) ?_
    refine zz_put S K Z hv zc_10 (by decide) gf_X12_1 rfl rfl rfl dX12_replay_2 (fun h1 H locs hv Z => ?_)
    refine lv_aload_n S.1 S.2.1 dX12_replay_5 rfl (lv_at hl 0 rfl) ?_
    obtain ⟨hci, hv⟩ := zz_isO_s hv
    obtain ⟨v2, hq, hv⟩ := zz_bd hv
    refine zz_V [] S K Z hci zc_10 rfl (c_X12_wrongTranscript a0 hq) ⟨rfl, rfl⟩ gm_X12_wrongTranscript gmv_X12_wrongTranscript gl_X12_246 ⟨by decide, by decide⟩ rfl hl.1 rfl (Nat.le_of_ble_eq_true rfl) dX12_replay_6 ⟨Nat.zero_le _, Nat.zero_le _⟩ (fun H locs Z => ?_)
    show W _ _ _ _ _ _ _ _ _ _ _ _ 0 0 _ (F0 m 9 ls [.int (v2)])
    refine lv_istore_n (lv' := [(1, .int (v2)), (0, .ref (a0))]) S.1 S.2.1 dX12_replay_9 rfl hl (by decide) rfl (fun ls hl => ?_)
    refine lv_iload_n S.1 S.2.1 dX12_replay_10 rfl (lv_at hl 0 rfl) ?_
    refine lv_if_lt (tgt := 24) S.1 S.2.1 dX12_replay_11 (by decide) (fun hc => ?_) (fun hc => ?_)
    · replace hv := (if_pos hc).symm.trans hv
      refine lv_aload_n S.1 S.2.1 dX12_replay_24 rfl (lv_at hl 1 rfl) ?_
      obtain ⟨hci, hv⟩ := zz_isO_s hv
      obtain ⟨h3, hq, hv⟩ := zz_bd hv
      refine zz_V [] S K Z hci zc_10 rfl (c_X12_begin a0 hq) ⟨rfl, rfl⟩ gm_X12_begin gmv_X12_begin gl_X12_100 ⟨by decide, by decide⟩ rfl hl.1 rfl (Nat.le_of_ble_eq_true rfl) dX12_replay_25 ⟨Nat.zero_le _, Nat.zero_le _⟩ (fun H locs Z => ?_)
      show W _ _ _ _ _ _ _ _ _ _ _ _ 0 0 _ (F0 m 28 ls [])
      refine lv_iconst (v := (0 : Int32)) S.1 S.2.1 dX12_replay_28 (by decide) ?_
      refine lv_istore_n (lv' := [(2, .int ((0 : Int32))), (1, .int (v2)), (0, .ref (a0))]) S.1 S.2.1 dX12_replay_29 rfl hl (by decide) rfl (fun ls hl => ?_)
      refine lv_iconst (v := (0 : Int32)) S.1 S.2.1 dX12_replay_30 (by decide) ?_
      refine lv_istore_n (lv' := [(3, .int ((0 : Int32))), (2, .int ((0 : Int32))), (1, .int (v2)), (0, .ref (a0))]) S.1 S.2.1 dX12_replay_31 rfl hl (by decide) rfl (fun ls hl => ?_)
      refine lv_iconst (v := (0 : Int32)) S.1 S.2.1 dX12_replay_32 (by decide) ?_
      refine lv_istore (lv' := [(4, .int ((0 : Int32))), (3, .int ((0 : Int32))), (2, .int ((0 : Int32))), (1, .int (v2)), (0, .ref (a0))]) S.1 S.2.1 dX12_replay_33 hl (by decide) rfl (fun ls hl => ?_)
      exact L35  ((0 : Int32), (0 : Int32), (0 : Int32), h3) _ hv hk H locs ls Z (lv_sub hl [4, 2, 1, 0] rfl)
    · replace hv := (if_neg hc).symm.trans hv
      refine lv_aload_n S.1 S.2.1 dX12_replay_14 rfl (lv_at hl 1 rfl) ?_
      refine lv_iconst (v := (0 : Int32)) S.1 S.2.1 dX12_replay_15 (by decide) ?_
      refine zz_put S K Z hv zc_10 (by decide) gf_X12_109 rfl rfl rfl dX12_replay_16 (fun h36 H locs hv Z => ?_)
      refine lv_bipush (v := (-10 : Int32)) S.1 S.2.1 dX12_replay_19 (by decide) ?_
      refine lv_iload_n S.1 S.2.1 dX12_replay_21 rfl (lv_at hl 0 rfl) ?_
      refine lv_isub S.1 S.2.1 dX12_replay_22 ?_
      replace hk := zz_fin hv hk
      obtain ⟨rfl, rfl⟩ := Prod.mk.inj (hR0 _ hk)
      exact zz_iret S Z hret hlk dX12_replay_23 (Nat.le_refl _) (Nat.le_refl _)
  rw [hH, hlo] at key
  exact key

noncomputable def f_X12_breaks_J58 (h : ZH) (a0 : Nat) (a1 : Int32) (x4_10 : Int32) (s11 : Int32) (h8 : ZH) : Option ((Int32 × Int32) ⊕ (Int32 × ZH)) :=
  some (.inl (s11, x4_10 + (1 : Int32)))
noncomputable def f_X12_breaks_J53 (h : ZH) (a0 : Nat) (a1 : Int32) (x4_9 : Int32) (h8 : ZH) : Option ((Int32 × Int32) ⊕ (Int32 × ZH)) :=
  f_X12_breaks_J58 h a0 a1 x4_9 (1 : Int32) h8
noncomputable def f_X12_breaks_L32 (h : ZH) (a0 : Nat) (a1 : Int32) (h8 : ZH) (x3_6 : Int32) (x4_7 : Int32)  : Option ((Int32 × Int32) ⊕ (Int32 × ZH)) :=
  if (12 : Int32) ≤ x4_7 then ((if x3_6 = 0 then (some (((0 : Int32), h8))) else (some (((3 : Int32), h8)))).map Sum.inr) else (if x3_6 = 0 then ((zg_R h8 a0 10 28).bind fun v12 => (zl_I h8 v12 1 x4_7).bind fun v13 => if 0 ≤ v13 then (f_X12_breaks_J58 h a0 a1 x4_7 (0 : Int32) h8) else (f_X12_breaks_J53 h a0 a1 x4_7 h8)) else (f_X12_breaks_J53 h a0 a1 x4_7 h8))
noncomputable def f_X12_breaks (h : ZH) (a0 : Nat) (a1 : Int32) : Option (Int32 × ZH) :=
  zz_isO h a0 10 <| (f_X12_says h a0 a1).bind fun (v1, h2) => if v1 ≤ 0 then ((zg_R h2 a0 10 28).bind fun v3 => (zl_I h2 v3 1 (3 : Int32)).bind fun v4 => zz_isO h2 a0 10 <| (f_X12_signsOf h2 a0 v4).bind fun v5 => if v5 = 0 then (some (((2 : Int32), h2))) else (zz_loop (fun st : (Int32 × Int32) => f_X12_breaks_L32 h a0 a1 h2 (st.1) (st.2)) ((0 : Int32), (4 : Int32)))) else (some (((1 : Int32), h2)))
abbrev rm_X12_breaks : Room := { frames := 3, cells := 0, slots := 0, locals := 71 }
set_option maxRecDepth 100000 in
set_option maxHeartbeats 4000000 in
theorem c_X12_breaks {l : Launch} {D : va_G} {dA : Nat → ClassId} {A : Nat → Prop} {h : ZH} {n : Nat} (a0 : Nat) (a1 : Int32) {r : Int32} {hx : ZH} (hf : f_X12_breaks h a0 a1 = some (r, hx)) : Met l yX12_breaks (zz_ws yX12_breaks cX12_breaks 5 (some .int)) rm_X12_breaks (zz_P D dA A h n [.ref (a0), .int (a1)]) (zz_Q D dA A (some (.int r)) hx n) 0 0 A := by
  refine zz_met (by decide) (Nat.le_of_ble_eq_true rfl) ?_
  intro p e s m args below meth c ls S K hret hlk hnm hl Z
  replace hl : lv_has ls 5 [(0, .ref (a0)), (1, .int (a1))] := hl
  obtain ⟨K0, hR0, hk⟩ : ∃ K0 : (Int32 × ZH) → Prop, (∀ x, K0 x → x = (r, hx)) ∧ K0 (r, hx) := ⟨fun x => x = (r, hx), fun _ h => h, rfl⟩
  have L32 : ∀ (h8 : ZH) (st : (Int32 × Int32)) (x : (Int32 × ZH)), zz_loop (fun st : (Int32 × Int32) => f_X12_breaks_L32 h a0 a1 h8 (st.1) (st.2)) st = some x → K0 x → (fun st : (Int32 × Int32) => ∀ (H : Heap) (locs : List Loc) (ls : Array Slot), zz_B D dA A h8 n s.heap H locs → lv_has ls 5 [(0, .ref (a0)), (3, .int ((st.1))), (4, .int ((st.2)))] → zz_W p l e rm_X12_breaks s m args below meth c D dA A (some (.int r)) hx n 0 0 H locs 0 0 32 ls []) st := by
    intro h8
    refine zz_loop_go (K := K0) ?_
    intro K1 hP1 hR1
    have J58 : ∀ (x4_10 : Int32) (s11 : Int32) (x : ((Int32 × Int32) ⊕ (Int32 × ZH))), f_X12_breaks_J58 h a0 a1 x4_10 s11 h8 = some x → K1 x → ∀ (H : Heap) (locs : List Loc) (ls : Array Slot), zz_B D dA A h8 n s.heap H locs → lv_has ls 5 [(0, .ref (a0)), (4, .int (x4_10))] → zz_W p l e rm_X12_breaks s m args below meth c D dA A (some (.int r)) hx n 0 0 H locs 0 0 58 ls [.int (s11)] := by
      intro x4_10 s11 x hv hk H locs ls Z hl
      unfold f_X12_breaks_J58 at hv
      refine lv_istore_n (lv' := [(3, .int (s11)), (0, .ref (a0)), (4, .int (x4_10))]) S.1 S.2.1 dX12_breaks_58 rfl hl (by decide) rfl (fun ls hl => ?_)
      refine lv_iinc (v := x4_10 + (1 : Int32)) (lv' := [(4, .int (x4_10 + (1 : Int32))), (3, .int (s11)), (0, .ref (a0))]) S.1 S.2.1 dX12_breaks_59 hl (k := 2) rfl rfl (by decide) rfl (fun ls hl => ?_)
      refine lv_goto (tgt := 32) S.1 S.2.1 dX12_breaks_62 (by decide) ?_
      replace hk := zz_fin hv hk
      exact hP1 _ hk H locs ls Z (lv_sub hl [2, 1, 0] rfl)
    have J53 : ∀ (x4_9 : Int32) (x : ((Int32 × Int32) ⊕ (Int32 × ZH))), f_X12_breaks_J53 h a0 a1 x4_9 h8 = some x → K1 x → ∀ (H : Heap) (locs : List Loc) (ls : Array Slot), zz_B D dA A h8 n s.heap H locs → lv_has ls 5 [(0, .ref (a0)), (4, .int (x4_9))] → zz_W p l e rm_X12_breaks s m args below meth c D dA A (some (.int r)) hx n 0 0 H locs 0 0 53 ls [] := by
      intro x4_9 x hv hk H locs ls Z hl
      unfold f_X12_breaks_J53 at hv
      refine lv_iconst (v := (1 : Int32)) S.1 S.2.1 dX12_breaks_53 (by decide) ?_
      refine lv_goto (tgt := 58) S.1 S.2.1 dX12_breaks_54 (by decide) ?_
      exact J58 x4_9 (1 : Int32) _ hv hk H locs ls Z (lv_sub hl [0, 1] rfl)
    rintro ⟨x3_6, x4_7⟩ x hv hk H locs ls Z hl
    replace hv : f_X12_breaks_L32 h a0 a1 h8 x3_6 x4_7 = some x := hv
    unfold f_X12_breaks_L32 at hv
    replace hl : lv_has ls 5 [(0, .ref (a0)), (3, .int (x3_6)), (4, .int (x4_7))] := hl
    replace Z : zz_B D dA A h8 n s.heap H locs := Z
    show zz_W p l e rm_X12_breaks s m args below meth c D dA A (some (.int r)) hx n 0 0 H locs 0 0 32 ls []
    refine lv_iload S.1 S.2.1 dX12_breaks_32 (lv_at hl 2 rfl) ?_
    refine lv_bipush (v := (12 : Int32)) S.1 S.2.1 dX12_breaks_34 (by decide) ?_
    refine lv_icmp_ge (tgt := 65) S.1 S.2.1 dX12_breaks_36 (by decide) (fun hc => ?_) (fun hc => ?_)
    · replace hv := (if_pos hc).symm.trans hv
      obtain ⟨_, hv, hk⟩ := zz_mapk hv hk
      replace hk := hR1 _ hk
      refine lv_iload_n S.1 S.2.1 dX12_breaks_65 rfl (lv_at hl 1 rfl) ?_
      refine lv_if_eq (tgt := 73) S.1 S.2.1 dX12_breaks_66 (by decide) (fun hc => ?_) (fun hc => ?_)
      · replace hv := (if_pos hc).symm.trans hv
        refine lv_iconst (v := (0 : Int32)) S.1 S.2.1 dX12_breaks_73 (by decide) ?_
        replace hk := zz_fin hv hk
        obtain ⟨rfl, rfl⟩ := Prod.mk.inj (hR0 _ hk)
        exact zz_iret S Z hret hlk dX12_breaks_74 (Nat.le_refl _) (Nat.le_refl _)
      · replace hv := (if_neg hc).symm.trans hv
        refine lv_iconst (v := (3 : Int32)) S.1 S.2.1 dX12_breaks_69 (by decide) ?_
        refine lv_goto (tgt := 74) S.1 S.2.1 dX12_breaks_70 (by decide) ?_
        replace hk := zz_fin hv hk
        obtain ⟨rfl, rfl⟩ := Prod.mk.inj (hR0 _ hk)
        exact zz_iret S Z hret hlk dX12_breaks_74 (Nat.le_refl _) (Nat.le_refl _)
    · replace hv := (if_neg hc).symm.trans hv
      refine lv_iload_n S.1 S.2.1 dX12_breaks_39 rfl (lv_at hl 1 rfl) ?_
      refine lv_if_ne (tgt := 53) S.1 S.2.1 dX12_breaks_40 (by decide) (fun hc => ?_) (fun hc => ?_)
      · replace hv := (if_neg hc).symm.trans hv
        exact J53 x4_7 _ hv hk H locs ls Z (lv_sub hl [0, 2] rfl)
      · replace hv := (if_pos hc).symm.trans hv
        refine lv_aload_n S.1 S.2.1 dX12_breaks_43 rfl (lv_at hl 0 rfl) ?_
        refine zz_gR S K Z hv zc_10 (by decide) gf_X12_75 dX12_breaks_44 (fun v12 hv => ?_)
        refine lv_iload S.1 S.2.1 dX12_breaks_47 (lv_at hl 2 rfl) ?_
        refine zz_iald S K Z hv dX12_breaks_49 (fun v13 hv => ?_)
        refine lv_if_ge (tgt := 57) S.1 S.2.1 dX12_breaks_50 (by decide) (fun hc => ?_) (fun hc => ?_)
        · replace hv := (if_pos hc).symm.trans hv
          refine lv_iconst (v := (0 : Int32)) S.1 S.2.1 dX12_breaks_57 (by decide) ?_
          exact J58 x4_7 (0 : Int32) _ hv hk H locs ls Z (lv_sub hl [0, 2] rfl)
        · replace hv := (if_neg hc).symm.trans hv
          exact J53 x4_7 _ hv hk H locs ls Z (lv_sub hl [0, 2] rfl)
  have hv := hf
  unfold f_X12_breaks at hv
  clear hf
  obtain ⟨x, hxx⟩ : ∃ x, x = (r, hx) := ⟨_, rfl⟩
  rw [← hxx] at hv hk
  have ⟨H, hH⟩ : ∃ H, H = s.heap := ⟨_, rfl⟩
  have ⟨locs, hlo⟩ : ∃ q : List Loc, q = [] := ⟨_, rfl⟩
  have Z : zz_B D dA A h n s.heap H locs := by rw [hH, hlo]; exact Z
  have key : zz_W p l e rm_X12_breaks s m args below meth c D dA A (some (.int r)) hx n 0 0 H locs 0 0 0 ls [] := by
    clear hH hlo hxx
    refine lv_aload_n S.1 S.2.1 dX12_breaks_0 rfl (lv_at hl 0 rfl) ?_
    refine lv_iload_n S.1 S.2.1 dX12_breaks_1 rfl (lv_at hl 1 rfl) ?_
    obtain ⟨hci, hv⟩ := zz_isO_s hv
    obtain ⟨⟨v1, h2⟩, hq, hv⟩ := zz_bd hv
    refine zz_V [.int (a1)] S K Z hci zc_10 rfl (c_X12_says a0 a1 hq) ⟨rfl, rfl⟩ gm_X12_says gmv_X12_says gl_X12_231 ⟨by decide, by decide⟩ rfl hl.1 rfl (Nat.le_of_ble_eq_true rfl) dX12_breaks_2 ⟨Nat.zero_le _, Nat.zero_le _⟩ (fun H locs Z => ?_)
    show W _ _ _ _ _ _ _ _ _ _ _ _ 0 0 _ (F0 m 5 ls [.int (v1)])
    refine lv_istore_n (lv' := [(2, .int (v1)), (0, .ref (a0)), (1, .int (a1))]) S.1 S.2.1 dX12_breaks_5 rfl hl (by decide) rfl (fun ls hl => ?_)
    refine lv_iload_n S.1 S.2.1 dX12_breaks_6 rfl (lv_at hl 0 rfl) ?_
    refine lv_if_le (tgt := 12) S.1 S.2.1 dX12_breaks_7 (by decide) (fun hc => ?_) (fun hc => ?_)
    · replace hv := (if_pos hc).symm.trans hv
      refine lv_aload_n S.1 S.2.1 dX12_breaks_12 rfl (lv_at hl 1 rfl) ?_
      refine lv_aload_n S.1 S.2.1 dX12_breaks_13 rfl (lv_at hl 1 rfl) ?_
      refine zz_gR S K Z hv zc_10 (by decide) gf_X12_75 dX12_breaks_14 (fun v3 hv => ?_)
      refine lv_iconst (v := (3 : Int32)) S.1 S.2.1 dX12_breaks_17 (by decide) ?_
      refine zz_iald S K Z hv dX12_breaks_18 (fun v4 hv => ?_)
      obtain ⟨hci, hv⟩ := zz_isO_s hv
      obtain ⟨v5, hq, hv⟩ := zz_bd hv
      refine zz_V [.int (v4)] S K Z hci zc_10 rfl (c_X12_signsOf a0 v4 hq) ⟨rfl, rfl⟩ gm_X12_signsOf gmv_X12_signsOf gl_X12_213 ⟨by decide, by decide⟩ rfl hl.1 rfl (Nat.le_of_ble_eq_true rfl) dX12_breaks_19 ⟨Nat.zero_le _, Nat.zero_le _⟩ (fun H locs Z => ?_)
      show W _ _ _ _ _ _ _ _ _ _ _ _ 0 0 _ (F0 m 22 ls [.int (v5)])
      refine lv_if_ne (tgt := 27) S.1 S.2.1 dX12_breaks_22 (by decide) (fun hc => ?_) (fun hc => ?_)
      · replace hv := (if_neg hc).symm.trans hv
        refine lv_iconst (v := (0 : Int32)) S.1 S.2.1 dX12_breaks_27 (by decide) ?_
        refine lv_istore_n (lv' := [(3, .int ((0 : Int32))), (2, .int (v1)), (0, .ref (a0)), (1, .int (a1))]) S.1 S.2.1 dX12_breaks_28 rfl hl (by decide) rfl (fun ls hl => ?_)
        refine lv_iconst (v := (4 : Int32)) S.1 S.2.1 dX12_breaks_29 (by decide) ?_
        refine lv_istore (lv' := [(4, .int ((4 : Int32))), (3, .int ((0 : Int32))), (2, .int (v1)), (0, .ref (a0)), (1, .int (a1))]) S.1 S.2.1 dX12_breaks_30 hl (by decide) rfl (fun ls hl => ?_)
        exact L32 h2 ((0 : Int32), (4 : Int32)) _ hv hk H locs ls Z (lv_sub hl [3, 1, 0] rfl)
      · replace hv := (if_pos hc).symm.trans hv
        refine lv_iconst (v := (2 : Int32)) S.1 S.2.1 dX12_breaks_25 (by decide) ?_
        replace hk := zz_fin hv hk
        obtain ⟨rfl, rfl⟩ := Prod.mk.inj (hR0 _ hk)
        exact zz_iret S Z hret hlk dX12_breaks_26 (Nat.le_refl _) (Nat.le_refl _)
    · replace hv := (if_neg hc).symm.trans hv
      refine lv_iconst (v := (1 : Int32)) S.1 S.2.1 dX12_breaks_10 (by decide) ?_
      replace hk := zz_fin hv hk
      obtain ⟨rfl, rfl⟩ := Prod.mk.inj (hR0 _ hk)
      exact zz_iret S Z hret hlk dX12_breaks_11 (Nat.le_refl _) (Nat.le_refl _)
  rw [hH, hlo] at key
  exact key

noncomputable def f_X12_storm_J127 (h : ZH) (a0 : Nat) (a1 : Int32) (a2 : Int32) (h10 : ZH) : Option (Int32 × ZH) :=
  (zg_I h10 a0 10 39).bind fun v11 => some ((v11, h10))
noncomputable def f_X12_storm_L46 (h : ZH) (a0 : Nat) (a1 : Int32) (a2 : Int32) (x3_7 : Int32) (h8 : ZH)  : Option ((Int32 × ZH) ⊕ (Int32 × ZH)) :=
  (zg_I h8 a0 10 37).bind fun v9 => if a2 ≤ v9 then ((f_X12_storm_J127 h a0 a1 a2 h8).map Sum.inr) else ((zg_I h8 a0 10 39).bind fun v12 => if v12 = 0 then ((zg_R h8 a0 10 28).bind fun v13 => (zl_I h8 v13 1 (1 : Int32)).bind fun v14 => if v14 = 0 then ((f_X12_drawn h8 x3_7).bind fun v15 => (zg_R h8 a0 10 38).bind fun v16 => (zg_I h8 a0 10 37).bind fun v17 => (zg_I h8 a0 10 4).bind fun v18 => zz_ne v18 <| (zs_I h8 v16 1 v17 ((((v15.toUInt32 >>> ((16 : Int32).toUInt32 &&& Int32.toUInt32 31)).toInt32) &&& (32767 : Int32)) - (((v15.toUInt32 >>> ((16 : Int32).toUInt32 &&& Int32.toUInt32 31)).toInt32) &&& (32767 : Int32)) / v18 * v18)).bind fun h19 => (zg_R h19 a0 10 38).bind fun v20 => (zg_I h19 a0 10 37).bind fun v21 => (zl_I h19 v20 1 v21).bind fun v22 => zz_isO h19 a0 10 <| (f_X12_breaks h19 a0 v22).bind fun (v23, h24) => (zp_V h24 a0 10 39 (.int (v23))).bind fun h25 => (zg_I h25 a0 10 37).bind fun v26 => (zp_V h25 a0 10 37 (.int (v26 + (1 : Int32)))).bind fun h27 => some (.inl (v15, h27))) else ((f_X12_storm_J127 h a0 a1 a2 h8).map Sum.inr)) else ((f_X12_storm_J127 h a0 a1 a2 h8).map Sum.inr))
noncomputable def f_X12_storm (h : ZH) (a0 : Nat) (a1 : Int32) (a2 : Int32) : Option (Int32 × ZH) :=
  (zp_V h a0 10 0 (.int ((0 : Int32)))).bind fun h1 => (f_X12_in h1 (a2.toInt64) (0 : Int64) (60 : Int64)).bind fun v2 => if v2 = 0 then (some (((-3 : Int32), h1))) else ((zg_I h1 a0 10 4).bind fun v3 => if v3 = 0 then (some (((-4 : Int32), h1))) else (zz_isO h1 a0 10 <| (f_X12_begin h1 a0).bind fun h4 => (zp_V h4 a0 10 37 (.int ((0 : Int32)))).bind fun h5 => (zp_V h5 a0 10 39 (.int ((0 : Int32)))).bind fun h6 => zz_loop (fun st : (Int32 × ZH) => f_X12_storm_L46 h a0 a1 a2 (st.1) (st.2)) (a1, h6)))
abbrev rm_X12_storm : Room := { frames := 4, cells := 0, slots := 0, locals := 95 }
set_option maxRecDepth 100000 in
set_option maxHeartbeats 4000000 in
theorem c_X12_storm {l : Launch} {D : va_G} {dA : Nat → ClassId} {A : Nat → Prop} {h : ZH} {n : Nat} (a0 : Nat) (a1 : Int32) (a2 : Int32) {r : Int32} {hx : ZH} (hf : f_X12_storm h a0 a1 a2 = some (r, hx)) : Met l yX12_storm (zz_ws yX12_storm cX12_storm 4 (some .int)) rm_X12_storm (zz_P D dA A h n [.ref (a0), .int (a1), .int (a2)]) (zz_Q D dA A (some (.int r)) hx n) 0 0 A := by
  refine zz_met (by decide) (Nat.le_of_ble_eq_true rfl) ?_
  intro p e s m args below meth c ls S K hret hlk hnm hl Z
  replace hl : lv_has ls 4 [(0, .ref (a0)), (1, .int (a1)), (2, .int (a2))] := hl
  obtain ⟨K0, hR0, hk⟩ : ∃ K0 : (Int32 × ZH) → Prop, (∀ x, K0 x → x = (r, hx)) ∧ K0 (r, hx) := ⟨fun x => x = (r, hx), fun _ h => h, rfl⟩
  have J127 : ∀ (h10 : ZH) (x : (Int32 × ZH)), f_X12_storm_J127 h a0 a1 a2 h10 = some x → K0 x → ∀ (H : Heap) (locs : List Loc) (ls : Array Slot), zz_B D dA A h10 n s.heap H locs → lv_has ls 4 [(0, .ref (a0))] → zz_W p l e rm_X12_storm s m args below meth c D dA A (some (.int r)) hx n 0 0 H locs 0 0 127 ls [] := by
    intro h10 x hv hk H locs ls Z hl
    unfold f_X12_storm_J127 at hv
    refine lv_aload_n S.1 S.2.1 dX12_storm_127 rfl (lv_at hl 0 rfl) ?_
    refine zz_gI S K Z hv zc_10 (by decide) gf_X12_259 dX12_storm_128 (fun v11 hv => ?_)
    replace hk := zz_fin hv hk
    obtain ⟨rfl, rfl⟩ := Prod.mk.inj (hR0 _ hk)
    exact zz_iret S Z hret hlk dX12_storm_131 (Nat.le_refl _) (Nat.le_refl _)
  have L46 : ∀ (st : (Int32 × ZH)) (x : (Int32 × ZH)), zz_loop (fun st : (Int32 × ZH) => f_X12_storm_L46 h a0 a1 a2 (st.1) (st.2)) st = some x → K0 x → (fun st : (Int32 × ZH) => ∀ (H : Heap) (locs : List Loc) (ls : Array Slot), zz_B D dA A (st.2) n s.heap H locs → lv_has ls 4 [(0, .ref (a0)), (2, .int (a2)), (3, .int ((st.1)))] → zz_W p l e rm_X12_storm s m args below meth c D dA A (some (.int r)) hx n 0 0 H locs 0 0 46 ls []) st := by
    refine zz_loop_go (K := K0) ?_
    intro K1 hP1 hR1
    rintro ⟨x3_7, h8⟩ x hv hk H locs ls Z hl
    replace hv : f_X12_storm_L46 h a0 a1 a2 x3_7 h8 = some x := hv
    unfold f_X12_storm_L46 at hv
    replace hl : lv_has ls 4 [(0, .ref (a0)), (2, .int (a2)), (3, .int (x3_7))] := hl
    replace Z : zz_B D dA A h8 n s.heap H locs := Z
    show zz_W p l e rm_X12_storm s m args below meth c D dA A (some (.int r)) hx n 0 0 H locs 0 0 46 ls []
    refine lv_aload_n S.1 S.2.1 dX12_storm_46 rfl (lv_at hl 0 rfl) ?_
    refine zz_gI S K Z hv zc_10 (by decide) gf_X12_256 dX12_storm_47 (fun v9 hv => ?_)
    refine lv_iload_n S.1 S.2.1 dX12_storm_50 rfl (lv_at hl 1 rfl) ?_
    refine lv_icmp_ge (tgt := 127) S.1 S.2.1 dX12_storm_51 (by decide) (fun hc => ?_) (fun hc => ?_)
    · replace hv := (if_pos hc).symm.trans hv
      obtain ⟨_, hv, hk⟩ := zz_mapk hv hk
      replace hk := hR1 _ hk
      exact J127 h8 _ hv hk H locs ls Z (lv_sub hl [0] rfl)
    · replace hv := (if_neg hc).symm.trans hv
      refine lv_aload_n S.1 S.2.1 dX12_storm_54 rfl (lv_at hl 0 rfl) ?_
      refine zz_gI S K Z hv zc_10 (by decide) gf_X12_259 dX12_storm_55 (fun v12 hv => ?_)
      refine lv_if_ne (tgt := 127) S.1 S.2.1 dX12_storm_58 (by decide) (fun hc => ?_) (fun hc => ?_)
      · replace hv := (if_neg hc).symm.trans hv
        obtain ⟨_, hv, hk⟩ := zz_mapk hv hk
        replace hk := hR1 _ hk
        exact J127 h8 _ hv hk H locs ls Z (lv_sub hl [0] rfl)
      · replace hv := (if_pos hc).symm.trans hv
        refine lv_aload_n S.1 S.2.1 dX12_storm_61 rfl (lv_at hl 0 rfl) ?_
        refine zz_gR S K Z hv zc_10 (by decide) gf_X12_75 dX12_storm_62 (fun v13 hv => ?_)
        refine lv_iconst (v := (1 : Int32)) S.1 S.2.1 dX12_storm_65 (by decide) ?_
        refine zz_iald S K Z hv dX12_storm_66 (fun v14 hv => ?_)
        refine lv_if_ne (tgt := 127) S.1 S.2.1 dX12_storm_67 (by decide) (fun hc => ?_) (fun hc => ?_)
        · replace hv := (if_neg hc).symm.trans hv
          obtain ⟨_, hv, hk⟩ := zz_mapk hv hk
          replace hk := hR1 _ hk
          exact J127 h8 _ hv hk H locs ls Z (lv_sub hl [0] rfl)
        · replace hv := (if_pos hc).symm.trans hv
          refine lv_iload_n S.1 S.2.1 dX12_storm_70 rfl (lv_at hl 2 rfl) ?_
          obtain ⟨v15, hq, hv⟩ := zz_bd hv
          refine zz_S [.int (x3_7)] S K Z (c_X12_drawn x3_7 hq) ⟨rfl, rfl⟩ gm_X12_drawn gs_X12_drawn gl_X12_167 ⟨by decide, by decide⟩ rfl hl.1 rfl (Nat.le_of_ble_eq_true rfl) dX12_storm_71 ⟨Nat.zero_le _, Nat.zero_le _⟩ (fun H locs Z => ?_)
          show W _ _ _ _ _ _ _ _ _ _ _ _ 0 0 _ (F0 m 74 ls [.int (v15)])
          refine lv_istore_n (lv' := [(3, .int (v15)), (0, .ref (a0)), (2, .int (a2))]) S.1 S.2.1 dX12_storm_74 rfl hl (by decide) rfl (fun ls hl => ?_)
          refine lv_aload_n S.1 S.2.1 dX12_storm_75 rfl (lv_at hl 1 rfl) ?_
          refine zz_gR S K Z hv zc_10 (by decide) gf_X12_94 dX12_storm_76 (fun v16 hv => ?_)
          refine lv_aload_n S.1 S.2.1 dX12_storm_79 rfl (lv_at hl 1 rfl) ?_
          refine zz_gI S K Z hv zc_10 (by decide) gf_X12_256 dX12_storm_80 (fun v17 hv => ?_)
          refine lv_iload_n S.1 S.2.1 dX12_storm_83 rfl (lv_at hl 0 rfl) ?_
          refine lv_bipush (v := (16 : Int32)) S.1 S.2.1 dX12_storm_84 (by decide) ?_
          refine lv_iushr S.1 S.2.1 dX12_storm_86 rfl ?_
          refine lv_sipush (v := (32767 : Int32)) S.1 S.2.1 dX12_storm_87 (by decide) ?_
          refine lv_iand S.1 S.2.1 dX12_storm_90 ?_
          refine lv_aload_n S.1 S.2.1 dX12_storm_91 rfl (lv_at hl 1 rfl) ?_
          refine zz_gI S K Z hv zc_10 (by decide) gf_X12_122 dX12_storm_92 (fun v18 hv => ?_)
          obtain ⟨hne, hv⟩ := zz_ne_s hv
          refine lv_irem S.1 S.2.1 dX12_storm_95 hne ?_
          refine zz_iast S K Z hv dX12_storm_96 (fun h19 H locs hv Z => ?_)
          refine lv_aload_n S.1 S.2.1 dX12_storm_97 rfl (lv_at hl 1 rfl) ?_
          refine lv_aload_n S.1 S.2.1 dX12_storm_98 rfl (lv_at hl 1 rfl) ?_
          refine lv_aload_n S.1 S.2.1 dX12_storm_99 rfl (lv_at hl 1 rfl) ?_
          refine zz_gR S K Z hv zc_10 (by decide) gf_X12_94 dX12_storm_100 (fun v20 hv => ?_)
          refine lv_aload_n S.1 S.2.1 dX12_storm_103 rfl (lv_at hl 1 rfl) ?_
          refine zz_gI S K Z hv zc_10 (by decide) gf_X12_256 dX12_storm_104 (fun v21 hv => ?_)
          refine zz_iald S K Z hv dX12_storm_107 (fun v22 hv => ?_)
          obtain ⟨hci, hv⟩ := zz_isO_s hv
          obtain ⟨⟨v23, h24⟩, hq, hv⟩ := zz_bd hv
          refine zz_V [.int (v22)] S K Z hci zc_10 rfl (c_X12_breaks a0 v22 hq) ⟨rfl, rfl⟩ gm_X12_breaks gmv_X12_breaks gl_X12_262 ⟨by decide, by decide⟩ rfl hl.1 rfl (Nat.le_of_ble_eq_true rfl) dX12_storm_108 ⟨Nat.zero_le _, Nat.zero_le _⟩ (fun H locs Z => ?_)
          show W _ _ _ _ _ _ _ _ _ _ _ _ 0 0 _ (F0 m 111 ls [.int (v23), .ref (a0)])
          refine zz_put S K Z hv zc_10 (by decide) gf_X12_259 rfl rfl rfl dX12_storm_111 (fun h25 H locs hv Z => ?_)
          refine lv_aload_n S.1 S.2.1 dX12_storm_114 rfl (lv_at hl 1 rfl) ?_
          refine lv_dup S.1 S.2.1 dX12_storm_115 rfl ?_
          refine zz_gI S K Z hv zc_10 (by decide) gf_X12_256 dX12_storm_116 (fun v26 hv => ?_)
          refine lv_iconst (v := (1 : Int32)) S.1 S.2.1 dX12_storm_119 (by decide) ?_
          refine lv_iadd S.1 S.2.1 dX12_storm_120 ?_
          refine zz_put S K Z hv zc_10 (by decide) gf_X12_256 rfl rfl rfl dX12_storm_121 (fun h27 H locs hv Z => ?_)
          refine lv_goto (tgt := 46) S.1 S.2.1 dX12_storm_124 (by decide) ?_
          replace hk := zz_fin hv hk
          exact hP1 _ hk H locs ls Z (lv_sub hl [1, 2, 0] rfl)
  have hv := hf
  unfold f_X12_storm at hv
  clear hf
  obtain ⟨x, hxx⟩ : ∃ x, x = (r, hx) := ⟨_, rfl⟩
  rw [← hxx] at hv hk
  have ⟨H, hH⟩ : ∃ H, H = s.heap := ⟨_, rfl⟩
  have ⟨locs, hlo⟩ : ∃ q : List Loc, q = [] := ⟨_, rfl⟩
  have Z : zz_B D dA A h n s.heap H locs := by rw [hH, hlo]; exact Z
  have key : zz_W p l e rm_X12_storm s m args below meth c D dA A (some (.int r)) hx n 0 0 H locs 0 0 0 ls [] := by
    clear hH hlo hxx
    refine lv_aload_n S.1 S.2.1 dX12_storm_0 rfl (lv_at hl 0 rfl) ?_
    refine lv_iconst (v := (0 : Int32)) S.1 S.2.1 dX12_storm_1 (by decide) ?_
    refine zz_put S K Z hv zc_10 (by decide) gf_X12_1 rfl rfl rfl dX12_storm_2 (fun h1 H locs hv Z => ?_)
    refine lv_iload_n S.1 S.2.1 dX12_storm_5 rfl (lv_at hl 2 rfl) ?_
    refine lv_i2l S.1 S.2.1 dX12_storm_6 rfl ?_
    refine lv_lconst (v := (0 : Int64)) S.1 S.2.1 dX12_storm_7 (by decide) ?_
    refine lv_ldc2 (v := (60 : Int64)) S.1 S.2.1 S.2.2.2.1 (S.2.2.2.2 _ gk_X12_254) dX12_storm_8 ?_
    obtain ⟨v2, hq, hv⟩ := zz_bd hv
    refine zz_S [.long (a2.toInt64), .long ((0 : Int64)), .long ((60 : Int64))] S K Z (c_X12_in (a2.toInt64) (0 : Int64) (60 : Int64) hq) ⟨rfl, rfl⟩ gm_X12_in gs_X12_in gl_X12_105 ⟨by decide, by decide⟩ rfl hl.1 rfl (Nat.le_of_ble_eq_true rfl) dX12_storm_11 ⟨Nat.zero_le _, Nat.zero_le _⟩ (fun H locs Z => ?_)
    show W _ _ _ _ _ _ _ _ _ _ _ _ 0 0 _ (F0 m 14 ls [.int (v2)])
    refine lv_if_ne (tgt := 20) S.1 S.2.1 dX12_storm_14 (by decide) (fun hc => ?_) (fun hc => ?_)
    · replace hv := (if_neg hc).symm.trans hv
      refine lv_aload_n S.1 S.2.1 dX12_storm_20 rfl (lv_at hl 0 rfl) ?_
      refine zz_gI S K Z hv zc_10 (by decide) gf_X12_122 dX12_storm_21 (fun v3 hv => ?_)
      refine lv_if_ne (tgt := 30) S.1 S.2.1 dX12_storm_24 (by decide) (fun hc => ?_) (fun hc => ?_)
      · replace hv := (if_neg hc).symm.trans hv
        refine lv_aload_n S.1 S.2.1 dX12_storm_30 rfl (lv_at hl 0 rfl) ?_
        obtain ⟨hci, hv⟩ := zz_isO_s hv
        obtain ⟨h4, hq, hv⟩ := zz_bd hv
        refine zz_V [] S K Z hci zc_10 rfl (c_X12_begin a0 hq) ⟨rfl, rfl⟩ gm_X12_begin gmv_X12_begin gl_X12_100 ⟨by decide, by decide⟩ rfl hl.1 rfl (Nat.le_of_ble_eq_true rfl) dX12_storm_31 ⟨Nat.zero_le _, Nat.zero_le _⟩ (fun H locs Z => ?_)
        show W _ _ _ _ _ _ _ _ _ _ _ _ 0 0 _ (F0 m 34 ls [])
        refine lv_aload_n S.1 S.2.1 dX12_storm_34 rfl (lv_at hl 0 rfl) ?_
        refine lv_iconst (v := (0 : Int32)) S.1 S.2.1 dX12_storm_35 (by decide) ?_
        refine zz_put S K Z hv zc_10 (by decide) gf_X12_256 rfl rfl rfl dX12_storm_36 (fun h5 H locs hv Z => ?_)
        refine lv_aload_n S.1 S.2.1 dX12_storm_39 rfl (lv_at hl 0 rfl) ?_
        refine lv_iconst (v := (0 : Int32)) S.1 S.2.1 dX12_storm_40 (by decide) ?_
        refine zz_put S K Z hv zc_10 (by decide) gf_X12_259 rfl rfl rfl dX12_storm_41 (fun h6 H locs hv Z => ?_)
        refine lv_iload_n S.1 S.2.1 dX12_storm_44 rfl (lv_at hl 1 rfl) ?_
        refine lv_istore_n (lv' := [(3, .int (a1)), (0, .ref (a0)), (1, .int (a1)), (2, .int (a2))]) S.1 S.2.1 dX12_storm_45 rfl hl (by decide) rfl (fun ls hl => ?_)
        exact L46  (a1, h6) _ hv hk H locs ls Z (lv_sub hl [1, 3, 0] rfl)
      · replace hv := (if_pos hc).symm.trans hv
        refine lv_bipush (v := (-4 : Int32)) S.1 S.2.1 dX12_storm_27 (by decide) ?_
        replace hk := zz_fin hv hk
        obtain ⟨rfl, rfl⟩ := Prod.mk.inj (hR0 _ hk)
        exact zz_iret S Z hret hlk dX12_storm_29 (Nat.le_refl _) (Nat.le_refl _)
    · replace hv := (if_pos hc).symm.trans hv
      refine lv_bipush (v := (-3 : Int32)) S.1 S.2.1 dX12_storm_17 (by decide) ?_
      replace hk := zz_fin hv hk
      obtain ⟨rfl, rfl⟩ := Prod.mk.inj (hR0 _ hk)
      exact zz_iret S Z hret hlk dX12_storm_19 (Nat.le_refl _) (Nat.le_refl _)
  rw [hH, hlo] at key
  exact key

noncomputable def f_X12_play (h : ZH) (a0 : Nat) : Option (Int32 × ZH) :=
  (zp_V h a0 10 0 (.int ((0 : Int32)))).bind fun h1 => (zg_I h1 a0 10 37).bind fun v2 => some ((v2, h1))
abbrev rm_X12_play : Room := { frames := 0, cells := 0, slots := 0, locals := 0 }
set_option maxRecDepth 100000 in
set_option maxHeartbeats 4000000 in
theorem c_X12_play {l : Launch} {D : va_G} {dA : Nat → ClassId} {A : Nat → Prop} {h : ZH} {n : Nat} (a0 : Nat) {r : Int32} {hx : ZH} (hf : f_X12_play h a0 = some (r, hx)) : Met l yX12_play (zz_ws yX12_play cX12_play 1 (some .int)) rm_X12_play (zz_P D dA A h n [.ref (a0)]) (zz_Q D dA A (some (.int r)) hx n) 0 0 A := by
  refine zz_met (by decide) (Nat.le_of_ble_eq_true rfl) ?_
  intro p e s m args below meth c ls S K hret hlk hnm hl Z
  replace hl : lv_has ls 1 [(0, .ref (a0))] := hl
  obtain ⟨K0, hR0, hk⟩ : ∃ K0 : (Int32 × ZH) → Prop, (∀ x, K0 x → x = (r, hx)) ∧ K0 (r, hx) := ⟨fun x => x = (r, hx), fun _ h => h, rfl⟩
  have hv := hf
  unfold f_X12_play at hv
  clear hf
  obtain ⟨x, hxx⟩ : ∃ x, x = (r, hx) := ⟨_, rfl⟩
  rw [← hxx] at hv hk
  have ⟨H, hH⟩ : ∃ H, H = s.heap := ⟨_, rfl⟩
  have ⟨locs, hlo⟩ : ∃ q : List Loc, q = [] := ⟨_, rfl⟩
  have Z : zz_B D dA A h n s.heap H locs := by rw [hH, hlo]; exact Z
  have key : zz_W p l e rm_X12_play s m args below meth c D dA A (some (.int r)) hx n 0 0 H locs 0 0 0 ls [] := by
    clear hH hlo hxx
    refine lv_aload_n S.1 S.2.1 dX12_play_0 rfl (lv_at hl 0 rfl) ?_
    refine lv_iconst (v := (0 : Int32)) S.1 S.2.1 dX12_play_1 (by decide) ?_
    refine zz_put S K Z hv zc_10 (by decide) gf_X12_1 rfl rfl rfl dX12_play_2 (fun h1 H locs hv Z => ?_)
    refine lv_aload_n S.1 S.2.1 dX12_play_5 rfl (lv_at hl 0 rfl) ?_
    refine zz_gI S K Z hv zc_10 (by decide) gf_X12_256 dX12_play_6 (fun v2 hv => ?_)
    replace hk := zz_fin hv hk
    obtain ⟨rfl, rfl⟩ := Prod.mk.inj (hR0 _ hk)
    exact zz_iret S Z hret hlk dX12_play_9 (Nat.le_refl _) (Nat.le_refl _)
  rw [hH, hlo] at key
  exact key

noncomputable def f_X12_played (h : ZH) (a0 : Nat) (a1 : Int32) : Option (Int32 × ZH) :=
  (zp_V h a0 10 0 (.int ((0 : Int32)))).bind fun h1 => (zg_I h1 a0 10 37).bind fun v2 => (f_X12_in h1 (a1.toInt64) (0 : Int64) ((v2 - (1 : Int32)).toInt64)).bind fun v3 => if v3 = 0 then (some (((-2 : Int32), h1))) else ((zg_R h1 a0 10 38).bind fun v4 => (zl_I h1 v4 1 a1).bind fun v5 => some ((v5, h1)))
abbrev rm_X12_played : Room := { frames := 1, cells := 0, slots := 0, locals := 25 }
set_option maxRecDepth 100000 in
set_option maxHeartbeats 4000000 in
theorem c_X12_played {l : Launch} {D : va_G} {dA : Nat → ClassId} {A : Nat → Prop} {h : ZH} {n : Nat} (a0 : Nat) (a1 : Int32) {r : Int32} {hx : ZH} (hf : f_X12_played h a0 a1 = some (r, hx)) : Met l yX12_played (zz_ws yX12_played cX12_played 2 (some .int)) rm_X12_played (zz_P D dA A h n [.ref (a0), .int (a1)]) (zz_Q D dA A (some (.int r)) hx n) 0 0 A := by
  refine zz_met (by decide) (Nat.le_of_ble_eq_true rfl) ?_
  intro p e s m args below meth c ls S K hret hlk hnm hl Z
  replace hl : lv_has ls 2 [(0, .ref (a0)), (1, .int (a1))] := hl
  obtain ⟨K0, hR0, hk⟩ : ∃ K0 : (Int32 × ZH) → Prop, (∀ x, K0 x → x = (r, hx)) ∧ K0 (r, hx) := ⟨fun x => x = (r, hx), fun _ h => h, rfl⟩
  have hv := hf
  unfold f_X12_played at hv
  clear hf
  obtain ⟨x, hxx⟩ : ∃ x, x = (r, hx) := ⟨_, rfl⟩
  rw [← hxx] at hv hk
  have ⟨H, hH⟩ : ∃ H, H = s.heap := ⟨_, rfl⟩
  have ⟨locs, hlo⟩ : ∃ q : List Loc, q = [] := ⟨_, rfl⟩
  have Z : zz_B D dA A h n s.heap H locs := by rw [hH, hlo]; exact Z
  have key : zz_W p l e rm_X12_played s m args below meth c D dA A (some (.int r)) hx n 0 0 H locs 0 0 0 ls [] := by
    clear hH hlo hxx
    refine lv_aload_n S.1 S.2.1 dX12_played_0 rfl (lv_at hl 0 rfl) ?_
    refine lv_iconst (v := (0 : Int32)) S.1 S.2.1 dX12_played_1 (by decide) ?_
    refine zz_put S K Z hv zc_10 (by decide) gf_X12_1 rfl rfl rfl dX12_played_2 (fun h1 H locs hv Z => ?_)
    refine lv_iload_n S.1 S.2.1 dX12_played_5 rfl (lv_at hl 1 rfl) ?_
    refine lv_i2l S.1 S.2.1 dX12_played_6 rfl ?_
    refine lv_lconst (v := (0 : Int64)) S.1 S.2.1 dX12_played_7 (by decide) ?_
    refine lv_aload_n S.1 S.2.1 dX12_played_8 rfl (lv_at hl 0 rfl) ?_
    refine zz_gI S K Z hv zc_10 (by decide) gf_X12_256 dX12_played_9 (fun v2 hv => ?_)
    refine lv_iconst (v := (1 : Int32)) S.1 S.2.1 dX12_played_12 (by decide) ?_
    refine lv_isub S.1 S.2.1 dX12_played_13 ?_
    refine lv_i2l S.1 S.2.1 dX12_played_14 rfl ?_
    obtain ⟨v3, hq, hv⟩ := zz_bd hv
    refine zz_S [.long (a1.toInt64), .long ((0 : Int64)), .long ((v2 - (1 : Int32)).toInt64)] S K Z (c_X12_in (a1.toInt64) (0 : Int64) ((v2 - (1 : Int32)).toInt64) hq) ⟨rfl, rfl⟩ gm_X12_in gs_X12_in gl_X12_105 ⟨by decide, by decide⟩ rfl hl.1 rfl (Nat.le_of_ble_eq_true rfl) dX12_played_15 ⟨Nat.zero_le _, Nat.zero_le _⟩ (fun H locs Z => ?_)
    show W _ _ _ _ _ _ _ _ _ _ _ _ 0 0 _ (F0 m 18 ls [.int (v3)])
    refine lv_if_eq (tgt := 30) S.1 S.2.1 dX12_played_18 (by decide) (fun hc => ?_) (fun hc => ?_)
    · replace hv := (if_pos hc).symm.trans hv
      refine lv_bipush (v := (-2 : Int32)) S.1 S.2.1 dX12_played_30 (by decide) ?_
      replace hk := zz_fin hv hk
      obtain ⟨rfl, rfl⟩ := Prod.mk.inj (hR0 _ hk)
      exact zz_iret S Z hret hlk dX12_played_32 (Nat.le_refl _) (Nat.le_refl _)
    · replace hv := (if_neg hc).symm.trans hv
      refine lv_aload_n S.1 S.2.1 dX12_played_21 rfl (lv_at hl 0 rfl) ?_
      refine zz_gR S K Z hv zc_10 (by decide) gf_X12_94 dX12_played_22 (fun v4 hv => ?_)
      refine lv_iload_n S.1 S.2.1 dX12_played_25 rfl (lv_at hl 1 rfl) ?_
      refine zz_iald S K Z hv dX12_played_26 (fun v5 hv => ?_)
      refine lv_goto (tgt := 32) S.1 S.2.1 dX12_played_27 (by decide) ?_
      replace hk := zz_fin hv hk
      obtain ⟨rfl, rfl⟩ := Prod.mk.inj (hR0 _ hk)
      exact zz_iret S Z hret hlk dX12_played_32 (Nat.le_refl _) (Nat.le_refl _)
  rw [hH, hlo] at key
  exact key

noncomputable def f_X12_canGo_L35 (h : ZH) (a0 : Nat) (a1 : Int32) (y3_9 : Int32) (x2_7 : Int32) (x4_8 : Int32) (h10 : ZH)  : Option ((Int32 × Int32 × ZH) ⊕ (Int32 × ZH)) :=
  if y3_9 < x4_8 then (((zg_I h10 a0 10 39).bind fun v11 => if x2_7 = v11 then (some (((1 : Int32), h10))) else (some (((0 : Int32), h10)))).map Sum.inr) else (if x4_8 = a1 then (some (.inl (x2_7, x4_8 + (1 : Int32), h10))) else ((zg_R h10 a0 10 28).bind fun v12 => (zl_I h10 v12 1 (1 : Int32)).bind fun v13 => if v13 = 0 then (if x2_7 = 0 then ((zg_R h10 a0 10 38).bind fun v14 => (zl_I h10 v14 1 x4_8).bind fun v15 => zz_isO h10 a0 10 <| (f_X12_breaks h10 a0 v15).bind fun (v16, h17) => some (.inl (v16, x4_8 + (1 : Int32), h17))) else ((some (((0 : Int32), h10))).map Sum.inr)) else ((some (((0 : Int32), h10))).map Sum.inr)))
noncomputable def f_X12_canGo_J31 (h : ZH) (a0 : Nat) (a1 : Int32) (x2_4 : Int32) (s5 : Int32) (h6 : ZH) : Option (Int32 × ZH) :=
  zz_loop (fun st : (Int32 × Int32 × ZH) => f_X12_canGo_L35 h a0 a1 s5 (st.1) (st.2.1) (st.2.2)) (x2_4, (0 : Int32), h6)
noncomputable def f_X12_canGo (h : ZH) (a0 : Nat) (a1 : Int32) : Option (Int32 × ZH) :=
  zz_isO h a0 10 <| (f_X12_begin h a0).bind fun h1 => (zg_I h1 a0 10 37).bind fun v2 => if a1 = (v2 - (1 : Int32)) then ((zg_I h1 a0 10 37).bind fun v18 => f_X12_canGo_J31 h a0 a1 (0 : Int32) (v18 - (2 : Int32)) h1) else ((zg_I h1 a0 10 37).bind fun v3 => f_X12_canGo_J31 h a0 a1 (0 : Int32) (v3 - (1 : Int32)) h1)
abbrev rm_X12_canGo : Room := { frames := 4, cells := 0, slots := 0, locals := 95 }
set_option maxRecDepth 100000 in
set_option maxHeartbeats 4000000 in
theorem c_X12_canGo {l : Launch} {D : va_G} {dA : Nat → ClassId} {A : Nat → Prop} {h : ZH} {n : Nat} (a0 : Nat) (a1 : Int32) {r : Int32} {hx : ZH} (hf : f_X12_canGo h a0 a1 = some (r, hx)) : Met l yX12_canGo (zz_ws yX12_canGo cX12_canGo 5 (some .boolean)) rm_X12_canGo (zz_P D dA A h n [.ref (a0), .int (a1)]) (zz_Q D dA A (some (.int r)) hx n) 0 0 A := by
  refine zz_met (by decide) (Nat.le_of_ble_eq_true rfl) ?_
  intro p e s m args below meth c ls S K hret hlk hnm hl Z
  replace hl : lv_has ls 5 [(0, .ref (a0)), (1, .int (a1))] := hl
  obtain ⟨K0, hR0, hk⟩ : ∃ K0 : (Int32 × ZH) → Prop, (∀ x, K0 x → x = (r, hx)) ∧ K0 (r, hx) := ⟨fun x => x = (r, hx), fun _ h => h, rfl⟩
  have L35 : ∀ (y3_9 : Int32) (st : (Int32 × Int32 × ZH)) (x : (Int32 × ZH)), zz_loop (fun st : (Int32 × Int32 × ZH) => f_X12_canGo_L35 h a0 a1 y3_9 (st.1) (st.2.1) (st.2.2)) st = some x → K0 x → (fun st : (Int32 × Int32 × ZH) => ∀ (H : Heap) (locs : List Loc) (ls : Array Slot), zz_B D dA A (st.2.2) n s.heap H locs → lv_has ls 5 [(0, .ref (a0)), (1, .int (a1)), (2, .int ((st.1))), (3, .int (y3_9)), (4, .int ((st.2.1)))] → zz_W p l e rm_X12_canGo s m args below meth c D dA A (some (.int r)) hx n 0 0 H locs 0 0 35 ls []) st := by
    intro y3_9
    refine zz_loop_go (K := K0) ?_
    intro K1 hP1 hR1
    rintro ⟨x2_7, x4_8, h10⟩ x hv hk H locs ls Z hl
    replace hv : f_X12_canGo_L35 h a0 a1 y3_9 x2_7 x4_8 h10 = some x := hv
    unfold f_X12_canGo_L35 at hv
    replace hl : lv_has ls 5 [(0, .ref (a0)), (1, .int (a1)), (2, .int (x2_7)), (3, .int (y3_9)), (4, .int (x4_8))] := hl
    replace Z : zz_B D dA A h10 n s.heap H locs := Z
    show zz_W p l e rm_X12_canGo s m args below meth c D dA A (some (.int r)) hx n 0 0 H locs 0 0 35 ls []
    refine lv_iload S.1 S.2.1 dX12_canGo_35 (lv_at hl 4 rfl) ?_
    refine lv_iload_n S.1 S.2.1 dX12_canGo_37 rfl (lv_at hl 3 rfl) ?_
    refine lv_icmp_gt (tgt := 80) S.1 S.2.1 dX12_canGo_38 (by decide) (fun hc => ?_) (fun hc => ?_)
    · replace hv := (if_pos hc).symm.trans hv
      obtain ⟨_, hv, hk⟩ := zz_mapk hv hk
      replace hk := hR1 _ hk
      refine lv_iload_n S.1 S.2.1 dX12_canGo_80 rfl (lv_at hl 2 rfl) ?_
      refine lv_aload_n S.1 S.2.1 dX12_canGo_81 rfl (lv_at hl 0 rfl) ?_
      refine zz_gI S K Z hv zc_10 (by decide) gf_X12_259 dX12_canGo_82 (fun v11 hv => ?_)
      refine lv_icmp_ne (tgt := 92) S.1 S.2.1 dX12_canGo_85 (by decide) (fun hc => ?_) (fun hc => ?_)
      · replace hv := (if_neg hc).symm.trans hv
        refine lv_iconst (v := (0 : Int32)) S.1 S.2.1 dX12_canGo_92 (by decide) ?_
        replace hk := zz_fin hv hk
        obtain ⟨rfl, rfl⟩ := Prod.mk.inj (hR0 _ hk)
        exact zz_zret S Z hret (by decide) hlk dX12_canGo_93 (Nat.le_refl _) (Nat.le_refl _)
      · replace hv := (if_pos hc).symm.trans hv
        refine lv_iconst (v := (1 : Int32)) S.1 S.2.1 dX12_canGo_88 (by decide) ?_
        refine lv_goto (tgt := 93) S.1 S.2.1 dX12_canGo_89 (by decide) ?_
        replace hk := zz_fin hv hk
        obtain ⟨rfl, rfl⟩ := Prod.mk.inj (hR0 _ hk)
        exact zz_zret S Z hret (by decide) hlk dX12_canGo_93 (Nat.le_refl _) (Nat.le_refl _)
    · replace hv := (if_neg hc).symm.trans hv
      refine lv_iload S.1 S.2.1 dX12_canGo_41 (lv_at hl 4 rfl) ?_
      refine lv_iload_n S.1 S.2.1 dX12_canGo_43 rfl (lv_at hl 1 rfl) ?_
      refine lv_icmp_eq (tgt := 74) S.1 S.2.1 dX12_canGo_44 (by decide) (fun hc => ?_) (fun hc => ?_)
      · replace hv := (if_pos hc).symm.trans hv
        refine lv_iinc (v := x4_8 + (1 : Int32)) (lv' := [(4, .int (x4_8 + (1 : Int32))), (0, .ref (a0)), (1, .int (a1)), (2, .int (x2_7)), (3, .int (y3_9))]) S.1 S.2.1 dX12_canGo_74 hl (k := 4) rfl rfl (by decide) rfl (fun ls hl => ?_)
        refine lv_goto (tgt := 35) S.1 S.2.1 dX12_canGo_77 (by decide) ?_
        replace hk := zz_fin hv hk
        exact hP1 _ hk H locs ls Z (lv_sub hl [1, 2, 3, 4, 0] rfl)
      · replace hv := (if_neg hc).symm.trans hv
        refine lv_aload_n S.1 S.2.1 dX12_canGo_47 rfl (lv_at hl 0 rfl) ?_
        refine zz_gR S K Z hv zc_10 (by decide) gf_X12_75 dX12_canGo_48 (fun v12 hv => ?_)
        refine lv_iconst (v := (1 : Int32)) S.1 S.2.1 dX12_canGo_51 (by decide) ?_
        refine zz_iald S K Z hv dX12_canGo_52 (fun v13 hv => ?_)
        refine lv_if_ne (tgt := 60) S.1 S.2.1 dX12_canGo_53 (by decide) (fun hc => ?_) (fun hc => ?_)
        · replace hv := (if_neg hc).symm.trans hv
          obtain ⟨_, hv, hk⟩ := zz_mapk hv hk
          replace hk := hR1 _ hk
          refine lv_iconst (v := (0 : Int32)) S.1 S.2.1 dX12_canGo_60 (by decide) ?_
          replace hk := zz_fin hv hk
          obtain ⟨rfl, rfl⟩ := Prod.mk.inj (hR0 _ hk)
          exact zz_zret S Z hret (by decide) hlk dX12_canGo_61 (Nat.le_refl _) (Nat.le_refl _)
        · replace hv := (if_pos hc).symm.trans hv
          refine lv_iload_n S.1 S.2.1 dX12_canGo_56 rfl (lv_at hl 2 rfl) ?_
          refine lv_if_eq (tgt := 62) S.1 S.2.1 dX12_canGo_57 (by decide) (fun hc => ?_) (fun hc => ?_)
          · replace hv := (if_pos hc).symm.trans hv
            refine lv_aload_n S.1 S.2.1 dX12_canGo_62 rfl (lv_at hl 0 rfl) ?_
            refine lv_aload_n S.1 S.2.1 dX12_canGo_63 rfl (lv_at hl 0 rfl) ?_
            refine zz_gR S K Z hv zc_10 (by decide) gf_X12_94 dX12_canGo_64 (fun v14 hv => ?_)
            refine lv_iload S.1 S.2.1 dX12_canGo_67 (lv_at hl 4 rfl) ?_
            refine zz_iald S K Z hv dX12_canGo_69 (fun v15 hv => ?_)
            obtain ⟨hci, hv⟩ := zz_isO_s hv
            obtain ⟨⟨v16, h17⟩, hq, hv⟩ := zz_bd hv
            refine zz_V [.int (v15)] S K Z hci zc_10 rfl (c_X12_breaks a0 v15 hq) ⟨rfl, rfl⟩ gm_X12_breaks gmv_X12_breaks gl_X12_262 ⟨by decide, by decide⟩ rfl hl.1 rfl (Nat.le_of_ble_eq_true rfl) dX12_canGo_70 ⟨Nat.zero_le _, Nat.zero_le _⟩ (fun H locs Z => ?_)
            show W _ _ _ _ _ _ _ _ _ _ _ _ 0 0 _ (F0 m 73 ls [.int (v16)])
            refine lv_istore_n (lv' := [(2, .int (v16)), (0, .ref (a0)), (1, .int (a1)), (3, .int (y3_9)), (4, .int (x4_8))]) S.1 S.2.1 dX12_canGo_73 rfl hl (by decide) rfl (fun ls hl => ?_)
            refine lv_iinc (v := x4_8 + (1 : Int32)) (lv' := [(4, .int (x4_8 + (1 : Int32))), (2, .int (v16)), (0, .ref (a0)), (1, .int (a1)), (3, .int (y3_9))]) S.1 S.2.1 dX12_canGo_74 hl (k := 4) rfl rfl (by decide) rfl (fun ls hl => ?_)
            refine lv_goto (tgt := 35) S.1 S.2.1 dX12_canGo_77 (by decide) ?_
            replace hk := zz_fin hv hk
            exact hP1 _ hk H locs ls Z (lv_sub hl [2, 3, 1, 4, 0] rfl)
          · replace hv := (if_neg hc).symm.trans hv
            obtain ⟨_, hv, hk⟩ := zz_mapk hv hk
            replace hk := hR1 _ hk
            refine lv_iconst (v := (0 : Int32)) S.1 S.2.1 dX12_canGo_60 (by decide) ?_
            replace hk := zz_fin hv hk
            obtain ⟨rfl, rfl⟩ := Prod.mk.inj (hR0 _ hk)
            exact zz_zret S Z hret (by decide) hlk dX12_canGo_61 (Nat.le_refl _) (Nat.le_refl _)
  have J31 : ∀ (x2_4 : Int32) (s5 : Int32) (h6 : ZH) (x : (Int32 × ZH)), f_X12_canGo_J31 h a0 a1 x2_4 s5 h6 = some x → K0 x → ∀ (H : Heap) (locs : List Loc) (ls : Array Slot), zz_B D dA A h6 n s.heap H locs → lv_has ls 5 [(0, .ref (a0)), (1, .int (a1)), (2, .int (x2_4))] → zz_W p l e rm_X12_canGo s m args below meth c D dA A (some (.int r)) hx n 0 0 H locs 0 0 31 ls [.int (s5)] := by
    intro x2_4 s5 h6 x hv hk H locs ls Z hl
    unfold f_X12_canGo_J31 at hv
    refine lv_istore_n (lv' := [(3, .int (s5)), (0, .ref (a0)), (1, .int (a1)), (2, .int (x2_4))]) S.1 S.2.1 dX12_canGo_31 rfl hl (by decide) rfl (fun ls hl => ?_)
    refine lv_iconst (v := (0 : Int32)) S.1 S.2.1 dX12_canGo_32 (by decide) ?_
    refine lv_istore (lv' := [(4, .int ((0 : Int32))), (3, .int (s5)), (0, .ref (a0)), (1, .int (a1)), (2, .int (x2_4))]) S.1 S.2.1 dX12_canGo_33 hl (by decide) rfl (fun ls hl => ?_)
    exact L35 s5 (x2_4, (0 : Int32), h6) _ hv hk H locs ls Z (lv_sub hl [2, 3, 4, 1, 0] rfl)
  have hv := hf
  unfold f_X12_canGo at hv
  clear hf
  obtain ⟨x, hxx⟩ : ∃ x, x = (r, hx) := ⟨_, rfl⟩
  rw [← hxx] at hv hk
  have ⟨H, hH⟩ : ∃ H, H = s.heap := ⟨_, rfl⟩
  have ⟨locs, hlo⟩ : ∃ q : List Loc, q = [] := ⟨_, rfl⟩
  have Z : zz_B D dA A h n s.heap H locs := by rw [hH, hlo]; exact Z
  have key : zz_W p l e rm_X12_canGo s m args below meth c D dA A (some (.int r)) hx n 0 0 H locs 0 0 0 ls [] := by
    clear hH hlo hxx
    refine lv_aload_n S.1 S.2.1 dX12_canGo_0 rfl (lv_at hl 0 rfl) ?_
    obtain ⟨hci, hv⟩ := zz_isO_s hv
    obtain ⟨h1, hq, hv⟩ := zz_bd hv
    refine zz_V [] S K Z hci zc_10 rfl (c_X12_begin a0 hq) ⟨rfl, rfl⟩ gm_X12_begin gmv_X12_begin gl_X12_100 ⟨by decide, by decide⟩ rfl hl.1 rfl (Nat.le_of_ble_eq_true rfl) dX12_canGo_1 ⟨Nat.zero_le _, Nat.zero_le _⟩ (fun H locs Z => ?_)
    show W _ _ _ _ _ _ _ _ _ _ _ _ 0 0 _ (F0 m 4 ls [])
    refine lv_iconst (v := (0 : Int32)) S.1 S.2.1 dX12_canGo_4 (by decide) ?_
    refine lv_istore_n (lv' := [(2, .int ((0 : Int32))), (0, .ref (a0)), (1, .int (a1))]) S.1 S.2.1 dX12_canGo_5 rfl hl (by decide) rfl (fun ls hl => ?_)
    refine lv_iload_n S.1 S.2.1 dX12_canGo_6 rfl (lv_at hl 2 rfl) ?_
    refine lv_aload_n S.1 S.2.1 dX12_canGo_7 rfl (lv_at hl 1 rfl) ?_
    refine zz_gI S K Z hv zc_10 (by decide) gf_X12_256 dX12_canGo_8 (fun v2 hv => ?_)
    refine lv_iconst (v := (1 : Int32)) S.1 S.2.1 dX12_canGo_11 (by decide) ?_
    refine lv_isub S.1 S.2.1 dX12_canGo_12 ?_
    refine lv_icmp_ne (tgt := 25) S.1 S.2.1 dX12_canGo_13 (by decide) (fun hc => ?_) (fun hc => ?_)
    · replace hv := (if_neg hc).symm.trans hv
      refine lv_aload_n S.1 S.2.1 dX12_canGo_25 rfl (lv_at hl 1 rfl) ?_
      refine zz_gI S K Z hv zc_10 (by decide) gf_X12_256 dX12_canGo_26 (fun v3 hv => ?_)
      refine lv_iconst (v := (1 : Int32)) S.1 S.2.1 dX12_canGo_29 (by decide) ?_
      refine lv_isub S.1 S.2.1 dX12_canGo_30 ?_
      exact J31 (0 : Int32) (v3 - (1 : Int32)) h1 _ hv hk H locs ls Z (lv_sub hl [1, 2, 0] rfl)
    · replace hv := (if_pos hc).symm.trans hv
      refine lv_aload_n S.1 S.2.1 dX12_canGo_16 rfl (lv_at hl 1 rfl) ?_
      refine zz_gI S K Z hv zc_10 (by decide) gf_X12_256 dX12_canGo_17 (fun v18 hv => ?_)
      refine lv_iconst (v := (2 : Int32)) S.1 S.2.1 dX12_canGo_20 (by decide) ?_
      refine lv_isub S.1 S.2.1 dX12_canGo_21 ?_
      refine lv_goto (tgt := 31) S.1 S.2.1 dX12_canGo_22 (by decide) ?_
      exact J31 (0 : Int32) (v18 - (2 : Int32)) h1 _ hv hk H locs ls Z (lv_sub hl [1, 2, 0] rfl)
  rw [hH, hlo] at key
  exact key

noncomputable def f_X12_shrink_J164 (h : ZH) (a0 : Nat) (y1_14 : Int32) (y2_15 : Int32) (y3_16 : Int32) (y4_17 : Int32) (x5_48 : Int32) (x6_49 : Int32) (s50 : Int32) (s51 : Int32) (s52 : Nat) (h53 : ZH) : Option ((Int32 × Int32 × ZH) ⊕ ((Int32 × ZH) ⊕ (Int32 × ZH))) :=
  (zp_V h53 s52 10 37 (.int (s51 - s50))).bind fun h54 => some (.inl (x5_48, x6_49 + (1 : Int32), h54))
noncomputable def f_X12_shrink_J149 (h : ZH) (a0 : Nat) (y1_14 : Int32) (y2_15 : Int32) (y3_16 : Int32) (y4_17 : Int32) (x5_44 : Int32) (x6_45 : Int32) (h46 : ZH) : Option ((Int32 × Int32 × ZH) ⊕ ((Int32 × ZH) ⊕ (Int32 × ZH))) :=
  (zg_I h46 a0 10 37).bind fun v47 => if x5_44 = 0 then (f_X12_shrink_J164 h a0 y1_14 y2_15 y3_16 y4_17 x5_44 x6_45 (0 : Int32) v47 a0 h46) else (f_X12_shrink_J164 h a0 y1_14 y2_15 y3_16 y4_17 x5_44 x6_45 (1 : Int32) v47 a0 h46)
noncomputable def f_X12_shrink_L111 (h : ZH) (a0 : Nat) (y1_14 : Int32) (y2_15 : Int32) (y3_16 : Int32) (y4_17 : Int32) (y5_41 : Int32) (y6_42 : Int32) (x7_40 : Int32) (h43 : ZH)  : Option ((Int32 × ZH) ⊕ ((Int32 × Int32 × ZH) ⊕ ((Int32 × ZH) ⊕ (Int32 × ZH)))) :=
  if y5_41 = 0 then ((f_X12_shrink_J149 h a0 y1_14 y2_15 y3_16 y4_17 y5_41 y6_42 h43).map Sum.inr) else ((zg_I h43 a0 10 37).bind fun v55 => if (v55 - (1 : Int32)) ≤ x7_40 then ((f_X12_shrink_J149 h a0 y1_14 y2_15 y3_16 y4_17 y5_41 y6_42 h43).map Sum.inr) else ((zg_R h43 a0 10 38).bind fun v56 => (zg_R h43 a0 10 38).bind fun v57 => (zl_I h43 v57 1 (x7_40 + (1 : Int32))).bind fun v58 => (zs_I h43 v56 1 x7_40 v58).bind fun h59 => some (.inl (x7_40 + (1 : Int32), h59))))
noncomputable def f_X12_shrink_J105 (h : ZH) (a0 : Nat) (y1_14 : Int32) (y2_15 : Int32) (y3_16 : Int32) (y4_17 : Int32) (x6_37 : Int32) (s38 : Int32) (h39 : ZH) : Option ((Int32 × Int32 × ZH) ⊕ ((Int32 × ZH) ⊕ (Int32 × ZH))) :=
  zz_loop (fun st : (Int32 × ZH) => f_X12_shrink_L111 h a0 y1_14 y2_15 y3_16 y4_17 s38 x6_37 (st.1) (st.2)) (x6_37, h39)
noncomputable def f_X12_shrink_J104 (h : ZH) (a0 : Nat) (y1_14 : Int32) (y2_15 : Int32) (y3_16 : Int32) (y4_17 : Int32) (x6_35 : Int32) (h36 : ZH) : Option ((Int32 × Int32 × ZH) ⊕ ((Int32 × ZH) ⊕ (Int32 × ZH))) :=
  f_X12_shrink_J105 h a0 y1_14 y2_15 y3_16 y4_17 x6_35 (0 : Int32) h36
noncomputable def f_X12_shrink_L69 (h : ZH) (a0 : Nat) (y1_14 : Int32) (y2_15 : Int32) (y3_16 : Int32) (y4_17 : Int32) (x5_30 : Int32) (x6_31 : Int32) (h32 : ZH)  : Option ((Int32 × Int32 × ZH) ⊕ ((Int32 × ZH) ⊕ (Int32 × ZH))) :=
  (zg_I h32 a0 10 37).bind fun v33 => if v33 ≤ x6_31 then ((some (.inl (x5_30, h32))).map Sum.inr) else (if x5_30 = 0 then ((zg_I h32 a0 10 37).bind fun v34 => if v34 ≤ (1 : Int32) then (f_X12_shrink_J104 h a0 y1_14 y2_15 y3_16 y4_17 x6_31 h32) else (zz_isO h32 a0 10 <| (f_X12_canGo h32 a0 x6_31).bind fun (v60, h61) => if v60 = 0 then (f_X12_shrink_J104 h a0 y1_14 y2_15 y3_16 y4_17 x6_31 h61) else (f_X12_shrink_J105 h a0 y1_14 y2_15 y3_16 y4_17 x6_31 (1 : Int32) h61))) else ((some (.inl (x5_30, h32))).map Sum.inr))
noncomputable def f_X12_shrink_L58 (h : ZH) (a0 : Nat) (y1_14 : Int32) (y2_15 : Int32) (y3_16 : Int32) (y4_17 : Int32) (x5_13 : Int32) (h18 : ZH)  : Option ((Int32 × ZH) ⊕ (Int32 × ZH)) :=
  if x5_13 = 0 then (((zp_V h18 a0 10 27 (.int ((1 : Int32)))).bind fun h19 => zz_isO h19 a0 10 <| (f_X12_copy h19 a0 (5 : Int32) (0 : Int32)).bind fun h20 => (zg_R h20 a0 10 29).bind fun v21 => (zs_I h20 v21 2 (1 : Int32) (vp_nar .boolean y1_14)).bind fun h22 => (zg_R h22 a0 10 29).bind fun v23 => (zs_I h22 v23 2 (2 : Int32) (vp_nar .boolean y2_15)).bind fun h24 => (zg_R h24 a0 10 29).bind fun v25 => (zs_I h24 v25 2 (3 : Int32) (vp_nar .boolean y3_16)).bind fun h26 => (zg_R h26 a0 10 29).bind fun v27 => (zs_I h26 v27 2 (4 : Int32) (vp_nar .boolean y4_17)).bind fun h28 => (zg_I h28 a0 10 37).bind fun v29 => some ((v29, h28))).map Sum.inr) else (zz_loop (fun st : (Int32 × Int32 × ZH) => f_X12_shrink_L69 h a0 y1_14 y2_15 y3_16 y4_17 (st.1) (st.2.1) (st.2.2)) ((0 : Int32), (0 : Int32), h18))
noncomputable def f_X12_shrink (h : ZH) (a0 : Nat) : Option (Int32 × ZH) :=
  (zp_V h a0 10 0 (.int ((0 : Int32)))).bind fun h1 => (zg_I h1 a0 10 39).bind fun v2 => if v2 = 0 then (some (((-4 : Int32), h1))) else (zz_isO h1 a0 10 <| (f_X12_copy h1 a0 (0 : Int32) (5 : Int32)).bind fun h3 => (zg_R h3 a0 10 29).bind fun v4 => (zl_I h3 v4 2 (1 : Int32)).bind fun v5 => (zg_R h3 a0 10 29).bind fun v6 => (zl_I h3 v6 2 (2 : Int32)).bind fun v7 => (zg_R h3 a0 10 29).bind fun v8 => (zl_I h3 v8 2 (3 : Int32)).bind fun v9 => (zg_R h3 a0 10 29).bind fun v10 => (zl_I h3 v10 2 (4 : Int32)).bind fun v11 => (zp_V h3 a0 10 27 (.int ((0 : Int32)))).bind fun h12 => zz_loop (fun st : (Int32 × ZH) => f_X12_shrink_L58 h a0 v5 v7 v9 v11 (st.1) (st.2)) ((1 : Int32), h12))
abbrev rm_X12_shrink : Room := { frames := 5, cells := 0, slots := 0, locals := 119 }
set_option maxRecDepth 100000 in
set_option maxHeartbeats 4000000 in
theorem c_X12_shrink {l : Launch} {D : va_G} {dA : Nat → ClassId} {A : Nat → Prop} {h : ZH} {n : Nat} (a0 : Nat) {r : Int32} {hx : ZH} (hf : f_X12_shrink h a0 = some (r, hx)) : Met l yX12_shrink (zz_ws yX12_shrink cX12_shrink 8 (some .int)) rm_X12_shrink (zz_P D dA A h n [.ref (a0)]) (zz_Q D dA A (some (.int r)) hx n) 0 0 A := by
  refine zz_met (by decide) (Nat.le_of_ble_eq_true rfl) ?_
  intro p e s m args below meth c ls S K hret hlk hnm hl Z
  replace hl : lv_has ls 8 [(0, .ref (a0))] := hl
  obtain ⟨K0, hR0, hk⟩ : ∃ K0 : (Int32 × ZH) → Prop, (∀ x, K0 x → x = (r, hx)) ∧ K0 (r, hx) := ⟨fun x => x = (r, hx), fun _ h => h, rfl⟩
  have L58 : ∀ (y1_14 : Int32) (y2_15 : Int32) (y3_16 : Int32) (y4_17 : Int32) (st : (Int32 × ZH)) (x : (Int32 × ZH)), zz_loop (fun st : (Int32 × ZH) => f_X12_shrink_L58 h a0 y1_14 y2_15 y3_16 y4_17 (st.1) (st.2)) st = some x → K0 x → (fun st : (Int32 × ZH) => ∀ (H : Heap) (locs : List Loc) (ls : Array Slot), zz_B D dA A (st.2) n s.heap H locs → lv_has ls 8 [(0, .ref (a0)), (1, .int (y1_14)), (2, .int (y2_15)), (3, .int (y3_16)), (4, .int (y4_17)), (5, .int ((st.1)))] → zz_W p l e rm_X12_shrink s m args below meth c D dA A (some (.int r)) hx n 0 0 H locs 0 0 58 ls []) st := by
    intro y1_14 y2_15 y3_16 y4_17
    refine zz_loop_go (K := K0) ?_
    intro K1 hP1 hR1
    have L69 : ∀ (st : (Int32 × Int32 × ZH)) (x : ((Int32 × ZH) ⊕ (Int32 × ZH))), zz_loop (fun st : (Int32 × Int32 × ZH) => f_X12_shrink_L69 h a0 y1_14 y2_15 y3_16 y4_17 (st.1) (st.2.1) (st.2.2)) st = some x → K1 x → (fun st : (Int32 × Int32 × ZH) => ∀ (H : Heap) (locs : List Loc) (ls : Array Slot), zz_B D dA A (st.2.2) n s.heap H locs → lv_has ls 8 [(0, .ref (a0)), (1, .int (y1_14)), (2, .int (y2_15)), (3, .int (y3_16)), (4, .int (y4_17)), (5, .int ((st.1))), (6, .int ((st.2.1)))] → zz_W p l e rm_X12_shrink s m args below meth c D dA A (some (.int r)) hx n 0 0 H locs 0 0 69 ls []) st := by
      refine zz_loop_go (K := K1) ?_
      intro K2 hP2 hR2
      have J164 : ∀ (x5_48 : Int32) (x6_49 : Int32) (s50 : Int32) (s51 : Int32) (s52 : Nat) (h53 : ZH) (x : ((Int32 × Int32 × ZH) ⊕ ((Int32 × ZH) ⊕ (Int32 × ZH)))), f_X12_shrink_J164 h a0 y1_14 y2_15 y3_16 y4_17 x5_48 x6_49 s50 s51 s52 h53 = some x → K2 x → ∀ (H : Heap) (locs : List Loc) (ls : Array Slot), zz_B D dA A h53 n s.heap H locs → lv_has ls 8 [(0, .ref (a0)), (1, .int (y1_14)), (2, .int (y2_15)), (3, .int (y3_16)), (4, .int (y4_17)), (5, .int (x5_48)), (6, .int (x6_49))] → zz_W p l e rm_X12_shrink s m args below meth c D dA A (some (.int r)) hx n 0 0 H locs 0 0 164 ls [.int (s50), .int (s51), .ref (s52)] := by
        intro x5_48 x6_49 s50 s51 s52 h53 x hv hk H locs ls Z hl
        unfold f_X12_shrink_J164 at hv
        refine lv_isub S.1 S.2.1 dX12_shrink_164 ?_
        refine zz_put S K Z hv zc_10 (by decide) gf_X12_256 rfl rfl rfl dX12_shrink_165 (fun h54 H locs hv Z => ?_)
        refine lv_iinc (v := x6_49 + (1 : Int32)) (lv' := [(6, .int (x6_49 + (1 : Int32))), (0, .ref (a0)), (1, .int (y1_14)), (2, .int (y2_15)), (3, .int (y3_16)), (4, .int (y4_17)), (5, .int (x5_48))]) S.1 S.2.1 dX12_shrink_168 hl (k := 6) rfl rfl (by decide) rfl (fun ls hl => ?_)
        refine lv_goto (tgt := 69) S.1 S.2.1 dX12_shrink_171 (by decide) ?_
        replace hk := zz_fin hv hk
        exact hP2 _ hk H locs ls Z (lv_sub hl [1, 2, 3, 4, 5, 6, 0] rfl)
      have J149 : ∀ (x5_44 : Int32) (x6_45 : Int32) (h46 : ZH) (x : ((Int32 × Int32 × ZH) ⊕ ((Int32 × ZH) ⊕ (Int32 × ZH)))), f_X12_shrink_J149 h a0 y1_14 y2_15 y3_16 y4_17 x5_44 x6_45 h46 = some x → K2 x → ∀ (H : Heap) (locs : List Loc) (ls : Array Slot), zz_B D dA A h46 n s.heap H locs → lv_has ls 8 [(0, .ref (a0)), (1, .int (y1_14)), (2, .int (y2_15)), (3, .int (y3_16)), (4, .int (y4_17)), (5, .int (x5_44)), (6, .int (x6_45))] → zz_W p l e rm_X12_shrink s m args below meth c D dA A (some (.int r)) hx n 0 0 H locs 0 0 149 ls [] := by
        intro x5_44 x6_45 h46 x hv hk H locs ls Z hl
        unfold f_X12_shrink_J149 at hv
        refine lv_aload_n S.1 S.2.1 dX12_shrink_149 rfl (lv_at hl 0 rfl) ?_
        refine lv_dup S.1 S.2.1 dX12_shrink_150 rfl ?_
        refine zz_gI S K Z hv zc_10 (by decide) gf_X12_256 dX12_shrink_151 (fun v47 hv => ?_)
        refine lv_iload S.1 S.2.1 dX12_shrink_154 (lv_at hl 5 rfl) ?_
        refine lv_if_eq (tgt := 163) S.1 S.2.1 dX12_shrink_156 (by decide) (fun hc => ?_) (fun hc => ?_)
        · replace hv := (if_pos hc).symm.trans hv
          refine lv_iconst (v := (0 : Int32)) S.1 S.2.1 dX12_shrink_163 (by decide) ?_
          exact J164 x5_44 x6_45 (0 : Int32) v47 a0 h46 _ hv hk H locs ls Z (lv_sub hl [0, 1, 2, 3, 4, 5, 6] rfl)
        · replace hv := (if_neg hc).symm.trans hv
          refine lv_iconst (v := (1 : Int32)) S.1 S.2.1 dX12_shrink_159 (by decide) ?_
          refine lv_goto (tgt := 164) S.1 S.2.1 dX12_shrink_160 (by decide) ?_
          exact J164 x5_44 x6_45 (1 : Int32) v47 a0 h46 _ hv hk H locs ls Z (lv_sub hl [0, 1, 2, 3, 4, 5, 6] rfl)
      have L111 : ∀ (y5_41 : Int32) (y6_42 : Int32) (st : (Int32 × ZH)) (x : ((Int32 × Int32 × ZH) ⊕ ((Int32 × ZH) ⊕ (Int32 × ZH)))), zz_loop (fun st : (Int32 × ZH) => f_X12_shrink_L111 h a0 y1_14 y2_15 y3_16 y4_17 y5_41 y6_42 (st.1) (st.2)) st = some x → K2 x → (fun st : (Int32 × ZH) => ∀ (H : Heap) (locs : List Loc) (ls : Array Slot), zz_B D dA A (st.2) n s.heap H locs → lv_has ls 8 [(0, .ref (a0)), (1, .int (y1_14)), (2, .int (y2_15)), (3, .int (y3_16)), (4, .int (y4_17)), (5, .int (y5_41)), (6, .int (y6_42)), (7, .int ((st.1)))] → zz_W p l e rm_X12_shrink s m args below meth c D dA A (some (.int r)) hx n 0 0 H locs 0 0 111 ls []) st := by
        intro y5_41 y6_42
        refine zz_loop_go (K := K2) ?_
        intro K3 hP3 hR3
        rintro ⟨x7_40, h43⟩ x hv hk H locs ls Z hl
        replace hv : f_X12_shrink_L111 h a0 y1_14 y2_15 y3_16 y4_17 y5_41 y6_42 x7_40 h43 = some x := hv
        unfold f_X12_shrink_L111 at hv
        replace hl : lv_has ls 8 [(0, .ref (a0)), (1, .int (y1_14)), (2, .int (y2_15)), (3, .int (y3_16)), (4, .int (y4_17)), (5, .int (y5_41)), (6, .int (y6_42)), (7, .int (x7_40))] := hl
        replace Z : zz_B D dA A h43 n s.heap H locs := Z
        show zz_W p l e rm_X12_shrink s m args below meth c D dA A (some (.int r)) hx n 0 0 H locs 0 0 111 ls []
        refine lv_iload S.1 S.2.1 dX12_shrink_111 (lv_at hl 5 rfl) ?_
        refine lv_if_eq (tgt := 149) S.1 S.2.1 dX12_shrink_113 (by decide) (fun hc => ?_) (fun hc => ?_)
        · replace hv := (if_pos hc).symm.trans hv
          obtain ⟨_, hv, hk⟩ := zz_mapk hv hk
          replace hk := hR3 _ hk
          exact J149 y5_41 y6_42 h43 _ hv hk H locs ls Z (lv_sub hl [0, 1, 2, 3, 4, 5, 6] rfl)
        · replace hv := (if_neg hc).symm.trans hv
          refine lv_iload S.1 S.2.1 dX12_shrink_116 (lv_at hl 7 rfl) ?_
          refine lv_aload_n S.1 S.2.1 dX12_shrink_118 rfl (lv_at hl 0 rfl) ?_
          refine zz_gI S K Z hv zc_10 (by decide) gf_X12_256 dX12_shrink_119 (fun v55 hv => ?_)
          refine lv_iconst (v := (1 : Int32)) S.1 S.2.1 dX12_shrink_122 (by decide) ?_
          refine lv_isub S.1 S.2.1 dX12_shrink_123 ?_
          refine lv_icmp_ge (tgt := 149) S.1 S.2.1 dX12_shrink_124 (by decide) (fun hc => ?_) (fun hc => ?_)
          · replace hv := (if_pos hc).symm.trans hv
            obtain ⟨_, hv, hk⟩ := zz_mapk hv hk
            replace hk := hR3 _ hk
            exact J149 y5_41 y6_42 h43 _ hv hk H locs ls Z (lv_sub hl [0, 1, 2, 3, 4, 5, 6] rfl)
          · replace hv := (if_neg hc).symm.trans hv
            refine lv_aload_n S.1 S.2.1 dX12_shrink_127 rfl (lv_at hl 0 rfl) ?_
            refine zz_gR S K Z hv zc_10 (by decide) gf_X12_94 dX12_shrink_128 (fun v56 hv => ?_)
            refine lv_iload S.1 S.2.1 dX12_shrink_131 (lv_at hl 7 rfl) ?_
            refine lv_aload_n S.1 S.2.1 dX12_shrink_133 rfl (lv_at hl 0 rfl) ?_
            refine zz_gR S K Z hv zc_10 (by decide) gf_X12_94 dX12_shrink_134 (fun v57 hv => ?_)
            refine lv_iload S.1 S.2.1 dX12_shrink_137 (lv_at hl 7 rfl) ?_
            refine lv_iconst (v := (1 : Int32)) S.1 S.2.1 dX12_shrink_139 (by decide) ?_
            refine lv_iadd S.1 S.2.1 dX12_shrink_140 ?_
            refine zz_iald S K Z hv dX12_shrink_141 (fun v58 hv => ?_)
            refine zz_iast S K Z hv dX12_shrink_142 (fun h59 H locs hv Z => ?_)
            refine lv_iinc (v := x7_40 + (1 : Int32)) (lv' := [(7, .int (x7_40 + (1 : Int32))), (0, .ref (a0)), (1, .int (y1_14)), (2, .int (y2_15)), (3, .int (y3_16)), (4, .int (y4_17)), (5, .int (y5_41)), (6, .int (y6_42))]) S.1 S.2.1 dX12_shrink_143 hl (k := 7) rfl rfl (by decide) rfl (fun ls hl => ?_)
            refine lv_goto (tgt := 111) S.1 S.2.1 dX12_shrink_146 (by decide) ?_
            replace hk := zz_fin hv hk
            exact hP3 _ hk H locs ls Z (lv_sub hl [1, 2, 3, 4, 5, 6, 7, 0] rfl)
      have J105 : ∀ (x6_37 : Int32) (s38 : Int32) (h39 : ZH) (x : ((Int32 × Int32 × ZH) ⊕ ((Int32 × ZH) ⊕ (Int32 × ZH)))), f_X12_shrink_J105 h a0 y1_14 y2_15 y3_16 y4_17 x6_37 s38 h39 = some x → K2 x → ∀ (H : Heap) (locs : List Loc) (ls : Array Slot), zz_B D dA A h39 n s.heap H locs → lv_has ls 8 [(0, .ref (a0)), (1, .int (y1_14)), (2, .int (y2_15)), (3, .int (y3_16)), (4, .int (y4_17)), (6, .int (x6_37))] → zz_W p l e rm_X12_shrink s m args below meth c D dA A (some (.int r)) hx n 0 0 H locs 0 0 105 ls [.int (s38)] := by
        intro x6_37 s38 h39 x hv hk H locs ls Z hl
        unfold f_X12_shrink_J105 at hv
        refine lv_istore (lv' := [(5, .int (s38)), (0, .ref (a0)), (1, .int (y1_14)), (2, .int (y2_15)), (3, .int (y3_16)), (4, .int (y4_17)), (6, .int (x6_37))]) S.1 S.2.1 dX12_shrink_105 hl (by decide) rfl (fun ls hl => ?_)
        refine lv_iload S.1 S.2.1 dX12_shrink_107 (lv_at hl 6 rfl) ?_
        refine lv_istore (lv' := [(7, .int (x6_37)), (5, .int (s38)), (0, .ref (a0)), (1, .int (y1_14)), (2, .int (y2_15)), (3, .int (y3_16)), (4, .int (y4_17)), (6, .int (x6_37))]) S.1 S.2.1 dX12_shrink_109 hl (by decide) rfl (fun ls hl => ?_)
        exact L111 s38 x6_37 (x6_37, h39) _ hv hk H locs ls Z (lv_sub hl [2, 3, 4, 5, 6, 1, 7, 0] rfl)
      have J104 : ∀ (x6_35 : Int32) (h36 : ZH) (x : ((Int32 × Int32 × ZH) ⊕ ((Int32 × ZH) ⊕ (Int32 × ZH)))), f_X12_shrink_J104 h a0 y1_14 y2_15 y3_16 y4_17 x6_35 h36 = some x → K2 x → ∀ (H : Heap) (locs : List Loc) (ls : Array Slot), zz_B D dA A h36 n s.heap H locs → lv_has ls 8 [(0, .ref (a0)), (1, .int (y1_14)), (2, .int (y2_15)), (3, .int (y3_16)), (4, .int (y4_17)), (6, .int (x6_35))] → zz_W p l e rm_X12_shrink s m args below meth c D dA A (some (.int r)) hx n 0 0 H locs 0 0 104 ls [] := by
        intro x6_35 h36 x hv hk H locs ls Z hl
        unfold f_X12_shrink_J104 at hv
        refine lv_iconst (v := (0 : Int32)) S.1 S.2.1 dX12_shrink_104 (by decide) ?_
        exact J105 x6_35 (0 : Int32) h36 _ hv hk H locs ls Z (lv_sub hl [0, 1, 2, 3, 4, 5] rfl)
      rintro ⟨x5_30, x6_31, h32⟩ x hv hk H locs ls Z hl
      replace hv : f_X12_shrink_L69 h a0 y1_14 y2_15 y3_16 y4_17 x5_30 x6_31 h32 = some x := hv
      unfold f_X12_shrink_L69 at hv
      replace hl : lv_has ls 8 [(0, .ref (a0)), (1, .int (y1_14)), (2, .int (y2_15)), (3, .int (y3_16)), (4, .int (y4_17)), (5, .int (x5_30)), (6, .int (x6_31))] := hl
      replace Z : zz_B D dA A h32 n s.heap H locs := Z
      show zz_W p l e rm_X12_shrink s m args below meth c D dA A (some (.int r)) hx n 0 0 H locs 0 0 69 ls []
      refine lv_iload S.1 S.2.1 dX12_shrink_69 (lv_at hl 6 rfl) ?_
      refine lv_aload_n S.1 S.2.1 dX12_shrink_71 rfl (lv_at hl 0 rfl) ?_
      refine zz_gI S K Z hv zc_10 (by decide) gf_X12_256 dX12_shrink_72 (fun v33 hv => ?_)
      refine lv_icmp_ge (tgt := 174) S.1 S.2.1 dX12_shrink_75 (by decide) (fun hc => ?_) (fun hc => ?_)
      · replace hv := (if_pos hc).symm.trans hv
        obtain ⟨_, hv, hk⟩ := zz_mapk hv hk
        replace hk := hR2 _ hk
        refine lv_goto (tgt := 58) S.1 S.2.1 dX12_shrink_174 (by decide) ?_
        replace hk := zz_fin hv hk
        exact hP1 _ hk H locs ls Z (lv_sub hl [0, 1, 2, 3, 4, 5] rfl)
      · replace hv := (if_neg hc).symm.trans hv
        refine lv_iload S.1 S.2.1 dX12_shrink_78 (lv_at hl 5 rfl) ?_
        refine lv_if_ne (tgt := 174) S.1 S.2.1 dX12_shrink_80 (by decide) (fun hc => ?_) (fun hc => ?_)
        · replace hv := (if_neg hc).symm.trans hv
          obtain ⟨_, hv, hk⟩ := zz_mapk hv hk
          replace hk := hR2 _ hk
          refine lv_goto (tgt := 58) S.1 S.2.1 dX12_shrink_174 (by decide) ?_
          replace hk := zz_fin hv hk
          exact hP1 _ hk H locs ls Z (lv_sub hl [0, 1, 2, 3, 4, 5] rfl)
        · replace hv := (if_pos hc).symm.trans hv
          refine lv_aload_n S.1 S.2.1 dX12_shrink_83 rfl (lv_at hl 0 rfl) ?_
          refine zz_gI S K Z hv zc_10 (by decide) gf_X12_256 dX12_shrink_84 (fun v34 hv => ?_)
          refine lv_iconst (v := (1 : Int32)) S.1 S.2.1 dX12_shrink_87 (by decide) ?_
          refine lv_icmp_le (tgt := 104) S.1 S.2.1 dX12_shrink_88 (by decide) (fun hc => ?_) (fun hc => ?_)
          · replace hv := (if_pos hc).symm.trans hv
            exact J104 x6_31 h32 _ hv hk H locs ls Z (lv_sub hl [0, 1, 2, 3, 4, 6] rfl)
          · replace hv := (if_neg hc).symm.trans hv
            refine lv_aload_n S.1 S.2.1 dX12_shrink_91 rfl (lv_at hl 0 rfl) ?_
            refine lv_iload S.1 S.2.1 dX12_shrink_92 (lv_at hl 6 rfl) ?_
            obtain ⟨hci, hv⟩ := zz_isO_s hv
            obtain ⟨⟨v60, h61⟩, hq, hv⟩ := zz_bd hv
            refine zz_V [.int (x6_31)] S K Z hci zc_10 rfl (c_X12_canGo a0 x6_31 hq) ⟨rfl, rfl⟩ gm_X12_canGo gmv_X12_canGo gl_X12_265 ⟨by decide, by decide⟩ rfl hl.1 rfl (Nat.le_of_ble_eq_true rfl) dX12_shrink_94 ⟨Nat.zero_le _, Nat.zero_le _⟩ (fun H locs Z => ?_)
            show W _ _ _ _ _ _ _ _ _ _ _ _ 0 0 _ (F0 m 97 ls [.int (v60)])
            refine lv_if_eq (tgt := 104) S.1 S.2.1 dX12_shrink_97 (by decide) (fun hc => ?_) (fun hc => ?_)
            · replace hv := (if_pos hc).symm.trans hv
              exact J104 x6_31 h61 _ hv hk H locs ls Z (lv_sub hl [0, 1, 2, 3, 4, 6] rfl)
            · replace hv := (if_neg hc).symm.trans hv
              refine lv_iconst (v := (1 : Int32)) S.1 S.2.1 dX12_shrink_100 (by decide) ?_
              refine lv_goto (tgt := 105) S.1 S.2.1 dX12_shrink_101 (by decide) ?_
              exact J105 x6_31 (1 : Int32) h61 _ hv hk H locs ls Z (lv_sub hl [0, 1, 2, 3, 4, 6] rfl)
    rintro ⟨x5_13, h18⟩ x hv hk H locs ls Z hl
    replace hv : f_X12_shrink_L58 h a0 y1_14 y2_15 y3_16 y4_17 x5_13 h18 = some x := hv
    unfold f_X12_shrink_L58 at hv
    replace hl : lv_has ls 8 [(0, .ref (a0)), (1, .int (y1_14)), (2, .int (y2_15)), (3, .int (y3_16)), (4, .int (y4_17)), (5, .int (x5_13))] := hl
    replace Z : zz_B D dA A h18 n s.heap H locs := Z
    show zz_W p l e rm_X12_shrink s m args below meth c D dA A (some (.int r)) hx n 0 0 H locs 0 0 58 ls []
    refine lv_iload S.1 S.2.1 dX12_shrink_58 (lv_at hl 5 rfl) ?_
    refine lv_if_eq (tgt := 177) S.1 S.2.1 dX12_shrink_60 (by decide) (fun hc => ?_) (fun hc => ?_)
    · replace hv := (if_pos hc).symm.trans hv
      obtain ⟨_, hv, hk⟩ := zz_mapk hv hk
      replace hk := hR1 _ hk
      refine lv_aload_n S.1 S.2.1 dX12_shrink_177 rfl (lv_at hl 0 rfl) ?_
      refine lv_iconst (v := (1 : Int32)) S.1 S.2.1 dX12_shrink_178 (by decide) ?_
      refine zz_put S K Z hv zc_10 (by decide) gf_X12_71 rfl rfl rfl dX12_shrink_179 (fun h19 H locs hv Z => ?_)
      refine lv_aload_n S.1 S.2.1 dX12_shrink_182 rfl (lv_at hl 0 rfl) ?_
      refine lv_iconst (v := (5 : Int32)) S.1 S.2.1 dX12_shrink_183 (by decide) ?_
      refine lv_iconst (v := (0 : Int32)) S.1 S.2.1 dX12_shrink_184 (by decide) ?_
      obtain ⟨hci, hv⟩ := zz_isO_s hv
      obtain ⟨h20, hq, hv⟩ := zz_bd hv
      refine zz_V [.int ((5 : Int32)), .int ((0 : Int32))] S K Z hci zc_10 rfl (c_X12_copy a0 (5 : Int32) (0 : Int32) hq) ⟨rfl, rfl⟩ gm_X12_copy gmv_X12_copy gl_X12_227 ⟨by decide, by decide⟩ rfl hl.1 rfl (Nat.le_of_ble_eq_true rfl) dX12_shrink_185 ⟨Nat.zero_le _, Nat.zero_le _⟩ (fun H locs Z => ?_)
      show W _ _ _ _ _ _ _ _ _ _ _ _ 0 0 _ (F0 m 188 ls [])
      refine lv_aload_n S.1 S.2.1 dX12_shrink_188 rfl (lv_at hl 0 rfl) ?_
      refine zz_gR S K Z hv zc_10 (by decide) gf_X12_78 dX12_shrink_189 (fun v21 hv => ?_)
      refine lv_iconst (v := (1 : Int32)) S.1 S.2.1 dX12_shrink_192 (by decide) ?_
      refine lv_iload_n S.1 S.2.1 dX12_shrink_193 rfl (lv_at hl 1 rfl) ?_
      refine zz_zast S K Z hv dX12_shrink_194 (fun h22 H locs hv Z => ?_)
      refine lv_aload_n S.1 S.2.1 dX12_shrink_195 rfl (lv_at hl 0 rfl) ?_
      refine zz_gR S K Z hv zc_10 (by decide) gf_X12_78 dX12_shrink_196 (fun v23 hv => ?_)
      refine lv_iconst (v := (2 : Int32)) S.1 S.2.1 dX12_shrink_199 (by decide) ?_
      refine lv_iload_n S.1 S.2.1 dX12_shrink_200 rfl (lv_at hl 2 rfl) ?_
      refine zz_zast S K Z hv dX12_shrink_201 (fun h24 H locs hv Z => ?_)
      refine lv_aload_n S.1 S.2.1 dX12_shrink_202 rfl (lv_at hl 0 rfl) ?_
      refine zz_gR S K Z hv zc_10 (by decide) gf_X12_78 dX12_shrink_203 (fun v25 hv => ?_)
      refine lv_iconst (v := (3 : Int32)) S.1 S.2.1 dX12_shrink_206 (by decide) ?_
      refine lv_iload_n S.1 S.2.1 dX12_shrink_207 rfl (lv_at hl 3 rfl) ?_
      refine zz_zast S K Z hv dX12_shrink_208 (fun h26 H locs hv Z => ?_)
      refine lv_aload_n S.1 S.2.1 dX12_shrink_209 rfl (lv_at hl 0 rfl) ?_
      refine zz_gR S K Z hv zc_10 (by decide) gf_X12_78 dX12_shrink_210 (fun v27 hv => ?_)
      refine lv_iconst (v := (4 : Int32)) S.1 S.2.1 dX12_shrink_213 (by decide) ?_
      refine lv_iload S.1 S.2.1 dX12_shrink_214 (lv_at hl 4 rfl) ?_
      refine zz_zast S K Z hv dX12_shrink_216 (fun h28 H locs hv Z => ?_)
      refine lv_aload_n S.1 S.2.1 dX12_shrink_217 rfl (lv_at hl 0 rfl) ?_
      refine zz_gI S K Z hv zc_10 (by decide) gf_X12_256 dX12_shrink_218 (fun v29 hv => ?_)
      replace hk := zz_fin hv hk
      obtain ⟨rfl, rfl⟩ := Prod.mk.inj (hR0 _ hk)
      exact zz_iret S Z hret hlk dX12_shrink_221 (Nat.le_refl _) (Nat.le_refl _)
    · replace hv := (if_neg hc).symm.trans hv
      refine lv_iconst (v := (0 : Int32)) S.1 S.2.1 dX12_shrink_63 (by decide) ?_
      refine lv_istore (lv' := [(5, .int ((0 : Int32))), (0, .ref (a0)), (1, .int (y1_14)), (2, .int (y2_15)), (3, .int (y3_16)), (4, .int (y4_17))]) S.1 S.2.1 dX12_shrink_64 hl (by decide) rfl (fun ls hl => ?_)
      refine lv_iconst (v := (0 : Int32)) S.1 S.2.1 dX12_shrink_66 (by decide) ?_
      refine lv_istore (lv' := [(6, .int ((0 : Int32))), (5, .int ((0 : Int32))), (0, .ref (a0)), (1, .int (y1_14)), (2, .int (y2_15)), (3, .int (y3_16)), (4, .int (y4_17))]) S.1 S.2.1 dX12_shrink_67 hl (by decide) rfl (fun ls hl => ?_)
      exact L69  ((0 : Int32), (0 : Int32), h18) _ hv hk H locs ls Z (lv_sub hl [2, 3, 4, 5, 6, 1, 0] rfl)
  have hv := hf
  unfold f_X12_shrink at hv
  clear hf
  obtain ⟨x, hxx⟩ : ∃ x, x = (r, hx) := ⟨_, rfl⟩
  rw [← hxx] at hv hk
  have ⟨H, hH⟩ : ∃ H, H = s.heap := ⟨_, rfl⟩
  have ⟨locs, hlo⟩ : ∃ q : List Loc, q = [] := ⟨_, rfl⟩
  have Z : zz_B D dA A h n s.heap H locs := by rw [hH, hlo]; exact Z
  have key : zz_W p l e rm_X12_shrink s m args below meth c D dA A (some (.int r)) hx n 0 0 H locs 0 0 0 ls [] := by
    clear hH hlo hxx
    refine lv_aload_n S.1 S.2.1 dX12_shrink_0 rfl (lv_at hl 0 rfl) ?_
    refine lv_iconst (v := (0 : Int32)) S.1 S.2.1 dX12_shrink_1 (by decide) ?_
    refine zz_put S K Z hv zc_10 (by decide) gf_X12_1 rfl rfl rfl dX12_shrink_2 (fun h1 H locs hv Z => ?_)
    refine lv_aload_n S.1 S.2.1 dX12_shrink_5 rfl (lv_at hl 0 rfl) ?_
    refine zz_gI S K Z hv zc_10 (by decide) gf_X12_259 dX12_shrink_6 (fun v2 hv => ?_)
    refine lv_if_ne (tgt := 15) S.1 S.2.1 dX12_shrink_9 (by decide) (fun hc => ?_) (fun hc => ?_)
    · replace hv := (if_neg hc).symm.trans hv
      refine lv_aload_n S.1 S.2.1 dX12_shrink_15 rfl (lv_at hl 0 rfl) ?_
      refine lv_iconst (v := (0 : Int32)) S.1 S.2.1 dX12_shrink_16 (by decide) ?_
      refine lv_iconst (v := (5 : Int32)) S.1 S.2.1 dX12_shrink_17 (by decide) ?_
      obtain ⟨hci, hv⟩ := zz_isO_s hv
      obtain ⟨h3, hq, hv⟩ := zz_bd hv
      refine zz_V [.int ((0 : Int32)), .int ((5 : Int32))] S K Z hci zc_10 rfl (c_X12_copy a0 (0 : Int32) (5 : Int32) hq) ⟨rfl, rfl⟩ gm_X12_copy gmv_X12_copy gl_X12_227 ⟨by decide, by decide⟩ rfl hl.1 rfl (Nat.le_of_ble_eq_true rfl) dX12_shrink_18 ⟨Nat.zero_le _, Nat.zero_le _⟩ (fun H locs Z => ?_)
      show W _ _ _ _ _ _ _ _ _ _ _ _ 0 0 _ (F0 m 21 ls [])
      refine lv_aload_n S.1 S.2.1 dX12_shrink_21 rfl (lv_at hl 0 rfl) ?_
      refine zz_gR S K Z hv zc_10 (by decide) gf_X12_78 dX12_shrink_22 (fun v4 hv => ?_)
      refine lv_iconst (v := (1 : Int32)) S.1 S.2.1 dX12_shrink_25 (by decide) ?_
      refine zz_zald S K Z hv dX12_shrink_26 (fun v5 hv => ?_)
      refine lv_istore_n (lv' := [(1, .int (v5)), (0, .ref (a0))]) S.1 S.2.1 dX12_shrink_27 rfl hl (by decide) rfl (fun ls hl => ?_)
      refine lv_aload_n S.1 S.2.1 dX12_shrink_28 rfl (lv_at hl 1 rfl) ?_
      refine zz_gR S K Z hv zc_10 (by decide) gf_X12_78 dX12_shrink_29 (fun v6 hv => ?_)
      refine lv_iconst (v := (2 : Int32)) S.1 S.2.1 dX12_shrink_32 (by decide) ?_
      refine zz_zald S K Z hv dX12_shrink_33 (fun v7 hv => ?_)
      refine lv_istore_n (lv' := [(2, .int (v7)), (1, .int (v5)), (0, .ref (a0))]) S.1 S.2.1 dX12_shrink_34 rfl hl (by decide) rfl (fun ls hl => ?_)
      refine lv_aload_n S.1 S.2.1 dX12_shrink_35 rfl (lv_at hl 2 rfl) ?_
      refine zz_gR S K Z hv zc_10 (by decide) gf_X12_78 dX12_shrink_36 (fun v8 hv => ?_)
      refine lv_iconst (v := (3 : Int32)) S.1 S.2.1 dX12_shrink_39 (by decide) ?_
      refine zz_zald S K Z hv dX12_shrink_40 (fun v9 hv => ?_)
      refine lv_istore_n (lv' := [(3, .int (v9)), (2, .int (v7)), (1, .int (v5)), (0, .ref (a0))]) S.1 S.2.1 dX12_shrink_41 rfl hl (by decide) rfl (fun ls hl => ?_)
      refine lv_aload_n S.1 S.2.1 dX12_shrink_42 rfl (lv_at hl 3 rfl) ?_
      refine zz_gR S K Z hv zc_10 (by decide) gf_X12_78 dX12_shrink_43 (fun v10 hv => ?_)
      refine lv_iconst (v := (4 : Int32)) S.1 S.2.1 dX12_shrink_46 (by decide) ?_
      refine zz_zald S K Z hv dX12_shrink_47 (fun v11 hv => ?_)
      refine lv_istore (lv' := [(4, .int (v11)), (3, .int (v9)), (2, .int (v7)), (1, .int (v5)), (0, .ref (a0))]) S.1 S.2.1 dX12_shrink_48 hl (by decide) rfl (fun ls hl => ?_)
      refine lv_aload_n S.1 S.2.1 dX12_shrink_50 rfl (lv_at hl 4 rfl) ?_
      refine lv_iconst (v := (0 : Int32)) S.1 S.2.1 dX12_shrink_51 (by decide) ?_
      refine zz_put S K Z hv zc_10 (by decide) gf_X12_71 rfl rfl rfl dX12_shrink_52 (fun h12 H locs hv Z => ?_)
      refine lv_iconst (v := (1 : Int32)) S.1 S.2.1 dX12_shrink_55 (by decide) ?_
      refine lv_istore (lv' := [(5, .int ((1 : Int32))), (4, .int (v11)), (3, .int (v9)), (2, .int (v7)), (1, .int (v5)), (0, .ref (a0))]) S.1 S.2.1 dX12_shrink_56 hl (by decide) rfl (fun ls hl => ?_)
      exact L58 v5 v7 v9 v11 ((1 : Int32), h12) _ hv hk H locs ls Z (lv_sub hl [5, 4, 3, 2, 1, 0] rfl)
    · replace hv := (if_pos hc).symm.trans hv
      refine lv_bipush (v := (-4 : Int32)) S.1 S.2.1 dX12_shrink_12 (by decide) ?_
      replace hk := zz_fin hv hk
      obtain ⟨rfl, rfl⟩ := Prod.mk.inj (hR0 _ hk)
      exact zz_iret S Z hret hlk dX12_shrink_14 (Nat.le_refl _) (Nat.le_refl _)
  rw [hH, hlo] at key
  exact key
