noncomputable def f_X12_word_J83 (h : ZH) (a0 : Nat) (x3_14 : Int32) (h15 : ZH) : Option (Int32 × ZH) :=
  if x3_14 < 0 then (some (((-5 : Int32), h15))) else (some ((x3_14, h15)))
noncomputable def f_X12_word_L97 (h : ZH) (a0 : Nat) (y1_18 : Int32) (x4_17 : Int32) (h19 : ZH)  : Option ((Int32 × ZH) ⊕ (Int32 × ZH)) :=
  if y1_18 ≤ x4_17 then (((zg_R h19 a0 10 6).bind fun v20 => (zg_I h19 a0 10 4).bind fun v21 => (zs_I h19 v20 1 v21 y1_18).bind fun h22 => (zg_I h22 a0 10 4).bind fun v23 => (zp_V h22 a0 10 4 (.int (v23 + (1 : Int32)))).bind fun h24 => (zg_I h24 a0 10 4).bind fun v25 => some ((v25 - (1 : Int32), h24))).map Sum.inr) else ((zg_R h19 a0 10 5).bind fun v26 => (zg_I h19 a0 10 4).bind fun v27 => (zg_R h19 a0 10 1).bind fun v28 => (zl_I h19 v28 1 x4_17).bind fun v29 => (zs_I h19 v26 1 (((6 : Int32) * v27) + x4_17) v29).bind fun h30 => some (.inl (x4_17 + (1 : Int32), h30)))
noncomputable def f_X12_word_J52 (h : ZH) (a0 : Nat) (x1_9 : Int32) (x2_10 : Int32) (h11 : ZH) : Option (Int32 × ZH) :=
  if x2_10 = 0 then (some (((-3 : Int32), h11))) else ((zg_R h11 a0 10 1).bind fun v12 => zz_isO h11 a0 10 <| (f_X12_wordAt h11 a0 v12 (0 : Int32) x1_9).bind fun v13 => if 0 ≤ v13 then (f_X12_word_J83 h a0 v13 h11) else ((zg_I h11 a0 10 4).bind fun v16 => if v16 = (16 : Int32) then (f_X12_word_J83 h a0 v13 h11) else (zz_loop (fun st : (Int32 × ZH) => f_X12_word_L97 h a0 x1_9 (st.1) (st.2)) ((0 : Int32), h11))))
noncomputable def f_X12_word_L27 (h : ZH) (a0 : Nat) (y1_7 : Int32) (h8 : ZH) (x2_5 : Int32) (x3_6 : Int32)  : Option ((Int32 × Int32) ⊕ (Int32 × ZH)) :=
  if y1_7 ≤ x3_6 then ((f_X12_word_J52 h a0 y1_7 x2_5 h8).map Sum.inr) else (if x2_5 = 0 then ((f_X12_word_J52 h a0 y1_7 x2_5 h8).map Sum.inr) else ((zg_R h8 a0 10 1).bind fun v31 => (zl_I h8 v31 1 x3_6).bind fun v32 => (f_X12_isLetter h8 v32).bind fun v33 => some (.inl (v33, x3_6 + (1 : Int32)))))
noncomputable def f_X12_word (h : ZH) (a0 : Nat) : Option (Int32 × ZH) :=
  (zp_V h a0 10 0 (.int ((0 : Int32)))).bind fun h1 => (zg_I h1 a0 10 2).bind fun v2 => (zp_V h1 a0 10 2 (.int ((0 : Int32)))).bind fun h3 => (f_X12_in h3 (v2.toInt64) (1 : Int64) (6 : Int64)).bind fun v4 => zz_loop (fun st : (Int32 × Int32) => f_X12_word_L27 h a0 v2 h3 (st.1) (st.2)) (v4, (0 : Int32))
abbrev rm_X12_word : Room := { frames := 2, cells := 0, slots := 0, locals := 45 }
set_option maxRecDepth 100000 in
set_option maxHeartbeats 4000000 in
theorem c_X12_word {l : Launch} {D : va_G} {dA : Nat → ClassId} {A : Nat → Prop} {h : ZH} {n : Nat} (a0 : Nat) {r : Int32} {hx : ZH} (hf : f_X12_word h a0 = some (r, hx)) : Met l yX12_word (zz_ws yX12_word cX12_word 5 (some .int)) rm_X12_word (zz_P D dA A h n [.ref (a0)]) (zz_Q D dA A (some (.int r)) hx n) 0 0 A := by
  refine zz_met (by decide) (Nat.le_of_ble_eq_true rfl) ?_
  intro p e s m args below meth c ls S K hret hlk hnm hl Z
  replace hl : lv_has ls 5 [(0, .ref (a0))] := hl
  obtain ⟨K0, hR0, hk⟩ : ∃ K0 : (Int32 × ZH) → Prop, (∀ x, K0 x → x = (r, hx)) ∧ K0 (r, hx) := ⟨fun x => x = (r, hx), fun _ h => h, rfl⟩
  have J83 : ∀ (x3_14 : Int32) (h15 : ZH) (x : (Int32 × ZH)), f_X12_word_J83 h a0 x3_14 h15 = some x → K0 x → ∀ (H : Heap) (locs : List Loc) (ls : Array Slot), zz_B D dA A h15 n s.heap H locs → lv_has ls 5 [(3, .int (x3_14))] → zz_W p l e rm_X12_word s m args below meth c D dA A (some (.int r)) hx n 0 0 H locs 0 0 83 ls [] := by
    intro x3_14 h15 x hv hk H locs ls Z hl
    unfold f_X12_word_J83 at hv
    refine lv_iload_n S.1 S.2.1 dX12_word_83 rfl (lv_at hl 0 rfl) ?_
    refine lv_if_lt (tgt := 91) S.1 S.2.1 dX12_word_84 (by decide) (fun hc => ?_) (fun hc => ?_)
    · replace hv := (if_pos hc).symm.trans hv
      refine lv_bipush (v := (-5 : Int32)) S.1 S.2.1 dX12_word_91 (by decide) ?_
      replace hk := zz_fin hv hk
      obtain ⟨rfl, rfl⟩ := Prod.mk.inj (hR0 _ hk)
      exact zz_iret S Z hret hlk dX12_word_93 (Nat.le_refl _) (Nat.le_refl _)
    · replace hv := (if_neg hc).symm.trans hv
      refine lv_iload_n S.1 S.2.1 dX12_word_87 rfl (lv_at hl 0 rfl) ?_
      refine lv_goto (tgt := 93) S.1 S.2.1 dX12_word_88 (by decide) ?_
      replace hk := zz_fin hv hk
      obtain ⟨rfl, rfl⟩ := Prod.mk.inj (hR0 _ hk)
      exact zz_iret S Z hret hlk dX12_word_93 (Nat.le_refl _) (Nat.le_refl _)
  have L97 : ∀ (y1_18 : Int32) (st : (Int32 × ZH)) (x : (Int32 × ZH)), zz_loop (fun st : (Int32 × ZH) => f_X12_word_L97 h a0 y1_18 (st.1) (st.2)) st = some x → K0 x → (fun st : (Int32 × ZH) => ∀ (H : Heap) (locs : List Loc) (ls : Array Slot), zz_B D dA A (st.2) n s.heap H locs → lv_has ls 5 [(0, .ref (a0)), (1, .int (y1_18)), (4, .int ((st.1)))] → zz_W p l e rm_X12_word s m args below meth c D dA A (some (.int r)) hx n 0 0 H locs 0 0 97 ls []) st := by
    intro y1_18
    refine zz_loop_go (K := K0) ?_
    intro K1 hP1 hR1
    rintro ⟨x4_17, h19⟩ x hv hk H locs ls Z hl
    replace hv : f_X12_word_L97 h a0 y1_18 x4_17 h19 = some x := hv
    unfold f_X12_word_L97 at hv
    replace hl : lv_has ls 5 [(0, .ref (a0)), (1, .int (y1_18)), (4, .int (x4_17))] := hl
    replace Z : zz_B D dA A h19 n s.heap H locs := Z
    show zz_W p l e rm_X12_word s m args below meth c D dA A (some (.int r)) hx n 0 0 H locs 0 0 97 ls []
    refine lv_iload S.1 S.2.1 dX12_word_97 (lv_at hl 2 rfl) ?_
    refine lv_iload_n S.1 S.2.1 dX12_word_99 rfl (lv_at hl 1 rfl) ?_
    refine lv_icmp_ge (tgt := 131) S.1 S.2.1 dX12_word_100 (by decide) (fun hc => ?_) (fun hc => ?_)
    · replace hv := (if_pos hc).symm.trans hv
      obtain ⟨_, hv, hk⟩ := zz_mapk hv hk
      replace hk := hR1 _ hk
      refine lv_aload_n S.1 S.2.1 dX12_word_131 rfl (lv_at hl 0 rfl) ?_
      refine zz_gR S K Z hv zc_10 (by decide) gf_X12_20 dX12_word_132 (fun v20 hv => ?_)
      refine lv_aload_n S.1 S.2.1 dX12_word_135 rfl (lv_at hl 0 rfl) ?_
      refine zz_gI S K Z hv zc_10 (by decide) gf_X12_122 dX12_word_136 (fun v21 hv => ?_)
      refine lv_iload_n S.1 S.2.1 dX12_word_139 rfl (lv_at hl 1 rfl) ?_
      refine zz_iast S K Z hv dX12_word_140 (fun h22 H locs hv Z => ?_)
      refine lv_aload_n S.1 S.2.1 dX12_word_141 rfl (lv_at hl 0 rfl) ?_
      refine lv_dup S.1 S.2.1 dX12_word_142 rfl ?_
      refine zz_gI S K Z hv zc_10 (by decide) gf_X12_122 dX12_word_143 (fun v23 hv => ?_)
      refine lv_iconst (v := (1 : Int32)) S.1 S.2.1 dX12_word_146 (by decide) ?_
      refine lv_iadd S.1 S.2.1 dX12_word_147 ?_
      refine zz_put S K Z hv zc_10 (by decide) gf_X12_122 rfl rfl rfl dX12_word_148 (fun h24 H locs hv Z => ?_)
      refine lv_aload_n S.1 S.2.1 dX12_word_151 rfl (lv_at hl 0 rfl) ?_
      refine zz_gI S K Z hv zc_10 (by decide) gf_X12_122 dX12_word_152 (fun v25 hv => ?_)
      refine lv_iconst (v := (1 : Int32)) S.1 S.2.1 dX12_word_155 (by decide) ?_
      refine lv_isub S.1 S.2.1 dX12_word_156 ?_
      replace hk := zz_fin hv hk
      obtain ⟨rfl, rfl⟩ := Prod.mk.inj (hR0 _ hk)
      exact zz_iret S Z hret hlk dX12_word_157 (Nat.le_refl _) (Nat.le_refl _)
    · replace hv := (if_neg hc).symm.trans hv
      refine lv_aload_n S.1 S.2.1 dX12_word_103 rfl (lv_at hl 0 rfl) ?_
      refine zz_gR S K Z hv zc_10 (by decide) gf_X12_17 dX12_word_104 (fun v26 hv => ?_)
      refine lv_bipush (v := (6 : Int32)) S.1 S.2.1 dX12_word_107 (by decide) ?_
      refine lv_aload_n S.1 S.2.1 dX12_word_109 rfl (lv_at hl 0 rfl) ?_
      refine zz_gI S K Z hv zc_10 (by decide) gf_X12_122 dX12_word_110 (fun v27 hv => ?_)
      refine lv_imul S.1 S.2.1 dX12_word_113 ?_
      refine lv_iload S.1 S.2.1 dX12_word_114 (lv_at hl 2 rfl) ?_
      refine lv_iadd S.1 S.2.1 dX12_word_116 ?_
      refine lv_aload_n S.1 S.2.1 dX12_word_117 rfl (lv_at hl 0 rfl) ?_
      refine zz_gR S K Z hv zc_10 (by decide) gf_X12_13 dX12_word_118 (fun v28 hv => ?_)
      refine lv_iload S.1 S.2.1 dX12_word_121 (lv_at hl 2 rfl) ?_
      refine zz_iald S K Z hv dX12_word_123 (fun v29 hv => ?_)
      refine zz_iast S K Z hv dX12_word_124 (fun h30 H locs hv Z => ?_)
      refine lv_iinc (v := x4_17 + (1 : Int32)) (lv' := [(4, .int (x4_17 + (1 : Int32))), (0, .ref (a0)), (1, .int (y1_18))]) S.1 S.2.1 dX12_word_125 hl (k := 2) rfl rfl (by decide) rfl (fun ls hl => ?_)
      refine lv_goto (tgt := 97) S.1 S.2.1 dX12_word_128 (by decide) ?_
      replace hk := zz_fin hv hk
      exact hP1 _ hk H locs ls Z (lv_sub hl [1, 2, 0] rfl)
  have J52 : ∀ (x1_9 : Int32) (x2_10 : Int32) (h11 : ZH) (x : (Int32 × ZH)), f_X12_word_J52 h a0 x1_9 x2_10 h11 = some x → K0 x → ∀ (H : Heap) (locs : List Loc) (ls : Array Slot), zz_B D dA A h11 n s.heap H locs → lv_has ls 5 [(0, .ref (a0)), (1, .int (x1_9)), (2, .int (x2_10))] → zz_W p l e rm_X12_word s m args below meth c D dA A (some (.int r)) hx n 0 0 H locs 0 0 52 ls [] := by
    intro x1_9 x2_10 h11 x hv hk H locs ls Z hl
    unfold f_X12_word_J52 at hv
    refine lv_iload_n S.1 S.2.1 dX12_word_52 rfl (lv_at hl 2 rfl) ?_
    refine lv_if_ne (tgt := 59) S.1 S.2.1 dX12_word_53 (by decide) (fun hc => ?_) (fun hc => ?_)
    · replace hv := (if_neg hc).symm.trans hv
      refine lv_aload_n S.1 S.2.1 dX12_word_59 rfl (lv_at hl 0 rfl) ?_
      refine lv_aload_n S.1 S.2.1 dX12_word_60 rfl (lv_at hl 0 rfl) ?_
      refine zz_gR S K Z hv zc_10 (by decide) gf_X12_13 dX12_word_61 (fun v12 hv => ?_)
      refine lv_iconst (v := (0 : Int32)) S.1 S.2.1 dX12_word_64 (by decide) ?_
      refine lv_iload_n S.1 S.2.1 dX12_word_65 rfl (lv_at hl 1 rfl) ?_
      obtain ⟨hci, hv⟩ := zz_isO_s hv
      obtain ⟨v13, hq, hv⟩ := zz_bd hv
      refine zz_V [.ref (v12), .int ((0 : Int32)), .int (x1_9)] S K Z hci zc_10 rfl (c_X12_wordAt a0 v12 (0 : Int32) x1_9 hq) ⟨rfl, rfl⟩ gm_X12_wordAt gmv_X12_wordAt gl_X12_131 ⟨by decide, by decide⟩ rfl hl.1 rfl (Nat.le_of_ble_eq_true rfl) dX12_word_66 ⟨Nat.zero_le _, Nat.zero_le _⟩ (fun H locs Z => ?_)
      show W _ _ _ _ _ _ _ _ _ _ _ _ 0 0 _ (F0 m 69 ls [.int (v13)])
      refine lv_istore_n (lv' := [(3, .int (v13)), (0, .ref (a0)), (1, .int (x1_9)), (2, .int (x2_10))]) S.1 S.2.1 dX12_word_69 rfl hl (by decide) rfl (fun ls hl => ?_)
      refine lv_iload_n S.1 S.2.1 dX12_word_70 rfl (lv_at hl 0 rfl) ?_
      refine lv_if_ge (tgt := 83) S.1 S.2.1 dX12_word_71 (by decide) (fun hc => ?_) (fun hc => ?_)
      · replace hv := (if_pos hc).symm.trans hv
        exact J83 v13 h11 _ hv hk H locs ls Z (lv_sub hl [0] rfl)
      · replace hv := (if_neg hc).symm.trans hv
        refine lv_aload_n S.1 S.2.1 dX12_word_74 rfl (lv_at hl 1 rfl) ?_
        refine zz_gI S K Z hv zc_10 (by decide) gf_X12_122 dX12_word_75 (fun v16 hv => ?_)
        refine lv_bipush (v := (16 : Int32)) S.1 S.2.1 dX12_word_78 (by decide) ?_
        refine lv_icmp_ne (tgt := 94) S.1 S.2.1 dX12_word_80 (by decide) (fun hc => ?_) (fun hc => ?_)
        · replace hv := (if_neg hc).symm.trans hv
          refine lv_iconst (v := (0 : Int32)) S.1 S.2.1 dX12_word_94 (by decide) ?_
          refine lv_istore (lv' := [(4, .int ((0 : Int32))), (3, .int (v13)), (0, .ref (a0)), (1, .int (x1_9)), (2, .int (x2_10))]) S.1 S.2.1 dX12_word_95 hl (by decide) rfl (fun ls hl => ?_)
          exact L97 x1_9 ((0 : Int32), h11) _ hv hk H locs ls Z (lv_sub hl [2, 3, 0] rfl)
        · replace hv := (if_pos hc).symm.trans hv
          exact J83 v13 h11 _ hv hk H locs ls Z (lv_sub hl [0] rfl)
    · replace hv := (if_pos hc).symm.trans hv
      refine lv_bipush (v := (-3 : Int32)) S.1 S.2.1 dX12_word_56 (by decide) ?_
      replace hk := zz_fin hv hk
      obtain ⟨rfl, rfl⟩ := Prod.mk.inj (hR0 _ hk)
      exact zz_iret S Z hret hlk dX12_word_58 (Nat.le_refl _) (Nat.le_refl _)
  have L27 : ∀ (y1_7 : Int32) (h8 : ZH) (st : (Int32 × Int32)) (x : (Int32 × ZH)), zz_loop (fun st : (Int32 × Int32) => f_X12_word_L27 h a0 y1_7 h8 (st.1) (st.2)) st = some x → K0 x → (fun st : (Int32 × Int32) => ∀ (H : Heap) (locs : List Loc) (ls : Array Slot), zz_B D dA A h8 n s.heap H locs → lv_has ls 5 [(0, .ref (a0)), (1, .int (y1_7)), (2, .int ((st.1))), (3, .int ((st.2)))] → zz_W p l e rm_X12_word s m args below meth c D dA A (some (.int r)) hx n 0 0 H locs 0 0 27 ls []) st := by
    intro y1_7 h8
    refine zz_loop_go (K := K0) ?_
    intro K1 hP1 hR1
    rintro ⟨x2_5, x3_6⟩ x hv hk H locs ls Z hl
    replace hv : f_X12_word_L27 h a0 y1_7 h8 x2_5 x3_6 = some x := hv
    unfold f_X12_word_L27 at hv
    replace hl : lv_has ls 5 [(0, .ref (a0)), (1, .int (y1_7)), (2, .int (x2_5)), (3, .int (x3_6))] := hl
    replace Z : zz_B D dA A h8 n s.heap H locs := Z
    show zz_W p l e rm_X12_word s m args below meth c D dA A (some (.int r)) hx n 0 0 H locs 0 0 27 ls []
    refine lv_iload_n S.1 S.2.1 dX12_word_27 rfl (lv_at hl 3 rfl) ?_
    refine lv_iload_n S.1 S.2.1 dX12_word_28 rfl (lv_at hl 1 rfl) ?_
    refine lv_icmp_ge (tgt := 52) S.1 S.2.1 dX12_word_29 (by decide) (fun hc => ?_) (fun hc => ?_)
    · replace hv := (if_pos hc).symm.trans hv
      obtain ⟨_, hv, hk⟩ := zz_mapk hv hk
      replace hk := hR1 _ hk
      exact J52 y1_7 x2_5 h8 _ hv hk H locs ls Z (lv_sub hl [0, 1, 2] rfl)
    · replace hv := (if_neg hc).symm.trans hv
      refine lv_iload_n S.1 S.2.1 dX12_word_32 rfl (lv_at hl 2 rfl) ?_
      refine lv_if_eq (tgt := 52) S.1 S.2.1 dX12_word_33 (by decide) (fun hc => ?_) (fun hc => ?_)
      · replace hv := (if_pos hc).symm.trans hv
        obtain ⟨_, hv, hk⟩ := zz_mapk hv hk
        replace hk := hR1 _ hk
        exact J52 y1_7 x2_5 h8 _ hv hk H locs ls Z (lv_sub hl [0, 1, 2] rfl)
      · replace hv := (if_neg hc).symm.trans hv
        refine lv_aload_n S.1 S.2.1 dX12_word_36 rfl (lv_at hl 0 rfl) ?_
        refine zz_gR S K Z hv zc_10 (by decide) gf_X12_13 dX12_word_37 (fun v31 hv => ?_)
        refine lv_iload_n S.1 S.2.1 dX12_word_40 rfl (lv_at hl 3 rfl) ?_
        refine zz_iald S K Z hv dX12_word_41 (fun v32 hv => ?_)
        obtain ⟨v33, hq, hv⟩ := zz_bd hv
        refine zz_S [.int (v32)] S K Z (c_X12_isLetter v32 hq) ⟨rfl, rfl⟩ gm_X12_isLetter gs_X12_isLetter gl_X12_127 ⟨by decide, by decide⟩ rfl hl.1 rfl (Nat.le_of_ble_eq_true rfl) dX12_word_42 ⟨Nat.zero_le _, Nat.zero_le _⟩ (fun H locs Z => ?_)
        show W _ _ _ _ _ _ _ _ _ _ _ _ 0 0 _ (F0 m 45 ls [.int (v33)])
        refine lv_istore_n (lv' := [(2, .int (v33)), (0, .ref (a0)), (1, .int (y1_7)), (3, .int (x3_6))]) S.1 S.2.1 dX12_word_45 rfl hl (by decide) rfl (fun ls hl => ?_)
        refine lv_iinc (v := x3_6 + (1 : Int32)) (lv' := [(3, .int (x3_6 + (1 : Int32))), (2, .int (v33)), (0, .ref (a0)), (1, .int (y1_7))]) S.1 S.2.1 dX12_word_46 hl (k := 3) rfl rfl (by decide) rfl (fun ls hl => ?_)
        refine lv_goto (tgt := 27) S.1 S.2.1 dX12_word_49 (by decide) ?_
        replace hk := zz_fin hv hk
        exact hP1 _ hk H locs ls Z (lv_sub hl [2, 3, 1, 0] rfl)
  have hv := hf
  unfold f_X12_word at hv
  clear hf
  obtain ⟨x, hxx⟩ : ∃ x, x = (r, hx) := ⟨_, rfl⟩
  rw [← hxx] at hv hk
  have ⟨H, hH⟩ : ∃ H, H = s.heap := ⟨_, rfl⟩
  have ⟨locs, hlo⟩ : ∃ q : List Loc, q = [] := ⟨_, rfl⟩
  have Z : zz_B D dA A h n s.heap H locs := by rw [hH, hlo]; exact Z
  have key : zz_W p l e rm_X12_word s m args below meth c D dA A (some (.int r)) hx n 0 0 H locs 0 0 0 ls [] := by
    clear hH hlo hxx
    refine lv_aload_n S.1 S.2.1 dX12_word_0 rfl (lv_at hl 0 rfl) ?_
    refine lv_iconst (v := (0 : Int32)) S.1 S.2.1 dX12_word_1 (by decide) ?_
    refine zz_put S K Z hv zc_10 (by decide) gf_X12_1 rfl rfl rfl dX12_word_2 (fun h1 H locs hv Z => ?_)
    refine lv_aload_n S.1 S.2.1 dX12_word_5 rfl (lv_at hl 0 rfl) ?_
    refine zz_gI S K Z hv zc_10 (by decide) gf_X12_109 dX12_word_6 (fun v2 hv => ?_)
    refine lv_istore_n (lv' := [(1, .int (v2)), (0, .ref (a0))]) S.1 S.2.1 dX12_word_9 rfl hl (by decide) rfl (fun ls hl => ?_)
    refine lv_aload_n S.1 S.2.1 dX12_word_10 rfl (lv_at hl 1 rfl) ?_
    refine lv_iconst (v := (0 : Int32)) S.1 S.2.1 dX12_word_11 (by decide) ?_
    refine zz_put S K Z hv zc_10 (by decide) gf_X12_109 rfl rfl rfl dX12_word_12 (fun h3 H locs hv Z => ?_)
    refine lv_iload_n S.1 S.2.1 dX12_word_15 rfl (lv_at hl 0 rfl) ?_
    refine lv_i2l S.1 S.2.1 dX12_word_16 rfl ?_
    refine lv_lconst (v := (1 : Int64)) S.1 S.2.1 dX12_word_17 (by decide) ?_
    refine lv_ldc2 (v := (6 : Int64)) S.1 S.2.1 S.2.2.2.1 (S.2.2.2.2 _ gk_X12_125) dX12_word_18 ?_
    obtain ⟨v4, hq, hv⟩ := zz_bd hv
    refine zz_S [.long (v2.toInt64), .long ((1 : Int64)), .long ((6 : Int64))] S K Z (c_X12_in (v2.toInt64) (1 : Int64) (6 : Int64) hq) ⟨rfl, rfl⟩ gm_X12_in gs_X12_in gl_X12_105 ⟨by decide, by decide⟩ rfl hl.1 rfl (Nat.le_of_ble_eq_true rfl) dX12_word_21 ⟨Nat.zero_le _, Nat.zero_le _⟩ (fun H locs Z => ?_)
    show W _ _ _ _ _ _ _ _ _ _ _ _ 0 0 _ (F0 m 24 ls [.int (v4)])
    refine lv_istore_n (lv' := [(2, .int (v4)), (1, .int (v2)), (0, .ref (a0))]) S.1 S.2.1 dX12_word_24 rfl hl (by decide) rfl (fun ls hl => ?_)
    refine lv_iconst (v := (0 : Int32)) S.1 S.2.1 dX12_word_25 (by decide) ?_
    refine lv_istore_n (lv' := [(3, .int ((0 : Int32))), (2, .int (v4)), (1, .int (v2)), (0, .ref (a0))]) S.1 S.2.1 dX12_word_26 rfl hl (by decide) rfl (fun ls hl => ?_)
    exact L27 v2 h3 (v4, (0 : Int32)) _ hv hk H locs ls Z (lv_sub hl [3, 2, 1, 0] rfl)
  rw [hH, hlo] at key
  exact key

noncomputable def f_X12_text_L75 (h : ZH) (a0 : Nat) (y1_16 : Int32) (x3_15 : Int32) (h17 : ZH)  : Option ((Int32 × ZH) ⊕ (Int32 × ZH)) :=
  if y1_16 ≤ x3_15 then (((zg_R h17 a0 10 9).bind fun v18 => (zg_I h17 a0 10 7).bind fun v19 => (zs_I h17 v18 1 v19 y1_16).bind fun h20 => (zg_I h20 a0 10 7).bind fun v21 => (zp_V h20 a0 10 7 (.int (v21 + (1 : Int32)))).bind fun h22 => (zg_I h22 a0 10 7).bind fun v23 => some ((v23 - (1 : Int32), h22))).map Sum.inr) else ((zg_R h17 a0 10 8).bind fun v24 => (zg_I h17 a0 10 7).bind fun v25 => (zg_R h17 a0 10 1).bind fun v26 => (zl_I h17 v26 1 x3_15).bind fun v27 => (zs_I h17 v24 1 (((20 : Int32) * v25) + x3_15) v27).bind fun h28 => some (.inl (x3_15 + (1 : Int32), h28)))
noncomputable def f_X12_text_J54 (h : ZH) (a0 : Nat) (x1_11 : Int32) (x2_12 : Int32) (h13 : ZH) : Option (Int32 × ZH) :=
  if x2_12 = 0 then (some (((-3 : Int32), h13))) else ((zg_I h13 a0 10 7).bind fun v14 => if v14 = (24 : Int32) then (some (((-5 : Int32), h13))) else (zz_loop (fun st : (Int32 × ZH) => f_X12_text_L75 h a0 x1_11 (st.1) (st.2)) ((0 : Int32), h13)))
noncomputable def f_X12_text_L29 (h : ZH) (a0 : Nat) (y1_9 : Int32) (h10 : ZH) (x2_7 : Int32) (x3_8 : Int32)  : Option ((Int32 × Int32) ⊕ (Int32 × ZH)) :=
  if y1_9 ≤ x3_8 then ((f_X12_text_J54 h a0 y1_9 x2_7 h10).map Sum.inr) else (if x2_7 = 0 then ((f_X12_text_J54 h a0 y1_9 x2_7 h10).map Sum.inr) else ((zg_R h10 a0 10 1).bind fun v29 => (zl_I h10 v29 1 x3_8).bind fun v30 => (f_X12_isSign h10 v30).bind fun v31 => some (.inl (v31, x3_8 + (1 : Int32)))))
noncomputable def f_X12_text_J26 (h : ZH) (a0 : Nat) (x1_4 : Int32) (s5 : Int32) (h6 : ZH) : Option (Int32 × ZH) :=
  zz_loop (fun st : (Int32 × Int32) => f_X12_text_L29 h a0 x1_4 h6 (st.1) (st.2)) (s5, (0 : Int32))
noncomputable def f_X12_text (h : ZH) (a0 : Nat) : Option (Int32 × ZH) :=
  (zp_V h a0 10 0 (.int ((0 : Int32)))).bind fun h1 => (zg_I h1 a0 10 2).bind fun v2 => (zp_V h1 a0 10 2 (.int ((0 : Int32)))).bind fun h3 => if (20 : Int32) < v2 then (f_X12_text_J26 h a0 v2 (0 : Int32) h3) else (f_X12_text_J26 h a0 v2 (1 : Int32) h3)
abbrev rm_X12_text : Room := { frames := 2, cells := 0, slots := 0, locals := 45 }
set_option maxRecDepth 100000 in
set_option maxHeartbeats 4000000 in
theorem c_X12_text {l : Launch} {D : va_G} {dA : Nat → ClassId} {A : Nat → Prop} {h : ZH} {n : Nat} (a0 : Nat) {r : Int32} {hx : ZH} (hf : f_X12_text h a0 = some (r, hx)) : Met l yX12_text (zz_ws yX12_text cX12_text 4 (some .int)) rm_X12_text (zz_P D dA A h n [.ref (a0)]) (zz_Q D dA A (some (.int r)) hx n) 0 0 A := by
  refine zz_met (by decide) (Nat.le_of_ble_eq_true rfl) ?_
  intro p e s m args below meth c ls S K hret hlk hnm hl Z
  replace hl : lv_has ls 4 [(0, .ref (a0))] := hl
  obtain ⟨K0, hR0, hk⟩ : ∃ K0 : (Int32 × ZH) → Prop, (∀ x, K0 x → x = (r, hx)) ∧ K0 (r, hx) := ⟨fun x => x = (r, hx), fun _ h => h, rfl⟩
  have L75 : ∀ (y1_16 : Int32) (st : (Int32 × ZH)) (x : (Int32 × ZH)), zz_loop (fun st : (Int32 × ZH) => f_X12_text_L75 h a0 y1_16 (st.1) (st.2)) st = some x → K0 x → (fun st : (Int32 × ZH) => ∀ (H : Heap) (locs : List Loc) (ls : Array Slot), zz_B D dA A (st.2) n s.heap H locs → lv_has ls 4 [(0, .ref (a0)), (1, .int (y1_16)), (3, .int ((st.1)))] → zz_W p l e rm_X12_text s m args below meth c D dA A (some (.int r)) hx n 0 0 H locs 0 0 75 ls []) st := by
    intro y1_16
    refine zz_loop_go (K := K0) ?_
    intro K1 hP1 hR1
    rintro ⟨x3_15, h17⟩ x hv hk H locs ls Z hl
    replace hv : f_X12_text_L75 h a0 y1_16 x3_15 h17 = some x := hv
    unfold f_X12_text_L75 at hv
    replace hl : lv_has ls 4 [(0, .ref (a0)), (1, .int (y1_16)), (3, .int (x3_15))] := hl
    replace Z : zz_B D dA A h17 n s.heap H locs := Z
    show zz_W p l e rm_X12_text s m args below meth c D dA A (some (.int r)) hx n 0 0 H locs 0 0 75 ls []
    refine lv_iload_n S.1 S.2.1 dX12_text_75 rfl (lv_at hl 2 rfl) ?_
    refine lv_iload_n S.1 S.2.1 dX12_text_76 rfl (lv_at hl 1 rfl) ?_
    refine lv_icmp_ge (tgt := 106) S.1 S.2.1 dX12_text_77 (by decide) (fun hc => ?_) (fun hc => ?_)
    · replace hv := (if_pos hc).symm.trans hv
      obtain ⟨_, hv, hk⟩ := zz_mapk hv hk
      replace hk := hR1 _ hk
      refine lv_aload_n S.1 S.2.1 dX12_text_106 rfl (lv_at hl 0 rfl) ?_
      refine zz_gR S K Z hv zc_10 (by decide) gf_X12_26 dX12_text_107 (fun v18 hv => ?_)
      refine lv_aload_n S.1 S.2.1 dX12_text_110 rfl (lv_at hl 0 rfl) ?_
      refine zz_gI S K Z hv zc_10 (by decide) gf_X12_138 dX12_text_111 (fun v19 hv => ?_)
      refine lv_iload_n S.1 S.2.1 dX12_text_114 rfl (lv_at hl 1 rfl) ?_
      refine zz_iast S K Z hv dX12_text_115 (fun h20 H locs hv Z => ?_)
      refine lv_aload_n S.1 S.2.1 dX12_text_116 rfl (lv_at hl 0 rfl) ?_
      refine lv_dup S.1 S.2.1 dX12_text_117 rfl ?_
      refine zz_gI S K Z hv zc_10 (by decide) gf_X12_138 dX12_text_118 (fun v21 hv => ?_)
      refine lv_iconst (v := (1 : Int32)) S.1 S.2.1 dX12_text_121 (by decide) ?_
      refine lv_iadd S.1 S.2.1 dX12_text_122 ?_
      refine zz_put S K Z hv zc_10 (by decide) gf_X12_138 rfl rfl rfl dX12_text_123 (fun h22 H locs hv Z => ?_)
      refine lv_aload_n S.1 S.2.1 dX12_text_126 rfl (lv_at hl 0 rfl) ?_
      refine zz_gI S K Z hv zc_10 (by decide) gf_X12_138 dX12_text_127 (fun v23 hv => ?_)
      refine lv_iconst (v := (1 : Int32)) S.1 S.2.1 dX12_text_130 (by decide) ?_
      refine lv_isub S.1 S.2.1 dX12_text_131 ?_
      replace hk := zz_fin hv hk
      obtain ⟨rfl, rfl⟩ := Prod.mk.inj (hR0 _ hk)
      exact zz_iret S Z hret hlk dX12_text_132 (Nat.le_refl _) (Nat.le_refl _)
    · replace hv := (if_neg hc).symm.trans hv
      refine lv_aload_n S.1 S.2.1 dX12_text_80 rfl (lv_at hl 0 rfl) ?_
      refine zz_gR S K Z hv zc_10 (by decide) gf_X12_23 dX12_text_81 (fun v24 hv => ?_)
      refine lv_bipush (v := (20 : Int32)) S.1 S.2.1 dX12_text_84 (by decide) ?_
      refine lv_aload_n S.1 S.2.1 dX12_text_86 rfl (lv_at hl 0 rfl) ?_
      refine zz_gI S K Z hv zc_10 (by decide) gf_X12_138 dX12_text_87 (fun v25 hv => ?_)
      refine lv_imul S.1 S.2.1 dX12_text_90 ?_
      refine lv_iload_n S.1 S.2.1 dX12_text_91 rfl (lv_at hl 2 rfl) ?_
      refine lv_iadd S.1 S.2.1 dX12_text_92 ?_
      refine lv_aload_n S.1 S.2.1 dX12_text_93 rfl (lv_at hl 0 rfl) ?_
      refine zz_gR S K Z hv zc_10 (by decide) gf_X12_13 dX12_text_94 (fun v26 hv => ?_)
      refine lv_iload_n S.1 S.2.1 dX12_text_97 rfl (lv_at hl 2 rfl) ?_
      refine zz_iald S K Z hv dX12_text_98 (fun v27 hv => ?_)
      refine zz_iast S K Z hv dX12_text_99 (fun h28 H locs hv Z => ?_)
      refine lv_iinc (v := x3_15 + (1 : Int32)) (lv' := [(3, .int (x3_15 + (1 : Int32))), (0, .ref (a0)), (1, .int (y1_16))]) S.1 S.2.1 dX12_text_100 hl (k := 2) rfl rfl (by decide) rfl (fun ls hl => ?_)
      refine lv_goto (tgt := 75) S.1 S.2.1 dX12_text_103 (by decide) ?_
      replace hk := zz_fin hv hk
      exact hP1 _ hk H locs ls Z (lv_sub hl [1, 2, 0] rfl)
  have J54 : ∀ (x1_11 : Int32) (x2_12 : Int32) (h13 : ZH) (x : (Int32 × ZH)), f_X12_text_J54 h a0 x1_11 x2_12 h13 = some x → K0 x → ∀ (H : Heap) (locs : List Loc) (ls : Array Slot), zz_B D dA A h13 n s.heap H locs → lv_has ls 4 [(0, .ref (a0)), (1, .int (x1_11)), (2, .int (x2_12))] → zz_W p l e rm_X12_text s m args below meth c D dA A (some (.int r)) hx n 0 0 H locs 0 0 54 ls [] := by
    intro x1_11 x2_12 h13 x hv hk H locs ls Z hl
    unfold f_X12_text_J54 at hv
    refine lv_iload_n S.1 S.2.1 dX12_text_54 rfl (lv_at hl 2 rfl) ?_
    refine lv_if_ne (tgt := 61) S.1 S.2.1 dX12_text_55 (by decide) (fun hc => ?_) (fun hc => ?_)
    · replace hv := (if_neg hc).symm.trans hv
      refine lv_aload_n S.1 S.2.1 dX12_text_61 rfl (lv_at hl 0 rfl) ?_
      refine zz_gI S K Z hv zc_10 (by decide) gf_X12_138 dX12_text_62 (fun v14 hv => ?_)
      refine lv_bipush (v := (24 : Int32)) S.1 S.2.1 dX12_text_65 (by decide) ?_
      refine lv_icmp_ne (tgt := 73) S.1 S.2.1 dX12_text_67 (by decide) (fun hc => ?_) (fun hc => ?_)
      · replace hv := (if_neg hc).symm.trans hv
        refine lv_iconst (v := (0 : Int32)) S.1 S.2.1 dX12_text_73 (by decide) ?_
        refine lv_istore_n (lv' := [(3, .int ((0 : Int32))), (0, .ref (a0)), (1, .int (x1_11)), (2, .int (x2_12))]) S.1 S.2.1 dX12_text_74 rfl hl (by decide) rfl (fun ls hl => ?_)
        exact L75 x1_11 ((0 : Int32), h13) _ hv hk H locs ls Z (lv_sub hl [1, 2, 0] rfl)
      · replace hv := (if_pos hc).symm.trans hv
        refine lv_bipush (v := (-5 : Int32)) S.1 S.2.1 dX12_text_70 (by decide) ?_
        replace hk := zz_fin hv hk
        obtain ⟨rfl, rfl⟩ := Prod.mk.inj (hR0 _ hk)
        exact zz_iret S Z hret hlk dX12_text_72 (Nat.le_refl _) (Nat.le_refl _)
    · replace hv := (if_pos hc).symm.trans hv
      refine lv_bipush (v := (-3 : Int32)) S.1 S.2.1 dX12_text_58 (by decide) ?_
      replace hk := zz_fin hv hk
      obtain ⟨rfl, rfl⟩ := Prod.mk.inj (hR0 _ hk)
      exact zz_iret S Z hret hlk dX12_text_60 (Nat.le_refl _) (Nat.le_refl _)
  have L29 : ∀ (y1_9 : Int32) (h10 : ZH) (st : (Int32 × Int32)) (x : (Int32 × ZH)), zz_loop (fun st : (Int32 × Int32) => f_X12_text_L29 h a0 y1_9 h10 (st.1) (st.2)) st = some x → K0 x → (fun st : (Int32 × Int32) => ∀ (H : Heap) (locs : List Loc) (ls : Array Slot), zz_B D dA A h10 n s.heap H locs → lv_has ls 4 [(0, .ref (a0)), (1, .int (y1_9)), (2, .int ((st.1))), (3, .int ((st.2)))] → zz_W p l e rm_X12_text s m args below meth c D dA A (some (.int r)) hx n 0 0 H locs 0 0 29 ls []) st := by
    intro y1_9 h10
    refine zz_loop_go (K := K0) ?_
    intro K1 hP1 hR1
    rintro ⟨x2_7, x3_8⟩ x hv hk H locs ls Z hl
    replace hv : f_X12_text_L29 h a0 y1_9 h10 x2_7 x3_8 = some x := hv
    unfold f_X12_text_L29 at hv
    replace hl : lv_has ls 4 [(0, .ref (a0)), (1, .int (y1_9)), (2, .int (x2_7)), (3, .int (x3_8))] := hl
    replace Z : zz_B D dA A h10 n s.heap H locs := Z
    show zz_W p l e rm_X12_text s m args below meth c D dA A (some (.int r)) hx n 0 0 H locs 0 0 29 ls []
    refine lv_iload_n S.1 S.2.1 dX12_text_29 rfl (lv_at hl 3 rfl) ?_
    refine lv_iload_n S.1 S.2.1 dX12_text_30 rfl (lv_at hl 1 rfl) ?_
    refine lv_icmp_ge (tgt := 54) S.1 S.2.1 dX12_text_31 (by decide) (fun hc => ?_) (fun hc => ?_)
    · replace hv := (if_pos hc).symm.trans hv
      obtain ⟨_, hv, hk⟩ := zz_mapk hv hk
      replace hk := hR1 _ hk
      exact J54 y1_9 x2_7 h10 _ hv hk H locs ls Z (lv_sub hl [0, 1, 2] rfl)
    · replace hv := (if_neg hc).symm.trans hv
      refine lv_iload_n S.1 S.2.1 dX12_text_34 rfl (lv_at hl 2 rfl) ?_
      refine lv_if_eq (tgt := 54) S.1 S.2.1 dX12_text_35 (by decide) (fun hc => ?_) (fun hc => ?_)
      · replace hv := (if_pos hc).symm.trans hv
        obtain ⟨_, hv, hk⟩ := zz_mapk hv hk
        replace hk := hR1 _ hk
        exact J54 y1_9 x2_7 h10 _ hv hk H locs ls Z (lv_sub hl [0, 1, 2] rfl)
      · replace hv := (if_neg hc).symm.trans hv
        refine lv_aload_n S.1 S.2.1 dX12_text_38 rfl (lv_at hl 0 rfl) ?_
        refine zz_gR S K Z hv zc_10 (by decide) gf_X12_13 dX12_text_39 (fun v29 hv => ?_)
        refine lv_iload_n S.1 S.2.1 dX12_text_42 rfl (lv_at hl 3 rfl) ?_
        refine zz_iald S K Z hv dX12_text_43 (fun v30 hv => ?_)
        obtain ⟨v31, hq, hv⟩ := zz_bd hv
        refine zz_S [.int (v30)] S K Z (c_X12_isSign v30 hq) ⟨rfl, rfl⟩ gm_X12_isSign gs_X12_isSign gl_X12_135 ⟨by decide, by decide⟩ rfl hl.1 rfl (Nat.le_of_ble_eq_true rfl) dX12_text_44 ⟨Nat.zero_le _, Nat.zero_le _⟩ (fun H locs Z => ?_)
        show W _ _ _ _ _ _ _ _ _ _ _ _ 0 0 _ (F0 m 47 ls [.int (v31)])
        refine lv_istore_n (lv' := [(2, .int (v31)), (0, .ref (a0)), (1, .int (y1_9)), (3, .int (x3_8))]) S.1 S.2.1 dX12_text_47 rfl hl (by decide) rfl (fun ls hl => ?_)
        refine lv_iinc (v := x3_8 + (1 : Int32)) (lv' := [(3, .int (x3_8 + (1 : Int32))), (2, .int (v31)), (0, .ref (a0)), (1, .int (y1_9))]) S.1 S.2.1 dX12_text_48 hl (k := 3) rfl rfl (by decide) rfl (fun ls hl => ?_)
        refine lv_goto (tgt := 29) S.1 S.2.1 dX12_text_51 (by decide) ?_
        replace hk := zz_fin hv hk
        exact hP1 _ hk H locs ls Z (lv_sub hl [2, 3, 1, 0] rfl)
  have J26 : ∀ (x1_4 : Int32) (s5 : Int32) (h6 : ZH) (x : (Int32 × ZH)), f_X12_text_J26 h a0 x1_4 s5 h6 = some x → K0 x → ∀ (H : Heap) (locs : List Loc) (ls : Array Slot), zz_B D dA A h6 n s.heap H locs → lv_has ls 4 [(0, .ref (a0)), (1, .int (x1_4))] → zz_W p l e rm_X12_text s m args below meth c D dA A (some (.int r)) hx n 0 0 H locs 0 0 26 ls [.int (s5)] := by
    intro x1_4 s5 h6 x hv hk H locs ls Z hl
    unfold f_X12_text_J26 at hv
    refine lv_istore_n (lv' := [(2, .int (s5)), (0, .ref (a0)), (1, .int (x1_4))]) S.1 S.2.1 dX12_text_26 rfl hl (by decide) rfl (fun ls hl => ?_)
    refine lv_iconst (v := (0 : Int32)) S.1 S.2.1 dX12_text_27 (by decide) ?_
    refine lv_istore_n (lv' := [(3, .int ((0 : Int32))), (2, .int (s5)), (0, .ref (a0)), (1, .int (x1_4))]) S.1 S.2.1 dX12_text_28 rfl hl (by decide) rfl (fun ls hl => ?_)
    exact L29 x1_4 h6 (s5, (0 : Int32)) _ hv hk H locs ls Z (lv_sub hl [2, 3, 1, 0] rfl)
  have hv := hf
  unfold f_X12_text at hv
  clear hf
  obtain ⟨x, hxx⟩ : ∃ x, x = (r, hx) := ⟨_, rfl⟩
  rw [← hxx] at hv hk
  have ⟨H, hH⟩ : ∃ H, H = s.heap := ⟨_, rfl⟩
  have ⟨locs, hlo⟩ : ∃ q : List Loc, q = [] := ⟨_, rfl⟩
  have Z : zz_B D dA A h n s.heap H locs := by rw [hH, hlo]; exact Z
  have key : zz_W p l e rm_X12_text s m args below meth c D dA A (some (.int r)) hx n 0 0 H locs 0 0 0 ls [] := by
    clear hH hlo hxx
    refine lv_aload_n S.1 S.2.1 dX12_text_0 rfl (lv_at hl 0 rfl) ?_
    refine lv_iconst (v := (0 : Int32)) S.1 S.2.1 dX12_text_1 (by decide) ?_
    refine zz_put S K Z hv zc_10 (by decide) gf_X12_1 rfl rfl rfl dX12_text_2 (fun h1 H locs hv Z => ?_)
    refine lv_aload_n S.1 S.2.1 dX12_text_5 rfl (lv_at hl 0 rfl) ?_
    refine zz_gI S K Z hv zc_10 (by decide) gf_X12_109 dX12_text_6 (fun v2 hv => ?_)
    refine lv_istore_n (lv' := [(1, .int (v2)), (0, .ref (a0))]) S.1 S.2.1 dX12_text_9 rfl hl (by decide) rfl (fun ls hl => ?_)
    refine lv_aload_n S.1 S.2.1 dX12_text_10 rfl (lv_at hl 1 rfl) ?_
    refine lv_iconst (v := (0 : Int32)) S.1 S.2.1 dX12_text_11 (by decide) ?_
    refine zz_put S K Z hv zc_10 (by decide) gf_X12_109 rfl rfl rfl dX12_text_12 (fun h3 H locs hv Z => ?_)
    refine lv_iload_n S.1 S.2.1 dX12_text_15 rfl (lv_at hl 0 rfl) ?_
    refine lv_bipush (v := (20 : Int32)) S.1 S.2.1 dX12_text_16 (by decide) ?_
    refine lv_icmp_gt (tgt := 25) S.1 S.2.1 dX12_text_18 (by decide) (fun hc => ?_) (fun hc => ?_)
    · replace hv := (if_pos hc).symm.trans hv
      refine lv_iconst (v := (0 : Int32)) S.1 S.2.1 dX12_text_25 (by decide) ?_
      exact J26 v2 (0 : Int32) h3 _ hv hk H locs ls Z (lv_sub hl [1, 0] rfl)
    · replace hv := (if_neg hc).symm.trans hv
      refine lv_iconst (v := (1 : Int32)) S.1 S.2.1 dX12_text_21 (by decide) ?_
      refine lv_goto (tgt := 26) S.1 S.2.1 dX12_text_22 (by decide) ?_
      exact J26 v2 (1 : Int32) h3 _ hv hk H locs ls Z (lv_sub hl [1, 0] rfl)
  rw [hH, hlo] at key
  exact key

noncomputable def f_X12_actFits (h : ZH) (a0 : Int32) (a1 : Int32) (a2 : Int32) : Option (Int32) :=
  if a0 = (0 : Int32) then (some ((1 : Int32))) else (if a0 = (1 : Int32) then ((f_X12_in h (a1.toInt64) (0 : Int64) (7 : Int64)).bind fun v1 => if v1 = 0 then (some ((0 : Int32))) else ((f_X12_in h (a2.toInt64) (-1000 : Int64) (1000 : Int64)).bind fun v2 => if v2 = 0 then (some ((0 : Int32))) else (some ((1 : Int32))))) else (if a0 = (2 : Int32) then ((f_X12_in h (a1.toInt64) (0 : Int64) (7 : Int64)).bind fun v3 => if v3 = 0 then (some ((0 : Int32))) else ((f_X12_in h (a2.toInt64) (0 : Int64) (7 : Int64)).bind fun v4 => if v4 = 0 then (some ((0 : Int32))) else (some ((1 : Int32))))) else (if a0 = (3 : Int32) then ((f_X12_in h (a1.toInt64) (0 : Int64) (3 : Int64)).bind fun v5 => if v5 = 0 then (some ((0 : Int32))) else ((f_X12_in h (a2.toInt64) (0 : Int64) (7 : Int64)).bind fun v6 => if v6 = 0 then (some ((0 : Int32))) else (some ((1 : Int32))))) else (if a0 = (4 : Int32) then ((f_X12_in h (a1.toInt64) (0 : Int64) (3 : Int64)).bind fun v7 => zz_ok (v7 = 0 ∨ v7 = 1) <| some (v7)) else (if a0 = (5 : Int32) then ((f_X12_in h (a1.toInt64) (0 : Int64) (7 : Int64)).bind fun v8 => if v8 = 0 then (some ((0 : Int32))) else ((f_X12_in h (a2.toInt64) (1 : Int64) (100 : Int64)).bind fun v9 => if v9 = 0 then (some ((0 : Int32))) else (some ((1 : Int32))))) else (if a0 = (6 : Int32) then ((f_X12_in h (a1.toInt64) (1 : Int64) (9 : Int64)).bind fun v10 => zz_ok (v10 = 0 ∨ v10 = 1) <| some (v10)) else (some ((0 : Int32)))))))))
abbrev rm_X12_actFits : Room := { frames := 1, cells := 0, slots := 0, locals := 25 }
set_option maxRecDepth 100000 in
set_option maxHeartbeats 4000000 in
theorem c_X12_actFits {l : Launch} {D : va_G} {dA : Nat → ClassId} {A : Nat → Prop} {h : ZH} {n : Nat} (a0 : Int32) (a1 : Int32) (a2 : Int32) {r : Int32} (hf : f_X12_actFits h a0 a1 a2 = some r) : Met l yX12_actFits (zz_ws yX12_actFits cX12_actFits 3 (some .boolean)) rm_X12_actFits (zz_P D dA A h n [.int (a0), .int (a1), .int (a2)]) (zz_Q D dA A (some (.int r)) h n) 0 0 A := by
  refine zz_met (by decide) (Nat.le_of_ble_eq_true rfl) ?_
  intro p e s m args below meth c ls S K hret hlk hnm hl Z
  replace hl : lv_has ls 3 [(0, .int (a0)), (1, .int (a1)), (2, .int (a2))] := hl
  obtain ⟨K0, hR0, hk⟩ : ∃ K0 : (Int32) → Prop, (∀ x, K0 x → x = r) ∧ K0 r := ⟨fun x => x = r, fun _ h => h, rfl⟩
  have hv := hf
  unfold f_X12_actFits at hv
  clear hf
  obtain ⟨x, hxx⟩ : ∃ x, x = r := ⟨_, rfl⟩
  rw [← hxx] at hv hk
  have ⟨H, hH⟩ : ∃ H, H = s.heap := ⟨_, rfl⟩
  have ⟨locs, hlo⟩ : ∃ q : List Loc, q = [] := ⟨_, rfl⟩
  have Z : zz_B D dA A h n s.heap H locs := by rw [hH, hlo]; exact Z
  have key : zz_W p l e rm_X12_actFits s m args below meth c D dA A (some (.int r)) h n 0 0 H locs 0 0 0 ls [] := by
    clear hH hlo hxx
    refine lv_iload_n S.1 S.2.1 dX12_actFits_0 rfl (lv_at hl 0 rfl) ?_
    by_cases hc0 : a0 = (0 : Int32)
    · replace hv := (if_pos hc0).symm.trans hv
      refine lv_tableIn (tgt := 44) S.1 S.2.1 dX12_actFits_1 (by rw [hc0]; decide) (by rw [hc0]; decide) (by rw [hc0]; rfl) (by decide) ?_
      refine lv_iconst (v := (1 : Int32)) S.1 S.2.1 dX12_actFits_44 (by decide) ?_
      replace hk := zz_fin hv hk
      obtain rfl := hR0 _ hk
      exact zz_zret S Z hret (by decide) hlk dX12_actFits_45 (Nat.le_refl _) (Nat.le_refl _)
    · replace hv := (if_neg hc0).symm.trans hv
      by_cases hc1 : a0 = (1 : Int32)
      · replace hv := (if_pos hc1).symm.trans hv
        refine lv_tableIn (tgt := 46) S.1 S.2.1 dX12_actFits_1 (by rw [hc1]; decide) (by rw [hc1]; decide) (by rw [hc1]; rfl) (by decide) ?_
        refine lv_iload_n S.1 S.2.1 dX12_actFits_46 rfl (lv_at hl 1 rfl) ?_
        refine lv_i2l S.1 S.2.1 dX12_actFits_47 rfl ?_
        refine lv_lconst (v := (0 : Int64)) S.1 S.2.1 dX12_actFits_48 (by decide) ?_
        refine lv_ldc2 (v := (7 : Int64)) S.1 S.2.1 S.2.2.2.1 (S.2.2.2.2 _ gk_X12_141) dX12_actFits_49 ?_
        obtain ⟨v1, hq, hv⟩ := zz_bd hv
        refine zz_S [.long (a1.toInt64), .long ((0 : Int64)), .long ((7 : Int64))] S K Z (c_X12_in (a1.toInt64) (0 : Int64) (7 : Int64) hq) ⟨rfl, rfl⟩ gm_X12_in gs_X12_in gl_X12_105 ⟨by decide, by decide⟩ rfl hl.1 rfl (Nat.le_of_ble_eq_true rfl) dX12_actFits_52 ⟨Nat.zero_le _, Nat.zero_le _⟩ (fun H locs Z => ?_)
        show W _ _ _ _ _ _ _ _ _ _ _ _ 0 0 _ (F0 m 55 ls [.int (v1)])
        refine lv_if_eq (tgt := 76) S.1 S.2.1 dX12_actFits_55 (by decide) (fun hc => ?_) (fun hc => ?_)
        · replace hv := (if_pos hc).symm.trans hv
          refine lv_iconst (v := (0 : Int32)) S.1 S.2.1 dX12_actFits_76 (by decide) ?_
          replace hk := zz_fin hv hk
          obtain rfl := hR0 _ hk
          exact zz_zret S Z hret (by decide) hlk dX12_actFits_77 (Nat.le_refl _) (Nat.le_refl _)
        · replace hv := (if_neg hc).symm.trans hv
          refine lv_iload_n S.1 S.2.1 dX12_actFits_58 rfl (lv_at hl 2 rfl) ?_
          refine lv_i2l S.1 S.2.1 dX12_actFits_59 rfl ?_
          refine lv_ldc2 (v := (-1000 : Int64)) S.1 S.2.1 S.2.2.2.1 (S.2.2.2.2 _ gk_X12_143) dX12_actFits_60 ?_
          refine lv_ldc2 (v := (1000 : Int64)) S.1 S.2.1 S.2.2.2.1 (S.2.2.2.2 _ gk_X12_145) dX12_actFits_63 ?_
          obtain ⟨v2, hq, hv⟩ := zz_bd hv
          refine zz_S [.long (a2.toInt64), .long ((-1000 : Int64)), .long ((1000 : Int64))] S K Z (c_X12_in (a2.toInt64) (-1000 : Int64) (1000 : Int64) hq) ⟨rfl, rfl⟩ gm_X12_in gs_X12_in gl_X12_105 ⟨by decide, by decide⟩ rfl hl.1 rfl (Nat.le_of_ble_eq_true rfl) dX12_actFits_66 ⟨Nat.zero_le _, Nat.zero_le _⟩ (fun H locs Z => ?_)
          show W _ _ _ _ _ _ _ _ _ _ _ _ 0 0 _ (F0 m 69 ls [.int (v2)])
          refine lv_if_eq (tgt := 76) S.1 S.2.1 dX12_actFits_69 (by decide) (fun hc => ?_) (fun hc => ?_)
          · replace hv := (if_pos hc).symm.trans hv
            refine lv_iconst (v := (0 : Int32)) S.1 S.2.1 dX12_actFits_76 (by decide) ?_
            replace hk := zz_fin hv hk
            obtain rfl := hR0 _ hk
            exact zz_zret S Z hret (by decide) hlk dX12_actFits_77 (Nat.le_refl _) (Nat.le_refl _)
          · replace hv := (if_neg hc).symm.trans hv
            refine lv_iconst (v := (1 : Int32)) S.1 S.2.1 dX12_actFits_72 (by decide) ?_
            refine lv_goto (tgt := 77) S.1 S.2.1 dX12_actFits_73 (by decide) ?_
            replace hk := zz_fin hv hk
            obtain rfl := hR0 _ hk
            exact zz_zret S Z hret (by decide) hlk dX12_actFits_77 (Nat.le_refl _) (Nat.le_refl _)
      · replace hv := (if_neg hc1).symm.trans hv
        by_cases hc2 : a0 = (2 : Int32)
        · replace hv := (if_pos hc2).symm.trans hv
          refine lv_tableIn (tgt := 78) S.1 S.2.1 dX12_actFits_1 (by rw [hc2]; decide) (by rw [hc2]; decide) (by rw [hc2]; rfl) (by decide) ?_
          refine lv_iload_n S.1 S.2.1 dX12_actFits_78 rfl (lv_at hl 1 rfl) ?_
          refine lv_i2l S.1 S.2.1 dX12_actFits_79 rfl ?_
          refine lv_lconst (v := (0 : Int64)) S.1 S.2.1 dX12_actFits_80 (by decide) ?_
          refine lv_ldc2 (v := (7 : Int64)) S.1 S.2.1 S.2.2.2.1 (S.2.2.2.2 _ gk_X12_141) dX12_actFits_81 ?_
          obtain ⟨v3, hq, hv⟩ := zz_bd hv
          refine zz_S [.long (a1.toInt64), .long ((0 : Int64)), .long ((7 : Int64))] S K Z (c_X12_in (a1.toInt64) (0 : Int64) (7 : Int64) hq) ⟨rfl, rfl⟩ gm_X12_in gs_X12_in gl_X12_105 ⟨by decide, by decide⟩ rfl hl.1 rfl (Nat.le_of_ble_eq_true rfl) dX12_actFits_84 ⟨Nat.zero_le _, Nat.zero_le _⟩ (fun H locs Z => ?_)
          show W _ _ _ _ _ _ _ _ _ _ _ _ 0 0 _ (F0 m 87 ls [.int (v3)])
          refine lv_if_eq (tgt := 106) S.1 S.2.1 dX12_actFits_87 (by decide) (fun hc => ?_) (fun hc => ?_)
          · replace hv := (if_pos hc).symm.trans hv
            refine lv_iconst (v := (0 : Int32)) S.1 S.2.1 dX12_actFits_106 (by decide) ?_
            replace hk := zz_fin hv hk
            obtain rfl := hR0 _ hk
            exact zz_zret S Z hret (by decide) hlk dX12_actFits_107 (Nat.le_refl _) (Nat.le_refl _)
          · replace hv := (if_neg hc).symm.trans hv
            refine lv_iload_n S.1 S.2.1 dX12_actFits_90 rfl (lv_at hl 2 rfl) ?_
            refine lv_i2l S.1 S.2.1 dX12_actFits_91 rfl ?_
            refine lv_lconst (v := (0 : Int64)) S.1 S.2.1 dX12_actFits_92 (by decide) ?_
            refine lv_ldc2 (v := (7 : Int64)) S.1 S.2.1 S.2.2.2.1 (S.2.2.2.2 _ gk_X12_141) dX12_actFits_93 ?_
            obtain ⟨v4, hq, hv⟩ := zz_bd hv
            refine zz_S [.long (a2.toInt64), .long ((0 : Int64)), .long ((7 : Int64))] S K Z (c_X12_in (a2.toInt64) (0 : Int64) (7 : Int64) hq) ⟨rfl, rfl⟩ gm_X12_in gs_X12_in gl_X12_105 ⟨by decide, by decide⟩ rfl hl.1 rfl (Nat.le_of_ble_eq_true rfl) dX12_actFits_96 ⟨Nat.zero_le _, Nat.zero_le _⟩ (fun H locs Z => ?_)
            show W _ _ _ _ _ _ _ _ _ _ _ _ 0 0 _ (F0 m 99 ls [.int (v4)])
            refine lv_if_eq (tgt := 106) S.1 S.2.1 dX12_actFits_99 (by decide) (fun hc => ?_) (fun hc => ?_)
            · replace hv := (if_pos hc).symm.trans hv
              refine lv_iconst (v := (0 : Int32)) S.1 S.2.1 dX12_actFits_106 (by decide) ?_
              replace hk := zz_fin hv hk
              obtain rfl := hR0 _ hk
              exact zz_zret S Z hret (by decide) hlk dX12_actFits_107 (Nat.le_refl _) (Nat.le_refl _)
            · replace hv := (if_neg hc).symm.trans hv
              refine lv_iconst (v := (1 : Int32)) S.1 S.2.1 dX12_actFits_102 (by decide) ?_
              refine lv_goto (tgt := 107) S.1 S.2.1 dX12_actFits_103 (by decide) ?_
              replace hk := zz_fin hv hk
              obtain rfl := hR0 _ hk
              exact zz_zret S Z hret (by decide) hlk dX12_actFits_107 (Nat.le_refl _) (Nat.le_refl _)
        · replace hv := (if_neg hc2).symm.trans hv
          by_cases hc3 : a0 = (3 : Int32)
          · replace hv := (if_pos hc3).symm.trans hv
            refine lv_tableIn (tgt := 108) S.1 S.2.1 dX12_actFits_1 (by rw [hc3]; decide) (by rw [hc3]; decide) (by rw [hc3]; rfl) (by decide) ?_
            refine lv_iload_n S.1 S.2.1 dX12_actFits_108 rfl (lv_at hl 1 rfl) ?_
            refine lv_i2l S.1 S.2.1 dX12_actFits_109 rfl ?_
            refine lv_lconst (v := (0 : Int64)) S.1 S.2.1 dX12_actFits_110 (by decide) ?_
            refine lv_ldc2 (v := (3 : Int64)) S.1 S.2.1 S.2.2.2.1 (S.2.2.2.2 _ gk_X12_147) dX12_actFits_111 ?_
            obtain ⟨v5, hq, hv⟩ := zz_bd hv
            refine zz_S [.long (a1.toInt64), .long ((0 : Int64)), .long ((3 : Int64))] S K Z (c_X12_in (a1.toInt64) (0 : Int64) (3 : Int64) hq) ⟨rfl, rfl⟩ gm_X12_in gs_X12_in gl_X12_105 ⟨by decide, by decide⟩ rfl hl.1 rfl (Nat.le_of_ble_eq_true rfl) dX12_actFits_114 ⟨Nat.zero_le _, Nat.zero_le _⟩ (fun H locs Z => ?_)
            show W _ _ _ _ _ _ _ _ _ _ _ _ 0 0 _ (F0 m 117 ls [.int (v5)])
            refine lv_if_eq (tgt := 136) S.1 S.2.1 dX12_actFits_117 (by decide) (fun hc => ?_) (fun hc => ?_)
            · replace hv := (if_pos hc).symm.trans hv
              refine lv_iconst (v := (0 : Int32)) S.1 S.2.1 dX12_actFits_136 (by decide) ?_
              replace hk := zz_fin hv hk
              obtain rfl := hR0 _ hk
              exact zz_zret S Z hret (by decide) hlk dX12_actFits_137 (Nat.le_refl _) (Nat.le_refl _)
            · replace hv := (if_neg hc).symm.trans hv
              refine lv_iload_n S.1 S.2.1 dX12_actFits_120 rfl (lv_at hl 2 rfl) ?_
              refine lv_i2l S.1 S.2.1 dX12_actFits_121 rfl ?_
              refine lv_lconst (v := (0 : Int64)) S.1 S.2.1 dX12_actFits_122 (by decide) ?_
              refine lv_ldc2 (v := (7 : Int64)) S.1 S.2.1 S.2.2.2.1 (S.2.2.2.2 _ gk_X12_141) dX12_actFits_123 ?_
              obtain ⟨v6, hq, hv⟩ := zz_bd hv
              refine zz_S [.long (a2.toInt64), .long ((0 : Int64)), .long ((7 : Int64))] S K Z (c_X12_in (a2.toInt64) (0 : Int64) (7 : Int64) hq) ⟨rfl, rfl⟩ gm_X12_in gs_X12_in gl_X12_105 ⟨by decide, by decide⟩ rfl hl.1 rfl (Nat.le_of_ble_eq_true rfl) dX12_actFits_126 ⟨Nat.zero_le _, Nat.zero_le _⟩ (fun H locs Z => ?_)
              show W _ _ _ _ _ _ _ _ _ _ _ _ 0 0 _ (F0 m 129 ls [.int (v6)])
              refine lv_if_eq (tgt := 136) S.1 S.2.1 dX12_actFits_129 (by decide) (fun hc => ?_) (fun hc => ?_)
              · replace hv := (if_pos hc).symm.trans hv
                refine lv_iconst (v := (0 : Int32)) S.1 S.2.1 dX12_actFits_136 (by decide) ?_
                replace hk := zz_fin hv hk
                obtain rfl := hR0 _ hk
                exact zz_zret S Z hret (by decide) hlk dX12_actFits_137 (Nat.le_refl _) (Nat.le_refl _)
              · replace hv := (if_neg hc).symm.trans hv
                refine lv_iconst (v := (1 : Int32)) S.1 S.2.1 dX12_actFits_132 (by decide) ?_
                refine lv_goto (tgt := 137) S.1 S.2.1 dX12_actFits_133 (by decide) ?_
                replace hk := zz_fin hv hk
                obtain rfl := hR0 _ hk
                exact zz_zret S Z hret (by decide) hlk dX12_actFits_137 (Nat.le_refl _) (Nat.le_refl _)
          · replace hv := (if_neg hc3).symm.trans hv
            by_cases hc4 : a0 = (4 : Int32)
            · replace hv := (if_pos hc4).symm.trans hv
              refine lv_tableIn (tgt := 138) S.1 S.2.1 dX12_actFits_1 (by rw [hc4]; decide) (by rw [hc4]; decide) (by rw [hc4]; rfl) (by decide) ?_
              refine lv_iload_n S.1 S.2.1 dX12_actFits_138 rfl (lv_at hl 1 rfl) ?_
              refine lv_i2l S.1 S.2.1 dX12_actFits_139 rfl ?_
              refine lv_lconst (v := (0 : Int64)) S.1 S.2.1 dX12_actFits_140 (by decide) ?_
              refine lv_ldc2 (v := (3 : Int64)) S.1 S.2.1 S.2.2.2.1 (S.2.2.2.2 _ gk_X12_147) dX12_actFits_141 ?_
              obtain ⟨v7, hq, hv⟩ := zz_bd hv
              refine zz_S [.long (a1.toInt64), .long ((0 : Int64)), .long ((3 : Int64))] S K Z (c_X12_in (a1.toInt64) (0 : Int64) (3 : Int64) hq) ⟨rfl, rfl⟩ gm_X12_in gs_X12_in gl_X12_105 ⟨by decide, by decide⟩ rfl hl.1 rfl (Nat.le_of_ble_eq_true rfl) dX12_actFits_144 ⟨Nat.zero_le _, Nat.zero_le _⟩ (fun H locs Z => ?_)
              show W _ _ _ _ _ _ _ _ _ _ _ _ 0 0 _ (F0 m 147 ls [.int (v7)])
              obtain ⟨hok, hv⟩ := zz_ok_s hv
              replace hk := zz_fin hv hk
              obtain rfl := hR0 _ hk
              exact zz_zret S Z hret hok hlk dX12_actFits_147 (Nat.le_refl _) (Nat.le_refl _)
            · replace hv := (if_neg hc4).symm.trans hv
              by_cases hc5 : a0 = (5 : Int32)
              · replace hv := (if_pos hc5).symm.trans hv
                refine lv_tableIn (tgt := 148) S.1 S.2.1 dX12_actFits_1 (by rw [hc5]; decide) (by rw [hc5]; decide) (by rw [hc5]; rfl) (by decide) ?_
                refine lv_iload_n S.1 S.2.1 dX12_actFits_148 rfl (lv_at hl 1 rfl) ?_
                refine lv_i2l S.1 S.2.1 dX12_actFits_149 rfl ?_
                refine lv_lconst (v := (0 : Int64)) S.1 S.2.1 dX12_actFits_150 (by decide) ?_
                refine lv_ldc2 (v := (7 : Int64)) S.1 S.2.1 S.2.2.2.1 (S.2.2.2.2 _ gk_X12_141) dX12_actFits_151 ?_
                obtain ⟨v8, hq, hv⟩ := zz_bd hv
                refine zz_S [.long (a1.toInt64), .long ((0 : Int64)), .long ((7 : Int64))] S K Z (c_X12_in (a1.toInt64) (0 : Int64) (7 : Int64) hq) ⟨rfl, rfl⟩ gm_X12_in gs_X12_in gl_X12_105 ⟨by decide, by decide⟩ rfl hl.1 rfl (Nat.le_of_ble_eq_true rfl) dX12_actFits_154 ⟨Nat.zero_le _, Nat.zero_le _⟩ (fun H locs Z => ?_)
                show W _ _ _ _ _ _ _ _ _ _ _ _ 0 0 _ (F0 m 157 ls [.int (v8)])
                refine lv_if_eq (tgt := 176) S.1 S.2.1 dX12_actFits_157 (by decide) (fun hc => ?_) (fun hc => ?_)
                · replace hv := (if_pos hc).symm.trans hv
                  refine lv_iconst (v := (0 : Int32)) S.1 S.2.1 dX12_actFits_176 (by decide) ?_
                  replace hk := zz_fin hv hk
                  obtain rfl := hR0 _ hk
                  exact zz_zret S Z hret (by decide) hlk dX12_actFits_177 (Nat.le_refl _) (Nat.le_refl _)
                · replace hv := (if_neg hc).symm.trans hv
                  refine lv_iload_n S.1 S.2.1 dX12_actFits_160 rfl (lv_at hl 2 rfl) ?_
                  refine lv_i2l S.1 S.2.1 dX12_actFits_161 rfl ?_
                  refine lv_lconst (v := (1 : Int64)) S.1 S.2.1 dX12_actFits_162 (by decide) ?_
                  refine lv_ldc2 (v := (100 : Int64)) S.1 S.2.1 S.2.2.2.1 (S.2.2.2.2 _ gk_X12_149) dX12_actFits_163 ?_
                  obtain ⟨v9, hq, hv⟩ := zz_bd hv
                  refine zz_S [.long (a2.toInt64), .long ((1 : Int64)), .long ((100 : Int64))] S K Z (c_X12_in (a2.toInt64) (1 : Int64) (100 : Int64) hq) ⟨rfl, rfl⟩ gm_X12_in gs_X12_in gl_X12_105 ⟨by decide, by decide⟩ rfl hl.1 rfl (Nat.le_of_ble_eq_true rfl) dX12_actFits_166 ⟨Nat.zero_le _, Nat.zero_le _⟩ (fun H locs Z => ?_)
                  show W _ _ _ _ _ _ _ _ _ _ _ _ 0 0 _ (F0 m 169 ls [.int (v9)])
                  refine lv_if_eq (tgt := 176) S.1 S.2.1 dX12_actFits_169 (by decide) (fun hc => ?_) (fun hc => ?_)
                  · replace hv := (if_pos hc).symm.trans hv
                    refine lv_iconst (v := (0 : Int32)) S.1 S.2.1 dX12_actFits_176 (by decide) ?_
                    replace hk := zz_fin hv hk
                    obtain rfl := hR0 _ hk
                    exact zz_zret S Z hret (by decide) hlk dX12_actFits_177 (Nat.le_refl _) (Nat.le_refl _)
                  · replace hv := (if_neg hc).symm.trans hv
                    refine lv_iconst (v := (1 : Int32)) S.1 S.2.1 dX12_actFits_172 (by decide) ?_
                    refine lv_goto (tgt := 177) S.1 S.2.1 dX12_actFits_173 (by decide) ?_
                    replace hk := zz_fin hv hk
                    obtain rfl := hR0 _ hk
                    exact zz_zret S Z hret (by decide) hlk dX12_actFits_177 (Nat.le_refl _) (Nat.le_refl _)
              · replace hv := (if_neg hc5).symm.trans hv
                by_cases hc6 : a0 = (6 : Int32)
                · replace hv := (if_pos hc6).symm.trans hv
                  refine lv_tableIn (tgt := 178) S.1 S.2.1 dX12_actFits_1 (by rw [hc6]; decide) (by rw [hc6]; decide) (by rw [hc6]; rfl) (by decide) ?_
                  refine lv_iload_n S.1 S.2.1 dX12_actFits_178 rfl (lv_at hl 1 rfl) ?_
                  refine lv_i2l S.1 S.2.1 dX12_actFits_179 rfl ?_
                  refine lv_lconst (v := (1 : Int64)) S.1 S.2.1 dX12_actFits_180 (by decide) ?_
                  refine lv_ldc2 (v := (9 : Int64)) S.1 S.2.1 S.2.2.2.1 (S.2.2.2.2 _ gk_X12_151) dX12_actFits_181 ?_
                  obtain ⟨v10, hq, hv⟩ := zz_bd hv
                  refine zz_S [.long (a1.toInt64), .long ((1 : Int64)), .long ((9 : Int64))] S K Z (c_X12_in (a1.toInt64) (1 : Int64) (9 : Int64) hq) ⟨rfl, rfl⟩ gm_X12_in gs_X12_in gl_X12_105 ⟨by decide, by decide⟩ rfl hl.1 rfl (Nat.le_of_ble_eq_true rfl) dX12_actFits_184 ⟨Nat.zero_le _, Nat.zero_le _⟩ (fun H locs Z => ?_)
                  show W _ _ _ _ _ _ _ _ _ _ _ _ 0 0 _ (F0 m 187 ls [.int (v10)])
                  obtain ⟨hok, hv⟩ := zz_ok_s hv
                  replace hk := zz_fin hv hk
                  obtain rfl := hR0 _ hk
                  exact zz_zret S Z hret hok hlk dX12_actFits_187 (Nat.le_refl _) (Nat.le_refl _)
                · replace hv := (if_neg hc6).symm.trans hv
                  refine lv_tableOut (tgt := 188) S.1 S.2.1 dX12_actFits_1 (zz_sw_out (fun k h1 h2 => by
                    have h3 : k = 0 ∨ k = 1 ∨ k = 2 ∨ k = 3 ∨ k = 4 ∨ k = 5 ∨ k = 6 := by omega
                    rcases h3 with rfl | rfl | rfl | rfl | rfl | rfl | rfl
                    · exact hc0
                    · exact hc1
                    · exact hc2
                    · exact hc3
                    · exact hc4
                    · exact hc5
                    · exact hc6)) (by decide) ?_
                  refine lv_iconst (v := (0 : Int32)) S.1 S.2.1 dX12_actFits_188 (by decide) ?_
                  replace hk := zz_fin hv hk
                  obtain rfl := hR0 _ hk
                  exact zz_zret S Z hret (by decide) hlk dX12_actFits_189 (Nat.le_refl _) (Nat.le_refl _)
  rw [hH, hlo] at key
  exact key

noncomputable def f_X12_rule (h : ZH) (a0 : Nat) (a1 : Int32) (a2 : Int32) (a3 : Int32) (a4 : Int32) (a5 : Int32) (a6 : Int32) (a7 : Int32) (a8 : Int32) (a9 : Int32) : Option (Int32 × ZH) :=
  (zp_V h a0 10 0 (.int ((0 : Int32)))).bind fun h1 => (zg_I h1 a0 10 4).bind fun v2 => (f_X12_in h1 (a2.toInt64) (0 : Int64) ((v2 - (1 : Int32)).toInt64)).bind fun v3 => if v3 = 0 then (some (((-2 : Int32), h1))) else ((zg_I h1 a0 10 7).bind fun v4 => (f_X12_in h1 (a8.toInt64) (0 : Int64) ((v4 - (1 : Int32)).toInt64)).bind fun v5 => if v5 = 0 then (some (((-2 : Int32), h1))) else ((f_X12_in h1 (a1.toInt64) (-1 : Int64) (7 : Int64)).bind fun v6 => if v6 = 0 then (some (((-3 : Int32), h1))) else ((f_X12_in h1 (a9.toInt64) (-1 : Int64) (7 : Int64)).bind fun v7 => if v7 = 0 then (some (((-3 : Int32), h1))) else ((f_X12_in h1 (a3.toInt64) (-1 : Int64) (7 : Int64)).bind fun v8 => if v8 = 0 then (some (((-3 : Int32), h1))) else ((f_X12_actFits h1 a5 a6 a7).bind fun v9 => if v9 = 0 then (some (((-3 : Int32), h1))) else ((zg_I h1 a0 10 10).bind fun v10 => if v10 = (30 : Int32) then (some (((-5 : Int32), h1))) else ((zg_I h1 a0 10 10).bind fun v11 => (zg_I h1 a0 10 10).bind fun v12 => (zp_V h1 a0 10 10 (.int (v12 + (1 : Int32)))).bind fun h13 => (zg_R h13 a0 10 11).bind fun v14 => (zs_I h13 v14 1 v11 a1).bind fun h15 => (zg_R h15 a0 10 12).bind fun v16 => (zs_I h15 v16 1 v11 a2).bind fun h17 => (zg_R h17 a0 10 13).bind fun v18 => (zs_I h17 v18 1 v11 a3).bind fun h19 => (zg_R h19 a0 10 14).bind fun v20 => (zs_I h19 v20 1 v11 a4).bind fun h21 => (zg_R h21 a0 10 15).bind fun v22 => (zs_I h21 v22 1 v11 a5).bind fun h23 => (zg_R h23 a0 10 16).bind fun v24 => (zs_I h23 v24 1 v11 a6).bind fun h25 => (zg_R h25 a0 10 17).bind fun v26 => (zs_I h25 v26 1 v11 a7).bind fun h27 => (zg_R h27 a0 10 18).bind fun v28 => (zs_I h27 v28 1 v11 a8).bind fun h29 => (zg_R h29 a0 10 19).bind fun v30 => (zs_I h29 v30 1 v11 a9).bind fun h31 => some ((v11, h31)))))))))
abbrev rm_X12_rule : Room := { frames := 2, cells := 0, slots := 0, locals := 47 }
set_option maxRecDepth 100000 in
set_option maxHeartbeats 4000000 in
theorem c_X12_rule {l : Launch} {D : va_G} {dA : Nat → ClassId} {A : Nat → Prop} {h : ZH} {n : Nat} (a0 : Nat) (a1 : Int32) (a2 : Int32) (a3 : Int32) (a4 : Int32) (a5 : Int32) (a6 : Int32) (a7 : Int32) (a8 : Int32) (a9 : Int32) {r : Int32} {hx : ZH} (hf : f_X12_rule h a0 a1 a2 a3 a4 a5 a6 a7 a8 a9 = some (r, hx)) : Met l yX12_rule (zz_ws yX12_rule cX12_rule 11 (some .int)) rm_X12_rule (zz_P D dA A h n [.ref (a0), .int (a1), .int (a2), .int (a3), .int (a4), .int (a5), .int (a6), .int (a7), .int (a8), .int (a9)]) (zz_Q D dA A (some (.int r)) hx n) 0 0 A := by
  refine zz_met (by decide) (Nat.le_of_ble_eq_true rfl) ?_
  intro p e s m args below meth c ls S K hret hlk hnm hl Z
  replace hl : lv_has ls 11 [(0, .ref (a0)), (1, .int (a1)), (2, .int (a2)), (3, .int (a3)), (4, .int (a4)), (5, .int (a5)), (6, .int (a6)), (7, .int (a7)), (8, .int (a8)), (9, .int (a9))] := hl
  obtain ⟨K0, hR0, hk⟩ : ∃ K0 : (Int32 × ZH) → Prop, (∀ x, K0 x → x = (r, hx)) ∧ K0 (r, hx) := ⟨fun x => x = (r, hx), fun _ h => h, rfl⟩
  have hv := hf
  unfold f_X12_rule at hv
  clear hf
  obtain ⟨x, hxx⟩ : ∃ x, x = (r, hx) := ⟨_, rfl⟩
  rw [← hxx] at hv hk
  have ⟨H, hH⟩ : ∃ H, H = s.heap := ⟨_, rfl⟩
  have ⟨locs, hlo⟩ : ∃ q : List Loc, q = [] := ⟨_, rfl⟩
  have Z : zz_B D dA A h n s.heap H locs := by rw [hH, hlo]; exact Z
  have key : zz_W p l e rm_X12_rule s m args below meth c D dA A (some (.int r)) hx n 0 0 H locs 0 0 0 ls [] := by
    clear hH hlo hxx
    refine lv_aload_n S.1 S.2.1 dX12_rule_0 rfl (lv_at hl 0 rfl) ?_
    refine lv_iconst (v := (0 : Int32)) S.1 S.2.1 dX12_rule_1 (by decide) ?_
    refine zz_put S K Z hv zc_10 (by decide) gf_X12_1 rfl rfl rfl dX12_rule_2 (fun h1 H locs hv Z => ?_)
    refine lv_iload_n S.1 S.2.1 dX12_rule_5 rfl (lv_at hl 2 rfl) ?_
    refine lv_i2l S.1 S.2.1 dX12_rule_6 rfl ?_
    refine lv_lconst (v := (0 : Int64)) S.1 S.2.1 dX12_rule_7 (by decide) ?_
    refine lv_aload_n S.1 S.2.1 dX12_rule_8 rfl (lv_at hl 0 rfl) ?_
    refine zz_gI S K Z hv zc_10 (by decide) gf_X12_122 dX12_rule_9 (fun v2 hv => ?_)
    refine lv_iconst (v := (1 : Int32)) S.1 S.2.1 dX12_rule_12 (by decide) ?_
    refine lv_isub S.1 S.2.1 dX12_rule_13 ?_
    refine lv_i2l S.1 S.2.1 dX12_rule_14 rfl ?_
    obtain ⟨v3, hq, hv⟩ := zz_bd hv
    refine zz_S [.long (a2.toInt64), .long ((0 : Int64)), .long ((v2 - (1 : Int32)).toInt64)] S K Z (c_X12_in (a2.toInt64) (0 : Int64) ((v2 - (1 : Int32)).toInt64) hq) ⟨rfl, rfl⟩ gm_X12_in gs_X12_in gl_X12_105 ⟨by decide, by decide⟩ rfl hl.1 rfl (Nat.le_of_ble_eq_true rfl) dX12_rule_15 ⟨Nat.zero_le _, Nat.zero_le _⟩ (fun H locs Z => ?_)
    show W _ _ _ _ _ _ _ _ _ _ _ _ 0 0 _ (F0 m 18 ls [.int (v3)])
    refine lv_if_eq (tgt := 38) S.1 S.2.1 dX12_rule_18 (by decide) (fun hc => ?_) (fun hc => ?_)
    · replace hv := (if_pos hc).symm.trans hv
      refine lv_bipush (v := (-2 : Int32)) S.1 S.2.1 dX12_rule_38 (by decide) ?_
      replace hk := zz_fin hv hk
      obtain ⟨rfl, rfl⟩ := Prod.mk.inj (hR0 _ hk)
      exact zz_iret S Z hret hlk dX12_rule_40 (Nat.le_refl _) (Nat.le_refl _)
    · replace hv := (if_neg hc).symm.trans hv
      refine lv_iload S.1 S.2.1 dX12_rule_21 (lv_at hl 8 rfl) ?_
      refine lv_i2l S.1 S.2.1 dX12_rule_23 rfl ?_
      refine lv_lconst (v := (0 : Int64)) S.1 S.2.1 dX12_rule_24 (by decide) ?_
      refine lv_aload_n S.1 S.2.1 dX12_rule_25 rfl (lv_at hl 0 rfl) ?_
      refine zz_gI S K Z hv zc_10 (by decide) gf_X12_138 dX12_rule_26 (fun v4 hv => ?_)
      refine lv_iconst (v := (1 : Int32)) S.1 S.2.1 dX12_rule_29 (by decide) ?_
      refine lv_isub S.1 S.2.1 dX12_rule_30 ?_
      refine lv_i2l S.1 S.2.1 dX12_rule_31 rfl ?_
      obtain ⟨v5, hq, hv⟩ := zz_bd hv
      refine zz_S [.long (a8.toInt64), .long ((0 : Int64)), .long ((v4 - (1 : Int32)).toInt64)] S K Z (c_X12_in (a8.toInt64) (0 : Int64) ((v4 - (1 : Int32)).toInt64) hq) ⟨rfl, rfl⟩ gm_X12_in gs_X12_in gl_X12_105 ⟨by decide, by decide⟩ rfl hl.1 rfl (Nat.le_of_ble_eq_true rfl) dX12_rule_32 ⟨Nat.zero_le _, Nat.zero_le _⟩ (fun H locs Z => ?_)
      show W _ _ _ _ _ _ _ _ _ _ _ _ 0 0 _ (F0 m 35 ls [.int (v5)])
      refine lv_if_ne (tgt := 41) S.1 S.2.1 dX12_rule_35 (by decide) (fun hc => ?_) (fun hc => ?_)
      · replace hv := (if_neg hc).symm.trans hv
        refine lv_iload_n S.1 S.2.1 dX12_rule_41 rfl (lv_at hl 1 rfl) ?_
        refine lv_i2l S.1 S.2.1 dX12_rule_42 rfl ?_
        refine lv_ldc2 (v := (-1 : Int64)) S.1 S.2.1 S.2.2.2.1 (S.2.2.2.2 _ gk_X12_153) dX12_rule_43 ?_
        refine lv_ldc2 (v := (7 : Int64)) S.1 S.2.1 S.2.2.2.1 (S.2.2.2.2 _ gk_X12_141) dX12_rule_46 ?_
        obtain ⟨v6, hq, hv⟩ := zz_bd hv
        refine zz_S [.long (a1.toInt64), .long ((-1 : Int64)), .long ((7 : Int64))] S K Z (c_X12_in (a1.toInt64) (-1 : Int64) (7 : Int64) hq) ⟨rfl, rfl⟩ gm_X12_in gs_X12_in gl_X12_105 ⟨by decide, by decide⟩ rfl hl.1 rfl (Nat.le_of_ble_eq_true rfl) dX12_rule_49 ⟨Nat.zero_le _, Nat.zero_le _⟩ (fun H locs Z => ?_)
        show W _ _ _ _ _ _ _ _ _ _ _ _ 0 0 _ (F0 m 52 ls [.int (v6)])
        refine lv_if_eq (tgt := 96) S.1 S.2.1 dX12_rule_52 (by decide) (fun hc => ?_) (fun hc => ?_)
        · replace hv := (if_pos hc).symm.trans hv
          refine lv_bipush (v := (-3 : Int32)) S.1 S.2.1 dX12_rule_96 (by decide) ?_
          replace hk := zz_fin hv hk
          obtain ⟨rfl, rfl⟩ := Prod.mk.inj (hR0 _ hk)
          exact zz_iret S Z hret hlk dX12_rule_98 (Nat.le_refl _) (Nat.le_refl _)
        · replace hv := (if_neg hc).symm.trans hv
          refine lv_iload S.1 S.2.1 dX12_rule_55 (lv_at hl 9 rfl) ?_
          refine lv_i2l S.1 S.2.1 dX12_rule_57 rfl ?_
          refine lv_ldc2 (v := (-1 : Int64)) S.1 S.2.1 S.2.2.2.1 (S.2.2.2.2 _ gk_X12_153) dX12_rule_58 ?_
          refine lv_ldc2 (v := (7 : Int64)) S.1 S.2.1 S.2.2.2.1 (S.2.2.2.2 _ gk_X12_141) dX12_rule_61 ?_
          obtain ⟨v7, hq, hv⟩ := zz_bd hv
          refine zz_S [.long (a9.toInt64), .long ((-1 : Int64)), .long ((7 : Int64))] S K Z (c_X12_in (a9.toInt64) (-1 : Int64) (7 : Int64) hq) ⟨rfl, rfl⟩ gm_X12_in gs_X12_in gl_X12_105 ⟨by decide, by decide⟩ rfl hl.1 rfl (Nat.le_of_ble_eq_true rfl) dX12_rule_64 ⟨Nat.zero_le _, Nat.zero_le _⟩ (fun H locs Z => ?_)
          show W _ _ _ _ _ _ _ _ _ _ _ _ 0 0 _ (F0 m 67 ls [.int (v7)])
          refine lv_if_eq (tgt := 96) S.1 S.2.1 dX12_rule_67 (by decide) (fun hc => ?_) (fun hc => ?_)
          · replace hv := (if_pos hc).symm.trans hv
            refine lv_bipush (v := (-3 : Int32)) S.1 S.2.1 dX12_rule_96 (by decide) ?_
            replace hk := zz_fin hv hk
            obtain ⟨rfl, rfl⟩ := Prod.mk.inj (hR0 _ hk)
            exact zz_iret S Z hret hlk dX12_rule_98 (Nat.le_refl _) (Nat.le_refl _)
          · replace hv := (if_neg hc).symm.trans hv
            refine lv_iload_n S.1 S.2.1 dX12_rule_70 rfl (lv_at hl 3 rfl) ?_
            refine lv_i2l S.1 S.2.1 dX12_rule_71 rfl ?_
            refine lv_ldc2 (v := (-1 : Int64)) S.1 S.2.1 S.2.2.2.1 (S.2.2.2.2 _ gk_X12_153) dX12_rule_72 ?_
            refine lv_ldc2 (v := (7 : Int64)) S.1 S.2.1 S.2.2.2.1 (S.2.2.2.2 _ gk_X12_141) dX12_rule_75 ?_
            obtain ⟨v8, hq, hv⟩ := zz_bd hv
            refine zz_S [.long (a3.toInt64), .long ((-1 : Int64)), .long ((7 : Int64))] S K Z (c_X12_in (a3.toInt64) (-1 : Int64) (7 : Int64) hq) ⟨rfl, rfl⟩ gm_X12_in gs_X12_in gl_X12_105 ⟨by decide, by decide⟩ rfl hl.1 rfl (Nat.le_of_ble_eq_true rfl) dX12_rule_78 ⟨Nat.zero_le _, Nat.zero_le _⟩ (fun H locs Z => ?_)
            show W _ _ _ _ _ _ _ _ _ _ _ _ 0 0 _ (F0 m 81 ls [.int (v8)])
            refine lv_if_eq (tgt := 96) S.1 S.2.1 dX12_rule_81 (by decide) (fun hc => ?_) (fun hc => ?_)
            · replace hv := (if_pos hc).symm.trans hv
              refine lv_bipush (v := (-3 : Int32)) S.1 S.2.1 dX12_rule_96 (by decide) ?_
              replace hk := zz_fin hv hk
              obtain ⟨rfl, rfl⟩ := Prod.mk.inj (hR0 _ hk)
              exact zz_iret S Z hret hlk dX12_rule_98 (Nat.le_refl _) (Nat.le_refl _)
            · replace hv := (if_neg hc).symm.trans hv
              refine lv_iload S.1 S.2.1 dX12_rule_84 (lv_at hl 5 rfl) ?_
              refine lv_iload S.1 S.2.1 dX12_rule_86 (lv_at hl 6 rfl) ?_
              refine lv_iload S.1 S.2.1 dX12_rule_88 (lv_at hl 7 rfl) ?_
              obtain ⟨v9, hq, hv⟩ := zz_bd hv
              refine zz_S [.int (a5), .int (a6), .int (a7)] S K Z (c_X12_actFits a5 a6 a7 hq) ⟨rfl, rfl⟩ gm_X12_actFits gs_X12_actFits gl_X12_155 ⟨by decide, by decide⟩ rfl hl.1 rfl (Nat.le_of_ble_eq_true rfl) dX12_rule_90 ⟨Nat.zero_le _, Nat.zero_le _⟩ (fun H locs Z => ?_)
              show W _ _ _ _ _ _ _ _ _ _ _ _ 0 0 _ (F0 m 93 ls [.int (v9)])
              refine lv_if_ne (tgt := 99) S.1 S.2.1 dX12_rule_93 (by decide) (fun hc => ?_) (fun hc => ?_)
              · replace hv := (if_neg hc).symm.trans hv
                refine lv_aload_n S.1 S.2.1 dX12_rule_99 rfl (lv_at hl 0 rfl) ?_
                refine zz_gI S K Z hv zc_10 (by decide) gf_X12_159 dX12_rule_100 (fun v10 hv => ?_)
                refine lv_bipush (v := (30 : Int32)) S.1 S.2.1 dX12_rule_103 (by decide) ?_
                refine lv_icmp_ne (tgt := 111) S.1 S.2.1 dX12_rule_105 (by decide) (fun hc => ?_) (fun hc => ?_)
                · replace hv := (if_neg hc).symm.trans hv
                  refine lv_aload_n S.1 S.2.1 dX12_rule_111 rfl (lv_at hl 0 rfl) ?_
                  refine zz_gI S K Z hv zc_10 (by decide) gf_X12_159 dX12_rule_112 (fun v11 hv => ?_)
                  refine lv_istore (lv' := [(10, .int (v11)), (0, .ref (a0)), (1, .int (a1)), (2, .int (a2)), (3, .int (a3)), (4, .int (a4)), (5, .int (a5)), (6, .int (a6)), (7, .int (a7)), (8, .int (a8)), (9, .int (a9))]) S.1 S.2.1 dX12_rule_115 hl (by decide) rfl (fun ls hl => ?_)
                  refine lv_aload_n S.1 S.2.1 dX12_rule_117 rfl (lv_at hl 1 rfl) ?_
                  refine lv_dup S.1 S.2.1 dX12_rule_118 rfl ?_
                  refine zz_gI S K Z hv zc_10 (by decide) gf_X12_159 dX12_rule_119 (fun v12 hv => ?_)
                  refine lv_iconst (v := (1 : Int32)) S.1 S.2.1 dX12_rule_122 (by decide) ?_
                  refine lv_iadd S.1 S.2.1 dX12_rule_123 ?_
                  refine zz_put S K Z hv zc_10 (by decide) gf_X12_159 rfl rfl rfl dX12_rule_124 (fun h13 H locs hv Z => ?_)
                  refine lv_aload_n S.1 S.2.1 dX12_rule_127 rfl (lv_at hl 1 rfl) ?_
                  refine zz_gR S K Z hv zc_10 (by decide) gf_X12_29 dX12_rule_128 (fun v14 hv => ?_)
                  refine lv_iload S.1 S.2.1 dX12_rule_131 (lv_at hl 0 rfl) ?_
                  refine lv_iload_n S.1 S.2.1 dX12_rule_133 rfl (lv_at hl 2 rfl) ?_
                  refine zz_iast S K Z hv dX12_rule_134 (fun h15 H locs hv Z => ?_)
                  refine lv_aload_n S.1 S.2.1 dX12_rule_135 rfl (lv_at hl 1 rfl) ?_
                  refine zz_gR S K Z hv zc_10 (by decide) gf_X12_32 dX12_rule_136 (fun v16 hv => ?_)
                  refine lv_iload S.1 S.2.1 dX12_rule_139 (lv_at hl 0 rfl) ?_
                  refine lv_iload_n S.1 S.2.1 dX12_rule_141 rfl (lv_at hl 3 rfl) ?_
                  refine zz_iast S K Z hv dX12_rule_142 (fun h17 H locs hv Z => ?_)
                  refine lv_aload_n S.1 S.2.1 dX12_rule_143 rfl (lv_at hl 1 rfl) ?_
                  refine zz_gR S K Z hv zc_10 (by decide) gf_X12_35 dX12_rule_144 (fun v18 hv => ?_)
                  refine lv_iload S.1 S.2.1 dX12_rule_147 (lv_at hl 0 rfl) ?_
                  refine lv_iload_n S.1 S.2.1 dX12_rule_149 rfl (lv_at hl 4 rfl) ?_
                  refine zz_iast S K Z hv dX12_rule_150 (fun h19 H locs hv Z => ?_)
                  refine lv_aload_n S.1 S.2.1 dX12_rule_151 rfl (lv_at hl 1 rfl) ?_
                  refine zz_gR S K Z hv zc_10 (by decide) gf_X12_38 dX12_rule_152 (fun v20 hv => ?_)
                  refine lv_iload S.1 S.2.1 dX12_rule_155 (lv_at hl 0 rfl) ?_
                  refine lv_iload S.1 S.2.1 dX12_rule_157 (lv_at hl 5 rfl) ?_
                  refine zz_iast S K Z hv dX12_rule_159 (fun h21 H locs hv Z => ?_)
                  refine lv_aload_n S.1 S.2.1 dX12_rule_160 rfl (lv_at hl 1 rfl) ?_
                  refine zz_gR S K Z hv zc_10 (by decide) gf_X12_41 dX12_rule_161 (fun v22 hv => ?_)
                  refine lv_iload S.1 S.2.1 dX12_rule_164 (lv_at hl 0 rfl) ?_
                  refine lv_iload S.1 S.2.1 dX12_rule_166 (lv_at hl 6 rfl) ?_
                  refine zz_iast S K Z hv dX12_rule_168 (fun h23 H locs hv Z => ?_)
                  refine lv_aload_n S.1 S.2.1 dX12_rule_169 rfl (lv_at hl 1 rfl) ?_
                  refine zz_gR S K Z hv zc_10 (by decide) gf_X12_44 dX12_rule_170 (fun v24 hv => ?_)
                  refine lv_iload S.1 S.2.1 dX12_rule_173 (lv_at hl 0 rfl) ?_
                  refine lv_iload S.1 S.2.1 dX12_rule_175 (lv_at hl 7 rfl) ?_
                  refine zz_iast S K Z hv dX12_rule_177 (fun h25 H locs hv Z => ?_)
                  refine lv_aload_n S.1 S.2.1 dX12_rule_178 rfl (lv_at hl 1 rfl) ?_
                  refine zz_gR S K Z hv zc_10 (by decide) gf_X12_47 dX12_rule_179 (fun v26 hv => ?_)
                  refine lv_iload S.1 S.2.1 dX12_rule_182 (lv_at hl 0 rfl) ?_
                  refine lv_iload S.1 S.2.1 dX12_rule_184 (lv_at hl 8 rfl) ?_
                  refine zz_iast S K Z hv dX12_rule_186 (fun h27 H locs hv Z => ?_)
                  refine lv_aload_n S.1 S.2.1 dX12_rule_187 rfl (lv_at hl 1 rfl) ?_
                  refine zz_gR S K Z hv zc_10 (by decide) gf_X12_50 dX12_rule_188 (fun v28 hv => ?_)
                  refine lv_iload S.1 S.2.1 dX12_rule_191 (lv_at hl 0 rfl) ?_
                  refine lv_iload S.1 S.2.1 dX12_rule_193 (lv_at hl 9 rfl) ?_
                  refine zz_iast S K Z hv dX12_rule_195 (fun h29 H locs hv Z => ?_)
                  refine lv_aload_n S.1 S.2.1 dX12_rule_196 rfl (lv_at hl 1 rfl) ?_
                  refine zz_gR S K Z hv zc_10 (by decide) gf_X12_53 dX12_rule_197 (fun v30 hv => ?_)
                  refine lv_iload S.1 S.2.1 dX12_rule_200 (lv_at hl 0 rfl) ?_
                  refine lv_iload S.1 S.2.1 dX12_rule_202 (lv_at hl 10 rfl) ?_
                  refine zz_iast S K Z hv dX12_rule_204 (fun h31 H locs hv Z => ?_)
                  refine lv_iload S.1 S.2.1 dX12_rule_205 (lv_at hl 0 rfl) ?_
                  replace hk := zz_fin hv hk
                  obtain ⟨rfl, rfl⟩ := Prod.mk.inj (hR0 _ hk)
                  exact zz_iret S Z hret hlk dX12_rule_207 (Nat.le_refl _) (Nat.le_refl _)
                · replace hv := (if_pos hc).symm.trans hv
                  refine lv_bipush (v := (-5 : Int32)) S.1 S.2.1 dX12_rule_108 (by decide) ?_
                  replace hk := zz_fin hv hk
                  obtain ⟨rfl, rfl⟩ := Prod.mk.inj (hR0 _ hk)
                  exact zz_iret S Z hret hlk dX12_rule_110 (Nat.le_refl _) (Nat.le_refl _)
              · replace hv := (if_pos hc).symm.trans hv
                refine lv_bipush (v := (-3 : Int32)) S.1 S.2.1 dX12_rule_96 (by decide) ?_
                replace hk := zz_fin hv hk
                obtain ⟨rfl, rfl⟩ := Prod.mk.inj (hR0 _ hk)
                exact zz_iret S Z hret hlk dX12_rule_98 (Nat.le_refl _) (Nat.le_refl _)
      · replace hv := (if_pos hc).symm.trans hv
        refine lv_bipush (v := (-2 : Int32)) S.1 S.2.1 dX12_rule_38 (by decide) ?_
        replace hk := zz_fin hv hk
        obtain ⟨rfl, rfl⟩ := Prod.mk.inj (hR0 _ hk)
        exact zz_iret S Z hret hlk dX12_rule_40 (Nat.le_refl _) (Nat.le_refl _)
  rw [hH, hlo] at key
  exact key

noncomputable def f_X12_holder_J52 (h : ZH) (a0 : Nat) (a1 : Int32) (a2 : Int32) (a3 : Int32) (a4 : Int32) (h4 : ZH) : Option (Int32 × ZH) :=
  (zg_R h4 a0 10 22).bind fun v5 => (zs_I h4 v5 1 a1 a2).bind fun h6 => (zg_R h6 a0 10 23).bind fun v7 => (zs_I h6 v7 1 a1 a3).bind fun h8 => (zg_R h8 a0 10 24).bind fun v9 => (zs_I h8 v9 1 a1 a4).bind fun h10 => some (((1 : Int32), h10))
noncomputable def f_X12_holder (h : ZH) (a0 : Nat) (a1 : Int32) (a2 : Int32) (a3 : Int32) (a4 : Int32) : Option (Int32 × ZH) :=
  (zp_V h a0 10 0 (.int ((0 : Int32)))).bind fun h1 => (f_X12_in h1 (a1.toInt64) (0 : Int64) (3 : Int64)).bind fun v2 => if v2 = 0 then (some (((-2 : Int32), h1))) else ((f_X12_in h1 (a2.toInt64) (0 : Int64) (2 : Int64)).bind fun v3 => if v3 = 0 then (some (((-3 : Int32), h1))) else (if a2 = (2 : Int32) then ((f_X12_in h1 (a3.toInt64) (1 : Int64) (4 : Int64)).bind fun v11 => if v11 = 0 then (some (((-3 : Int32), h1))) else (f_X12_holder_J52 h a0 a1 a2 a3 a4 h1)) else (f_X12_holder_J52 h a0 a1 a2 a3 a4 h1)))
abbrev rm_X12_holder : Room := { frames := 1, cells := 0, slots := 0, locals := 25 }
set_option maxRecDepth 100000 in
set_option maxHeartbeats 4000000 in
theorem c_X12_holder {l : Launch} {D : va_G} {dA : Nat → ClassId} {A : Nat → Prop} {h : ZH} {n : Nat} (a0 : Nat) (a1 : Int32) (a2 : Int32) (a3 : Int32) (a4 : Int32) {r : Int32} {hx : ZH} (hf : f_X12_holder h a0 a1 a2 a3 a4 = some (r, hx)) : Met l yX12_holder (zz_ws yX12_holder cX12_holder 5 (some .int)) rm_X12_holder (zz_P D dA A h n [.ref (a0), .int (a1), .int (a2), .int (a3), .int (a4)]) (zz_Q D dA A (some (.int r)) hx n) 0 0 A := by
  refine zz_met (by decide) (Nat.le_of_ble_eq_true rfl) ?_
  intro p e s m args below meth c ls S K hret hlk hnm hl Z
  replace hl : lv_has ls 5 [(0, .ref (a0)), (1, .int (a1)), (2, .int (a2)), (3, .int (a3)), (4, .int (a4))] := hl
  obtain ⟨K0, hR0, hk⟩ : ∃ K0 : (Int32 × ZH) → Prop, (∀ x, K0 x → x = (r, hx)) ∧ K0 (r, hx) := ⟨fun x => x = (r, hx), fun _ h => h, rfl⟩
  have J52 : ∀ (h4 : ZH) (x : (Int32 × ZH)), f_X12_holder_J52 h a0 a1 a2 a3 a4 h4 = some x → K0 x → ∀ (H : Heap) (locs : List Loc) (ls : Array Slot), zz_B D dA A h4 n s.heap H locs → lv_has ls 5 [(0, .ref (a0)), (1, .int (a1)), (2, .int (a2)), (3, .int (a3)), (4, .int (a4))] → zz_W p l e rm_X12_holder s m args below meth c D dA A (some (.int r)) hx n 0 0 H locs 0 0 52 ls [] := by
    intro h4 x hv hk H locs ls Z hl
    unfold f_X12_holder_J52 at hv
    refine lv_aload_n S.1 S.2.1 dX12_holder_52 rfl (lv_at hl 0 rfl) ?_
    refine zz_gR S K Z hv zc_10 (by decide) gf_X12_62 dX12_holder_53 (fun v5 hv => ?_)
    refine lv_iload_n S.1 S.2.1 dX12_holder_56 rfl (lv_at hl 1 rfl) ?_
    refine lv_iload_n S.1 S.2.1 dX12_holder_57 rfl (lv_at hl 2 rfl) ?_
    refine zz_iast S K Z hv dX12_holder_58 (fun h6 H locs hv Z => ?_)
    refine lv_aload_n S.1 S.2.1 dX12_holder_59 rfl (lv_at hl 0 rfl) ?_
    refine zz_gR S K Z hv zc_10 (by decide) gf_X12_65 dX12_holder_60 (fun v7 hv => ?_)
    refine lv_iload_n S.1 S.2.1 dX12_holder_63 rfl (lv_at hl 1 rfl) ?_
    refine lv_iload_n S.1 S.2.1 dX12_holder_64 rfl (lv_at hl 3 rfl) ?_
    refine zz_iast S K Z hv dX12_holder_65 (fun h8 H locs hv Z => ?_)
    refine lv_aload_n S.1 S.2.1 dX12_holder_66 rfl (lv_at hl 0 rfl) ?_
    refine zz_gR S K Z hv zc_10 (by decide) gf_X12_68 dX12_holder_67 (fun v9 hv => ?_)
    refine lv_iload_n S.1 S.2.1 dX12_holder_70 rfl (lv_at hl 1 rfl) ?_
    refine lv_iload S.1 S.2.1 dX12_holder_71 (lv_at hl 4 rfl) ?_
    refine zz_iast S K Z hv dX12_holder_73 (fun h10 H locs hv Z => ?_)
    refine lv_iconst (v := (1 : Int32)) S.1 S.2.1 dX12_holder_74 (by decide) ?_
    replace hk := zz_fin hv hk
    obtain ⟨rfl, rfl⟩ := Prod.mk.inj (hR0 _ hk)
    exact zz_iret S Z hret hlk dX12_holder_75 (Nat.le_refl _) (Nat.le_refl _)
  have hv := hf
  unfold f_X12_holder at hv
  clear hf
  obtain ⟨x, hxx⟩ : ∃ x, x = (r, hx) := ⟨_, rfl⟩
  rw [← hxx] at hv hk
  have ⟨H, hH⟩ : ∃ H, H = s.heap := ⟨_, rfl⟩
  have ⟨locs, hlo⟩ : ∃ q : List Loc, q = [] := ⟨_, rfl⟩
  have Z : zz_B D dA A h n s.heap H locs := by rw [hH, hlo]; exact Z
  have key : zz_W p l e rm_X12_holder s m args below meth c D dA A (some (.int r)) hx n 0 0 H locs 0 0 0 ls [] := by
    clear hH hlo hxx
    refine lv_aload_n S.1 S.2.1 dX12_holder_0 rfl (lv_at hl 0 rfl) ?_
    refine lv_iconst (v := (0 : Int32)) S.1 S.2.1 dX12_holder_1 (by decide) ?_
    refine zz_put S K Z hv zc_10 (by decide) gf_X12_1 rfl rfl rfl dX12_holder_2 (fun h1 H locs hv Z => ?_)
    refine lv_iload_n S.1 S.2.1 dX12_holder_5 rfl (lv_at hl 1 rfl) ?_
    refine lv_i2l S.1 S.2.1 dX12_holder_6 rfl ?_
    refine lv_lconst (v := (0 : Int64)) S.1 S.2.1 dX12_holder_7 (by decide) ?_
    refine lv_ldc2 (v := (3 : Int64)) S.1 S.2.1 S.2.2.2.1 (S.2.2.2.2 _ gk_X12_147) dX12_holder_8 ?_
    obtain ⟨v2, hq, hv⟩ := zz_bd hv
    refine zz_S [.long (a1.toInt64), .long ((0 : Int64)), .long ((3 : Int64))] S K Z (c_X12_in (a1.toInt64) (0 : Int64) (3 : Int64) hq) ⟨rfl, rfl⟩ gm_X12_in gs_X12_in gl_X12_105 ⟨by decide, by decide⟩ rfl hl.1 rfl (Nat.le_of_ble_eq_true rfl) dX12_holder_11 ⟨Nat.zero_le _, Nat.zero_le _⟩ (fun H locs Z => ?_)
    show W _ _ _ _ _ _ _ _ _ _ _ _ 0 0 _ (F0 m 14 ls [.int (v2)])
    refine lv_if_ne (tgt := 20) S.1 S.2.1 dX12_holder_14 (by decide) (fun hc => ?_) (fun hc => ?_)
    · replace hv := (if_neg hc).symm.trans hv
      refine lv_iload_n S.1 S.2.1 dX12_holder_20 rfl (lv_at hl 2 rfl) ?_
      refine lv_i2l S.1 S.2.1 dX12_holder_21 rfl ?_
      refine lv_lconst (v := (0 : Int64)) S.1 S.2.1 dX12_holder_22 (by decide) ?_
      refine lv_ldc2 (v := (2 : Int64)) S.1 S.2.1 S.2.2.2.1 (S.2.2.2.2 _ gk_X12_162) dX12_holder_23 ?_
      obtain ⟨v3, hq, hv⟩ := zz_bd hv
      refine zz_S [.long (a2.toInt64), .long ((0 : Int64)), .long ((2 : Int64))] S K Z (c_X12_in (a2.toInt64) (0 : Int64) (2 : Int64) hq) ⟨rfl, rfl⟩ gm_X12_in gs_X12_in gl_X12_105 ⟨by decide, by decide⟩ rfl hl.1 rfl (Nat.le_of_ble_eq_true rfl) dX12_holder_26 ⟨Nat.zero_le _, Nat.zero_le _⟩ (fun H locs Z => ?_)
      show W _ _ _ _ _ _ _ _ _ _ _ _ 0 0 _ (F0 m 29 ls [.int (v3)])
      refine lv_if_eq (tgt := 49) S.1 S.2.1 dX12_holder_29 (by decide) (fun hc => ?_) (fun hc => ?_)
      · replace hv := (if_pos hc).symm.trans hv
        refine lv_bipush (v := (-3 : Int32)) S.1 S.2.1 dX12_holder_49 (by decide) ?_
        replace hk := zz_fin hv hk
        obtain ⟨rfl, rfl⟩ := Prod.mk.inj (hR0 _ hk)
        exact zz_iret S Z hret hlk dX12_holder_51 (Nat.le_refl _) (Nat.le_refl _)
      · replace hv := (if_neg hc).symm.trans hv
        refine lv_iload_n S.1 S.2.1 dX12_holder_32 rfl (lv_at hl 2 rfl) ?_
        refine lv_iconst (v := (2 : Int32)) S.1 S.2.1 dX12_holder_33 (by decide) ?_
        refine lv_icmp_ne (tgt := 52) S.1 S.2.1 dX12_holder_34 (by decide) (fun hc => ?_) (fun hc => ?_)
        · replace hv := (if_neg hc).symm.trans hv
          exact J52 h1 _ hv hk H locs ls Z (lv_sub hl [0, 1, 2, 3, 4] rfl)
        · replace hv := (if_pos hc).symm.trans hv
          refine lv_iload_n S.1 S.2.1 dX12_holder_37 rfl (lv_at hl 3 rfl) ?_
          refine lv_i2l S.1 S.2.1 dX12_holder_38 rfl ?_
          refine lv_lconst (v := (1 : Int64)) S.1 S.2.1 dX12_holder_39 (by decide) ?_
          refine lv_ldc2 (v := (4 : Int64)) S.1 S.2.1 S.2.2.2.1 (S.2.2.2.2 _ gk_X12_164) dX12_holder_40 ?_
          obtain ⟨v11, hq, hv⟩ := zz_bd hv
          refine zz_S [.long (a3.toInt64), .long ((1 : Int64)), .long ((4 : Int64))] S K Z (c_X12_in (a3.toInt64) (1 : Int64) (4 : Int64) hq) ⟨rfl, rfl⟩ gm_X12_in gs_X12_in gl_X12_105 ⟨by decide, by decide⟩ rfl hl.1 rfl (Nat.le_of_ble_eq_true rfl) dX12_holder_43 ⟨Nat.zero_le _, Nat.zero_le _⟩ (fun H locs Z => ?_)
          show W _ _ _ _ _ _ _ _ _ _ _ _ 0 0 _ (F0 m 46 ls [.int (v11)])
          refine lv_if_ne (tgt := 52) S.1 S.2.1 dX12_holder_46 (by decide) (fun hc => ?_) (fun hc => ?_)
          · replace hv := (if_neg hc).symm.trans hv
            exact J52 h1 _ hv hk H locs ls Z (lv_sub hl [0, 1, 2, 3, 4] rfl)
          · replace hv := (if_pos hc).symm.trans hv
            refine lv_bipush (v := (-3 : Int32)) S.1 S.2.1 dX12_holder_49 (by decide) ?_
            replace hk := zz_fin hv hk
            obtain ⟨rfl, rfl⟩ := Prod.mk.inj (hR0 _ hk)
            exact zz_iret S Z hret hlk dX12_holder_51 (Nat.le_refl _) (Nat.le_refl _)
    · replace hv := (if_pos hc).symm.trans hv
      refine lv_bipush (v := (-2 : Int32)) S.1 S.2.1 dX12_holder_17 (by decide) ?_
      replace hk := zz_fin hv hk
      obtain ⟨rfl, rfl⟩ := Prod.mk.inj (hR0 _ hk)
      exact zz_iret S Z hret hlk dX12_holder_19 (Nat.le_refl _) (Nat.le_refl _)
  rw [hH, hlo] at key
  exact key

noncomputable def f_X12_seed (h : ZH) (a0 : Nat) (a1 : Int32) : Option (Int32 × ZH) :=
  (zp_V h a0 10 0 (.int ((0 : Int32)))).bind fun h1 => (zg_I h1 a0 10 3).bind fun v2 => (zp_V h1 a0 10 3 (.int (a1))).bind fun h3 => some ((v2, h3))
abbrev rm_X12_seed : Room := { frames := 0, cells := 0, slots := 0, locals := 0 }
set_option maxRecDepth 100000 in
set_option maxHeartbeats 4000000 in
theorem c_X12_seed {l : Launch} {D : va_G} {dA : Nat → ClassId} {A : Nat → Prop} {h : ZH} {n : Nat} (a0 : Nat) (a1 : Int32) {r : Int32} {hx : ZH} (hf : f_X12_seed h a0 a1 = some (r, hx)) : Met l yX12_seed (zz_ws yX12_seed cX12_seed 3 (some .int)) rm_X12_seed (zz_P D dA A h n [.ref (a0), .int (a1)]) (zz_Q D dA A (some (.int r)) hx n) 0 0 A := by
  refine zz_met (by decide) (Nat.le_of_ble_eq_true rfl) ?_
  intro p e s m args below meth c ls S K hret hlk hnm hl Z
  replace hl : lv_has ls 3 [(0, .ref (a0)), (1, .int (a1))] := hl
  obtain ⟨K0, hR0, hk⟩ : ∃ K0 : (Int32 × ZH) → Prop, (∀ x, K0 x → x = (r, hx)) ∧ K0 (r, hx) := ⟨fun x => x = (r, hx), fun _ h => h, rfl⟩
  have hv := hf
  unfold f_X12_seed at hv
  clear hf
  obtain ⟨x, hxx⟩ : ∃ x, x = (r, hx) := ⟨_, rfl⟩
  rw [← hxx] at hv hk
  have ⟨H, hH⟩ : ∃ H, H = s.heap := ⟨_, rfl⟩
  have ⟨locs, hlo⟩ : ∃ q : List Loc, q = [] := ⟨_, rfl⟩
  have Z : zz_B D dA A h n s.heap H locs := by rw [hH, hlo]; exact Z
  have key : zz_W p l e rm_X12_seed s m args below meth c D dA A (some (.int r)) hx n 0 0 H locs 0 0 0 ls [] := by
    clear hH hlo hxx
    refine lv_aload_n S.1 S.2.1 dX12_seed_0 rfl (lv_at hl 0 rfl) ?_
    refine lv_iconst (v := (0 : Int32)) S.1 S.2.1 dX12_seed_1 (by decide) ?_
    refine zz_put S K Z hv zc_10 (by decide) gf_X12_1 rfl rfl rfl dX12_seed_2 (fun h1 H locs hv Z => ?_)
    refine lv_aload_n S.1 S.2.1 dX12_seed_5 rfl (lv_at hl 0 rfl) ?_
    refine zz_gI S K Z hv zc_10 (by decide) gf_X12_97 dX12_seed_6 (fun v2 hv => ?_)
    refine lv_istore_n (lv' := [(2, .int (v2)), (0, .ref (a0)), (1, .int (a1))]) S.1 S.2.1 dX12_seed_9 rfl hl (by decide) rfl (fun ls hl => ?_)
    refine lv_aload_n S.1 S.2.1 dX12_seed_10 rfl (lv_at hl 1 rfl) ?_
    refine lv_iload_n S.1 S.2.1 dX12_seed_11 rfl (lv_at hl 2 rfl) ?_
    refine zz_put S K Z hv zc_10 (by decide) gf_X12_97 rfl rfl rfl dX12_seed_12 (fun h3 H locs hv Z => ?_)
    refine lv_iload_n S.1 S.2.1 dX12_seed_15 rfl (lv_at hl 0 rfl) ?_
    replace hk := zz_fin hv hk
    obtain ⟨rfl, rfl⟩ := Prod.mk.inj (hR0 _ hk)
    exact zz_iret S Z hret hlk dX12_seed_16 (Nat.le_refl _) (Nat.le_refl _)
  rw [hH, hlo] at key
  exact key

noncomputable def f_X12_copy_L2 (h : ZH) (a0 : Nat) (a1 : Int32) (a2 : Int32) (x3_1 : Int32) (h2 : ZH)  : Option ((Int32 × ZH) ⊕ (ZH)) :=
  if (12 : Int32) ≤ x3_1 then ((some (h2)).map Sum.inr) else ((zg_R h2 a0 10 28).bind fun v3 => (zg_R h2 a0 10 28).bind fun v4 => (zl_I h2 v4 1 (((12 : Int32) * a1) + x3_1)).bind fun v5 => (zs_I h2 v3 1 (((12 : Int32) * a2) + x3_1) v5).bind fun h6 => some (.inl (x3_1 + (1 : Int32), h6)))
noncomputable def f_X12_copy (h : ZH) (a0 : Nat) (a1 : Int32) (a2 : Int32) : Option (ZH) :=
  zz_loop (fun st : (Int32 × ZH) => f_X12_copy_L2 h a0 a1 a2 (st.1) (st.2)) ((0 : Int32), h)
abbrev rm_X12_copy : Room := { frames := 0, cells := 0, slots := 0, locals := 0 }
set_option maxRecDepth 100000 in
set_option maxHeartbeats 4000000 in
theorem c_X12_copy {l : Launch} {D : va_G} {dA : Nat → ClassId} {A : Nat → Prop} {h : ZH} {n : Nat} (a0 : Nat) (a1 : Int32) (a2 : Int32) {hx : ZH} (hf : f_X12_copy h a0 a1 a2 = some hx) : Met l yX12_copy (zz_ws yX12_copy cX12_copy 4 none) rm_X12_copy (zz_P D dA A h n [.ref (a0), .int (a1), .int (a2)]) (zz_Q D dA A (none) hx n) 0 0 A := by
  refine zz_met (by decide) (Nat.le_of_ble_eq_true rfl) ?_
  intro p e s m args below meth c ls S K hret hlk hnm hl Z
  replace hl : lv_has ls 4 [(0, .ref (a0)), (1, .int (a1)), (2, .int (a2))] := hl
  obtain ⟨K0, hR0, hk⟩ : ∃ K0 : (ZH) → Prop, (∀ x, K0 x → x = hx) ∧ K0 hx := ⟨fun x => x = hx, fun _ h => h, rfl⟩
  have L2 : ∀ (st : (Int32 × ZH)) (x : (ZH)), zz_loop (fun st : (Int32 × ZH) => f_X12_copy_L2 h a0 a1 a2 (st.1) (st.2)) st = some x → K0 x → (fun st : (Int32 × ZH) => ∀ (H : Heap) (locs : List Loc) (ls : Array Slot), zz_B D dA A (st.2) n s.heap H locs → lv_has ls 4 [(0, .ref (a0)), (1, .int (a1)), (2, .int (a2)), (3, .int ((st.1)))] → zz_W p l e rm_X12_copy s m args below meth c D dA A (none) hx n 0 0 H locs 0 0 2 ls []) st := by
    refine zz_loop_go (K := K0) ?_
    intro K1 hP1 hR1
    rintro ⟨x3_1, h2⟩ x hv hk H locs ls Z hl
    replace hv : f_X12_copy_L2 h a0 a1 a2 x3_1 h2 = some x := hv
    unfold f_X12_copy_L2 at hv
    replace hl : lv_has ls 4 [(0, .ref (a0)), (1, .int (a1)), (2, .int (a2)), (3, .int (x3_1))] := hl
    replace Z : zz_B D dA A h2 n s.heap H locs := Z
    show zz_W p l e rm_X12_copy s m args below meth c D dA A (none) hx n 0 0 H locs 0 0 2 ls []
    refine lv_iload_n S.1 S.2.1 dX12_copy_2 rfl (lv_at hl 3 rfl) ?_
    refine lv_bipush (v := (12 : Int32)) S.1 S.2.1 dX12_copy_3 (by decide) ?_
    refine lv_icmp_ge (tgt := 36) S.1 S.2.1 dX12_copy_5 (by decide) (fun hc => ?_) (fun hc => ?_)
    · replace hv := (if_pos hc).symm.trans hv
      obtain ⟨_, hv, hk⟩ := zz_mapk hv hk
      replace hk := hR1 _ hk
      replace hk := zz_fin hv hk
      obtain rfl := hR0 _ hk
      exact zz_vret S Z hret hlk dX12_copy_36 (Nat.le_refl _) (Nat.le_refl _)
    · replace hv := (if_neg hc).symm.trans hv
      refine lv_aload_n S.1 S.2.1 dX12_copy_8 rfl (lv_at hl 0 rfl) ?_
      refine zz_gR S K Z hv zc_10 (by decide) gf_X12_75 dX12_copy_9 (fun v3 hv => ?_)
      refine lv_bipush (v := (12 : Int32)) S.1 S.2.1 dX12_copy_12 (by decide) ?_
      refine lv_iload_n S.1 S.2.1 dX12_copy_14 rfl (lv_at hl 2 rfl) ?_
      refine lv_imul S.1 S.2.1 dX12_copy_15 ?_
      refine lv_iload_n S.1 S.2.1 dX12_copy_16 rfl (lv_at hl 3 rfl) ?_
      refine lv_iadd S.1 S.2.1 dX12_copy_17 ?_
      refine lv_aload_n S.1 S.2.1 dX12_copy_18 rfl (lv_at hl 0 rfl) ?_
      refine zz_gR S K Z hv zc_10 (by decide) gf_X12_75 dX12_copy_19 (fun v4 hv => ?_)
      refine lv_bipush (v := (12 : Int32)) S.1 S.2.1 dX12_copy_22 (by decide) ?_
      refine lv_iload_n S.1 S.2.1 dX12_copy_24 rfl (lv_at hl 1 rfl) ?_
      refine lv_imul S.1 S.2.1 dX12_copy_25 ?_
      refine lv_iload_n S.1 S.2.1 dX12_copy_26 rfl (lv_at hl 3 rfl) ?_
      refine lv_iadd S.1 S.2.1 dX12_copy_27 ?_
      refine zz_iald S K Z hv dX12_copy_28 (fun v5 hv => ?_)
      refine zz_iast S K Z hv dX12_copy_29 (fun h6 H locs hv Z => ?_)
      refine lv_iinc (v := x3_1 + (1 : Int32)) (lv' := [(3, .int (x3_1 + (1 : Int32))), (0, .ref (a0)), (1, .int (a1)), (2, .int (a2))]) S.1 S.2.1 dX12_copy_30 hl (k := 3) rfl rfl (by decide) rfl (fun ls hl => ?_)
      refine lv_goto (tgt := 2) S.1 S.2.1 dX12_copy_33 (by decide) ?_
      replace hk := zz_fin hv hk
      exact hP1 _ hk H locs ls Z (lv_sub hl [1, 2, 3, 0] rfl)
  have hv := hf
  unfold f_X12_copy at hv
  clear hf
  obtain ⟨x, hxx⟩ : ∃ x, x = hx := ⟨_, rfl⟩
  rw [← hxx] at hv hk
  have ⟨H, hH⟩ : ∃ H, H = s.heap := ⟨_, rfl⟩
  have ⟨locs, hlo⟩ : ∃ q : List Loc, q = [] := ⟨_, rfl⟩
  have Z : zz_B D dA A h n s.heap H locs := by rw [hH, hlo]; exact Z
  have key : zz_W p l e rm_X12_copy s m args below meth c D dA A (none) hx n 0 0 H locs 0 0 0 ls [] := by
    clear hH hlo hxx
    refine lv_iconst (v := (0 : Int32)) S.1 S.2.1 dX12_copy_0 (by decide) ?_
    refine lv_istore_n (lv' := [(3, .int ((0 : Int32))), (0, .ref (a0)), (1, .int (a1)), (2, .int (a2))]) S.1 S.2.1 dX12_copy_1 rfl hl (by decide) rfl (fun ls hl => ?_)
    exact L2  ((0 : Int32), h) _ hv hk H locs ls Z (lv_sub hl [1, 2, 3, 0] rfl)
  rw [hH, hlo] at key
  exact key

noncomputable def f_X12_drawn (h : ZH) (a0 : Int32) : Option (Int32) :=
  some ((a0 * (1103515245 : Int32)) + (12345 : Int32))
abbrev rm_X12_drawn : Room := { frames := 0, cells := 0, slots := 0, locals := 0 }
set_option maxRecDepth 100000 in
set_option maxHeartbeats 4000000 in
theorem c_X12_drawn {l : Launch} {D : va_G} {dA : Nat → ClassId} {A : Nat → Prop} {h : ZH} {n : Nat} (a0 : Int32) {r : Int32} (hf : f_X12_drawn h a0 = some r) : Met l yX12_drawn (zz_ws yX12_drawn cX12_drawn 1 (some .int)) rm_X12_drawn (zz_P D dA A h n [.int (a0)]) (zz_Q D dA A (some (.int r)) h n) 0 0 A := by
  refine zz_met (by decide) (Nat.le_of_ble_eq_true rfl) ?_
  intro p e s m args below meth c ls S K hret hlk hnm hl Z
  replace hl : lv_has ls 1 [(0, .int (a0))] := hl
  obtain ⟨K0, hR0, hk⟩ : ∃ K0 : (Int32) → Prop, (∀ x, K0 x → x = r) ∧ K0 r := ⟨fun x => x = r, fun _ h => h, rfl⟩
  have hv := hf
  unfold f_X12_drawn at hv
  clear hf
  obtain ⟨x, hxx⟩ : ∃ x, x = r := ⟨_, rfl⟩
  rw [← hxx] at hv hk
  have ⟨H, hH⟩ : ∃ H, H = s.heap := ⟨_, rfl⟩
  have ⟨locs, hlo⟩ : ∃ q : List Loc, q = [] := ⟨_, rfl⟩
  have Z : zz_B D dA A h n s.heap H locs := by rw [hH, hlo]; exact Z
  have key : zz_W p l e rm_X12_drawn s m args below meth c D dA A (some (.int r)) h n 0 0 H locs 0 0 0 ls [] := by
    clear hH hlo hxx
    refine lv_iload_n S.1 S.2.1 dX12_drawn_0 rfl (lv_at hl 0 rfl) ?_
    refine lv_ldc (v := (1103515245 : Int32)) S.1 S.2.1 S.2.2.2.1 (S.2.2.2.2 _ gk_X12_166) dX12_drawn_1 ?_
    refine lv_imul S.1 S.2.1 dX12_drawn_3 ?_
    refine lv_sipush (v := (12345 : Int32)) S.1 S.2.1 dX12_drawn_4 (by decide) ?_
    refine lv_iadd S.1 S.2.1 dX12_drawn_7 ?_
    replace hk := zz_fin hv hk
    obtain rfl := hR0 _ hk
    exact zz_iret S Z hret hlk dX12_drawn_8 (Nat.le_refl _) (Nat.le_refl _)
  rw [hH, hlo] at key
  exact key

noncomputable def f_X12_acts (h : ZH) (a0 : Nat) (a1 : Int32) : Option (Int32 × ZH) :=
  (zg_R h a0 10 16).bind fun v1 => (zl_I h v1 1 a1).bind fun v2 => (zg_R h a0 10 17).bind fun v3 => (zl_I h v3 1 a1).bind fun v4 => (zg_R h a0 10 15).bind fun v5 => (zl_I h v5 1 a1).bind fun v6 => if v6 = (1 : Int32) then ((zg_R h a0 10 28).bind fun v7 => (zl_I h v7 1 ((4 : Int32) + v2)).bind fun v8 => (zs_I h v7 1 ((4 : Int32) + v2) (v8 + v4)).bind fun h9 => some (((0 : Int32), h9))) else (if v6 = (2 : Int32) then ((zg_R h a0 10 28).bind fun v10 => (zl_I h v10 1 ((4 : Int32) + v4)).bind fun v11 => if v11 = 0 then (some (((4 : Int32), h))) else ((zg_R h a0 10 28).bind fun v12 => (zg_R h a0 10 28).bind fun v13 => (zl_I h v13 1 ((4 : Int32) + v4)).bind fun v14 => zz_ne v14 <| (zs_I h v12 1 ((4 : Int32) + v2) ((12 : Int32) / v14)).bind fun h15 => some (((0 : Int32), h15)))) else (if v6 = (3 : Int32) then ((zg_R h a0 10 22).bind fun v16 => (zl_I h v16 1 v2).bind fun v17 => if v17 = (2 : Int32) then ((zg_R h a0 10 28).bind fun v18 => (zl_I h v18 1 ((4 : Int32) + v4)).bind fun v19 => (zg_R h a0 10 23).bind fun v20 => (zl_I h v20 1 v2).bind fun v21 => (f_X12_in h (v19.toInt64) (0 : Int64) ((v21 - (1 : Int32)).toInt64)).bind fun v22 => if v22 = 0 then (some (((3 : Int32), h))) else ((zg_R h a0 10 28).bind fun v23 => (zg_R h a0 10 24).bind fun v24 => (zl_I h v24 1 v2).bind fun v25 => (zg_R h a0 10 28).bind fun v26 => (zl_I h v26 1 ((4 : Int32) + v4)).bind fun v27 => (zs_I h v23 1 (11 : Int32) (v25 + v27)).bind fun h28 => some (((0 : Int32), h28)))) else ((zg_R h a0 10 22).bind fun v29 => (zl_I h v29 1 v2).bind fun v30 => if v30 = 0 then (some (((1 : Int32), h))) else (some (((2 : Int32), h))))) else (if v6 = (4 : Int32) then ((zg_R h a0 10 22).bind fun v31 => (zl_I h v31 1 v2).bind fun v32 => if v32 = (1 : Int32) then ((zg_R h a0 10 28).bind fun v33 => (zg_R h a0 10 24).bind fun v34 => (zl_I h v34 1 v2).bind fun v35 => (zs_I h v33 1 (11 : Int32) v35).bind fun h36 => some (((0 : Int32), h36))) else ((zg_R h a0 10 22).bind fun v37 => (zl_I h v37 1 v2).bind fun v38 => if v38 = 0 then (some (((1 : Int32), h))) else (some (((2 : Int32), h))))) else (if v6 = (5 : Int32) then ((zg_R h a0 10 28).bind fun v39 => (zg_R h a0 10 28).bind fun v40 => (zl_I h v40 1 (2 : Int32)).bind fun v41 => (f_X12_drawn h v41).bind fun v42 => (zs_I h v39 1 (2 : Int32) v42).bind fun h43 => (zg_R h43 a0 10 28).bind fun v44 => (zg_R h43 a0 10 28).bind fun v45 => (zl_I h43 v45 1 (2 : Int32)).bind fun v46 => zz_ne v4 <| (zs_I h43 v44 1 ((4 : Int32) + v2) ((((v46.toUInt32 >>> ((16 : Int32).toUInt32 &&& Int32.toUInt32 31)).toInt32) &&& (32767 : Int32)) - (((v46.toUInt32 >>> ((16 : Int32).toUInt32 &&& Int32.toUInt32 31)).toInt32) &&& (32767 : Int32)) / v4 * v4)).bind fun h47 => some (((0 : Int32), h47))) else (if v6 = (6 : Int32) then ((zg_R h a0 10 28).bind fun v48 => (zs_I h v48 1 (1 : Int32) v2).bind fun h49 => some (((0 : Int32), h49))) else (some (((0 : Int32), h))))))))
abbrev rm_X12_acts : Room := { frames := 1, cells := 0, slots := 0, locals := 25 }
set_option maxRecDepth 100000 in
set_option maxHeartbeats 4000000 in
theorem c_X12_acts {l : Launch} {D : va_G} {dA : Nat → ClassId} {A : Nat → Prop} {h : ZH} {n : Nat} (a0 : Nat) (a1 : Int32) {r : Int32} {hx : ZH} (hf : f_X12_acts h a0 a1 = some (r, hx)) : Met l yX12_acts (zz_ws yX12_acts cX12_acts 4 (some .int)) rm_X12_acts (zz_P D dA A h n [.ref (a0), .int (a1)]) (zz_Q D dA A (some (.int r)) hx n) 0 0 A := by
  refine zz_met (by decide) (Nat.le_of_ble_eq_true rfl) ?_
  intro p e s m args below meth c ls S K hret hlk hnm hl Z
  replace hl : lv_has ls 4 [(0, .ref (a0)), (1, .int (a1))] := hl
  obtain ⟨K0, hR0, hk⟩ : ∃ K0 : (Int32 × ZH) → Prop, (∀ x, K0 x → x = (r, hx)) ∧ K0 (r, hx) := ⟨fun x => x = (r, hx), fun _ h => h, rfl⟩
  have hv := hf
  unfold f_X12_acts at hv
  clear hf
  obtain ⟨x, hxx⟩ : ∃ x, x = (r, hx) := ⟨_, rfl⟩
  rw [← hxx] at hv hk
  have ⟨H, hH⟩ : ∃ H, H = s.heap := ⟨_, rfl⟩
  have ⟨locs, hlo⟩ : ∃ q : List Loc, q = [] := ⟨_, rfl⟩
  have Z : zz_B D dA A h n s.heap H locs := by rw [hH, hlo]; exact Z
  have key : zz_W p l e rm_X12_acts s m args below meth c D dA A (some (.int r)) hx n 0 0 H locs 0 0 0 ls [] := by
    clear hH hlo hxx
    refine lv_aload_n S.1 S.2.1 dX12_acts_0 rfl (lv_at hl 0 rfl) ?_
    refine zz_gR S K Z hv zc_10 (by decide) gf_X12_44 dX12_acts_1 (fun v1 hv => ?_)
    refine lv_iload_n S.1 S.2.1 dX12_acts_4 rfl (lv_at hl 1 rfl) ?_
    refine zz_iald S K Z hv dX12_acts_5 (fun v2 hv => ?_)
    refine lv_istore_n (lv' := [(2, .int (v2)), (0, .ref (a0)), (1, .int (a1))]) S.1 S.2.1 dX12_acts_6 rfl hl (by decide) rfl (fun ls hl => ?_)
    refine lv_aload_n S.1 S.2.1 dX12_acts_7 rfl (lv_at hl 1 rfl) ?_
    refine zz_gR S K Z hv zc_10 (by decide) gf_X12_47 dX12_acts_8 (fun v3 hv => ?_)
    refine lv_iload_n S.1 S.2.1 dX12_acts_11 rfl (lv_at hl 2 rfl) ?_
    refine zz_iald S K Z hv dX12_acts_12 (fun v4 hv => ?_)
    refine lv_istore_n (lv' := [(3, .int (v4)), (2, .int (v2)), (0, .ref (a0)), (1, .int (a1))]) S.1 S.2.1 dX12_acts_13 rfl hl (by decide) rfl (fun ls hl => ?_)
    refine lv_aload_n S.1 S.2.1 dX12_acts_14 rfl (lv_at hl 2 rfl) ?_
    refine zz_gR S K Z hv zc_10 (by decide) gf_X12_41 dX12_acts_15 (fun v5 hv => ?_)
    refine lv_iload_n S.1 S.2.1 dX12_acts_18 rfl (lv_at hl 3 rfl) ?_
    refine zz_iald S K Z hv dX12_acts_19 (fun v6 hv => ?_)
    by_cases hc1 : v6 = (1 : Int32)
    · replace hv := (if_pos hc1).symm.trans hv
      refine lv_tableIn (tgt := 60) S.1 S.2.1 dX12_acts_20 (by rw [hc1]; decide) (by rw [hc1]; decide) (by rw [hc1]; rfl) (by decide) ?_
      refine lv_aload_n S.1 S.2.1 dX12_acts_60 rfl (lv_at hl 2 rfl) ?_
      refine zz_gR S K Z hv zc_10 (by decide) gf_X12_75 dX12_acts_61 (fun v7 hv => ?_)
      refine lv_iconst (v := (4 : Int32)) S.1 S.2.1 dX12_acts_64 (by decide) ?_
      refine lv_iload_n S.1 S.2.1 dX12_acts_65 rfl (lv_at hl 1 rfl) ?_
      refine lv_iadd S.1 S.2.1 dX12_acts_66 ?_
      refine lv_dup2_11 S.1 S.2.1 dX12_acts_67 rfl rfl ?_
      refine zz_iald S K Z hv dX12_acts_68 (fun v8 hv => ?_)
      refine lv_iload_n S.1 S.2.1 dX12_acts_69 rfl (lv_at hl 0 rfl) ?_
      refine lv_iadd S.1 S.2.1 dX12_acts_70 ?_
      refine zz_iast S K Z hv dX12_acts_71 (fun h9 H locs hv Z => ?_)
      refine lv_iconst (v := (0 : Int32)) S.1 S.2.1 dX12_acts_72 (by decide) ?_
      replace hk := zz_fin hv hk
      obtain ⟨rfl, rfl⟩ := Prod.mk.inj (hR0 _ hk)
      exact zz_iret S Z hret hlk dX12_acts_73 (Nat.le_refl _) (Nat.le_refl _)
    · replace hv := (if_neg hc1).symm.trans hv
      by_cases hc2 : v6 = (2 : Int32)
      · replace hv := (if_pos hc2).symm.trans hv
        refine lv_tableIn (tgt := 74) S.1 S.2.1 dX12_acts_20 (by rw [hc2]; decide) (by rw [hc2]; decide) (by rw [hc2]; rfl) (by decide) ?_
        refine lv_aload_n S.1 S.2.1 dX12_acts_74 rfl (lv_at hl 2 rfl) ?_
        refine zz_gR S K Z hv zc_10 (by decide) gf_X12_75 dX12_acts_75 (fun v10 hv => ?_)
        refine lv_iconst (v := (4 : Int32)) S.1 S.2.1 dX12_acts_78 (by decide) ?_
        refine lv_iload_n S.1 S.2.1 dX12_acts_79 rfl (lv_at hl 0 rfl) ?_
        refine lv_iadd S.1 S.2.1 dX12_acts_80 ?_
        refine zz_iald S K Z hv dX12_acts_81 (fun v11 hv => ?_)
        refine lv_if_ne (tgt := 87) S.1 S.2.1 dX12_acts_82 (by decide) (fun hc => ?_) (fun hc => ?_)
        · replace hv := (if_neg hc).symm.trans hv
          refine lv_aload_n S.1 S.2.1 dX12_acts_87 rfl (lv_at hl 2 rfl) ?_
          refine zz_gR S K Z hv zc_10 (by decide) gf_X12_75 dX12_acts_88 (fun v12 hv => ?_)
          refine lv_iconst (v := (4 : Int32)) S.1 S.2.1 dX12_acts_91 (by decide) ?_
          refine lv_iload_n S.1 S.2.1 dX12_acts_92 rfl (lv_at hl 1 rfl) ?_
          refine lv_iadd S.1 S.2.1 dX12_acts_93 ?_
          refine lv_bipush (v := (12 : Int32)) S.1 S.2.1 dX12_acts_94 (by decide) ?_
          refine lv_aload_n S.1 S.2.1 dX12_acts_96 rfl (lv_at hl 2 rfl) ?_
          refine zz_gR S K Z hv zc_10 (by decide) gf_X12_75 dX12_acts_97 (fun v13 hv => ?_)
          refine lv_iconst (v := (4 : Int32)) S.1 S.2.1 dX12_acts_100 (by decide) ?_
          refine lv_iload_n S.1 S.2.1 dX12_acts_101 rfl (lv_at hl 0 rfl) ?_
          refine lv_iadd S.1 S.2.1 dX12_acts_102 ?_
          refine zz_iald S K Z hv dX12_acts_103 (fun v14 hv => ?_)
          obtain ⟨hne, hv⟩ := zz_ne_s hv
          refine lv_idiv S.1 S.2.1 dX12_acts_104 hne ?_
          refine zz_iast S K Z hv dX12_acts_105 (fun h15 H locs hv Z => ?_)
          refine lv_iconst (v := (0 : Int32)) S.1 S.2.1 dX12_acts_106 (by decide) ?_
          replace hk := zz_fin hv hk
          obtain ⟨rfl, rfl⟩ := Prod.mk.inj (hR0 _ hk)
          exact zz_iret S Z hret hlk dX12_acts_107 (Nat.le_refl _) (Nat.le_refl _)
        · replace hv := (if_pos hc).symm.trans hv
          refine lv_iconst (v := (4 : Int32)) S.1 S.2.1 dX12_acts_85 (by decide) ?_
          replace hk := zz_fin hv hk
          obtain ⟨rfl, rfl⟩ := Prod.mk.inj (hR0 _ hk)
          exact zz_iret S Z hret hlk dX12_acts_86 (Nat.le_refl _) (Nat.le_refl _)
      · replace hv := (if_neg hc2).symm.trans hv
        by_cases hc3 : v6 = (3 : Int32)
        · replace hv := (if_pos hc3).symm.trans hv
          refine lv_tableIn (tgt := 108) S.1 S.2.1 dX12_acts_20 (by rw [hc3]; decide) (by rw [hc3]; decide) (by rw [hc3]; rfl) (by decide) ?_
          refine lv_aload_n S.1 S.2.1 dX12_acts_108 rfl (lv_at hl 2 rfl) ?_
          refine zz_gR S K Z hv zc_10 (by decide) gf_X12_62 dX12_acts_109 (fun v16 hv => ?_)
          refine lv_iload_n S.1 S.2.1 dX12_acts_112 rfl (lv_at hl 1 rfl) ?_
          refine zz_iald S K Z hv dX12_acts_113 (fun v17 hv => ?_)
          refine lv_iconst (v := (2 : Int32)) S.1 S.2.1 dX12_acts_114 (by decide) ?_
          refine lv_icmp_eq (tgt := 133) S.1 S.2.1 dX12_acts_115 (by decide) (fun hc => ?_) (fun hc => ?_)
          · replace hv := (if_pos hc).symm.trans hv
            refine lv_aload_n S.1 S.2.1 dX12_acts_133 rfl (lv_at hl 2 rfl) ?_
            refine zz_gR S K Z hv zc_10 (by decide) gf_X12_75 dX12_acts_134 (fun v18 hv => ?_)
            refine lv_iconst (v := (4 : Int32)) S.1 S.2.1 dX12_acts_137 (by decide) ?_
            refine lv_iload_n S.1 S.2.1 dX12_acts_138 rfl (lv_at hl 0 rfl) ?_
            refine lv_iadd S.1 S.2.1 dX12_acts_139 ?_
            refine zz_iald S K Z hv dX12_acts_140 (fun v19 hv => ?_)
            refine lv_i2l S.1 S.2.1 dX12_acts_141 rfl ?_
            refine lv_lconst (v := (0 : Int64)) S.1 S.2.1 dX12_acts_142 (by decide) ?_
            refine lv_aload_n S.1 S.2.1 dX12_acts_143 rfl (lv_at hl 2 rfl) ?_
            refine zz_gR S K Z hv zc_10 (by decide) gf_X12_65 dX12_acts_144 (fun v20 hv => ?_)
            refine lv_iload_n S.1 S.2.1 dX12_acts_147 rfl (lv_at hl 1 rfl) ?_
            refine zz_iald S K Z hv dX12_acts_148 (fun v21 hv => ?_)
            refine lv_iconst (v := (1 : Int32)) S.1 S.2.1 dX12_acts_149 (by decide) ?_
            refine lv_isub S.1 S.2.1 dX12_acts_150 ?_
            refine lv_i2l S.1 S.2.1 dX12_acts_151 rfl ?_
            obtain ⟨v22, hq, hv⟩ := zz_bd hv
            refine zz_S [.long (v19.toInt64), .long ((0 : Int64)), .long ((v21 - (1 : Int32)).toInt64)] S K Z (c_X12_in (v19.toInt64) (0 : Int64) ((v21 - (1 : Int32)).toInt64) hq) ⟨rfl, rfl⟩ gm_X12_in gs_X12_in gl_X12_105 ⟨by decide, by decide⟩ rfl hl.1 rfl (Nat.le_of_ble_eq_true rfl) dX12_acts_152 ⟨Nat.zero_le _, Nat.zero_le _⟩ (fun H locs Z => ?_)
            show W _ _ _ _ _ _ _ _ _ _ _ _ 0 0 _ (F0 m 155 ls [.int (v22)])
            refine lv_if_ne (tgt := 160) S.1 S.2.1 dX12_acts_155 (by decide) (fun hc => ?_) (fun hc => ?_)
            · replace hv := (if_neg hc).symm.trans hv
              refine lv_aload_n S.1 S.2.1 dX12_acts_160 rfl (lv_at hl 2 rfl) ?_
              refine zz_gR S K Z hv zc_10 (by decide) gf_X12_75 dX12_acts_161 (fun v23 hv => ?_)
              refine lv_bipush (v := (11 : Int32)) S.1 S.2.1 dX12_acts_164 (by decide) ?_
              refine lv_aload_n S.1 S.2.1 dX12_acts_166 rfl (lv_at hl 2 rfl) ?_
              refine zz_gR S K Z hv zc_10 (by decide) gf_X12_68 dX12_acts_167 (fun v24 hv => ?_)
              refine lv_iload_n S.1 S.2.1 dX12_acts_170 rfl (lv_at hl 1 rfl) ?_
              refine zz_iald S K Z hv dX12_acts_171 (fun v25 hv => ?_)
              refine lv_aload_n S.1 S.2.1 dX12_acts_172 rfl (lv_at hl 2 rfl) ?_
              refine zz_gR S K Z hv zc_10 (by decide) gf_X12_75 dX12_acts_173 (fun v26 hv => ?_)
              refine lv_iconst (v := (4 : Int32)) S.1 S.2.1 dX12_acts_176 (by decide) ?_
              refine lv_iload_n S.1 S.2.1 dX12_acts_177 rfl (lv_at hl 0 rfl) ?_
              refine lv_iadd S.1 S.2.1 dX12_acts_178 ?_
              refine zz_iald S K Z hv dX12_acts_179 (fun v27 hv => ?_)
              refine lv_iadd S.1 S.2.1 dX12_acts_180 ?_
              refine zz_iast S K Z hv dX12_acts_181 (fun h28 H locs hv Z => ?_)
              refine lv_iconst (v := (0 : Int32)) S.1 S.2.1 dX12_acts_182 (by decide) ?_
              replace hk := zz_fin hv hk
              obtain ⟨rfl, rfl⟩ := Prod.mk.inj (hR0 _ hk)
              exact zz_iret S Z hret hlk dX12_acts_183 (Nat.le_refl _) (Nat.le_refl _)
            · replace hv := (if_pos hc).symm.trans hv
              refine lv_iconst (v := (3 : Int32)) S.1 S.2.1 dX12_acts_158 (by decide) ?_
              replace hk := zz_fin hv hk
              obtain ⟨rfl, rfl⟩ := Prod.mk.inj (hR0 _ hk)
              exact zz_iret S Z hret hlk dX12_acts_159 (Nat.le_refl _) (Nat.le_refl _)
          · replace hv := (if_neg hc).symm.trans hv
            refine lv_aload_n S.1 S.2.1 dX12_acts_118 rfl (lv_at hl 2 rfl) ?_
            refine zz_gR S K Z hv zc_10 (by decide) gf_X12_62 dX12_acts_119 (fun v29 hv => ?_)
            refine lv_iload_n S.1 S.2.1 dX12_acts_122 rfl (lv_at hl 1 rfl) ?_
            refine zz_iald S K Z hv dX12_acts_123 (fun v30 hv => ?_)
            refine lv_if_ne (tgt := 131) S.1 S.2.1 dX12_acts_124 (by decide) (fun hc => ?_) (fun hc => ?_)
            · replace hv := (if_neg hc).symm.trans hv
              refine lv_iconst (v := (2 : Int32)) S.1 S.2.1 dX12_acts_131 (by decide) ?_
              replace hk := zz_fin hv hk
              obtain ⟨rfl, rfl⟩ := Prod.mk.inj (hR0 _ hk)
              exact zz_iret S Z hret hlk dX12_acts_132 (Nat.le_refl _) (Nat.le_refl _)
            · replace hv := (if_pos hc).symm.trans hv
              refine lv_iconst (v := (1 : Int32)) S.1 S.2.1 dX12_acts_127 (by decide) ?_
              refine lv_goto (tgt := 132) S.1 S.2.1 dX12_acts_128 (by decide) ?_
              replace hk := zz_fin hv hk
              obtain ⟨rfl, rfl⟩ := Prod.mk.inj (hR0 _ hk)
              exact zz_iret S Z hret hlk dX12_acts_132 (Nat.le_refl _) (Nat.le_refl _)
        · replace hv := (if_neg hc3).symm.trans hv
          by_cases hc4 : v6 = (4 : Int32)
          · replace hv := (if_pos hc4).symm.trans hv
            refine lv_tableIn (tgt := 184) S.1 S.2.1 dX12_acts_20 (by rw [hc4]; decide) (by rw [hc4]; decide) (by rw [hc4]; rfl) (by decide) ?_
            refine lv_aload_n S.1 S.2.1 dX12_acts_184 rfl (lv_at hl 2 rfl) ?_
            refine zz_gR S K Z hv zc_10 (by decide) gf_X12_62 dX12_acts_185 (fun v31 hv => ?_)
            refine lv_iload_n S.1 S.2.1 dX12_acts_188 rfl (lv_at hl 1 rfl) ?_
            refine zz_iald S K Z hv dX12_acts_189 (fun v32 hv => ?_)
            refine lv_iconst (v := (1 : Int32)) S.1 S.2.1 dX12_acts_190 (by decide) ?_
            refine lv_icmp_eq (tgt := 209) S.1 S.2.1 dX12_acts_191 (by decide) (fun hc => ?_) (fun hc => ?_)
            · replace hv := (if_pos hc).symm.trans hv
              refine lv_aload_n S.1 S.2.1 dX12_acts_209 rfl (lv_at hl 2 rfl) ?_
              refine zz_gR S K Z hv zc_10 (by decide) gf_X12_75 dX12_acts_210 (fun v33 hv => ?_)
              refine lv_bipush (v := (11 : Int32)) S.1 S.2.1 dX12_acts_213 (by decide) ?_
              refine lv_aload_n S.1 S.2.1 dX12_acts_215 rfl (lv_at hl 2 rfl) ?_
              refine zz_gR S K Z hv zc_10 (by decide) gf_X12_68 dX12_acts_216 (fun v34 hv => ?_)
              refine lv_iload_n S.1 S.2.1 dX12_acts_219 rfl (lv_at hl 1 rfl) ?_
              refine zz_iald S K Z hv dX12_acts_220 (fun v35 hv => ?_)
              refine zz_iast S K Z hv dX12_acts_221 (fun h36 H locs hv Z => ?_)
              refine lv_iconst (v := (0 : Int32)) S.1 S.2.1 dX12_acts_222 (by decide) ?_
              replace hk := zz_fin hv hk
              obtain ⟨rfl, rfl⟩ := Prod.mk.inj (hR0 _ hk)
              exact zz_iret S Z hret hlk dX12_acts_223 (Nat.le_refl _) (Nat.le_refl _)
            · replace hv := (if_neg hc).symm.trans hv
              refine lv_aload_n S.1 S.2.1 dX12_acts_194 rfl (lv_at hl 2 rfl) ?_
              refine zz_gR S K Z hv zc_10 (by decide) gf_X12_62 dX12_acts_195 (fun v37 hv => ?_)
              refine lv_iload_n S.1 S.2.1 dX12_acts_198 rfl (lv_at hl 1 rfl) ?_
              refine zz_iald S K Z hv dX12_acts_199 (fun v38 hv => ?_)
              refine lv_if_ne (tgt := 207) S.1 S.2.1 dX12_acts_200 (by decide) (fun hc => ?_) (fun hc => ?_)
              · replace hv := (if_neg hc).symm.trans hv
                refine lv_iconst (v := (2 : Int32)) S.1 S.2.1 dX12_acts_207 (by decide) ?_
                replace hk := zz_fin hv hk
                obtain ⟨rfl, rfl⟩ := Prod.mk.inj (hR0 _ hk)
                exact zz_iret S Z hret hlk dX12_acts_208 (Nat.le_refl _) (Nat.le_refl _)
              · replace hv := (if_pos hc).symm.trans hv
                refine lv_iconst (v := (1 : Int32)) S.1 S.2.1 dX12_acts_203 (by decide) ?_
                refine lv_goto (tgt := 208) S.1 S.2.1 dX12_acts_204 (by decide) ?_
                replace hk := zz_fin hv hk
                obtain ⟨rfl, rfl⟩ := Prod.mk.inj (hR0 _ hk)
                exact zz_iret S Z hret hlk dX12_acts_208 (Nat.le_refl _) (Nat.le_refl _)
          · replace hv := (if_neg hc4).symm.trans hv
            by_cases hc5 : v6 = (5 : Int32)
            · replace hv := (if_pos hc5).symm.trans hv
              refine lv_tableIn (tgt := 224) S.1 S.2.1 dX12_acts_20 (by rw [hc5]; decide) (by rw [hc5]; decide) (by rw [hc5]; rfl) (by decide) ?_
              refine lv_aload_n S.1 S.2.1 dX12_acts_224 rfl (lv_at hl 2 rfl) ?_
              refine zz_gR S K Z hv zc_10 (by decide) gf_X12_75 dX12_acts_225 (fun v39 hv => ?_)
              refine lv_iconst (v := (2 : Int32)) S.1 S.2.1 dX12_acts_228 (by decide) ?_
              refine lv_aload_n S.1 S.2.1 dX12_acts_229 rfl (lv_at hl 2 rfl) ?_
              refine zz_gR S K Z hv zc_10 (by decide) gf_X12_75 dX12_acts_230 (fun v40 hv => ?_)
              refine lv_iconst (v := (2 : Int32)) S.1 S.2.1 dX12_acts_233 (by decide) ?_
              refine zz_iald S K Z hv dX12_acts_234 (fun v41 hv => ?_)
              obtain ⟨v42, hq, hv⟩ := zz_bd hv
              refine zz_S [.int (v41)] S K Z (c_X12_drawn v41 hq) ⟨rfl, rfl⟩ gm_X12_drawn gs_X12_drawn gl_X12_167 ⟨by decide, by decide⟩ rfl hl.1 rfl (Nat.le_of_ble_eq_true rfl) dX12_acts_235 ⟨Nat.zero_le _, Nat.zero_le _⟩ (fun H locs Z => ?_)
              show W _ _ _ _ _ _ _ _ _ _ _ _ 0 0 _ (F0 m 238 ls [.int (v42), .int ((2 : Int32)), .ref (v39)])
              refine zz_iast S K Z hv dX12_acts_238 (fun h43 H locs hv Z => ?_)
              refine lv_aload_n S.1 S.2.1 dX12_acts_239 rfl (lv_at hl 2 rfl) ?_
              refine zz_gR S K Z hv zc_10 (by decide) gf_X12_75 dX12_acts_240 (fun v44 hv => ?_)
              refine lv_iconst (v := (4 : Int32)) S.1 S.2.1 dX12_acts_243 (by decide) ?_
              refine lv_iload_n S.1 S.2.1 dX12_acts_244 rfl (lv_at hl 1 rfl) ?_
              refine lv_iadd S.1 S.2.1 dX12_acts_245 ?_
              refine lv_aload_n S.1 S.2.1 dX12_acts_246 rfl (lv_at hl 2 rfl) ?_
              refine zz_gR S K Z hv zc_10 (by decide) gf_X12_75 dX12_acts_247 (fun v45 hv => ?_)
              refine lv_iconst (v := (2 : Int32)) S.1 S.2.1 dX12_acts_250 (by decide) ?_
              refine zz_iald S K Z hv dX12_acts_251 (fun v46 hv => ?_)
              refine lv_bipush (v := (16 : Int32)) S.1 S.2.1 dX12_acts_252 (by decide) ?_
              refine lv_iushr S.1 S.2.1 dX12_acts_254 rfl ?_
              refine lv_sipush (v := (32767 : Int32)) S.1 S.2.1 dX12_acts_255 (by decide) ?_
              refine lv_iand S.1 S.2.1 dX12_acts_258 ?_
              refine lv_iload_n S.1 S.2.1 dX12_acts_259 rfl (lv_at hl 0 rfl) ?_
              obtain ⟨hne, hv⟩ := zz_ne_s hv
              refine lv_irem S.1 S.2.1 dX12_acts_260 hne ?_
              refine zz_iast S K Z hv dX12_acts_261 (fun h47 H locs hv Z => ?_)
              refine lv_iconst (v := (0 : Int32)) S.1 S.2.1 dX12_acts_262 (by decide) ?_
              replace hk := zz_fin hv hk
              obtain ⟨rfl, rfl⟩ := Prod.mk.inj (hR0 _ hk)
              exact zz_iret S Z hret hlk dX12_acts_263 (Nat.le_refl _) (Nat.le_refl _)
            · replace hv := (if_neg hc5).symm.trans hv
              by_cases hc6 : v6 = (6 : Int32)
              · replace hv := (if_pos hc6).symm.trans hv
                refine lv_tableIn (tgt := 264) S.1 S.2.1 dX12_acts_20 (by rw [hc6]; decide) (by rw [hc6]; decide) (by rw [hc6]; rfl) (by decide) ?_
                refine lv_aload_n S.1 S.2.1 dX12_acts_264 rfl (lv_at hl 2 rfl) ?_
                refine zz_gR S K Z hv zc_10 (by decide) gf_X12_75 dX12_acts_265 (fun v48 hv => ?_)
                refine lv_iconst (v := (1 : Int32)) S.1 S.2.1 dX12_acts_268 (by decide) ?_
                refine lv_iload_n S.1 S.2.1 dX12_acts_269 rfl (lv_at hl 1 rfl) ?_
                refine zz_iast S K Z hv dX12_acts_270 (fun h49 H locs hv Z => ?_)
                refine lv_iconst (v := (0 : Int32)) S.1 S.2.1 dX12_acts_271 (by decide) ?_
                replace hk := zz_fin hv hk
                obtain ⟨rfl, rfl⟩ := Prod.mk.inj (hR0 _ hk)
                exact zz_iret S Z hret hlk dX12_acts_272 (Nat.le_refl _) (Nat.le_refl _)
              · replace hv := (if_neg hc6).symm.trans hv
                refine lv_tableOut (tgt := 273) S.1 S.2.1 dX12_acts_20 (zz_sw_out (fun k h1 h2 => by
                  have h3 : k = 1 ∨ k = 2 ∨ k = 3 ∨ k = 4 ∨ k = 5 ∨ k = 6 := by omega
                  rcases h3 with rfl | rfl | rfl | rfl | rfl | rfl
                  · exact hc1
                  · exact hc2
                  · exact hc3
                  · exact hc4
                  · exact hc5
                  · exact hc6)) (by decide) ?_
                refine lv_iconst (v := (0 : Int32)) S.1 S.2.1 dX12_acts_273 (by decide) ?_
                replace hk := zz_fin hv hk
                obtain ⟨rfl, rfl⟩ := Prod.mk.inj (hR0 _ hk)
                exact zz_iret S Z hret hlk dX12_acts_274 (Nat.le_refl _) (Nat.le_refl _)
  rw [hH, hlo] at key
  exact key

noncomputable def f_X12_shows_J35 (h : ZH) (a0 : Nat) (a1 : Int32) (s9 : Int32) (s10 : Int32) (s11 : Int32) (s12 : Nat) (h13 : ZH) : Option (ZH) :=
  (zs_I h13 s12 1 s11 (s10 + s9)).bind fun h14 => some (h14)
noncomputable def f_X12_shows_J21 (h : ZH) (a0 : Nat) (a1 : Int32) (s4 : Int32) (s5 : Nat) (h6 : ZH) : Option (ZH) :=
  (zl_I h6 s5 1 s4).bind fun v7 => (zg_I h6 a0 10 27).bind fun v8 => if v8 = 0 then (f_X12_shows_J35 h a0 a1 (0 : Int32) v7 s4 s5 h6) else (f_X12_shows_J35 h a0 a1 (1 : Int32) v7 s4 s5 h6)
noncomputable def f_X12_shows (h : ZH) (a0 : Nat) (a1 : Int32) : Option (ZH) :=
  (zg_R h a0 10 28).bind fun v1 => (zs_I h v1 1 (3 : Int32) a1).bind fun h2 => (zg_R h2 a0 10 21).bind fun v3 => if 0 ≤ a1 then (f_X12_shows_J21 h a0 a1 a1 v3 h2) else (f_X12_shows_J21 h a0 a1 (24 : Int32) v3 h2)
abbrev rm_X12_shows : Room := { frames := 0, cells := 0, slots := 0, locals := 0 }
set_option maxRecDepth 100000 in
set_option maxHeartbeats 4000000 in
theorem c_X12_shows {l : Launch} {D : va_G} {dA : Nat → ClassId} {A : Nat → Prop} {h : ZH} {n : Nat} (a0 : Nat) (a1 : Int32) {hx : ZH} (hf : f_X12_shows h a0 a1 = some hx) : Met l yX12_shows (zz_ws yX12_shows cX12_shows 2 none) rm_X12_shows (zz_P D dA A h n [.ref (a0), .int (a1)]) (zz_Q D dA A (none) hx n) 0 0 A := by
  refine zz_met (by decide) (Nat.le_of_ble_eq_true rfl) ?_
  intro p e s m args below meth c ls S K hret hlk hnm hl Z
  replace hl : lv_has ls 2 [(0, .ref (a0)), (1, .int (a1))] := hl
  obtain ⟨K0, hR0, hk⟩ : ∃ K0 : (ZH) → Prop, (∀ x, K0 x → x = hx) ∧ K0 hx := ⟨fun x => x = hx, fun _ h => h, rfl⟩
  have J35 : ∀ (s9 : Int32) (s10 : Int32) (s11 : Int32) (s12 : Nat) (h13 : ZH) (x : (ZH)), f_X12_shows_J35 h a0 a1 s9 s10 s11 s12 h13 = some x → K0 x → ∀ (H : Heap) (locs : List Loc) (ls : Array Slot), zz_B D dA A h13 n s.heap H locs → lv_has ls 2 [] → zz_W p l e rm_X12_shows s m args below meth c D dA A (none) hx n 0 0 H locs 0 0 35 ls [.int (s9), .int (s10), .int (s11), .ref (s12)] := by
    intro s9 s10 s11 s12 h13 x hv hk H locs ls Z hl
    unfold f_X12_shows_J35 at hv
    refine lv_iadd S.1 S.2.1 dX12_shows_35 ?_
    refine zz_iast S K Z hv dX12_shows_36 (fun h14 H locs hv Z => ?_)
    replace hk := zz_fin hv hk
    obtain rfl := hR0 _ hk
    exact zz_vret S Z hret hlk dX12_shows_37 (Nat.le_refl _) (Nat.le_refl _)
  have J21 : ∀ (s4 : Int32) (s5 : Nat) (h6 : ZH) (x : (ZH)), f_X12_shows_J21 h a0 a1 s4 s5 h6 = some x → K0 x → ∀ (H : Heap) (locs : List Loc) (ls : Array Slot), zz_B D dA A h6 n s.heap H locs → lv_has ls 2 [(0, .ref (a0))] → zz_W p l e rm_X12_shows s m args below meth c D dA A (none) hx n 0 0 H locs 0 0 21 ls [.int (s4), .ref (s5)] := by
    intro s4 s5 h6 x hv hk H locs ls Z hl
    unfold f_X12_shows_J21 at hv
    refine lv_dup2_11 S.1 S.2.1 dX12_shows_21 rfl rfl ?_
    refine zz_iald S K Z hv dX12_shows_22 (fun v7 hv => ?_)
    refine lv_aload_n S.1 S.2.1 dX12_shows_23 rfl (lv_at hl 0 rfl) ?_
    refine zz_gI S K Z hv zc_10 (by decide) gf_X12_71 dX12_shows_24 (fun v8 hv => ?_)
    refine lv_if_eq (tgt := 34) S.1 S.2.1 dX12_shows_27 (by decide) (fun hc => ?_) (fun hc => ?_)
    · replace hv := (if_pos hc).symm.trans hv
      refine lv_iconst (v := (0 : Int32)) S.1 S.2.1 dX12_shows_34 (by decide) ?_
      exact J35 (0 : Int32) v7 s4 s5 h6 _ hv hk H locs ls Z (lv_sub hl [] rfl)
    · replace hv := (if_neg hc).symm.trans hv
      refine lv_iconst (v := (1 : Int32)) S.1 S.2.1 dX12_shows_30 (by decide) ?_
      refine lv_goto (tgt := 35) S.1 S.2.1 dX12_shows_31 (by decide) ?_
      exact J35 (1 : Int32) v7 s4 s5 h6 _ hv hk H locs ls Z (lv_sub hl [] rfl)
  have hv := hf
  unfold f_X12_shows at hv
  clear hf
  obtain ⟨x, hxx⟩ : ∃ x, x = hx := ⟨_, rfl⟩
  rw [← hxx] at hv hk
  have ⟨H, hH⟩ : ∃ H, H = s.heap := ⟨_, rfl⟩
  have ⟨locs, hlo⟩ : ∃ q : List Loc, q = [] := ⟨_, rfl⟩
  have Z : zz_B D dA A h n s.heap H locs := by rw [hH, hlo]; exact Z
  have key : zz_W p l e rm_X12_shows s m args below meth c D dA A (none) hx n 0 0 H locs 0 0 0 ls [] := by
    clear hH hlo hxx
    refine lv_aload_n S.1 S.2.1 dX12_shows_0 rfl (lv_at hl 0 rfl) ?_
    refine zz_gR S K Z hv zc_10 (by decide) gf_X12_75 dX12_shows_1 (fun v1 hv => ?_)
    refine lv_iconst (v := (3 : Int32)) S.1 S.2.1 dX12_shows_4 (by decide) ?_
    refine lv_iload_n S.1 S.2.1 dX12_shows_5 rfl (lv_at hl 1 rfl) ?_
    refine zz_iast S K Z hv dX12_shows_6 (fun h2 H locs hv Z => ?_)
    refine lv_aload_n S.1 S.2.1 dX12_shows_7 rfl (lv_at hl 0 rfl) ?_
    refine zz_gR S K Z hv zc_10 (by decide) gf_X12_59 dX12_shows_8 (fun v3 hv => ?_)
    refine lv_iload_n S.1 S.2.1 dX12_shows_11 rfl (lv_at hl 1 rfl) ?_
    refine lv_if_ge (tgt := 20) S.1 S.2.1 dX12_shows_12 (by decide) (fun hc => ?_) (fun hc => ?_)
    · replace hv := (if_pos hc).symm.trans hv
      refine lv_iload_n S.1 S.2.1 dX12_shows_20 rfl (lv_at hl 1 rfl) ?_
      exact J21 a1 v3 h2 _ hv hk H locs ls Z (lv_sub hl [0] rfl)
    · replace hv := (if_neg hc).symm.trans hv
      refine lv_bipush (v := (24 : Int32)) S.1 S.2.1 dX12_shows_15 (by decide) ?_
      refine lv_goto (tgt := 21) S.1 S.2.1 dX12_shows_17 (by decide) ?_
      exact J21 (24 : Int32) v3 h2 _ hv hk H locs ls Z (lv_sub hl [0] rfl)
  rw [hH, hlo] at key
  exact key

noncomputable def f_X12_says_J114 (h : ZH) (a0 : Nat) (a1 : Int32) (h13 : ZH) : Option (Int32 × ZH) :=
  zz_isO h13 a0 10 <| (f_X12_shows h13 a0 (-1 : Int32)).bind fun h14 => some (((0 : Int32), h14))
noncomputable def f_X12_says_J201 (h : ZH) (a0 : Nat) (a1 : Int32) (x2_32 : Int32) (s33 : Int32) (s34 : Int32) (s35 : Int32) (s36 : Nat) (h37 : ZH) : Option (Int32 × ZH) :=
  (zs_I h37 s36 1 s35 (s34 + s33)).bind fun h38 => (zg_R h38 a0 10 18).bind fun v39 => (zl_I h38 v39 1 x2_32).bind fun v40 => zz_isO h38 a0 10 <| (f_X12_shows h38 a0 v40).bind fun h41 => some (((0 : Int32), h41))
noncomputable def f_X12_says_J181 (h : ZH) (a0 : Nat) (a1 : Int32) (x2_23 : Int32) (s24 : Int32) (s25 : Int32) (s26 : Nat) (h27 : ZH) : Option (Int32 × ZH) :=
  (zs_I h27 s26 1 s25 s24).bind fun h28 => (zg_R h28 a0 10 20).bind fun v29 => (zl_I h28 v29 1 x2_23).bind fun v30 => (zg_I h28 a0 10 27).bind fun v31 => if v31 = 0 then (f_X12_says_J201 h a0 a1 x2_23 (0 : Int32) v30 x2_23 v29 h28) else (f_X12_says_J201 h a0 a1 x2_23 (1 : Int32) v30 x2_23 v29 h28)
noncomputable def f_X12_says_J147 (h : ZH) (a0 : Nat) (a1 : Int32) (x3_46 : Int32) (s47 : Int32) (s48 : Nat) (h49 : ZH) : Option (Int32 × ZH) :=
  (zp_V h49 s48 10 25 (.int (s47))).bind fun h50 => some ((x3_46, h50))
noncomputable def f_X12_says_J102 (h : ZH) (a0 : Nat) (a1 : Int32) (x2_11 : Int32) (h12 : ZH) : Option (Int32 × ZH) :=
  if a1 < 0 then (f_X12_says_J114 h a0 a1 h12) else ((zg_I h12 a0 10 10).bind fun v15 => if x2_11 = v15 then (f_X12_says_J114 h a0 a1 h12) else (zz_isO h12 a0 10 <| (f_X12_acts h12 a0 x2_11).bind fun (v16, h17) => if v16 ≤ 0 then ((zg_R h17 a0 10 28).bind fun v18 => (zg_R h17 a0 10 19).bind fun v19 => (zl_I h17 v19 1 x2_11).bind fun v20 => if 0 ≤ v20 then ((zg_R h17 a0 10 19).bind fun v21 => (zl_I h17 v21 1 x2_11).bind fun v22 => f_X12_says_J181 h a0 a1 x2_11 v22 (0 : Int32) v18 h17) else ((zg_R h17 a0 10 28).bind fun v42 => (zl_I h17 v42 1 (0 : Int32)).bind fun v43 => f_X12_says_J181 h a0 a1 x2_11 v43 (0 : Int32) v18 h17)) else ((zg_I h17 a0 10 27).bind fun v44 => if v44 = 0 then ((zg_I h17 a0 10 25).bind fun v45 => f_X12_says_J147 h a0 a1 v16 v45 a0 h17) else (f_X12_says_J147 h a0 a1 v16 v16 a0 h17))))
noncomputable def f_X12_says_J65 (h : ZH) (a0 : Nat) (a1 : Int32) (x2_55 : Int32) (h9 : ZH) : Option ((Int32) ⊕ (Int32 × ZH)) :=
  (zg_R h9 a0 10 13).bind fun v56 => (zl_I h9 v56 1 x2_55).bind fun v57 => if v57 < 0 then ((f_X12_says_J102 h a0 a1 x2_55 h9).map Sum.inr) else ((zg_R h9 a0 10 28).bind fun v58 => (zg_R h9 a0 10 13).bind fun v59 => (zl_I h9 v59 1 x2_55).bind fun v60 => (zl_I h9 v58 1 ((4 : Int32) + v60)).bind fun v61 => (zg_R h9 a0 10 14).bind fun v62 => (zl_I h9 v62 1 x2_55).bind fun v63 => if v63 ≤ v61 then ((f_X12_says_J102 h a0 a1 x2_55 h9).map Sum.inr) else (some (.inl (x2_55 + (1 : Int32)))))
noncomputable def f_X12_says_L23 (h : ZH) (a0 : Nat) (a1 : Int32) (h9 : ZH) (x2_8 : Int32)  : Option ((Int32) ⊕ (Int32 × ZH)) :=
  (zg_I h9 a0 10 10).bind fun v10 => if v10 ≤ x2_8 then ((f_X12_says_J102 h a0 a1 x2_8 h9).map Sum.inr) else ((zg_R h9 a0 10 12).bind fun v51 => (zl_I h9 v51 1 x2_8).bind fun v52 => if a1 = v52 then ((zg_R h9 a0 10 11).bind fun v53 => (zl_I h9 v53 1 x2_8).bind fun v54 => if v54 < 0 then (f_X12_says_J65 h a0 a1 x2_8 h9) else ((zg_R h9 a0 10 11).bind fun v64 => (zl_I h9 v64 1 x2_8).bind fun v65 => (zg_R h9 a0 10 28).bind fun v66 => (zl_I h9 v66 1 (0 : Int32)).bind fun v67 => if v65 = v67 then (f_X12_says_J65 h a0 a1 x2_8 h9) else (some (.inl (x2_8 + (1 : Int32)))))) else (some (.inl (x2_8 + (1 : Int32)))))
noncomputable def f_X12_says_J17 (h : ZH) (a0 : Nat) (a1 : Int32) (s3 : Int32) (s4 : Int32) (s5 : Nat) (h6 : ZH) : Option (Int32 × ZH) :=
  (zp_V h6 s5 10 26 (.int (s4 + s3))).bind fun h7 => zz_loop (fun st : (Int32) => f_X12_says_L23 h a0 a1 h7 (st)) ((0 : Int32))
noncomputable def f_X12_says (h : ZH) (a0 : Nat) (a1 : Int32) : Option (Int32 × ZH) :=
  (zg_I h a0 10 26).bind fun v1 => (zg_I h a0 10 27).bind fun v2 => if v2 = 0 then (f_X12_says_J17 h a0 a1 (0 : Int32) v1 a0 h) else (f_X12_says_J17 h a0 a1 (1 : Int32) v1 a0 h)
abbrev rm_X12_says : Room := { frames := 2, cells := 0, slots := 0, locals := 48 }
set_option maxRecDepth 100000 in
set_option maxHeartbeats 4000000 in
theorem c_X12_says {l : Launch} {D : va_G} {dA : Nat → ClassId} {A : Nat → Prop} {h : ZH} {n : Nat} (a0 : Nat) (a1 : Int32) {r : Int32} {hx : ZH} (hf : f_X12_says h a0 a1 = some (r, hx)) : Met l yX12_says (zz_ws yX12_says cX12_says 4 (some .int)) rm_X12_says (zz_P D dA A h n [.ref (a0), .int (a1)]) (zz_Q D dA A (some (.int r)) hx n) 0 0 A := by
  refine zz_met (by decide) (Nat.le_of_ble_eq_true rfl) ?_
  intro p e s m args below meth c ls S K hret hlk hnm hl Z
  replace hl : lv_has ls 4 [(0, .ref (a0)), (1, .int (a1))] := hl
  obtain ⟨K0, hR0, hk⟩ : ∃ K0 : (Int32 × ZH) → Prop, (∀ x, K0 x → x = (r, hx)) ∧ K0 (r, hx) := ⟨fun x => x = (r, hx), fun _ h => h, rfl⟩
  have J114 : ∀ (h13 : ZH) (x : (Int32 × ZH)), f_X12_says_J114 h a0 a1 h13 = some x → K0 x → ∀ (H : Heap) (locs : List Loc) (ls : Array Slot), zz_B D dA A h13 n s.heap H locs → lv_has ls 4 [(0, .ref (a0))] → zz_W p l e rm_X12_says s m args below meth c D dA A (some (.int r)) hx n 0 0 H locs 0 0 114 ls [] := by
    intro h13 x hv hk H locs ls Z hl
    unfold f_X12_says_J114 at hv
    refine lv_aload_n S.1 S.2.1 dX12_says_114 rfl (lv_at hl 0 rfl) ?_
    refine lv_iconst (v := (-1 : Int32)) S.1 S.2.1 dX12_says_115 (by decide) ?_
    obtain ⟨hci, hv⟩ := zz_isO_s hv
    obtain ⟨h14, hq, hv⟩ := zz_bd hv
    refine zz_V [.int ((-1 : Int32))] S K Z hci zc_10 rfl (c_X12_shows a0 (-1 : Int32) hq) ⟨rfl, rfl⟩ gm_X12_shows gmv_X12_shows gl_X12_174 ⟨by decide, by decide⟩ rfl hl.1 rfl (Nat.le_of_ble_eq_true rfl) dX12_says_116 ⟨Nat.zero_le _, Nat.zero_le _⟩ (fun H locs Z => ?_)
    show W _ _ _ _ _ _ _ _ _ _ _ _ 0 0 _ (F0 m 119 ls [])
    refine lv_iconst (v := (0 : Int32)) S.1 S.2.1 dX12_says_119 (by decide) ?_
    replace hk := zz_fin hv hk
    obtain ⟨rfl, rfl⟩ := Prod.mk.inj (hR0 _ hk)
    exact zz_iret S Z hret hlk dX12_says_120 (Nat.le_refl _) (Nat.le_refl _)
  have J201 : ∀ (x2_32 : Int32) (s33 : Int32) (s34 : Int32) (s35 : Int32) (s36 : Nat) (h37 : ZH) (x : (Int32 × ZH)), f_X12_says_J201 h a0 a1 x2_32 s33 s34 s35 s36 h37 = some x → K0 x → ∀ (H : Heap) (locs : List Loc) (ls : Array Slot), zz_B D dA A h37 n s.heap H locs → lv_has ls 4 [(0, .ref (a0)), (2, .int (x2_32))] → zz_W p l e rm_X12_says s m args below meth c D dA A (some (.int r)) hx n 0 0 H locs 0 0 201 ls [.int (s33), .int (s34), .int (s35), .ref (s36)] := by
    intro x2_32 s33 s34 s35 s36 h37 x hv hk H locs ls Z hl
    unfold f_X12_says_J201 at hv
    refine lv_iadd S.1 S.2.1 dX12_says_201 ?_
    refine zz_iast S K Z hv dX12_says_202 (fun h38 H locs hv Z => ?_)
    refine lv_aload_n S.1 S.2.1 dX12_says_203 rfl (lv_at hl 0 rfl) ?_
    refine lv_aload_n S.1 S.2.1 dX12_says_204 rfl (lv_at hl 0 rfl) ?_
    refine zz_gR S K Z hv zc_10 (by decide) gf_X12_50 dX12_says_205 (fun v39 hv => ?_)
    refine lv_iload_n S.1 S.2.1 dX12_says_208 rfl (lv_at hl 1 rfl) ?_
    refine zz_iald S K Z hv dX12_says_209 (fun v40 hv => ?_)
    obtain ⟨hci, hv⟩ := zz_isO_s hv
    obtain ⟨h41, hq, hv⟩ := zz_bd hv
    refine zz_V [.int (v40)] S K Z hci zc_10 rfl (c_X12_shows a0 v40 hq) ⟨rfl, rfl⟩ gm_X12_shows gmv_X12_shows gl_X12_174 ⟨by decide, by decide⟩ rfl hl.1 rfl (Nat.le_of_ble_eq_true rfl) dX12_says_210 ⟨Nat.zero_le _, Nat.zero_le _⟩ (fun H locs Z => ?_)
    show W _ _ _ _ _ _ _ _ _ _ _ _ 0 0 _ (F0 m 213 ls [])
    refine lv_iconst (v := (0 : Int32)) S.1 S.2.1 dX12_says_213 (by decide) ?_
    replace hk := zz_fin hv hk
    obtain ⟨rfl, rfl⟩ := Prod.mk.inj (hR0 _ hk)
    exact zz_iret S Z hret hlk dX12_says_214 (Nat.le_refl _) (Nat.le_refl _)
  have J181 : ∀ (x2_23 : Int32) (s24 : Int32) (s25 : Int32) (s26 : Nat) (h27 : ZH) (x : (Int32 × ZH)), f_X12_says_J181 h a0 a1 x2_23 s24 s25 s26 h27 = some x → K0 x → ∀ (H : Heap) (locs : List Loc) (ls : Array Slot), zz_B D dA A h27 n s.heap H locs → lv_has ls 4 [(0, .ref (a0)), (2, .int (x2_23))] → zz_W p l e rm_X12_says s m args below meth c D dA A (some (.int r)) hx n 0 0 H locs 0 0 181 ls [.int (s24), .int (s25), .ref (s26)] := by
    intro x2_23 s24 s25 s26 h27 x hv hk H locs ls Z hl
    unfold f_X12_says_J181 at hv
    refine zz_iast S K Z hv dX12_says_181 (fun h28 H locs hv Z => ?_)
    refine lv_aload_n S.1 S.2.1 dX12_says_182 rfl (lv_at hl 0 rfl) ?_
    refine zz_gR S K Z hv zc_10 (by decide) gf_X12_56 dX12_says_183 (fun v29 hv => ?_)
    refine lv_iload_n S.1 S.2.1 dX12_says_186 rfl (lv_at hl 1 rfl) ?_
    refine lv_dup2_11 S.1 S.2.1 dX12_says_187 rfl rfl ?_
    refine zz_iald S K Z hv dX12_says_188 (fun v30 hv => ?_)
    refine lv_aload_n S.1 S.2.1 dX12_says_189 rfl (lv_at hl 0 rfl) ?_
    refine zz_gI S K Z hv zc_10 (by decide) gf_X12_71 dX12_says_190 (fun v31 hv => ?_)
    refine lv_if_eq (tgt := 200) S.1 S.2.1 dX12_says_193 (by decide) (fun hc => ?_) (fun hc => ?_)
    · replace hv := (if_pos hc).symm.trans hv
      refine lv_iconst (v := (0 : Int32)) S.1 S.2.1 dX12_says_200 (by decide) ?_
      exact J201 x2_23 (0 : Int32) v30 x2_23 v29 h28 _ hv hk H locs ls Z (lv_sub hl [0, 1] rfl)
    · replace hv := (if_neg hc).symm.trans hv
      refine lv_iconst (v := (1 : Int32)) S.1 S.2.1 dX12_says_196 (by decide) ?_
      refine lv_goto (tgt := 201) S.1 S.2.1 dX12_says_197 (by decide) ?_
      exact J201 x2_23 (1 : Int32) v30 x2_23 v29 h28 _ hv hk H locs ls Z (lv_sub hl [0, 1] rfl)
  have J147 : ∀ (x3_46 : Int32) (s47 : Int32) (s48 : Nat) (h49 : ZH) (x : (Int32 × ZH)), f_X12_says_J147 h a0 a1 x3_46 s47 s48 h49 = some x → K0 x → ∀ (H : Heap) (locs : List Loc) (ls : Array Slot), zz_B D dA A h49 n s.heap H locs → lv_has ls 4 [(3, .int (x3_46))] → zz_W p l e rm_X12_says s m args below meth c D dA A (some (.int r)) hx n 0 0 H locs 0 0 147 ls [.int (s47), .ref (s48)] := by
    intro x3_46 s47 s48 h49 x hv hk H locs ls Z hl
    unfold f_X12_says_J147 at hv
    refine zz_put S K Z hv zc_10 (by decide) gf_X12_181 rfl rfl rfl dX12_says_147 (fun h50 H locs hv Z => ?_)
    refine lv_iload_n S.1 S.2.1 dX12_says_150 rfl (lv_at hl 0 rfl) ?_
    replace hk := zz_fin hv hk
    obtain ⟨rfl, rfl⟩ := Prod.mk.inj (hR0 _ hk)
    exact zz_iret S Z hret hlk dX12_says_151 (Nat.le_refl _) (Nat.le_refl _)
  have J102 : ∀ (x2_11 : Int32) (h12 : ZH) (x : (Int32 × ZH)), f_X12_says_J102 h a0 a1 x2_11 h12 = some x → K0 x → ∀ (H : Heap) (locs : List Loc) (ls : Array Slot), zz_B D dA A h12 n s.heap H locs → lv_has ls 4 [(0, .ref (a0)), (1, .int (a1)), (2, .int (x2_11))] → zz_W p l e rm_X12_says s m args below meth c D dA A (some (.int r)) hx n 0 0 H locs 0 0 102 ls [] := by
    intro x2_11 h12 x hv hk H locs ls Z hl
    unfold f_X12_says_J102 at hv
    refine lv_iload_n S.1 S.2.1 dX12_says_102 rfl (lv_at hl 1 rfl) ?_
    refine lv_if_lt (tgt := 114) S.1 S.2.1 dX12_says_103 (by decide) (fun hc => ?_) (fun hc => ?_)
    · replace hv := (if_pos hc).symm.trans hv
      exact J114 h12 _ hv hk H locs ls Z (lv_sub hl [0] rfl)
    · replace hv := (if_neg hc).symm.trans hv
      refine lv_iload_n S.1 S.2.1 dX12_says_106 rfl (lv_at hl 2 rfl) ?_
      refine lv_aload_n S.1 S.2.1 dX12_says_107 rfl (lv_at hl 0 rfl) ?_
      refine zz_gI S K Z hv zc_10 (by decide) gf_X12_159 dX12_says_108 (fun v15 hv => ?_)
      refine lv_icmp_ne (tgt := 121) S.1 S.2.1 dX12_says_111 (by decide) (fun hc => ?_) (fun hc => ?_)
      · replace hv := (if_neg hc).symm.trans hv
        refine lv_aload_n S.1 S.2.1 dX12_says_121 rfl (lv_at hl 0 rfl) ?_
        refine lv_iload_n S.1 S.2.1 dX12_says_122 rfl (lv_at hl 2 rfl) ?_
        obtain ⟨hci, hv⟩ := zz_isO_s hv
        obtain ⟨⟨v16, h17⟩, hq, hv⟩ := zz_bd hv
        refine zz_V [.int (x2_11)] S K Z hci zc_10 rfl (c_X12_acts a0 x2_11 hq) ⟨rfl, rfl⟩ gm_X12_acts gmv_X12_acts gl_X12_178 ⟨by decide, by decide⟩ rfl hl.1 rfl (Nat.le_of_ble_eq_true rfl) dX12_says_123 ⟨Nat.zero_le _, Nat.zero_le _⟩ (fun H locs Z => ?_)
        show W _ _ _ _ _ _ _ _ _ _ _ _ 0 0 _ (F0 m 126 ls [.int (v16)])
        refine lv_istore_n (lv' := [(3, .int (v16)), (0, .ref (a0)), (1, .int (a1)), (2, .int (x2_11))]) S.1 S.2.1 dX12_says_126 rfl hl (by decide) rfl (fun ls hl => ?_)
        refine lv_iload_n S.1 S.2.1 dX12_says_127 rfl (lv_at hl 0 rfl) ?_
        refine lv_if_le (tgt := 152) S.1 S.2.1 dX12_says_128 (by decide) (fun hc => ?_) (fun hc => ?_)
        · replace hv := (if_pos hc).symm.trans hv
          refine lv_aload_n S.1 S.2.1 dX12_says_152 rfl (lv_at hl 1 rfl) ?_
          refine zz_gR S K Z hv zc_10 (by decide) gf_X12_75 dX12_says_153 (fun v18 hv => ?_)
          refine lv_iconst (v := (0 : Int32)) S.1 S.2.1 dX12_says_156 (by decide) ?_
          refine lv_aload_n S.1 S.2.1 dX12_says_157 rfl (lv_at hl 1 rfl) ?_
          refine zz_gR S K Z hv zc_10 (by decide) gf_X12_53 dX12_says_158 (fun v19 hv => ?_)
          refine lv_iload_n S.1 S.2.1 dX12_says_161 rfl (lv_at hl 3 rfl) ?_
          refine zz_iald S K Z hv dX12_says_162 (fun v20 hv => ?_)
          refine lv_if_ge (tgt := 175) S.1 S.2.1 dX12_says_163 (by decide) (fun hc => ?_) (fun hc => ?_)
          · replace hv := (if_pos hc).symm.trans hv
            refine lv_aload_n S.1 S.2.1 dX12_says_175 rfl (lv_at hl 1 rfl) ?_
            refine zz_gR S K Z hv zc_10 (by decide) gf_X12_53 dX12_says_176 (fun v21 hv => ?_)
            refine lv_iload_n S.1 S.2.1 dX12_says_179 rfl (lv_at hl 3 rfl) ?_
            refine zz_iald S K Z hv dX12_says_180 (fun v22 hv => ?_)
            exact J181 x2_11 v22 (0 : Int32) v18 h17 _ hv hk H locs ls Z (lv_sub hl [1, 3] rfl)
          · replace hv := (if_neg hc).symm.trans hv
            refine lv_aload_n S.1 S.2.1 dX12_says_166 rfl (lv_at hl 1 rfl) ?_
            refine zz_gR S K Z hv zc_10 (by decide) gf_X12_75 dX12_says_167 (fun v42 hv => ?_)
            refine lv_iconst (v := (0 : Int32)) S.1 S.2.1 dX12_says_170 (by decide) ?_
            refine zz_iald S K Z hv dX12_says_171 (fun v43 hv => ?_)
            refine lv_goto (tgt := 181) S.1 S.2.1 dX12_says_172 (by decide) ?_
            exact J181 x2_11 v43 (0 : Int32) v18 h17 _ hv hk H locs ls Z (lv_sub hl [1, 3] rfl)
        · replace hv := (if_neg hc).symm.trans hv
          refine lv_aload_n S.1 S.2.1 dX12_says_131 rfl (lv_at hl 1 rfl) ?_
          refine lv_aload_n S.1 S.2.1 dX12_says_132 rfl (lv_at hl 1 rfl) ?_
          refine zz_gI S K Z hv zc_10 (by decide) gf_X12_71 dX12_says_133 (fun v44 hv => ?_)
          refine lv_if_eq (tgt := 143) S.1 S.2.1 dX12_says_136 (by decide) (fun hc => ?_) (fun hc => ?_)
          · replace hv := (if_pos hc).symm.trans hv
            refine lv_aload_n S.1 S.2.1 dX12_says_143 rfl (lv_at hl 1 rfl) ?_
            refine zz_gI S K Z hv zc_10 (by decide) gf_X12_181 dX12_says_144 (fun v45 hv => ?_)
            exact J147 v16 v45 a0 h17 _ hv hk H locs ls Z (lv_sub hl [0] rfl)
          · replace hv := (if_neg hc).symm.trans hv
            refine lv_iload_n S.1 S.2.1 dX12_says_139 rfl (lv_at hl 0 rfl) ?_
            refine lv_goto (tgt := 147) S.1 S.2.1 dX12_says_140 (by decide) ?_
            exact J147 v16 v16 a0 h17 _ hv hk H locs ls Z (lv_sub hl [0] rfl)
      · replace hv := (if_pos hc).symm.trans hv
        exact J114 h12 _ hv hk H locs ls Z (lv_sub hl [0] rfl)
  have L23 : ∀ (h9 : ZH) (st : (Int32)) (x : (Int32 × ZH)), zz_loop (fun st : (Int32) => f_X12_says_L23 h a0 a1 h9 (st)) st = some x → K0 x → (fun st : (Int32) => ∀ (H : Heap) (locs : List Loc) (ls : Array Slot), zz_B D dA A h9 n s.heap H locs → lv_has ls 4 [(0, .ref (a0)), (1, .int (a1)), (2, .int ((st)))] → zz_W p l e rm_X12_says s m args below meth c D dA A (some (.int r)) hx n 0 0 H locs 0 0 23 ls []) st := by
    intro h9
    refine zz_loop_go (K := K0) ?_
    intro K1 hP1 hR1
    have J65 : ∀ (x2_55 : Int32) (x : ((Int32) ⊕ (Int32 × ZH))), f_X12_says_J65 h a0 a1 x2_55 h9 = some x → K1 x → ∀ (H : Heap) (locs : List Loc) (ls : Array Slot), zz_B D dA A h9 n s.heap H locs → lv_has ls 4 [(0, .ref (a0)), (1, .int (a1)), (2, .int (x2_55))] → zz_W p l e rm_X12_says s m args below meth c D dA A (some (.int r)) hx n 0 0 H locs 0 0 65 ls [] := by
      intro x2_55 x hv hk H locs ls Z hl
      unfold f_X12_says_J65 at hv
      refine lv_aload_n S.1 S.2.1 dX12_says_65 rfl (lv_at hl 0 rfl) ?_
      refine zz_gR S K Z hv zc_10 (by decide) gf_X12_35 dX12_says_66 (fun v56 hv => ?_)
      refine lv_iload_n S.1 S.2.1 dX12_says_69 rfl (lv_at hl 2 rfl) ?_
      refine zz_iald S K Z hv dX12_says_70 (fun v57 hv => ?_)
      refine lv_if_lt (tgt := 102) S.1 S.2.1 dX12_says_71 (by decide) (fun hc => ?_) (fun hc => ?_)
      · replace hv := (if_pos hc).symm.trans hv
        obtain ⟨_, hv, hk⟩ := zz_mapk hv hk
        replace hk := hR1 _ hk
        exact J102 x2_55 h9 _ hv hk H locs ls Z (lv_sub hl [0, 1, 2] rfl)
      · replace hv := (if_neg hc).symm.trans hv
        refine lv_aload_n S.1 S.2.1 dX12_says_74 rfl (lv_at hl 0 rfl) ?_
        refine zz_gR S K Z hv zc_10 (by decide) gf_X12_75 dX12_says_75 (fun v58 hv => ?_)
        refine lv_iconst (v := (4 : Int32)) S.1 S.2.1 dX12_says_78 (by decide) ?_
        refine lv_aload_n S.1 S.2.1 dX12_says_79 rfl (lv_at hl 0 rfl) ?_
        refine zz_gR S K Z hv zc_10 (by decide) gf_X12_35 dX12_says_80 (fun v59 hv => ?_)
        refine lv_iload_n S.1 S.2.1 dX12_says_83 rfl (lv_at hl 2 rfl) ?_
        refine zz_iald S K Z hv dX12_says_84 (fun v60 hv => ?_)
        refine lv_iadd S.1 S.2.1 dX12_says_85 ?_
        refine zz_iald S K Z hv dX12_says_86 (fun v61 hv => ?_)
        refine lv_aload_n S.1 S.2.1 dX12_says_87 rfl (lv_at hl 0 rfl) ?_
        refine zz_gR S K Z hv zc_10 (by decide) gf_X12_38 dX12_says_88 (fun v62 hv => ?_)
        refine lv_iload_n S.1 S.2.1 dX12_says_91 rfl (lv_at hl 2 rfl) ?_
        refine zz_iald S K Z hv dX12_says_92 (fun v63 hv => ?_)
        refine lv_icmp_ge (tgt := 102) S.1 S.2.1 dX12_says_93 (by decide) (fun hc => ?_) (fun hc => ?_)
        · replace hv := (if_pos hc).symm.trans hv
          obtain ⟨_, hv, hk⟩ := zz_mapk hv hk
          replace hk := hR1 _ hk
          exact J102 x2_55 h9 _ hv hk H locs ls Z (lv_sub hl [0, 1, 2] rfl)
        · replace hv := (if_neg hc).symm.trans hv
          refine lv_iinc (v := x2_55 + (1 : Int32)) (lv' := [(2, .int (x2_55 + (1 : Int32))), (0, .ref (a0)), (1, .int (a1))]) S.1 S.2.1 dX12_says_96 hl (k := 2) rfl rfl (by decide) rfl (fun ls hl => ?_)
          refine lv_goto (tgt := 23) S.1 S.2.1 dX12_says_99 (by decide) ?_
          replace hk := zz_fin hv hk
          exact hP1 _ hk H locs ls Z (lv_sub hl [1, 2, 0] rfl)
    rintro x2_8 x hv hk H locs ls Z hl
    replace hv : f_X12_says_L23 h a0 a1 h9 x2_8 = some x := hv
    unfold f_X12_says_L23 at hv
    replace hl : lv_has ls 4 [(0, .ref (a0)), (1, .int (a1)), (2, .int (x2_8))] := hl
    replace Z : zz_B D dA A h9 n s.heap H locs := Z
    show zz_W p l e rm_X12_says s m args below meth c D dA A (some (.int r)) hx n 0 0 H locs 0 0 23 ls []
    refine lv_iload_n S.1 S.2.1 dX12_says_23 rfl (lv_at hl 2 rfl) ?_
    refine lv_aload_n S.1 S.2.1 dX12_says_24 rfl (lv_at hl 0 rfl) ?_
    refine zz_gI S K Z hv zc_10 (by decide) gf_X12_159 dX12_says_25 (fun v10 hv => ?_)
    refine lv_icmp_ge (tgt := 102) S.1 S.2.1 dX12_says_28 (by decide) (fun hc => ?_) (fun hc => ?_)
    · replace hv := (if_pos hc).symm.trans hv
      obtain ⟨_, hv, hk⟩ := zz_mapk hv hk
      replace hk := hR1 _ hk
      exact J102 x2_8 h9 _ hv hk H locs ls Z (lv_sub hl [0, 1, 2] rfl)
    · replace hv := (if_neg hc).symm.trans hv
      refine lv_iload_n S.1 S.2.1 dX12_says_31 rfl (lv_at hl 1 rfl) ?_
      refine lv_aload_n S.1 S.2.1 dX12_says_32 rfl (lv_at hl 0 rfl) ?_
      refine zz_gR S K Z hv zc_10 (by decide) gf_X12_32 dX12_says_33 (fun v51 hv => ?_)
      refine lv_iload_n S.1 S.2.1 dX12_says_36 rfl (lv_at hl 2 rfl) ?_
      refine zz_iald S K Z hv dX12_says_37 (fun v52 hv => ?_)
      refine lv_icmp_ne (tgt := 96) S.1 S.2.1 dX12_says_38 (by decide) (fun hc => ?_) (fun hc => ?_)
      · replace hv := (if_neg hc).symm.trans hv
        refine lv_iinc (v := x2_8 + (1 : Int32)) (lv' := [(2, .int (x2_8 + (1 : Int32))), (0, .ref (a0)), (1, .int (a1))]) S.1 S.2.1 dX12_says_96 hl (k := 2) rfl rfl (by decide) rfl (fun ls hl => ?_)
        refine lv_goto (tgt := 23) S.1 S.2.1 dX12_says_99 (by decide) ?_
        replace hk := zz_fin hv hk
        exact hP1 _ hk H locs ls Z (lv_sub hl [1, 2, 0] rfl)
      · replace hv := (if_pos hc).symm.trans hv
        refine lv_aload_n S.1 S.2.1 dX12_says_41 rfl (lv_at hl 0 rfl) ?_
        refine zz_gR S K Z hv zc_10 (by decide) gf_X12_29 dX12_says_42 (fun v53 hv => ?_)
        refine lv_iload_n S.1 S.2.1 dX12_says_45 rfl (lv_at hl 2 rfl) ?_
        refine zz_iald S K Z hv dX12_says_46 (fun v54 hv => ?_)
        refine lv_if_lt (tgt := 65) S.1 S.2.1 dX12_says_47 (by decide) (fun hc => ?_) (fun hc => ?_)
        · replace hv := (if_pos hc).symm.trans hv
          exact J65 x2_8 _ hv hk H locs ls Z (lv_sub hl [0, 1, 2] rfl)
        · replace hv := (if_neg hc).symm.trans hv
          refine lv_aload_n S.1 S.2.1 dX12_says_50 rfl (lv_at hl 0 rfl) ?_
          refine zz_gR S K Z hv zc_10 (by decide) gf_X12_29 dX12_says_51 (fun v64 hv => ?_)
          refine lv_iload_n S.1 S.2.1 dX12_says_54 rfl (lv_at hl 2 rfl) ?_
          refine zz_iald S K Z hv dX12_says_55 (fun v65 hv => ?_)
          refine lv_aload_n S.1 S.2.1 dX12_says_56 rfl (lv_at hl 0 rfl) ?_
          refine zz_gR S K Z hv zc_10 (by decide) gf_X12_75 dX12_says_57 (fun v66 hv => ?_)
          refine lv_iconst (v := (0 : Int32)) S.1 S.2.1 dX12_says_60 (by decide) ?_
          refine zz_iald S K Z hv dX12_says_61 (fun v67 hv => ?_)
          refine lv_icmp_ne (tgt := 96) S.1 S.2.1 dX12_says_62 (by decide) (fun hc => ?_) (fun hc => ?_)
          · replace hv := (if_neg hc).symm.trans hv
            refine lv_iinc (v := x2_8 + (1 : Int32)) (lv' := [(2, .int (x2_8 + (1 : Int32))), (0, .ref (a0)), (1, .int (a1))]) S.1 S.2.1 dX12_says_96 hl (k := 2) rfl rfl (by decide) rfl (fun ls hl => ?_)
            refine lv_goto (tgt := 23) S.1 S.2.1 dX12_says_99 (by decide) ?_
            replace hk := zz_fin hv hk
            exact hP1 _ hk H locs ls Z (lv_sub hl [1, 2, 0] rfl)
          · replace hv := (if_pos hc).symm.trans hv
            exact J65 x2_8 _ hv hk H locs ls Z (lv_sub hl [0, 1, 2] rfl)
  have J17 : ∀ (s3 : Int32) (s4 : Int32) (s5 : Nat) (h6 : ZH) (x : (Int32 × ZH)), f_X12_says_J17 h a0 a1 s3 s4 s5 h6 = some x → K0 x → ∀ (H : Heap) (locs : List Loc) (ls : Array Slot), zz_B D dA A h6 n s.heap H locs → lv_has ls 4 [(0, .ref (a0)), (1, .int (a1))] → zz_W p l e rm_X12_says s m args below meth c D dA A (some (.int r)) hx n 0 0 H locs 0 0 17 ls [.int (s3), .int (s4), .ref (s5)] := by
    intro s3 s4 s5 h6 x hv hk H locs ls Z hl
    unfold f_X12_says_J17 at hv
    refine lv_iadd S.1 S.2.1 dX12_says_17 ?_
    refine zz_put S K Z hv zc_10 (by decide) gf_X12_171 rfl rfl rfl dX12_says_18 (fun h7 H locs hv Z => ?_)
    refine lv_iconst (v := (0 : Int32)) S.1 S.2.1 dX12_says_21 (by decide) ?_
    refine lv_istore_n (lv' := [(2, .int ((0 : Int32))), (0, .ref (a0)), (1, .int (a1))]) S.1 S.2.1 dX12_says_22 rfl hl (by decide) rfl (fun ls hl => ?_)
    exact L23 h7 ((0 : Int32)) _ hv hk H locs ls Z (lv_sub hl [1, 2, 0] rfl)
  have hv := hf
  unfold f_X12_says at hv
  clear hf
  obtain ⟨x, hxx⟩ : ∃ x, x = (r, hx) := ⟨_, rfl⟩
  rw [← hxx] at hv hk
  have ⟨H, hH⟩ : ∃ H, H = s.heap := ⟨_, rfl⟩
  have ⟨locs, hlo⟩ : ∃ q : List Loc, q = [] := ⟨_, rfl⟩
  have Z : zz_B D dA A h n s.heap H locs := by rw [hH, hlo]; exact Z
  have key : zz_W p l e rm_X12_says s m args below meth c D dA A (some (.int r)) hx n 0 0 H locs 0 0 0 ls [] := by
    clear hH hlo hxx
    refine lv_aload_n S.1 S.2.1 dX12_says_0 rfl (lv_at hl 0 rfl) ?_
    refine lv_dup S.1 S.2.1 dX12_says_1 rfl ?_
    refine zz_gI S K Z hv zc_10 (by decide) gf_X12_171 dX12_says_2 (fun v1 hv => ?_)
    refine lv_aload_n S.1 S.2.1 dX12_says_5 rfl (lv_at hl 0 rfl) ?_
    refine zz_gI S K Z hv zc_10 (by decide) gf_X12_71 dX12_says_6 (fun v2 hv => ?_)
    refine lv_if_eq (tgt := 16) S.1 S.2.1 dX12_says_9 (by decide) (fun hc => ?_) (fun hc => ?_)
    · replace hv := (if_pos hc).symm.trans hv
      refine lv_iconst (v := (0 : Int32)) S.1 S.2.1 dX12_says_16 (by decide) ?_
      exact J17 (0 : Int32) v1 a0 h _ hv hk H locs ls Z (lv_sub hl [0, 1] rfl)
    · replace hv := (if_neg hc).symm.trans hv
      refine lv_iconst (v := (1 : Int32)) S.1 S.2.1 dX12_says_12 (by decide) ?_
      refine lv_goto (tgt := 17) S.1 S.2.1 dX12_says_13 (by decide) ?_
      exact J17 (1 : Int32) v1 a0 h _ hv hk H locs ls Z (lv_sub hl [0, 1] rfl)
  rw [hH, hlo] at key
  exact key

noncomputable def f_X12_byteAt (h : ZH) (a0 : Nat) (a1 : Int32) : Option (Int32) :=
  (zg_I h a0 10 2).bind fun v1 => if v1 ≤ a1 then (some ((10 : Int32))) else ((zg_R h a0 10 1).bind fun v2 => (zl_I h v2 1 a1).bind fun v3 => some (v3))
abbrev rm_X12_byteAt : Room := { frames := 0, cells := 0, slots := 0, locals := 0 }
set_option maxRecDepth 100000 in
set_option maxHeartbeats 4000000 in
theorem c_X12_byteAt {l : Launch} {D : va_G} {dA : Nat → ClassId} {A : Nat → Prop} {h : ZH} {n : Nat} (a0 : Nat) (a1 : Int32) {r : Int32} (hf : f_X12_byteAt h a0 a1 = some r) : Met l yX12_byteAt (zz_ws yX12_byteAt cX12_byteAt 2 (some .int)) rm_X12_byteAt (zz_P D dA A h n [.ref (a0), .int (a1)]) (zz_Q D dA A (some (.int r)) h n) 0 0 A := by
  refine zz_met (by decide) (Nat.le_of_ble_eq_true rfl) ?_
  intro p e s m args below meth c ls S K hret hlk hnm hl Z
  replace hl : lv_has ls 2 [(0, .ref (a0)), (1, .int (a1))] := hl
  obtain ⟨K0, hR0, hk⟩ : ∃ K0 : (Int32) → Prop, (∀ x, K0 x → x = r) ∧ K0 r := ⟨fun x => x = r, fun _ h => h, rfl⟩
  have hv := hf
  unfold f_X12_byteAt at hv
  clear hf
  obtain ⟨x, hxx⟩ : ∃ x, x = r := ⟨_, rfl⟩
  rw [← hxx] at hv hk
  have ⟨H, hH⟩ : ∃ H, H = s.heap := ⟨_, rfl⟩
  have ⟨locs, hlo⟩ : ∃ q : List Loc, q = [] := ⟨_, rfl⟩
  have Z : zz_B D dA A h n s.heap H locs := by rw [hH, hlo]; exact Z
  have key : zz_W p l e rm_X12_byteAt s m args below meth c D dA A (some (.int r)) h n 0 0 H locs 0 0 0 ls [] := by
    clear hH hlo hxx
    refine lv_iload_n S.1 S.2.1 dX12_byteAt_0 rfl (lv_at hl 1 rfl) ?_
    refine lv_aload_n S.1 S.2.1 dX12_byteAt_1 rfl (lv_at hl 0 rfl) ?_
    refine zz_gI S K Z hv zc_10 (by decide) gf_X12_109 dX12_byteAt_2 (fun v1 hv => ?_)
    refine lv_icmp_ge (tgt := 17) S.1 S.2.1 dX12_byteAt_5 (by decide) (fun hc => ?_) (fun hc => ?_)
    · replace hv := (if_pos hc).symm.trans hv
      refine lv_bipush (v := (10 : Int32)) S.1 S.2.1 dX12_byteAt_17 (by decide) ?_
      replace hk := zz_fin hv hk
      obtain rfl := hR0 _ hk
      exact zz_iret S Z hret hlk dX12_byteAt_19 (Nat.le_refl _) (Nat.le_refl _)
    · replace hv := (if_neg hc).symm.trans hv
      refine lv_aload_n S.1 S.2.1 dX12_byteAt_8 rfl (lv_at hl 0 rfl) ?_
      refine zz_gR S K Z hv zc_10 (by decide) gf_X12_13 dX12_byteAt_9 (fun v2 hv => ?_)
      refine lv_iload_n S.1 S.2.1 dX12_byteAt_12 rfl (lv_at hl 1 rfl) ?_
      refine zz_iald S K Z hv dX12_byteAt_13 (fun v3 hv => ?_)
      refine lv_goto (tgt := 19) S.1 S.2.1 dX12_byteAt_14 (by decide) ?_
      replace hk := zz_fin hv hk
      obtain rfl := hR0 _ hk
      exact zz_iret S Z hret hlk dX12_byteAt_19 (Nat.le_refl _) (Nat.le_refl _)
  rw [hH, hlo] at key
  exact key

noncomputable def f_X12_wrongWords_J62 (h : ZH) (a0 : Nat) (a1 : Int32) (a2 : Int32) (x3_11 : Int32) (x4_12 : Int32) (x5_13 : Int32) : Option ((Int32 × Int32) ⊕ (Int32)) :=
  (f_X12_isLetter h x5_13).bind fun v14 => if v14 = 0 then ((some (x3_11)).map Sum.inr) else (if (6 : Int32) ≤ x4_12 then ((some (x3_11)).map Sum.inr) else (some (.inl (x3_11 + (1 : Int32), x4_12 + (1 : Int32)))))
noncomputable def f_X12_wrongWords_J35 (h : ZH) (a0 : Nat) (a1 : Int32) (a2 : Int32) (x3_7 : Int32) (x4_8 : Int32) (x5_9 : Int32) (s10 : Int32) : Option ((Int32 × Int32) ⊕ (Int32)) :=
  if s10 = 0 then (f_X12_wrongWords_J62 h a0 a1 a2 x3_7 x4_8 x5_9) else (if x4_8 ≤ 0 then (f_X12_wrongWords_J62 h a0 a1 a2 x3_7 x4_8 x5_9) else (if x5_9 = (10 : Int32) then ((some ((-1 : Int32))).map Sum.inr) else (some (.inl (x3_7 + (1 : Int32), (0 : Int32))))))
noncomputable def f_X12_wrongWords_J30 (h : ZH) (a0 : Nat) (a1 : Int32) (a2 : Int32) (x3_4 : Int32) (x4_5 : Int32) (x5_6 : Int32) : Option ((Int32 × Int32) ⊕ (Int32)) :=
  f_X12_wrongWords_J35 h a0 a1 a2 x3_4 x4_5 x5_6 (1 : Int32)
noncomputable def f_X12_wrongWords_J34 (h : ZH) (a0 : Nat) (a1 : Int32) (a2 : Int32) (x3_15 : Int32) (x4_16 : Int32) (x5_17 : Int32) : Option ((Int32 × Int32) ⊕ (Int32)) :=
  f_X12_wrongWords_J35 h a0 a1 a2 x3_15 x4_16 x5_17 (0 : Int32)
noncomputable def f_X12_wrongWords_L5 (h : ZH) (a0 : Nat) (a1 : Int32) (a2 : Int32) (x3_1 : Int32) (x4_2 : Int32)  : Option ((Int32 × Int32) ⊕ (Int32)) :=
  zz_isO h a0 10 <| (f_X12_byteAt h a0 x3_1).bind fun v3 => if v3 = (10 : Int32) then (f_X12_wrongWords_J30 h a0 a1 a2 x3_1 x4_2 v3) else (if v3 = (32 : Int32) then (if a2 = 0 then (f_X12_wrongWords_J30 h a0 a1 a2 x3_1 x4_2 v3) else (f_X12_wrongWords_J34 h a0 a1 a2 x3_1 x4_2 v3)) else (f_X12_wrongWords_J34 h a0 a1 a2 x3_1 x4_2 v3))
noncomputable def f_X12_wrongWords (h : ZH) (a0 : Nat) (a1 : Int32) (a2 : Int32) : Option (Int32) :=
  zz_loop (fun st : (Int32 × Int32) => f_X12_wrongWords_L5 h a0 a1 a2 (st.1) (st.2)) (a1, (0 : Int32))
abbrev rm_X12_wrongWords : Room := { frames := 2, cells := 0, slots := 0, locals := 45 }
set_option maxRecDepth 100000 in
set_option maxHeartbeats 4000000 in
theorem c_X12_wrongWords {l : Launch} {D : va_G} {dA : Nat → ClassId} {A : Nat → Prop} {h : ZH} {n : Nat} (a0 : Nat) (a1 : Int32) (a2 : Int32) {r : Int32} (hf : f_X12_wrongWords h a0 a1 a2 = some r) : Met l yX12_wrongWords (zz_ws yX12_wrongWords cX12_wrongWords 7 (some .int)) rm_X12_wrongWords (zz_P D dA A h n [.ref (a0), .int (a1), .int (a2)]) (zz_Q D dA A (some (.int r)) h n) 0 0 A := by
  refine zz_met (by decide) (Nat.le_of_ble_eq_true rfl) ?_
  intro p e s m args below meth c ls S K hret hlk hnm hl Z
  replace hl : lv_has ls 7 [(0, .ref (a0)), (1, .int (a1)), (2, .int (a2))] := hl
  obtain ⟨K0, hR0, hk⟩ : ∃ K0 : (Int32) → Prop, (∀ x, K0 x → x = r) ∧ K0 r := ⟨fun x => x = r, fun _ h => h, rfl⟩
  have L5 : ∀ (st : (Int32 × Int32)) (x : (Int32)), zz_loop (fun st : (Int32 × Int32) => f_X12_wrongWords_L5 h a0 a1 a2 (st.1) (st.2)) st = some x → K0 x → (fun st : (Int32 × Int32) => ∀ (H : Heap) (locs : List Loc) (ls : Array Slot), zz_B D dA A h n s.heap H locs → lv_has ls 7 [(0, .ref (a0)), (2, .int (a2)), (3, .int ((st.1))), (4, .int ((st.2)))] → zz_W p l e rm_X12_wrongWords s m args below meth c D dA A (some (.int r)) h n 0 0 H locs 0 0 5 ls []) st := by
    refine zz_loop_go (K := K0) ?_
    intro K1 hP1 hR1
    have J62 : ∀ (x3_11 : Int32) (x4_12 : Int32) (x5_13 : Int32) (x : ((Int32 × Int32) ⊕ (Int32))), f_X12_wrongWords_J62 h a0 a1 a2 x3_11 x4_12 x5_13 = some x → K1 x → ∀ (H : Heap) (locs : List Loc) (ls : Array Slot), zz_B D dA A h n s.heap H locs → lv_has ls 7 [(0, .ref (a0)), (2, .int (a2)), (3, .int (x3_11)), (4, .int (x4_12)), (5, .int (x5_13))] → zz_W p l e rm_X12_wrongWords s m args below meth c D dA A (some (.int r)) h n 0 0 H locs 0 0 62 ls [] := by
      intro x3_11 x4_12 x5_13 x hv hk H locs ls Z hl
      unfold f_X12_wrongWords_J62 at hv
      refine lv_iload S.1 S.2.1 dX12_wrongWords_62 (lv_at hl 4 rfl) ?_
      obtain ⟨v14, hq, hv⟩ := zz_bd hv
      refine zz_S [.int (x5_13)] S K Z (c_X12_isLetter x5_13 hq) ⟨rfl, rfl⟩ gm_X12_isLetter gs_X12_isLetter gl_X12_127 ⟨by decide, by decide⟩ rfl hl.1 rfl (Nat.le_of_ble_eq_true rfl) dX12_wrongWords_64 ⟨Nat.zero_le _, Nat.zero_le _⟩ (fun H locs Z => ?_)
      show W _ _ _ _ _ _ _ _ _ _ _ _ 0 0 _ (F0 m 67 ls [.int (v14)])
      refine lv_if_eq (tgt := 83) S.1 S.2.1 dX12_wrongWords_67 (by decide) (fun hc => ?_) (fun hc => ?_)
      · replace hv := (if_pos hc).symm.trans hv
        obtain ⟨_, hv, hk⟩ := zz_mapk hv hk
        replace hk := hR1 _ hk
        refine lv_iload_n S.1 S.2.1 dX12_wrongWords_83 rfl (lv_at hl 2 rfl) ?_
        replace hk := zz_fin hv hk
        obtain rfl := hR0 _ hk
        exact zz_iret S Z hret hlk dX12_wrongWords_84 (Nat.le_refl _) (Nat.le_refl _)
      · replace hv := (if_neg hc).symm.trans hv
        refine lv_iload S.1 S.2.1 dX12_wrongWords_70 (lv_at hl 3 rfl) ?_
        refine lv_bipush (v := (6 : Int32)) S.1 S.2.1 dX12_wrongWords_72 (by decide) ?_
        refine lv_icmp_ge (tgt := 83) S.1 S.2.1 dX12_wrongWords_74 (by decide) (fun hc => ?_) (fun hc => ?_)
        · replace hv := (if_pos hc).symm.trans hv
          obtain ⟨_, hv, hk⟩ := zz_mapk hv hk
          replace hk := hR1 _ hk
          refine lv_iload_n S.1 S.2.1 dX12_wrongWords_83 rfl (lv_at hl 2 rfl) ?_
          replace hk := zz_fin hv hk
          obtain rfl := hR0 _ hk
          exact zz_iret S Z hret hlk dX12_wrongWords_84 (Nat.le_refl _) (Nat.le_refl _)
        · replace hv := (if_neg hc).symm.trans hv
          refine lv_iinc (v := x4_12 + (1 : Int32)) (lv' := [(4, .int (x4_12 + (1 : Int32))), (0, .ref (a0)), (2, .int (a2)), (3, .int (x3_11)), (5, .int (x5_13))]) S.1 S.2.1 dX12_wrongWords_77 hl (k := 3) rfl rfl (by decide) rfl (fun ls hl => ?_)
          refine lv_goto (tgt := 85) S.1 S.2.1 dX12_wrongWords_80 (by decide) ?_
          refine lv_iinc (v := x3_11 + (1 : Int32)) (lv' := [(3, .int (x3_11 + (1 : Int32))), (4, .int (x4_12 + (1 : Int32))), (0, .ref (a0)), (2, .int (a2)), (5, .int (x5_13))]) S.1 S.2.1 dX12_wrongWords_85 hl (k := 3) rfl rfl (by decide) rfl (fun ls hl => ?_)
          refine lv_goto (tgt := 5) S.1 S.2.1 dX12_wrongWords_88 (by decide) ?_
          replace hk := zz_fin hv hk
          exact hP1 _ hk H locs ls Z (lv_sub hl [2, 3, 0, 1] rfl)
    have J35 : ∀ (x3_7 : Int32) (x4_8 : Int32) (x5_9 : Int32) (s10 : Int32) (x : ((Int32 × Int32) ⊕ (Int32))), f_X12_wrongWords_J35 h a0 a1 a2 x3_7 x4_8 x5_9 s10 = some x → K1 x → ∀ (H : Heap) (locs : List Loc) (ls : Array Slot), zz_B D dA A h n s.heap H locs → lv_has ls 7 [(0, .ref (a0)), (2, .int (a2)), (3, .int (x3_7)), (4, .int (x4_8)), (5, .int (x5_9))] → zz_W p l e rm_X12_wrongWords s m args below meth c D dA A (some (.int r)) h n 0 0 H locs 0 0 35 ls [.int (s10)] := by
      intro x3_7 x4_8 x5_9 s10 x hv hk H locs ls Z hl
      unfold f_X12_wrongWords_J35 at hv
      refine lv_istore (lv' := [(6, .int (s10)), (0, .ref (a0)), (2, .int (a2)), (3, .int (x3_7)), (4, .int (x4_8)), (5, .int (x5_9))]) S.1 S.2.1 dX12_wrongWords_35 hl (by decide) rfl (fun ls hl => ?_)
      refine lv_iload S.1 S.2.1 dX12_wrongWords_37 (lv_at hl 0 rfl) ?_
      refine lv_if_eq (tgt := 62) S.1 S.2.1 dX12_wrongWords_39 (by decide) (fun hc => ?_) (fun hc => ?_)
      · replace hv := (if_pos hc).symm.trans hv
        exact J62 x3_7 x4_8 x5_9 _ hv hk H locs ls Z (lv_sub hl [1, 2, 3, 4, 5] rfl)
      · replace hv := (if_neg hc).symm.trans hv
        refine lv_iload S.1 S.2.1 dX12_wrongWords_42 (lv_at hl 4 rfl) ?_
        refine lv_if_le (tgt := 62) S.1 S.2.1 dX12_wrongWords_44 (by decide) (fun hc => ?_) (fun hc => ?_)
        · replace hv := (if_pos hc).symm.trans hv
          exact J62 x3_7 x4_8 x5_9 _ hv hk H locs ls Z (lv_sub hl [1, 2, 3, 4, 5] rfl)
        · replace hv := (if_neg hc).symm.trans hv
          refine lv_iload S.1 S.2.1 dX12_wrongWords_47 (lv_at hl 5 rfl) ?_
          refine lv_bipush (v := (10 : Int32)) S.1 S.2.1 dX12_wrongWords_49 (by decide) ?_
          refine lv_icmp_ne (tgt := 56) S.1 S.2.1 dX12_wrongWords_51 (by decide) (fun hc => ?_) (fun hc => ?_)
          · replace hv := (if_neg hc).symm.trans hv
            refine lv_iconst (v := (0 : Int32)) S.1 S.2.1 dX12_wrongWords_56 (by decide) ?_
            refine lv_istore (lv' := [(4, .int ((0 : Int32))), (6, .int (s10)), (0, .ref (a0)), (2, .int (a2)), (3, .int (x3_7)), (5, .int (x5_9))]) S.1 S.2.1 dX12_wrongWords_57 hl (by decide) rfl (fun ls hl => ?_)
            refine lv_goto (tgt := 85) S.1 S.2.1 dX12_wrongWords_59 (by decide) ?_
            refine lv_iinc (v := x3_7 + (1 : Int32)) (lv' := [(3, .int (x3_7 + (1 : Int32))), (4, .int ((0 : Int32))), (6, .int (s10)), (0, .ref (a0)), (2, .int (a2)), (5, .int (x5_9))]) S.1 S.2.1 dX12_wrongWords_85 hl (k := 4) rfl rfl (by decide) rfl (fun ls hl => ?_)
            refine lv_goto (tgt := 5) S.1 S.2.1 dX12_wrongWords_88 (by decide) ?_
            replace hk := zz_fin hv hk
            exact hP1 _ hk H locs ls Z (lv_sub hl [3, 4, 0, 1] rfl)
          · replace hv := (if_pos hc).symm.trans hv
            obtain ⟨_, hv, hk⟩ := zz_mapk hv hk
            replace hk := hR1 _ hk
            refine lv_iconst (v := (-1 : Int32)) S.1 S.2.1 dX12_wrongWords_54 (by decide) ?_
            replace hk := zz_fin hv hk
            obtain rfl := hR0 _ hk
            exact zz_iret S Z hret hlk dX12_wrongWords_55 (Nat.le_refl _) (Nat.le_refl _)
    have J30 : ∀ (x3_4 : Int32) (x4_5 : Int32) (x5_6 : Int32) (x : ((Int32 × Int32) ⊕ (Int32))), f_X12_wrongWords_J30 h a0 a1 a2 x3_4 x4_5 x5_6 = some x → K1 x → ∀ (H : Heap) (locs : List Loc) (ls : Array Slot), zz_B D dA A h n s.heap H locs → lv_has ls 7 [(0, .ref (a0)), (2, .int (a2)), (3, .int (x3_4)), (4, .int (x4_5)), (5, .int (x5_6))] → zz_W p l e rm_X12_wrongWords s m args below meth c D dA A (some (.int r)) h n 0 0 H locs 0 0 30 ls [] := by
      intro x3_4 x4_5 x5_6 x hv hk H locs ls Z hl
      unfold f_X12_wrongWords_J30 at hv
      refine lv_iconst (v := (1 : Int32)) S.1 S.2.1 dX12_wrongWords_30 (by decide) ?_
      refine lv_goto (tgt := 35) S.1 S.2.1 dX12_wrongWords_31 (by decide) ?_
      exact J35 x3_4 x4_5 x5_6 (1 : Int32) _ hv hk H locs ls Z (lv_sub hl [0, 1, 2, 3, 4] rfl)
    have J34 : ∀ (x3_15 : Int32) (x4_16 : Int32) (x5_17 : Int32) (x : ((Int32 × Int32) ⊕ (Int32))), f_X12_wrongWords_J34 h a0 a1 a2 x3_15 x4_16 x5_17 = some x → K1 x → ∀ (H : Heap) (locs : List Loc) (ls : Array Slot), zz_B D dA A h n s.heap H locs → lv_has ls 7 [(0, .ref (a0)), (2, .int (a2)), (3, .int (x3_15)), (4, .int (x4_16)), (5, .int (x5_17))] → zz_W p l e rm_X12_wrongWords s m args below meth c D dA A (some (.int r)) h n 0 0 H locs 0 0 34 ls [] := by
      intro x3_15 x4_16 x5_17 x hv hk H locs ls Z hl
      unfold f_X12_wrongWords_J34 at hv
      refine lv_iconst (v := (0 : Int32)) S.1 S.2.1 dX12_wrongWords_34 (by decide) ?_
      exact J35 x3_15 x4_16 x5_17 (0 : Int32) _ hv hk H locs ls Z (lv_sub hl [0, 1, 2, 3, 4] rfl)
    rintro ⟨x3_1, x4_2⟩ x hv hk H locs ls Z hl
    replace hv : f_X12_wrongWords_L5 h a0 a1 a2 x3_1 x4_2 = some x := hv
    unfold f_X12_wrongWords_L5 at hv
    replace hl : lv_has ls 7 [(0, .ref (a0)), (2, .int (a2)), (3, .int (x3_1)), (4, .int (x4_2))] := hl
    replace Z : zz_B D dA A h n s.heap H locs := Z
    show zz_W p l e rm_X12_wrongWords s m args below meth c D dA A (some (.int r)) h n 0 0 H locs 0 0 5 ls []
    refine lv_aload_n S.1 S.2.1 dX12_wrongWords_5 rfl (lv_at hl 0 rfl) ?_
    refine lv_iload_n S.1 S.2.1 dX12_wrongWords_6 rfl (lv_at hl 2 rfl) ?_
    obtain ⟨hci, hv⟩ := zz_isO_s hv
    obtain ⟨v3, hq, hv⟩ := zz_bd hv
    refine zz_V [.int (x3_1)] S K Z hci zc_10 rfl (c_X12_byteAt a0 x3_1 hq) ⟨rfl, rfl⟩ gm_X12_byteAt gmv_X12_byteAt gl_X12_184 ⟨by decide, by decide⟩ rfl hl.1 rfl (Nat.le_of_ble_eq_true rfl) dX12_wrongWords_7 ⟨Nat.zero_le _, Nat.zero_le _⟩ (fun H locs Z => ?_)
    show W _ _ _ _ _ _ _ _ _ _ _ _ 0 0 _ (F0 m 10 ls [.int (v3)])
    refine lv_istore (lv' := [(5, .int (v3)), (0, .ref (a0)), (2, .int (a2)), (3, .int (x3_1)), (4, .int (x4_2))]) S.1 S.2.1 dX12_wrongWords_10 hl (by decide) rfl (fun ls hl => ?_)
    refine lv_iload S.1 S.2.1 dX12_wrongWords_12 (lv_at hl 0 rfl) ?_
    refine lv_bipush (v := (10 : Int32)) S.1 S.2.1 dX12_wrongWords_14 (by decide) ?_
    refine lv_icmp_eq (tgt := 30) S.1 S.2.1 dX12_wrongWords_16 (by decide) (fun hc => ?_) (fun hc => ?_)
    · replace hv := (if_pos hc).symm.trans hv
      exact J30 x3_1 x4_2 v3 _ hv hk H locs ls Z (lv_sub hl [1, 2, 3, 4, 0] rfl)
    · replace hv := (if_neg hc).symm.trans hv
      refine lv_iload S.1 S.2.1 dX12_wrongWords_19 (lv_at hl 0 rfl) ?_
      refine lv_bipush (v := (32 : Int32)) S.1 S.2.1 dX12_wrongWords_21 (by decide) ?_
      refine lv_icmp_ne (tgt := 34) S.1 S.2.1 dX12_wrongWords_23 (by decide) (fun hc => ?_) (fun hc => ?_)
      · replace hv := (if_neg hc).symm.trans hv
        exact J34 x3_1 x4_2 v3 _ hv hk H locs ls Z (lv_sub hl [1, 2, 3, 4, 0] rfl)
      · replace hv := (if_pos hc).symm.trans hv
        refine lv_iload_n S.1 S.2.1 dX12_wrongWords_26 rfl (lv_at hl 2 rfl) ?_
        refine lv_if_ne (tgt := 34) S.1 S.2.1 dX12_wrongWords_27 (by decide) (fun hc => ?_) (fun hc => ?_)
        · replace hv := (if_neg hc).symm.trans hv
          exact J34 x3_1 x4_2 v3 _ hv hk H locs ls Z (lv_sub hl [1, 2, 3, 4, 0] rfl)
        · replace hv := (if_pos hc).symm.trans hv
          exact J30 x3_1 x4_2 v3 _ hv hk H locs ls Z (lv_sub hl [1, 2, 3, 4, 0] rfl)
  have hv := hf
  unfold f_X12_wrongWords at hv
  clear hf
  obtain ⟨x, hxx⟩ : ∃ x, x = r := ⟨_, rfl⟩
  rw [← hxx] at hv hk
  have ⟨H, hH⟩ : ∃ H, H = s.heap := ⟨_, rfl⟩
  have ⟨locs, hlo⟩ : ∃ q : List Loc, q = [] := ⟨_, rfl⟩
  have Z : zz_B D dA A h n s.heap H locs := by rw [hH, hlo]; exact Z
  have key : zz_W p l e rm_X12_wrongWords s m args below meth c D dA A (some (.int r)) h n 0 0 H locs 0 0 0 ls [] := by
    clear hH hlo hxx
    refine lv_iload_n S.1 S.2.1 dX12_wrongWords_0 rfl (lv_at hl 1 rfl) ?_
    refine lv_istore_n (lv' := [(3, .int (a1)), (0, .ref (a0)), (1, .int (a1)), (2, .int (a2))]) S.1 S.2.1 dX12_wrongWords_1 rfl hl (by decide) rfl (fun ls hl => ?_)
    refine lv_iconst (v := (0 : Int32)) S.1 S.2.1 dX12_wrongWords_2 (by decide) ?_
    refine lv_istore (lv' := [(4, .int ((0 : Int32))), (3, .int (a1)), (0, .ref (a0)), (1, .int (a1)), (2, .int (a2))]) S.1 S.2.1 dX12_wrongWords_3 hl (by decide) rfl (fun ls hl => ?_)
    exact L5  (a1, (0 : Int32)) _ hv hk H locs ls Z (lv_sub hl [2, 4, 1, 0] rfl)
  rw [hH, hlo] at key
  exact key
