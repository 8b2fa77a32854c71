/-! ===== share, as it returns; as it throws (the function alone) ===== -/
noncomputable def f_X11_share_L6 (h : ZH) (a0 : Nat) (x1_1 : Int32) (x2_2 : Int32) (x3_3 : Int32)  : Option ((Int32 × Int32 × Int32) ⊕ (Int32)) :=
  (zg_R h a0 9 1).bind fun v4 => (zg_I h v4 8 4).bind fun v5 => if v5 ≤ x3_3 then ((if x2_2 = 0 then (none) else (zz_ne x2_2 <| some (x1_1 / x2_2))).map Sum.inr) else ((zg_R h a0 9 2).bind fun v6 => (zg_R h v6 6 2).bind fun v7 => (zl_I h v7 1 x3_3).bind fun v8 => zz_let (x1_1 + v8) fun v9 => (zg_R h a0 9 2).bind fun v10 => (zg_R h v10 6 2).bind fun v11 => (zl_I h v11 1 x3_3).bind fun v12 => if v12 ≤ 0 then (some (.inl (v9, x2_2, x3_3 + (1 : Int32)))) else (some (.inl (v9, x2_2 + (1 : Int32), x3_3 + (1 : Int32)))))
noncomputable def f_X11_share (h : ZH) (a0 : Nat) : Option (Int32) :=
  zz_loop (fun st : (Int32 × Int32 × Int32) => f_X11_share_L6 h a0 (st.1) (st.2.1) (st.2.2)) ((0 : Int32), (0 : Int32), (0 : Int32))
abbrev rm_X11_share : Room := { frames := 0, cells := 0, slots := 0, locals := 0 }
set_option maxRecDepth 100000 in
set_option maxHeartbeats 4000000 in
theorem c_X11_share {l : Launch} {D : va_G} {dA : Nat → ClassId} {A : Nat → Prop} {h : ZH} {n : Nat} (a0 : Nat) {r : Int32} (hf : f_X11_share h a0 = some r) : Met l yX11_share (zz_ws yX11_share cX11_share 4 (some .int)) rm_X11_share (zz_P D dA A h n [.ref (a0)]) (zz_Q D dA A (some (.int r)) h n) 0 0 A := by
  refine zz_met (by decide) (Nat.le_of_ble_eq_true rfl) ?_
  intro p e s m args below meth c ls S K hret hlk hnm hl Z
  replace hl : lv_has ls 4 [(0, .ref (a0))] := hl
  obtain ⟨K0, hR0, hk⟩ : ∃ K0 : (Int32) → Prop, (∀ x, K0 x → x = r) ∧ K0 r := ⟨fun x => x = r, fun _ h => h, rfl⟩
  have L6 : ∀ (st : (Int32 × Int32 × Int32)) (x : (Int32)), zz_loop (fun st : (Int32 × Int32 × Int32) => f_X11_share_L6 h a0 (st.1) (st.2.1) (st.2.2)) st = some x → K0 x → (fun st : (Int32 × Int32 × Int32) => ∀ (H : Heap) (locs : List Loc) (ls : Array Slot), zz_B D dA A h n s.heap H locs → lv_has ls 4 [(0, .ref (a0)), (1, .int ((st.1))), (2, .int ((st.2.1))), (3, .int ((st.2.2)))] → zz_W p l e rm_X11_share s m args below meth c D dA A (some (.int r)) h n 0 0 H locs 0 0 6 ls []) st := by
    refine zz_loop_go (K := K0) ?_
    intro K1 hP1 hR1
    rintro ⟨x1_1, x2_2, x3_3⟩ x hv hk H locs ls Z hl
    replace hv : f_X11_share_L6 h a0 x1_1 x2_2 x3_3 = some x := hv
    unfold f_X11_share_L6 at hv
    replace hl : lv_has ls 4 [(0, .ref (a0)), (1, .int (x1_1)), (2, .int (x2_2)), (3, .int (x3_3))] := hl
    replace Z : zz_B D dA A h n s.heap H locs := Z
    show zz_W p l e rm_X11_share s m args below meth c D dA A (some (.int r)) h n 0 0 H locs 0 0 6 ls []
    refine lv_iload_n S.1 S.2.1 dX11_share_6 rfl (lv_at hl 3 rfl) ?_
    refine lv_aload_n S.1 S.2.1 dX11_share_7 rfl (lv_at hl 0 rfl) ?_
    refine zz_gR S K Z hv zc_9 (by decide) gf_X11_25 dX11_share_8 (fun v4 hv => ?_)
    refine zz_gI S K Z hv zc_8 (by decide) gf_X11_140 dX11_share_11 (fun v5 hv => ?_)
    refine lv_icmp_ge (tgt := 50) S.1 S.2.1 dX11_share_14 (by decide) (fun hc => ?_) (fun hc => ?_)
    · replace hv := (if_pos hc).symm.trans hv
      obtain ⟨_, hv, hk⟩ := zz_mapk hv hk
      replace hk := hR1 _ hk
      refine lv_iload_n S.1 S.2.1 dX11_share_50 rfl (lv_at hl 2 rfl) ?_
      refine lv_if_ne (tgt := 64) S.1 S.2.1 dX11_share_51 (by decide) (fun hc => ?_) (fun hc => ?_)
      · replace hv := (if_neg hc).symm.trans hv
        refine lv_iload_n S.1 S.2.1 dX11_share_64 rfl (lv_at hl 1 rfl) ?_
        refine lv_iload_n S.1 S.2.1 dX11_share_65 rfl (lv_at hl 2 rfl) ?_
        obtain ⟨hne, hv⟩ := zz_ne_s hv
        refine lv_idiv S.1 S.2.1 dX11_share_66 hne ?_
        replace hk := zz_fin hv hk
        obtain rfl := hR0 _ hk
        exact zz_iret S Z hret hlk dX11_share_67 (Nat.le_refl _) (Nat.le_refl _)
      · replace hv := (if_pos hc).symm.trans hv
        cases hv
    · replace hv := (if_neg hc).symm.trans hv
      refine lv_iload_n S.1 S.2.1 dX11_share_17 rfl (lv_at hl 1 rfl) ?_
      refine lv_aload_n S.1 S.2.1 dX11_share_18 rfl (lv_at hl 0 rfl) ?_
      refine zz_gR S K Z hv zc_9 (by decide) gf_X11_34 dX11_share_19 (fun v6 hv => ?_)
      refine zz_gR S K Z hv zc_6 (by decide) gf_X11_242 dX11_share_22 (fun v7 hv => ?_)
      refine lv_iload_n S.1 S.2.1 dX11_share_25 rfl (lv_at hl 3 rfl) ?_
      refine zz_iald S K Z hv dX11_share_26 (fun v8 hv => ?_)
      refine lv_iadd S.1 S.2.1 dX11_share_27 ?_
      refine zz_lt hv (G := fun w => W _ _ _ _ _ _ _ _ _ _ _ _ _ _ _ (F0 _ _ _ (.int w :: _))) (fun v9 hv => ?_)
      refine lv_istore_n (lv' := [(1, .int (v9)), (0, .ref (a0)), (2, .int (x2_2)), (3, .int (x3_3))]) S.1 S.2.1 dX11_share_28 rfl hl (by decide) rfl (fun ls hl => ?_)
      refine lv_aload_n S.1 S.2.1 dX11_share_29 rfl (lv_at hl 1 rfl) ?_
      refine zz_gR S K Z hv zc_9 (by decide) gf_X11_34 dX11_share_30 (fun v10 hv => ?_)
      refine zz_gR S K Z hv zc_6 (by decide) gf_X11_242 dX11_share_33 (fun v11 hv => ?_)
      refine lv_iload_n S.1 S.2.1 dX11_share_36 rfl (lv_at hl 3 rfl) ?_
      refine zz_iald S K Z hv dX11_share_37 (fun v12 hv => ?_)
      refine lv_if_le (tgt := 44) S.1 S.2.1 dX11_share_38 (by decide) (fun hc => ?_) (fun hc => ?_)
      · replace hv := (if_pos hc).symm.trans hv
        refine lv_iinc (v := x3_3 + (1 : Int32)) (lv' := [(3, .int (x3_3 + (1 : Int32))), (1, .int (v9)), (0, .ref (a0)), (2, .int (x2_2))]) S.1 S.2.1 dX11_share_44 hl (k := 3) rfl rfl (by decide) rfl (fun ls hl => ?_)
        refine lv_goto (tgt := 6) S.1 S.2.1 dX11_share_47 (by decide) ?_
        replace hk := zz_fin hv hk
        exact hP1 _ hk H locs ls Z (lv_sub hl [2, 1, 3, 0] rfl)
      · replace hv := (if_neg hc).symm.trans hv
        refine lv_iinc (v := x2_2 + (1 : Int32)) (lv' := [(2, .int (x2_2 + (1 : Int32))), (1, .int (v9)), (0, .ref (a0)), (3, .int (x3_3))]) S.1 S.2.1 dX11_share_41 hl (k := 2) rfl rfl (by decide) rfl (fun ls hl => ?_)
        refine lv_iinc (v := x3_3 + (1 : Int32)) (lv' := [(3, .int (x3_3 + (1 : Int32))), (2, .int (x2_2 + (1 : Int32))), (1, .int (v9)), (0, .ref (a0))]) S.1 S.2.1 dX11_share_44 hl (k := 3) rfl rfl (by decide) rfl (fun ls hl => ?_)
        refine lv_goto (tgt := 6) S.1 S.2.1 dX11_share_47 (by decide) ?_
        replace hk := zz_fin hv hk
        exact hP1 _ hk H locs ls Z (lv_sub hl [3, 2, 1, 0] rfl)
  have hv := hf
  unfold f_X11_share at hv
  clear hf
  obtain ⟨x, hxx⟩ : ∃ x, x = r := ⟨_, rfl⟩
  rw [← hxx] at hv hk
  have ⟨H, hH⟩ : ∃ H, H = s.heap := ⟨_, rfl⟩
  have ⟨locs, hlo⟩ : ∃ q : List Loc, q = [] := ⟨_, rfl⟩
  have Z : zz_B D dA A h n s.heap H locs := by rw [hH, hlo]; exact Z
  have key : zz_W p l e rm_X11_share s m args below meth c D dA A (some (.int r)) h n 0 0 H locs 0 0 0 ls [] := by
    clear hH hlo hxx
    refine lv_iconst (v := (0 : Int32)) S.1 S.2.1 dX11_share_0 (by decide) ?_
    refine lv_istore_n (lv' := [(1, .int ((0 : Int32))), (0, .ref (a0))]) S.1 S.2.1 dX11_share_1 rfl hl (by decide) rfl (fun ls hl => ?_)
    refine lv_iconst (v := (0 : Int32)) S.1 S.2.1 dX11_share_2 (by decide) ?_
    refine lv_istore_n (lv' := [(2, .int ((0 : Int32))), (1, .int ((0 : Int32))), (0, .ref (a0))]) S.1 S.2.1 dX11_share_3 rfl hl (by decide) rfl (fun ls hl => ?_)
    refine lv_iconst (v := (0 : Int32)) S.1 S.2.1 dX11_share_4 (by decide) ?_
    refine lv_istore_n (lv' := [(3, .int ((0 : Int32))), (2, .int ((0 : Int32))), (1, .int ((0 : Int32))), (0, .ref (a0))]) S.1 S.2.1 dX11_share_5 rfl hl (by decide) rfl (fun ls hl => ?_)
    exact L6  ((0 : Int32), (0 : Int32), (0 : Int32)) _ hv hk H locs ls Z (lv_sub hl [3, 2, 1, 0] rfl)
  rw [hH, hlo] at key
  exact key
noncomputable def f_X11_shareT_L6 (h : ZH) (a0 : Nat) (x1_1 : Int32) (x2_2 : Int32) (x3_3 : Int32)  : Option ((Int32 × Int32 × Int32) ⊕ (Int32)) :=
  (zg_R h a0 9 1).bind fun v4 => (zg_I h v4 8 4).bind fun v5 => if v5 ≤ x3_3 then ((if x2_2 = 0 then (some ((1 : Int32))) else (none)).map Sum.inr) else ((zg_R h a0 9 2).bind fun v6 => (zg_R h v6 6 2).bind fun v7 => (zl_I h v7 1 x3_3).bind fun v8 => zz_let (x1_1 + v8) fun v9 => (zg_R h a0 9 2).bind fun v10 => (zg_R h v10 6 2).bind fun v11 => (zl_I h v11 1 x3_3).bind fun v12 => if v12 ≤ 0 then (some (.inl (v9, x2_2, x3_3 + (1 : Int32)))) else (some (.inl (v9, x2_2 + (1 : Int32), x3_3 + (1 : Int32)))))
noncomputable def f_X11_shareT (h : ZH) (a0 : Nat) : Option (Int32) :=
  zz_loop (fun st : (Int32 × Int32 × Int32) => f_X11_shareT_L6 h a0 (st.1) (st.2.1) (st.2.2)) ((0 : Int32), (0 : Int32), (0 : Int32))
