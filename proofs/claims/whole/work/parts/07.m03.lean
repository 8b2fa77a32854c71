noncomputable def f_X2_wrongInScript_L4 (h : ZH) (a0 : Nat) (x1_1 : Int32) (x2_2 : Int32)  : Option ((Int32 × Int32) ⊕ (Int32)) :=
  if (600 : Int32) < x2_2 then ((some ((-1 : Int32))).map Sum.inr) else ((zg_I h a0 0 1).bind fun v3 => if v3 ≤ x1_1 then ((some ((-1 : Int32))).map Sum.inr) else (zz_isO h a0 0 <| (f_X0_at h a0 x1_1).bind fun v4 => if v4 = (10 : Int32) then (some (.inl (x1_1 + (1 : Int32), x2_2 + (1 : Int32)))) else (if x2_2 ≤ (40 : Int32) then ((f_X2_scriptLine h a0 x1_1).bind fun v5 => if 0 ≤ v5 then (some (.inl (v5 + (1 : Int32), x2_2 + (1 : Int32)))) else ((some (v5 ^^^ (-1 : Int32))).map Sum.inr)) else ((some (x1_1)).map Sum.inr))))
noncomputable def f_X2_wrongInScript (h : ZH) (a0 : Nat) : Option (Int32) :=
  zz_loop (fun st : (Int32 × Int32) => f_X2_wrongInScript_L4 h a0 (st.1) (st.2)) ((0 : Int32), (1 : Int32))
abbrev rm_X2_wrongInScript : Room := { frames := 5, cells := 0, slots := 0, locals := 112 }
set_option maxRecDepth 100000 in
set_option maxHeartbeats 4000000 in
theorem c_X2_wrongInScript {l : Launch} {D : va_G} {dA : Nat → ClassId} {A : Nat → Prop} {h : ZH} {n : Nat} (a0 : Nat) {r : Int32} (hf : f_X2_wrongInScript h a0 = some r) : Met l yX2_wrongInScript (zz_ws yX2_wrongInScript cX2_wrongInScript 4 (some .int)) rm_X2_wrongInScript (zz_P D dA A h n [.ref (a0)]) (zz_Q D dA A (some (.int r)) h n) 0 0 A := by
  refine zz_met (by decide) (Nat.le_of_ble_eq_true rfl) ?_
  intro p e s m args below meth c ls S K hret hlk hnm hl Z
  replace hl : lv_has ls 4 [(0, .ref (a0))] := hl
  obtain ⟨K0, hR0, hk⟩ : ∃ K0 : (Int32) → Prop, (∀ x, K0 x → x = r) ∧ K0 r := ⟨fun x => x = r, fun _ h => h, rfl⟩
  have L4 : ∀ (st : (Int32 × Int32)) (x : (Int32)), zz_loop (fun st : (Int32 × Int32) => f_X2_wrongInScript_L4 h a0 (st.1) (st.2)) st = some x → K0 x → (fun st : (Int32 × Int32) => ∀ (H : Heap) (locs : List Loc) (ls : Array Slot), zz_B D dA A h n s.heap H locs → lv_has ls 4 [(0, .ref (a0)), (1, .int ((st.1))), (2, .int ((st.2)))] → zz_W p l e rm_X2_wrongInScript s m args below meth c D dA A (some (.int r)) h n 0 0 H locs 0 0 4 ls []) st := by
    refine zz_loop_go (K := K0) ?_
    intro K1 hP1 hR1
    rintro ⟨x1_1, x2_2⟩ x hv hk H locs ls Z hl
    replace hv : f_X2_wrongInScript_L4 h a0 x1_1 x2_2 = some x := hv
    unfold f_X2_wrongInScript_L4 at hv
    replace hl : lv_has ls 4 [(0, .ref (a0)), (1, .int (x1_1)), (2, .int (x2_2))] := hl
    replace Z : zz_B D dA A h n s.heap H locs := Z
    show zz_W p l e rm_X2_wrongInScript s m args below meth c D dA A (some (.int r)) h n 0 0 H locs 0 0 4 ls []
    refine lv_iload_n S.1 S.2.1 dX2_wrongInScript_4 rfl (lv_at hl 2 rfl) ?_
    refine lv_sipush (v := (600 : Int32)) S.1 S.2.1 dX2_wrongInScript_5 (by decide) ?_
    refine lv_icmp_gt (tgt := 62) S.1 S.2.1 dX2_wrongInScript_8 (by decide) (fun hc => ?_) (fun hc => ?_)
    · replace hv := (if_pos hc).symm.trans hv
      obtain ⟨_, hv, hk⟩ := zz_mapk hv hk
      replace hk := hR1 _ hk
      refine lv_iconst (v := (-1 : Int32)) S.1 S.2.1 dX2_wrongInScript_62 (by decide) ?_
      replace hk := zz_fin hv hk
      obtain rfl := hR0 _ hk
      exact zz_iret S Z hret hlk dX2_wrongInScript_63 (Nat.le_refl _) (Nat.le_refl _)
    · replace hv := (if_neg hc).symm.trans hv
      refine lv_iload_n S.1 S.2.1 dX2_wrongInScript_11 rfl (lv_at hl 1 rfl) ?_
      refine lv_aload_n S.1 S.2.1 dX2_wrongInScript_12 rfl (lv_at hl 0 rfl) ?_
      refine zz_gI S K Z hv zc_0 (by decide) gf_X2_9 dX2_wrongInScript_13 (fun v3 hv => ?_)
      refine lv_icmp_ge (tgt := 62) S.1 S.2.1 dX2_wrongInScript_16 (by decide) (fun hc => ?_) (fun hc => ?_)
      · replace hv := (if_pos hc).symm.trans hv
        obtain ⟨_, hv, hk⟩ := zz_mapk hv hk
        replace hk := hR1 _ hk
        refine lv_iconst (v := (-1 : Int32)) S.1 S.2.1 dX2_wrongInScript_62 (by decide) ?_
        replace hk := zz_fin hv hk
        obtain rfl := hR0 _ hk
        exact zz_iret S Z hret hlk dX2_wrongInScript_63 (Nat.le_refl _) (Nat.le_refl _)
      · replace hv := (if_neg hc).symm.trans hv
        refine lv_aload_n S.1 S.2.1 dX2_wrongInScript_19 rfl (lv_at hl 0 rfl) ?_
        refine lv_iload_n S.1 S.2.1 dX2_wrongInScript_20 rfl (lv_at hl 1 rfl) ?_
        obtain ⟨hci, hv⟩ := zz_isO_s hv
        obtain ⟨v4, hq, hv⟩ := zz_bd hv
        refine zz_V [.int (x1_1)] S K Z hci zc_0 rfl (c_X0_at a0 x1_1 hq) ⟨rfl, rfl⟩ gm_X0_at gmv_X0_at gl_X2_15 ⟨by decide, by decide⟩ rfl hl.1 rfl (Nat.le_of_ble_eq_true rfl) dX2_wrongInScript_21 ⟨Nat.zero_le _, Nat.zero_le _⟩ (fun H locs Z => ?_)
        show W _ _ _ _ _ _ _ _ _ _ _ _ 0 0 _ (F0 m 24 ls [.int (v4)])
        refine lv_bipush (v := (10 : Int32)) S.1 S.2.1 dX2_wrongInScript_24 (by decide) ?_
        refine lv_icmp_eq (tgt := 53) S.1 S.2.1 dX2_wrongInScript_26 (by decide) (fun hc => ?_) (fun hc => ?_)
        · replace hv := (if_pos hc).symm.trans hv
          refine lv_iinc (v := x1_1 + (1 : Int32)) (lv' := [(1, .int (x1_1 + (1 : Int32))), (0, .ref (a0)), (2, .int (x2_2))]) S.1 S.2.1 dX2_wrongInScript_53 hl (k := 1) rfl rfl (by decide) rfl (fun ls hl => ?_)
          refine lv_iinc (v := x2_2 + (1 : Int32)) (lv' := [(2, .int (x2_2 + (1 : Int32))), (1, .int (x1_1 + (1 : Int32))), (0, .ref (a0))]) S.1 S.2.1 dX2_wrongInScript_56 hl (k := 2) rfl rfl (by decide) rfl (fun ls hl => ?_)
          refine lv_goto (tgt := 4) S.1 S.2.1 dX2_wrongInScript_59 (by decide) ?_
          replace hk := zz_fin hv hk
          exact hP1 _ hk H locs ls Z (lv_sub hl [2, 1, 0] rfl)
        · replace hv := (if_neg hc).symm.trans hv
          refine lv_iload_n S.1 S.2.1 dX2_wrongInScript_29 rfl (lv_at hl 2 rfl) ?_
          refine lv_bipush (v := (40 : Int32)) S.1 S.2.1 dX2_wrongInScript_30 (by decide) ?_
          refine lv_icmp_le (tgt := 37) S.1 S.2.1 dX2_wrongInScript_32 (by decide) (fun hc => ?_) (fun hc => ?_)
          · replace hv := (if_pos hc).symm.trans hv
            refine lv_aload_n S.1 S.2.1 dX2_wrongInScript_37 rfl (lv_at hl 0 rfl) ?_
            refine lv_iload_n S.1 S.2.1 dX2_wrongInScript_38 rfl (lv_at hl 1 rfl) ?_
            obtain ⟨v5, hq, hv⟩ := zz_bd hv
            refine zz_S [.ref (a0), .int (x1_1)] S K Z (c_X2_scriptLine a0 x1_1 hq) ⟨rfl, rfl⟩ gm_X2_scriptLine gs_X2_scriptLine gl_X2_28 ⟨by decide, by decide⟩ rfl hl.1 rfl (Nat.le_of_ble_eq_true rfl) dX2_wrongInScript_39 ⟨Nat.zero_le _, Nat.zero_le _⟩ (fun H locs Z => ?_)
            show W _ _ _ _ _ _ _ _ _ _ _ _ 0 0 _ (F0 m 42 ls [.int (v5)])
            refine lv_istore_n (lv' := [(3, .int (v5)), (0, .ref (a0)), (1, .int (x1_1)), (2, .int (x2_2))]) S.1 S.2.1 dX2_wrongInScript_42 rfl hl (by decide) rfl (fun ls hl => ?_)
            refine lv_iload_n S.1 S.2.1 dX2_wrongInScript_43 rfl (lv_at hl 0 rfl) ?_
            refine lv_if_ge (tgt := 51) S.1 S.2.1 dX2_wrongInScript_44 (by decide) (fun hc => ?_) (fun hc => ?_)
            · replace hv := (if_pos hc).symm.trans hv
              refine lv_iload_n S.1 S.2.1 dX2_wrongInScript_51 rfl (lv_at hl 0 rfl) ?_
              refine lv_istore_n (lv' := [(1, .int (v5)), (3, .int (v5)), (0, .ref (a0)), (2, .int (x2_2))]) S.1 S.2.1 dX2_wrongInScript_52 rfl hl (by decide) rfl (fun ls hl => ?_)
              refine lv_iinc (v := v5 + (1 : Int32)) (lv' := [(1, .int (v5 + (1 : Int32))), (3, .int (v5)), (0, .ref (a0)), (2, .int (x2_2))]) S.1 S.2.1 dX2_wrongInScript_53 hl (k := 0) rfl rfl (by decide) rfl (fun ls hl => ?_)
              refine lv_iinc (v := x2_2 + (1 : Int32)) (lv' := [(2, .int (x2_2 + (1 : Int32))), (1, .int (v5 + (1 : Int32))), (3, .int (v5)), (0, .ref (a0))]) S.1 S.2.1 dX2_wrongInScript_56 hl (k := 3) rfl rfl (by decide) rfl (fun ls hl => ?_)
              refine lv_goto (tgt := 4) S.1 S.2.1 dX2_wrongInScript_59 (by decide) ?_
              replace hk := zz_fin hv hk
              exact hP1 _ hk H locs ls Z (lv_sub hl [3, 1, 0] rfl)
            · replace hv := (if_neg hc).symm.trans hv
              obtain ⟨_, hv, hk⟩ := zz_mapk hv hk
              replace hk := hR1 _ hk
              refine lv_iload_n S.1 S.2.1 dX2_wrongInScript_47 rfl (lv_at hl 0 rfl) ?_
              refine lv_iconst (v := (-1 : Int32)) S.1 S.2.1 dX2_wrongInScript_48 (by decide) ?_
              refine lv_ixor S.1 S.2.1 dX2_wrongInScript_49 ?_
              replace hk := zz_fin hv hk
              obtain rfl := hR0 _ hk
              exact zz_iret S Z hret hlk dX2_wrongInScript_50 (Nat.le_refl _) (Nat.le_refl _)
          · replace hv := (if_neg hc).symm.trans hv
            obtain ⟨_, hv, hk⟩ := zz_mapk hv hk
            replace hk := hR1 _ hk
            refine lv_iload_n S.1 S.2.1 dX2_wrongInScript_35 rfl (lv_at hl 1 rfl) ?_
            replace hk := zz_fin hv hk
            obtain rfl := hR0 _ hk
            exact zz_iret S Z hret hlk dX2_wrongInScript_36 (Nat.le_refl _) (Nat.le_refl _)
  have hv := hf
  unfold f_X2_wrongInScript at hv
  clear hf
  obtain ⟨x, hxx⟩ : ∃ x, x = r := ⟨_, rfl⟩
  rw [← hxx] at hv hk
  have ⟨H, hH⟩ : ∃ H, H = s.heap := ⟨_, rfl⟩
  have ⟨locs, hlo⟩ : ∃ q : List Loc, q = [] := ⟨_, rfl⟩
  have Z : zz_B D dA A h n s.heap H locs := by rw [hH, hlo]; exact Z
  have key : zz_W p l e rm_X2_wrongInScript s m args below meth c D dA A (some (.int r)) h n 0 0 H locs 0 0 0 ls [] := by
    clear hH hlo hxx
    refine lv_iconst (v := (0 : Int32)) S.1 S.2.1 dX2_wrongInScript_0 (by decide) ?_
    refine lv_istore_n (lv' := [(1, .int ((0 : Int32))), (0, .ref (a0))]) S.1 S.2.1 dX2_wrongInScript_1 rfl hl (by decide) rfl (fun ls hl => ?_)
    refine lv_iconst (v := (1 : Int32)) S.1 S.2.1 dX2_wrongInScript_2 (by decide) ?_
    refine lv_istore_n (lv' := [(2, .int ((1 : Int32))), (1, .int ((0 : Int32))), (0, .ref (a0))]) S.1 S.2.1 dX2_wrongInScript_3 rfl hl (by decide) rfl (fun ls hl => ?_)
    exact L4  ((0 : Int32), (1 : Int32)) _ hv hk H locs ls Z (lv_sub hl [2, 1, 0] rfl)
  rw [hH, hlo] at key
  exact key

noncomputable def f_X0_copy_L14 (h : ZH) (a0 : Nat) (y1_6 : Nat) (n8 : Nat) (kc9 : Nat) (ks10 : Nat) (x2_5 : Int32) (h7 : ZH)  : Option ((Int32 × ZH) ⊕ (Nat × ZH × Nat)) :=
  (zg_I h7 a0 0 1).bind fun v11 => if v11 ≤ x2_5 then ((zz_bud (kc9) 2 (ks10) 602 <| some ((y1_6, h7, n8))).map Sum.inr) else (zz_bud (kc9) 2 (ks10) 602 <| zz_isO h7 a0 0 <| (f_X0_at h7 a0 x2_5).bind fun v12 => zz_bud (kc9) 2 (ks10) 602 <| zz_isO h7 y1_6 0 <| (f_X0_append h7 y1_6 v12).bind fun h13 => some (.inl (x2_5 + (1 : Int32), h13)))
noncomputable def f_X0_copy (h : ZH) (n : Nat) (a0 : Nat) : Option (Nat × ZH × Nat) :=
  zz_bud (1) 2 (2) 602 <| zz_let (va_up h n (some (.inr (0, [.null, .int 0])))) fun h1 => (zg_I h1 a0 0 1).bind fun v2 => zz_bud (2) 2 (602) 602 <| (f_X0_init h1 (n + 1) n v2).bind fun (h3, n4) => zz_loop (fun st : (Int32 × ZH) => f_X0_copy_L14 h a0 n n4 2 602 (st.1) (st.2)) ((0 : Int32), h3)
abbrev rm_X0_copy : Room := { frames := 2, cells := 2, slots := 602, locals := 41 }
set_option maxRecDepth 100000 in
set_option maxHeartbeats 4000000 in
theorem c_X0_copy {l : Launch} {D : va_G} {dA : Nat → ClassId} {A : Nat → Prop} {h : ZH} {n : Nat} (a0 : Nat) {r : Nat} {hx : ZH} {nx : Nat} (hf : f_X0_copy h n a0 = some (r, hx, nx)) : Met l yX0_copy (zz_ws yX0_copy cX0_copy 3 (some (.object "ScriptTests$Bytes"))) rm_X0_copy (zz_P D dA A h n [.ref (a0)]) (zz_Q D dA A (some (.ref r)) hx nx) 2 602 A := by
  refine zz_met (by decide) (Nat.le_of_ble_eq_true rfl) ?_
  intro p e s m args below meth c ls S K hret hlk hnm hl Z
  replace hl : lv_has ls 3 [(0, .ref (a0))] := hl
  obtain ⟨K0, hR0, hk⟩ : ∃ K0 : (Nat × ZH × Nat) → Prop, (∀ x, K0 x → x = (r, hx, nx)) ∧ K0 (r, hx, nx) := ⟨fun x => x = (r, hx, nx), fun _ h => h, rfl⟩
  have L14 : ∀ (y1_6 : Nat) (n8 : Nat) (kc9 : Nat) (ks10 : Nat) (st : (Int32 × ZH)) (x : (Nat × ZH × Nat)), zz_loop (fun st : (Int32 × ZH) => f_X0_copy_L14 h a0 y1_6 n8 kc9 ks10 (st.1) (st.2)) st = some x → K0 x → (fun st : (Int32 × ZH) => ∀ (H : Heap) (locs : List Loc) (ls : Array Slot), zz_B D dA A (st.2) n8 s.heap H locs → lv_has ls 3 [(0, .ref (a0)), (1, .ref (y1_6)), (2, .int ((st.1)))] → zz_W p l e rm_X0_copy s m args below meth c D dA A (some (.ref r)) hx nx 2 602 H locs kc9 ks10 14 ls []) st := by
    intro y1_6 n8 kc9 ks10
    refine zz_loop_go (K := K0) ?_
    intro K1 hP1 hR1
    rintro ⟨x2_5, h7⟩ x hv hk H locs ls Z hl
    replace hv : f_X0_copy_L14 h a0 y1_6 n8 kc9 ks10 x2_5 h7 = some x := hv
    unfold f_X0_copy_L14 at hv
    replace hl : lv_has ls 3 [(0, .ref (a0)), (1, .ref (y1_6)), (2, .int (x2_5))] := hl
    replace Z : zz_B D dA A h7 n8 s.heap H locs := Z
    show zz_W p l e rm_X0_copy s m args below meth c D dA A (some (.ref r)) hx nx 2 602 H locs kc9 ks10 14 ls []
    refine lv_iload_n S.1 S.2.1 dX0_copy_14 rfl (lv_at hl 2 rfl) ?_
    refine lv_aload_n S.1 S.2.1 dX0_copy_15 rfl (lv_at hl 0 rfl) ?_
    refine zz_gI S K Z hv zc_0 (by decide) gf_X0_15 dX0_copy_16 (fun v11 hv => ?_)
    refine lv_icmp_ge (tgt := 37) S.1 S.2.1 dX0_copy_19 (by decide) (fun hc => ?_) (fun hc => ?_)
    · replace hv := (if_pos hc).symm.trans hv
      obtain ⟨_, hv, hk⟩ := zz_mapk hv hk
      replace hk := hR1 _ hk
      refine lv_aload_n S.1 S.2.1 dX0_copy_37 rfl (lv_at hl 1 rfl) ?_
      obtain ⟨hbd, hv⟩ := zz_bud_s hv
      replace hk := zz_fin hv hk
      obtain ⟨rfl, hk9⟩ := Prod.mk.inj (hR0 _ hk)
      obtain ⟨rfl, rfl⟩ := Prod.mk.inj hk9
      exact zz_aret S Z hret (Or.inl ⟨_, rfl⟩) (by first | exact Or.inl rfl | exact Or.inr ⟨_, rfl⟩) hlk dX0_copy_38 hbd.1 hbd.2
    · replace hv := (if_neg hc).symm.trans hv
      refine lv_aload_n S.1 S.2.1 dX0_copy_22 rfl (lv_at hl 1 rfl) ?_
      refine lv_aload_n S.1 S.2.1 dX0_copy_23 rfl (lv_at hl 0 rfl) ?_
      refine lv_iload_n S.1 S.2.1 dX0_copy_24 rfl (lv_at hl 2 rfl) ?_
      obtain ⟨hbd, hv⟩ := zz_bud_s hv
      obtain ⟨hci, hv⟩ := zz_isO_s hv
      obtain ⟨v12, hq, hv⟩ := zz_bd hv
      refine zz_V [.int (x2_5)] S K Z hci zc_0 rfl (c_X0_at a0 x2_5 hq) ⟨rfl, rfl⟩ gm_X0_at gmv_X0_at gl_X0_22 ⟨by decide, by decide⟩ rfl hl.1 rfl (Nat.le_of_ble_eq_true rfl) dX0_copy_25 hbd (fun H locs Z => ?_)
      show W _ _ _ _ _ _ _ _ _ _ _ _ kc9 ks10 _ (F0 m 28 ls [.int (v12), .ref (y1_6)])
      obtain ⟨hbd, hv⟩ := zz_bud_s hv
      obtain ⟨hci, hv⟩ := zz_isO_s hv
      obtain ⟨h13, hq, hv⟩ := zz_bd hv
      refine zz_V [.int (v12)] S K Z hci zc_0 rfl (c_X0_append y1_6 v12 hq) ⟨rfl, rfl⟩ gm_X0_append gmv_X0_append gl_X0_26 ⟨by decide, by decide⟩ rfl hl.1 rfl (Nat.le_of_ble_eq_true rfl) dX0_copy_28 hbd (fun H locs Z => ?_)
      show W _ _ _ _ _ _ _ _ _ _ _ _ kc9 ks10 _ (F0 m 31 ls [])
      refine lv_iinc (v := x2_5 + (1 : Int32)) (lv' := [(2, .int (x2_5 + (1 : Int32))), (0, .ref (a0)), (1, .ref (y1_6))]) S.1 S.2.1 dX0_copy_31 hl (k := 2) rfl rfl (by decide) rfl (fun ls hl => ?_)
      refine lv_goto (tgt := 14) S.1 S.2.1 dX0_copy_34 (by decide) ?_
      replace hk := zz_fin hv hk
      exact hP1 _ hk H locs ls Z (lv_sub hl [1, 2, 0] rfl)
  have hv := hf
  unfold f_X0_copy at hv
  clear hf
  obtain ⟨x, hxx⟩ : ∃ x, x = (r, hx, nx) := ⟨_, rfl⟩
  rw [← hxx] at hv hk
  have ⟨H, hH⟩ : ∃ H, H = s.heap := ⟨_, rfl⟩
  have ⟨locs, hlo⟩ : ∃ q : List Loc, q = [] := ⟨_, rfl⟩
  have Z : zz_B D dA A h n s.heap H locs := by rw [hH, hlo]; exact Z
  have key : zz_W p l e rm_X0_copy s m args below meth c D dA A (some (.ref r)) hx nx 2 602 H locs 0 0 0 ls [] := by
    clear hH hlo hxx
    obtain ⟨hbd, hv⟩ := zz_bud_s hv
    refine zz_new S K Z hv zc_0 gq_X0_10 gn_X0 gt_X0 zd_0 hbd.1 hbd.2 dX0_copy_0 (fun h1 H hv Z => ?_)
    show W _ _ _ _ _ _ _ _ _ _ _ _ 1 2 _ (F0 m 3 ls [.ref (n)])
    refine lv_dup S.1 S.2.1 dX0_copy_3 rfl ?_
    refine lv_aload_n S.1 S.2.1 dX0_copy_4 rfl (lv_at hl 0 rfl) ?_
    refine zz_gI S K Z hv zc_0 (by decide) gf_X0_15 dX0_copy_5 (fun v2 hv => ?_)
    obtain ⟨hbd, hv⟩ := zz_bud_s hv
    obtain ⟨⟨h3, n4⟩, hq, hv⟩ := zz_bd hv
    refine zz_I [.int (v2)] S K Z (c_X0_init n v2 hq) ⟨rfl, rfl⟩ gm_X0_init gi_X0_init rfl gl_X0_19 ⟨by decide, by decide⟩ rfl hl.1 rfl (Nat.le_of_ble_eq_true rfl) dX0_copy_8 hbd (fun H locs Z => ?_)
    show W _ _ _ _ _ _ _ _ _ _ _ _ 2 602 _ (F0 m 11 ls [.ref (n)])
    refine lv_astore_n (lv' := [(1, .ref (n)), (0, .ref (a0))]) S.1 S.2.1 dX0_copy_11 rfl hl (by decide) rfl (fun ls hl => ?_)
    refine lv_iconst (v := (0 : Int32)) S.1 S.2.1 dX0_copy_12 (by decide) ?_
    refine lv_istore_n (lv' := [(2, .int ((0 : Int32))), (1, .ref (n)), (0, .ref (a0))]) S.1 S.2.1 dX0_copy_13 rfl hl (by decide) rfl (fun ls hl => ?_)
    exact L14 n n4 2 602 ((0 : Int32), h3) _ hv hk H locs ls Z (lv_sub hl [2, 1, 0] rfl)
  rw [hH, hlo] at key
  exact key

noncomputable def f_X11_addScript (h : ZH) (n : Nat) (a0 : Nat) : Option (Int32 × ZH × Nat) :=
  (zg_I h a0 9 6).bind fun v1 => if v1 < 0 then (zz_bud (0) 2 (0) 602 <| some (((-5 : Int32), h, n))) else ((zg_I h a0 9 6).bind fun v2 => (zg_R h a0 9 5).bind fun v3 => (zl_N h v3 4).bind fun v4 => if v2 < v4 then ((zg_R h a0 9 0).bind fun v5 => zz_bud (0) 2 (0) 602 <| (f_X2_wrongInScript h v5).bind fun v6 => if v6 = (-1 : Int32) then ((zg_R h a0 9 5).bind fun v7 => (zg_I h a0 9 6).bind fun v8 => (zg_R h a0 9 0).bind fun v9 => zz_bud (2) 2 (602) 602 <| zz_isO h v9 0 <| (f_X0_copy h n v9).bind fun (v10, h11, n12) => zz_isO h11 v10 0 <| (zs_R h11 v7 4 v8 v10).bind fun h13 => (zg_I h13 a0 9 6).bind fun v14 => (zp_V h13 a0 9 6 (.int (v14 + (1 : Int32)))).bind fun h15 => (zg_I h15 a0 9 6).bind fun v16 => zz_bud (2) 2 (602) 602 <| some ((v16 - (1 : Int32), h15, n12))) else (zz_bud (0) 2 (0) 602 <| some (((-10 : Int32) - v6, h, n)))) else (zz_bud (0) 2 (0) 602 <| some (((-5 : Int32), h, n))))
abbrev rm_X11_addScript : Room := { frames := 6, cells := 2, slots := 602, locals := 135 }
set_option maxRecDepth 100000 in
set_option maxHeartbeats 4000000 in
theorem c_X11_addScript {l : Launch} {D : va_G} {dA : Nat → ClassId} {A : Nat → Prop} {h : ZH} {n : Nat} (a0 : Nat) {r : Int32} {hx : ZH} {nx : Nat} (hf : f_X11_addScript h n a0 = some (r, hx, nx)) : Met l yX11_addScript (zz_ws yX11_addScript cX11_addScript 2 (some .int)) rm_X11_addScript (zz_P D dA A h n [.ref (a0)]) (zz_Q D dA A (some (.int r)) hx nx) 2 602 A := by
  refine zz_met (by decide) (Nat.le_of_ble_eq_true rfl) ?_
  intro p e s m args below meth c ls S K hret hlk hnm hl Z
  replace hl : lv_has ls 2 [(0, .ref (a0))] := hl
  obtain ⟨K0, hR0, hk⟩ : ∃ K0 : (Int32 × ZH × Nat) → Prop, (∀ x, K0 x → x = (r, hx, nx)) ∧ K0 (r, hx, nx) := ⟨fun x => x = (r, hx, nx), fun _ h => h, rfl⟩
  have hv := hf
  unfold f_X11_addScript at hv
  clear hf
  obtain ⟨x, hxx⟩ : ∃ x, x = (r, hx, nx) := ⟨_, rfl⟩
  rw [← hxx] at hv hk
  have ⟨H, hH⟩ : ∃ H, H = s.heap := ⟨_, rfl⟩
  have ⟨locs, hlo⟩ : ∃ q : List Loc, q = [] := ⟨_, rfl⟩
  have Z : zz_B D dA A h n s.heap H locs := by rw [hH, hlo]; exact Z
  have key : zz_W p l e rm_X11_addScript s m args below meth c D dA A (some (.int r)) hx nx 2 602 H locs 0 0 0 ls [] := by
    clear hH hlo hxx
    refine lv_aload_n S.1 S.2.1 dX11_addScript_0 rfl (lv_at hl 0 rfl) ?_
    refine zz_gI S K Z hv zc_9 (by decide) gf_X11_159 dX11_addScript_1 (fun v1 hv => ?_)
    refine lv_if_lt (tgt := 19) S.1 S.2.1 dX11_addScript_4 (by decide) (fun hc => ?_) (fun hc => ?_)
    · replace hv := (if_pos hc).symm.trans hv
      refine lv_bipush (v := (-5 : Int32)) S.1 S.2.1 dX11_addScript_19 (by decide) ?_
      obtain ⟨hbd, hv⟩ := zz_bud_s hv
      replace hk := zz_fin hv hk
      obtain ⟨rfl, hk9⟩ := Prod.mk.inj (hR0 _ hk)
      obtain ⟨rfl, rfl⟩ := Prod.mk.inj hk9
      exact zz_iret S Z hret hlk dX11_addScript_21 hbd.1 hbd.2
    · replace hv := (if_neg hc).symm.trans hv
      refine lv_aload_n S.1 S.2.1 dX11_addScript_7 rfl (lv_at hl 0 rfl) ?_
      refine zz_gI S K Z hv zc_9 (by decide) gf_X11_159 dX11_addScript_8 (fun v2 hv => ?_)
      refine lv_aload_n S.1 S.2.1 dX11_addScript_11 rfl (lv_at hl 0 rfl) ?_
      refine zz_gR S K Z hv zc_9 (by decide) gf_X11_18 dX11_addScript_12 (fun v3 hv => ?_)
      refine zz_alen S K Z hv rfl dX11_addScript_15 (fun v4 hv => ?_)
      refine lv_icmp_lt (tgt := 22) S.1 S.2.1 dX11_addScript_16 (by decide) (fun hc => ?_) (fun hc => ?_)
      · replace hv := (if_pos hc).symm.trans hv
        refine lv_aload_n S.1 S.2.1 dX11_addScript_22 rfl (lv_at hl 0 rfl) ?_
        refine zz_gR S K Z hv zc_9 (by decide) gf_X11_14 dX11_addScript_23 (fun v5 hv => ?_)
        obtain ⟨hbd, hv⟩ := zz_bud_s hv
        obtain ⟨v6, hq, hv⟩ := zz_bd hv
        refine zz_S [.ref (v5)] S K Z (c_X2_wrongInScript v5 hq) ⟨rfl, rfl⟩ gm_X2_wrongInScript gs_X2_wrongInScript gl_X11_162 ⟨by decide, by decide⟩ rfl hl.1 rfl (Nat.le_of_ble_eq_true rfl) dX11_addScript_26 hbd (fun H locs Z => ?_)
        show W _ _ _ _ _ _ _ _ _ _ _ _ 0 0 _ (F0 m 29 ls [.int (v6)])
        refine lv_istore_n (lv' := [(1, .int (v6)), (0, .ref (a0))]) S.1 S.2.1 dX11_addScript_29 rfl hl (by decide) rfl (fun ls hl => ?_)
        refine lv_iload_n S.1 S.2.1 dX11_addScript_30 rfl (lv_at hl 0 rfl) ?_
        refine lv_iconst (v := (-1 : Int32)) S.1 S.2.1 dX11_addScript_31 (by decide) ?_
        refine lv_icmp_eq (tgt := 40) S.1 S.2.1 dX11_addScript_32 (by decide) (fun hc => ?_) (fun hc => ?_)
        · replace hv := (if_pos hc).symm.trans hv
          refine lv_aload_n S.1 S.2.1 dX11_addScript_40 rfl (lv_at hl 1 rfl) ?_
          refine zz_gR S K Z hv zc_9 (by decide) gf_X11_18 dX11_addScript_41 (fun v7 hv => ?_)
          refine lv_aload_n S.1 S.2.1 dX11_addScript_44 rfl (lv_at hl 1 rfl) ?_
          refine zz_gI S K Z hv zc_9 (by decide) gf_X11_159 dX11_addScript_45 (fun v8 hv => ?_)
          refine lv_aload_n S.1 S.2.1 dX11_addScript_48 rfl (lv_at hl 1 rfl) ?_
          refine zz_gR S K Z hv zc_9 (by decide) gf_X11_14 dX11_addScript_49 (fun v9 hv => ?_)
          obtain ⟨hbd, hv⟩ := zz_bud_s hv
          obtain ⟨hci, hv⟩ := zz_isO_s hv
          obtain ⟨⟨v10, h11, n12⟩, hq, hv⟩ := zz_bd hv
          refine zz_V [] S K Z hci zc_0 rfl (c_X0_copy v9 hq) ⟨rfl, rfl⟩ gm_X0_copy gmv_X0_copy gl_X11_165 ⟨by decide, by decide⟩ rfl hl.1 rfl (Nat.le_of_ble_eq_true rfl) dX11_addScript_52 hbd (fun H locs Z => ?_)
          show W _ _ _ _ _ _ _ _ _ _ _ _ 2 602 _ (F0 m 55 ls [.ref (v10), .int (v8), .ref (v7)])
          refine zz_aast S K Z hv zc_0 rfl dX11_addScript_55 (fun h13 H locs hv Z => ?_)
          refine lv_aload_n S.1 S.2.1 dX11_addScript_56 rfl (lv_at hl 1 rfl) ?_
          refine lv_dup S.1 S.2.1 dX11_addScript_57 rfl ?_
          refine zz_gI S K Z hv zc_9 (by decide) gf_X11_159 dX11_addScript_58 (fun v14 hv => ?_)
          refine lv_iconst (v := (1 : Int32)) S.1 S.2.1 dX11_addScript_61 (by decide) ?_
          refine lv_iadd S.1 S.2.1 dX11_addScript_62 ?_
          refine zz_put S K Z hv zc_9 (by decide) gf_X11_159 rfl rfl rfl dX11_addScript_63 (fun h15 H locs hv Z => ?_)
          refine lv_aload_n S.1 S.2.1 dX11_addScript_66 rfl (lv_at hl 1 rfl) ?_
          refine zz_gI S K Z hv zc_9 (by decide) gf_X11_159 dX11_addScript_67 (fun v16 hv => ?_)
          refine lv_iconst (v := (1 : Int32)) S.1 S.2.1 dX11_addScript_70 (by decide) ?_
          refine lv_isub S.1 S.2.1 dX11_addScript_71 ?_
          obtain ⟨hbd, hv⟩ := zz_bud_s hv
          replace hk := zz_fin hv hk
          obtain ⟨rfl, hk9⟩ := Prod.mk.inj (hR0 _ hk)
          obtain ⟨rfl, rfl⟩ := Prod.mk.inj hk9
          exact zz_iret S Z hret hlk dX11_addScript_72 hbd.1 hbd.2
        · replace hv := (if_neg hc).symm.trans hv
          refine lv_bipush (v := (-10 : Int32)) S.1 S.2.1 dX11_addScript_35 (by decide) ?_
          refine lv_iload_n S.1 S.2.1 dX11_addScript_37 rfl (lv_at hl 0 rfl) ?_
          refine lv_isub S.1 S.2.1 dX11_addScript_38 ?_
          obtain ⟨hbd, hv⟩ := zz_bud_s hv
          replace hk := zz_fin hv hk
          obtain ⟨rfl, hk9⟩ := Prod.mk.inj (hR0 _ hk)
          obtain ⟨rfl, rfl⟩ := Prod.mk.inj hk9
          exact zz_iret S Z hret hlk dX11_addScript_39 hbd.1 hbd.2
      · replace hv := (if_neg hc).symm.trans hv
        refine lv_bipush (v := (-5 : Int32)) S.1 S.2.1 dX11_addScript_19 (by decide) ?_
        obtain ⟨hbd, hv⟩ := zz_bud_s hv
        replace hk := zz_fin hv hk
        obtain ⟨rfl, hk9⟩ := Prod.mk.inj (hR0 _ hk)
        obtain ⟨rfl, rfl⟩ := Prod.mk.inj hk9
        exact zz_iret S Z hret hlk dX11_addScript_21 hbd.1 hbd.2
  rw [hH, hlo] at key
  exact key

noncomputable def f_X11_script (h : ZH) (n : Nat) (a0 : Nat) : Option (Int32 × ZH × Nat) :=
  zz_bud (2) 2 (602) 602 <| zz_isO h a0 9 <| (f_X11_addScript h n a0).bind fun (v1, h2, n3) => (zg_R h2 a0 9 0).bind fun v4 => zz_bud (2) 2 (602) 602 <| zz_isO h2 v4 0 <| (f_X0_clear h2 v4).bind fun h5 => zz_bud (2) 2 (602) 602 <| some ((v1, h5, n3))
abbrev rm_X11_script : Room := { frames := 7, cells := 2, slots := 602, locals := 156 }
set_option maxRecDepth 100000 in
set_option maxHeartbeats 4000000 in
theorem c_X11_script {l : Launch} {D : va_G} {dA : Nat → ClassId} {A : Nat → Prop} {h : ZH} {n : Nat} (a0 : Nat) {r : Int32} {hx : ZH} {nx : Nat} (hf : f_X11_script h n a0 = some (r, hx, nx)) : Met l yX11_script (zz_ws yX11_script cX11_script 2 (some .int)) rm_X11_script (zz_P D dA A h n [.ref (a0)]) (zz_Q D dA A (some (.int r)) hx nx) 2 602 A := by
  refine zz_met (by decide) (Nat.le_of_ble_eq_true rfl) ?_
  intro p e s m args below meth c ls S K hret hlk hnm hl Z
  replace hl : lv_has ls 2 [(0, .ref (a0))] := hl
  obtain ⟨K0, hR0, hk⟩ : ∃ K0 : (Int32 × ZH × Nat) → Prop, (∀ x, K0 x → x = (r, hx, nx)) ∧ K0 (r, hx, nx) := ⟨fun x => x = (r, hx, nx), fun _ h => h, rfl⟩
  have hv := hf
  unfold f_X11_script at hv
  clear hf
  obtain ⟨x, hxx⟩ : ∃ x, x = (r, hx, nx) := ⟨_, rfl⟩
  rw [← hxx] at hv hk
  have ⟨H, hH⟩ : ∃ H, H = s.heap := ⟨_, rfl⟩
  have ⟨locs, hlo⟩ : ∃ q : List Loc, q = [] := ⟨_, rfl⟩
  have Z : zz_B D dA A h n s.heap H locs := by rw [hH, hlo]; exact Z
  have key : zz_W p l e rm_X11_script s m args below meth c D dA A (some (.int r)) hx nx 2 602 H locs 0 0 0 ls [] := by
    clear hH hlo hxx
    refine lv_aload_n S.1 S.2.1 dX11_script_0 rfl (lv_at hl 0 rfl) ?_
    obtain ⟨hbd, hv⟩ := zz_bud_s hv
    obtain ⟨hci, hv⟩ := zz_isO_s hv
    obtain ⟨⟨v1, h2, n3⟩, hq, hv⟩ := zz_bd hv
    refine zz_V [] S K Z hci zc_9 rfl (c_X11_addScript a0 hq) ⟨rfl, rfl⟩ gm_X11_addScript gmv_X11_addScript gl_X11_156 ⟨by decide, by decide⟩ rfl hl.1 rfl (Nat.le_of_ble_eq_true rfl) dX11_script_1 hbd (fun H locs Z => ?_)
    show W _ _ _ _ _ _ _ _ _ _ _ _ 2 602 _ (F0 m 4 ls [.int (v1)])
    refine lv_istore_n (lv' := [(1, .int (v1)), (0, .ref (a0))]) S.1 S.2.1 dX11_script_4 rfl hl (by decide) rfl (fun ls hl => ?_)
    refine lv_aload_n S.1 S.2.1 dX11_script_5 rfl (lv_at hl 1 rfl) ?_
    refine zz_gR S K Z hv zc_9 (by decide) gf_X11_14 dX11_script_6 (fun v4 hv => ?_)
    obtain ⟨hbd, hv⟩ := zz_bud_s hv
    obtain ⟨hci, hv⟩ := zz_isO_s hv
    obtain ⟨h5, hq, hv⟩ := zz_bd hv
    refine zz_V [] S K Z hci zc_0 rfl (c_X0_clear v4 hq) ⟨rfl, rfl⟩ gm_X0_clear gmv_X0_clear gl_X11_65 ⟨by decide, by decide⟩ rfl hl.1 rfl (Nat.le_of_ble_eq_true rfl) dX11_script_9 hbd (fun H locs Z => ?_)
    show W _ _ _ _ _ _ _ _ _ _ _ _ 2 602 _ (F0 m 12 ls [])
    refine lv_iload_n S.1 S.2.1 dX11_script_12 rfl (lv_at hl 0 rfl) ?_
    obtain ⟨hbd, hv⟩ := zz_bud_s hv
    replace hk := zz_fin hv hk
    obtain ⟨rfl, hk9⟩ := Prod.mk.inj (hR0 _ hk)
    obtain ⟨rfl, rfl⟩ := Prod.mk.inj hk9
    exact zz_iret S Z hret hlk dX11_script_13 hbd.1 hbd.2
  rw [hH, hlo] at key
  exact key

noncomputable def f_X4_begin_L2 (h : ZH) (a0 : Nat) (a1 : Int32) (x2_1 : Int32) (h2 : ZH)  : Option ((Int32 × ZH) ⊕ (ZH)) :=
  (zg_R h2 a0 3 0).bind fun v3 => (zl_N h2 v3 1).bind fun v4 => if v4 ≤ x2_1 then (((zp_V h2 a0 3 1 (.int ((0 : Int32)))).bind fun h5 => (zp_V h5 a0 3 2 (.int (a1))).bind fun h6 => (zp_V h6 a0 3 3 (.int ((0 : Int32)))).bind fun h7 => (zp_V h7 a0 3 4 (.int ((-2 : Int32)))).bind fun h8 => some (h8)).map Sum.inr) else ((zg_R h2 a0 3 0).bind fun v9 => (zs_I h2 v9 1 x2_1 (0 : Int32)).bind fun h10 => some (.inl (x2_1 + (1 : Int32), h10)))
noncomputable def f_X4_begin (h : ZH) (a0 : Nat) (a1 : Int32) : Option (ZH) :=
  zz_loop (fun st : (Int32 × ZH) => f_X4_begin_L2 h a0 a1 (st.1) (st.2)) ((0 : Int32), h)
abbrev rm_X4_begin : Room := { frames := 0, cells := 0, slots := 0, locals := 0 }
set_option maxRecDepth 100000 in
set_option maxHeartbeats 4000000 in
theorem c_X4_begin {l : Launch} {D : va_G} {dA : Nat → ClassId} {A : Nat → Prop} {h : ZH} {n : Nat} (a0 : Nat) (a1 : Int32) {hx : ZH} (hf : f_X4_begin h a0 a1 = some hx) : Met l yX4_begin (zz_ws yX4_begin cX4_begin 3 none) rm_X4_begin (zz_P D dA A h n [.ref (a0), .int (a1)]) (zz_Q D dA A (none) hx n) 0 0 A := by
  refine zz_met (by decide) (Nat.le_of_ble_eq_true rfl) ?_
  intro p e s m args below meth c ls S K hret hlk hnm hl Z
  replace hl : lv_has ls 3 [(0, .ref (a0)), (1, .int (a1))] := hl
  obtain ⟨K0, hR0, hk⟩ : ∃ K0 : (ZH) → Prop, (∀ x, K0 x → x = hx) ∧ K0 hx := ⟨fun x => x = hx, fun _ h => h, rfl⟩
  have L2 : ∀ (st : (Int32 × ZH)) (x : (ZH)), zz_loop (fun st : (Int32 × ZH) => f_X4_begin_L2 h a0 a1 (st.1) (st.2)) st = some x → K0 x → (fun st : (Int32 × ZH) => ∀ (H : Heap) (locs : List Loc) (ls : Array Slot), zz_B D dA A (st.2) n s.heap H locs → lv_has ls 3 [(0, .ref (a0)), (1, .int (a1)), (2, .int ((st.1)))] → zz_W p l e rm_X4_begin s m args below meth c D dA A (none) hx n 0 0 H locs 0 0 2 ls []) st := by
    refine zz_loop_go (K := K0) ?_
    intro K1 hP1 hR1
    rintro ⟨x2_1, h2⟩ x hv hk H locs ls Z hl
    replace hv : f_X4_begin_L2 h a0 a1 x2_1 h2 = some x := hv
    unfold f_X4_begin_L2 at hv
    replace hl : lv_has ls 3 [(0, .ref (a0)), (1, .int (a1)), (2, .int (x2_1))] := hl
    replace Z : zz_B D dA A h2 n s.heap H locs := Z
    show zz_W p l e rm_X4_begin s m args below meth c D dA A (none) hx n 0 0 H locs 0 0 2 ls []
    refine lv_iload_n S.1 S.2.1 dX4_begin_2 rfl (lv_at hl 2 rfl) ?_
    refine lv_aload_n S.1 S.2.1 dX4_begin_3 rfl (lv_at hl 0 rfl) ?_
    refine zz_gR S K Z hv zc_3 (by decide) gf_X4_9 dX4_begin_4 (fun v3 hv => ?_)
    refine zz_alen S K Z hv rfl dX4_begin_7 (fun v4 hv => ?_)
    refine lv_icmp_ge (tgt := 24) S.1 S.2.1 dX4_begin_8 (by decide) (fun hc => ?_) (fun hc => ?_)
    · replace hv := (if_pos hc).symm.trans hv
      obtain ⟨_, hv, hk⟩ := zz_mapk hv hk
      replace hk := hR1 _ hk
      refine lv_aload_n S.1 S.2.1 dX4_begin_24 rfl (lv_at hl 0 rfl) ?_
      refine lv_iconst (v := (0 : Int32)) S.1 S.2.1 dX4_begin_25 (by decide) ?_
      refine zz_put S K Z hv zc_3 (by decide) gf_X4_19 rfl rfl rfl dX4_begin_26 (fun h5 H locs hv Z => ?_)
      refine lv_aload_n S.1 S.2.1 dX4_begin_29 rfl (lv_at hl 0 rfl) ?_
      refine lv_iload_n S.1 S.2.1 dX4_begin_30 rfl (lv_at hl 1 rfl) ?_
      refine zz_put S K Z hv zc_3 (by decide) gf_X4_22 rfl rfl rfl dX4_begin_31 (fun h6 H locs hv Z => ?_)
      refine lv_aload_n S.1 S.2.1 dX4_begin_34 rfl (lv_at hl 0 rfl) ?_
      refine lv_iconst (v := (0 : Int32)) S.1 S.2.1 dX4_begin_35 (by decide) ?_
      refine zz_put S K Z hv zc_3 (by decide) gf_X4_25 rfl rfl rfl dX4_begin_36 (fun h7 H locs hv Z => ?_)
      refine lv_aload_n S.1 S.2.1 dX4_begin_39 rfl (lv_at hl 0 rfl) ?_
      refine lv_bipush (v := (-2 : Int32)) S.1 S.2.1 dX4_begin_40 (by decide) ?_
      refine zz_put S K Z hv zc_3 (by decide) gf_X4_15 rfl rfl rfl dX4_begin_42 (fun h8 H locs hv Z => ?_)
      replace hk := zz_fin hv hk
      obtain rfl := hR0 _ hk
      exact zz_vret S Z hret hlk dX4_begin_45 (Nat.le_refl _) (Nat.le_refl _)
    · replace hv := (if_neg hc).symm.trans hv
      refine lv_aload_n S.1 S.2.1 dX4_begin_11 rfl (lv_at hl 0 rfl) ?_
      refine zz_gR S K Z hv zc_3 (by decide) gf_X4_9 dX4_begin_12 (fun v9 hv => ?_)
      refine lv_iload_n S.1 S.2.1 dX4_begin_15 rfl (lv_at hl 2 rfl) ?_
      refine lv_iconst (v := (0 : Int32)) S.1 S.2.1 dX4_begin_16 (by decide) ?_
      refine zz_iast S K Z hv dX4_begin_17 (fun h10 H locs hv Z => ?_)
      refine lv_iinc (v := x2_1 + (1 : Int32)) (lv' := [(2, .int (x2_1 + (1 : Int32))), (0, .ref (a0)), (1, .int (a1))]) S.1 S.2.1 dX4_begin_18 hl (k := 2) rfl rfl (by decide) rfl (fun ls hl => ?_)
      refine lv_goto (tgt := 2) S.1 S.2.1 dX4_begin_21 (by decide) ?_
      replace hk := zz_fin hv hk
      exact hP1 _ hk H locs ls Z (lv_sub hl [1, 2, 0] rfl)
  have hv := hf
  unfold f_X4_begin at hv
  clear hf
  obtain ⟨x, hxx⟩ : ∃ x, x = hx := ⟨_, rfl⟩
  rw [← hxx] at hv hk
  have ⟨H, hH⟩ : ∃ H, H = s.heap := ⟨_, rfl⟩
  have ⟨locs, hlo⟩ : ∃ q : List Loc, q = [] := ⟨_, rfl⟩
  have Z : zz_B D dA A h n s.heap H locs := by rw [hH, hlo]; exact Z
  have key : zz_W p l e rm_X4_begin s m args below meth c D dA A (none) hx n 0 0 H locs 0 0 0 ls [] := by
    clear hH hlo hxx
    refine lv_iconst (v := (0 : Int32)) S.1 S.2.1 dX4_begin_0 (by decide) ?_
    refine lv_istore_n (lv' := [(2, .int ((0 : Int32))), (0, .ref (a0)), (1, .int (a1))]) S.1 S.2.1 dX4_begin_1 rfl hl (by decide) rfl (fun ls hl => ?_)
    exact L2  ((0 : Int32), h) _ hv hk H locs ls Z (lv_sub hl [1, 2, 0] rfl)
  rw [hH, hlo] at key
  exact key

noncomputable def f_X8_begin (h : ZH) (a0 : Nat) : Option (ZH) :=
  (zg_R h a0 6 1).bind fun v1 => (zg_R h a0 6 0).bind fun v2 => (zg_I h v2 8 5).bind fun v3 => zz_isO h v1 3 <| (f_X4_begin h v1 v3).bind fun h4 => some (h4)
abbrev rm_X8_begin : Room := { frames := 1, cells := 0, slots := 0, locals := 22 }
set_option maxRecDepth 100000 in
set_option maxHeartbeats 4000000 in
theorem c_X8_begin {l : Launch} {D : va_G} {dA : Nat → ClassId} {A : Nat → Prop} {h : ZH} {n : Nat} (a0 : Nat) {hx : ZH} (hf : f_X8_begin h a0 = some hx) : Met l yX8_begin (zz_ws yX8_begin cX8_begin 1 none) rm_X8_begin (zz_P D dA A h n [.ref (a0)]) (zz_Q D dA A (none) hx n) 0 0 A := by
  refine zz_met (by decide) (Nat.le_of_ble_eq_true rfl) ?_
  intro p e s m args below meth c ls S K hret hlk hnm hl Z
  replace hl : lv_has ls 1 [(0, .ref (a0))] := hl
  obtain ⟨K0, hR0, hk⟩ : ∃ K0 : (ZH) → Prop, (∀ x, K0 x → x = hx) ∧ K0 hx := ⟨fun x => x = hx, fun _ h => h, rfl⟩
  have hv := hf
  unfold f_X8_begin at hv
  clear hf
  obtain ⟨x, hxx⟩ : ∃ x, x = hx := ⟨_, rfl⟩
  rw [← hxx] at hv hk
  have ⟨H, hH⟩ : ∃ H, H = s.heap := ⟨_, rfl⟩
  have ⟨locs, hlo⟩ : ∃ q : List Loc, q = [] := ⟨_, rfl⟩
  have Z : zz_B D dA A h n s.heap H locs := by rw [hH, hlo]; exact Z
  have key : zz_W p l e rm_X8_begin s m args below meth c D dA A (none) hx n 0 0 H locs 0 0 0 ls [] := by
    clear hH hlo hxx
    refine lv_aload_n S.1 S.2.1 dX8_begin_0 rfl (lv_at hl 0 rfl) ?_
    refine zz_gR S K Z hv zc_6 (by decide) gf_X8_12 dX8_begin_1 (fun v1 hv => ?_)
    refine lv_aload_n S.1 S.2.1 dX8_begin_4 rfl (lv_at hl 0 rfl) ?_
    refine zz_gR S K Z hv zc_6 (by decide) gf_X8_25 dX8_begin_5 (fun v2 hv => ?_)
    refine zz_gI S K Z hv zc_8 (by decide) gf_X8_29 dX8_begin_8 (fun v3 hv => ?_)
    obtain ⟨hci, hv⟩ := zz_isO_s hv
    obtain ⟨h4, hq, hv⟩ := zz_bd hv
    refine zz_V [.int (v3)] S K Z hci zc_3 rfl (c_X4_begin v1 v3 hq) ⟨rfl, rfl⟩ gm_X4_begin gmv_X4_begin gl_X8_38 ⟨by decide, by decide⟩ rfl hl.1 rfl (Nat.le_of_ble_eq_true rfl) dX8_begin_11 ⟨Nat.zero_le _, Nat.zero_le _⟩ (fun H locs Z => ?_)
    show W _ _ _ _ _ _ _ _ _ _ _ _ 0 0 _ (F0 m 14 ls [])
    replace hk := zz_fin hv hk
    obtain rfl := hR0 _ hk
    exact zz_vret S Z hret hlk dX8_begin_14 (Nat.le_refl _) (Nat.le_refl _)
  rw [hH, hlo] at key
  exact key

noncomputable def f_X4_flag (h : ZH) (a0 : Nat) (a1 : Int32) : Option (Int32) :=
  if a1 < 0 then (some ((0 : Int32))) else ((zg_R h a0 3 0).bind fun v1 => (zl_N h v1 1).bind fun v2 => if a1 < v2 then ((zg_R h a0 3 0).bind fun v3 => (zl_I h v3 1 a1).bind fun v4 => some (v4)) else (some ((0 : Int32))))
abbrev rm_X4_flag : Room := { frames := 0, cells := 0, slots := 0, locals := 0 }
set_option maxRecDepth 100000 in
set_option maxHeartbeats 4000000 in
theorem c_X4_flag {l : Launch} {D : va_G} {dA : Nat → ClassId} {A : Nat → Prop} {h : ZH} {n : Nat} (a0 : Nat) (a1 : Int32) {r : Int32} (hf : f_X4_flag h a0 a1 = some r) : Met l yX4_flag (zz_ws yX4_flag cX4_flag 2 (some .int)) rm_X4_flag (zz_P D dA A h n [.ref (a0), .int (a1)]) (zz_Q D dA A (some (.int r)) h n) 0 0 A := by
  refine zz_met (by decide) (Nat.le_of_ble_eq_true rfl) ?_
  intro p e s m args below meth c ls S K hret hlk hnm hl Z
  replace hl : lv_has ls 2 [(0, .ref (a0)), (1, .int (a1))] := hl
  obtain ⟨K0, hR0, hk⟩ : ∃ K0 : (Int32) → Prop, (∀ x, K0 x → x = r) ∧ K0 r := ⟨fun x => x = r, fun _ h => h, rfl⟩
  have hv := hf
  unfold f_X4_flag at hv
  clear hf
  obtain ⟨x, hxx⟩ : ∃ x, x = r := ⟨_, rfl⟩
  rw [← hxx] at hv hk
  have ⟨H, hH⟩ : ∃ H, H = s.heap := ⟨_, rfl⟩
  have ⟨locs, hlo⟩ : ∃ q : List Loc, q = [] := ⟨_, rfl⟩
  have Z : zz_B D dA A h n s.heap H locs := by rw [hH, hlo]; exact Z
  have key : zz_W p l e rm_X4_flag s m args below meth c D dA A (some (.int r)) h n 0 0 H locs 0 0 0 ls [] := by
    clear hH hlo hxx
    refine lv_iload_n S.1 S.2.1 dX4_flag_0 rfl (lv_at hl 1 rfl) ?_
    refine lv_if_lt (tgt := 13) S.1 S.2.1 dX4_flag_1 (by decide) (fun hc => ?_) (fun hc => ?_)
    · replace hv := (if_pos hc).symm.trans hv
      refine lv_iconst (v := (0 : Int32)) S.1 S.2.1 dX4_flag_13 (by decide) ?_
      refine lv_goto (tgt := 23) S.1 S.2.1 dX4_flag_14 (by decide) ?_
      replace hk := zz_fin hv hk
      obtain rfl := hR0 _ hk
      exact zz_iret S Z hret hlk dX4_flag_23 (Nat.le_refl _) (Nat.le_refl _)
    · replace hv := (if_neg hc).symm.trans hv
      refine lv_iload_n S.1 S.2.1 dX4_flag_4 rfl (lv_at hl 1 rfl) ?_
      refine lv_aload_n S.1 S.2.1 dX4_flag_5 rfl (lv_at hl 0 rfl) ?_
      refine zz_gR S K Z hv zc_3 (by decide) gf_X4_9 dX4_flag_6 (fun v1 hv => ?_)
      refine zz_alen S K Z hv rfl dX4_flag_9 (fun v2 hv => ?_)
      refine lv_icmp_lt (tgt := 17) S.1 S.2.1 dX4_flag_10 (by decide) (fun hc => ?_) (fun hc => ?_)
      · replace hv := (if_pos hc).symm.trans hv
        refine lv_aload_n S.1 S.2.1 dX4_flag_17 rfl (lv_at hl 0 rfl) ?_
        refine zz_gR S K Z hv zc_3 (by decide) gf_X4_9 dX4_flag_18 (fun v3 hv => ?_)
        refine lv_iload_n S.1 S.2.1 dX4_flag_21 rfl (lv_at hl 1 rfl) ?_
        refine zz_iald S K Z hv dX4_flag_22 (fun v4 hv => ?_)
        replace hk := zz_fin hv hk
        obtain rfl := hR0 _ hk
        exact zz_iret S Z hret hlk dX4_flag_23 (Nat.le_refl _) (Nat.le_refl _)
      · replace hv := (if_neg hc).symm.trans hv
        refine lv_iconst (v := (0 : Int32)) S.1 S.2.1 dX4_flag_13 (by decide) ?_
        refine lv_goto (tgt := 23) S.1 S.2.1 dX4_flag_14 (by decide) ?_
        replace hk := zz_fin hv hk
        obtain rfl := hR0 _ hk
        exact zz_iret S Z hret hlk dX4_flag_23 (Nat.le_refl _) (Nat.le_refl _)
  rw [hH, hlo] at key
  exact key

noncomputable def f_X6_fits_J31 (h : ZH) (a0 : Nat) (a1 : Nat) (a2 : Int32) : Option (Int32) :=
  (zg_I h a0 4 2).bind fun v3 => if v3 = (-1 : Int32) then (some ((1 : Int32))) else ((zg_I h a0 4 2).bind fun v4 => zz_isO h a1 3 <| (f_X4_flag h a1 v4).bind fun v5 => (zg_I h a0 4 3).bind fun v6 => if v5 < v6 then (some ((0 : Int32))) else (some ((1 : Int32))))
noncomputable def f_X6_fits (h : ZH) (a0 : Nat) (a1 : Nat) (a2 : Int32) : Option (Int32) :=
  (zg_I h a0 4 1).bind fun v1 => if v1 = a2 then ((zg_I h a0 4 0).bind fun v2 => if v2 = (-1 : Int32) then (f_X6_fits_J31 h a0 a1 a2 ) else ((zg_I h a0 4 0).bind fun v7 => (zg_I h a1 3 1).bind fun v8 => if v7 = v8 then (f_X6_fits_J31 h a0 a1 a2 ) else (some ((0 : Int32))))) else (some ((0 : Int32)))
abbrev rm_X6_fits : Room := { frames := 1, cells := 0, slots := 0, locals := 21 }
set_option maxRecDepth 100000 in
set_option maxHeartbeats 4000000 in
theorem c_X6_fits {l : Launch} {D : va_G} {dA : Nat → ClassId} {A : Nat → Prop} {h : ZH} {n : Nat} (a0 : Nat) (a1 : Nat) (a2 : Int32) {r : Int32} (hf : f_X6_fits h a0 a1 a2 = some r) : Met l yX6_fits (zz_ws yX6_fits cX6_fits 3 (some .boolean)) rm_X6_fits (zz_P D dA A h n [.ref (a0), .ref (a1), .int (a2)]) (zz_Q D dA A (some (.int r)) h n) 0 0 A := by
  refine zz_met (by decide) (Nat.le_of_ble_eq_true rfl) ?_
  intro p e s m args below meth c ls S K hret hlk hnm hl Z
  replace hl : lv_has ls 3 [(0, .ref (a0)), (1, .ref (a1)), (2, .int (a2))] := hl
  obtain ⟨K0, hR0, hk⟩ : ∃ K0 : (Int32) → Prop, (∀ x, K0 x → x = r) ∧ K0 r := ⟨fun x => x = r, fun _ h => h, rfl⟩
  have J31 : ∀ (x : (Int32)), f_X6_fits_J31 h a0 a1 a2  = some x → K0 x → ∀ (H : Heap) (locs : List Loc) (ls : Array Slot), zz_B D dA A h n s.heap H locs → lv_has ls 3 [(0, .ref (a0)), (1, .ref (a1))] → zz_W p l e rm_X6_fits s m args below meth c D dA A (some (.int r)) h n 0 0 H locs 0 0 31 ls [] := by
    intro  x hv hk H locs ls Z hl
    unfold f_X6_fits_J31 at hv
    refine lv_aload_n S.1 S.2.1 dX6_fits_31 rfl (lv_at hl 0 rfl) ?_
    refine zz_gI S K Z hv zc_4 (by decide) gf_X6_19 dX6_fits_32 (fun v3 hv => ?_)
    refine lv_iconst (v := (-1 : Int32)) S.1 S.2.1 dX6_fits_35 (by decide) ?_
    refine lv_icmp_eq (tgt := 54) S.1 S.2.1 dX6_fits_36 (by decide) (fun hc => ?_) (fun hc => ?_)
    · replace hv := (if_pos hc).symm.trans hv
      refine lv_iconst (v := (1 : Int32)) S.1 S.2.1 dX6_fits_54 (by decide) ?_
      refine lv_goto (tgt := 59) S.1 S.2.1 dX6_fits_55 (by decide) ?_
      replace hk := zz_fin hv hk
      obtain rfl := hR0 _ hk
      exact zz_zret S Z hret (by decide) hlk dX6_fits_59 (Nat.le_refl _) (Nat.le_refl _)
    · replace hv := (if_neg hc).symm.trans hv
      refine lv_aload_n S.1 S.2.1 dX6_fits_39 rfl (lv_at hl 1 rfl) ?_
      refine lv_aload_n S.1 S.2.1 dX6_fits_40 rfl (lv_at hl 0 rfl) ?_
      refine zz_gI S K Z hv zc_4 (by decide) gf_X6_19 dX6_fits_41 (fun v4 hv => ?_)
      obtain ⟨hci, hv⟩ := zz_isO_s hv
      obtain ⟨v5, hq, hv⟩ := zz_bd hv
      refine zz_V [.int (v4)] S K Z hci zc_3 rfl (c_X4_flag a1 v4 hq) ⟨rfl, rfl⟩ gm_X4_flag gmv_X4_flag gl_X6_22 ⟨by decide, by decide⟩ rfl hl.1 rfl (Nat.le_of_ble_eq_true rfl) dX6_fits_44 ⟨Nat.zero_le _, Nat.zero_le _⟩ (fun H locs Z => ?_)
      show W _ _ _ _ _ _ _ _ _ _ _ _ 0 0 _ (F0 m 47 ls [.int (v5)])
      refine lv_aload_n S.1 S.2.1 dX6_fits_47 rfl (lv_at hl 0 rfl) ?_
      refine zz_gI S K Z hv zc_4 (by decide) gf_X6_25 dX6_fits_48 (fun v6 hv => ?_)
      refine lv_icmp_lt (tgt := 58) S.1 S.2.1 dX6_fits_51 (by decide) (fun hc => ?_) (fun hc => ?_)
      · replace hv := (if_pos hc).symm.trans hv
        refine lv_iconst (v := (0 : Int32)) S.1 S.2.1 dX6_fits_58 (by decide) ?_
        replace hk := zz_fin hv hk
        obtain rfl := hR0 _ hk
        exact zz_zret S Z hret (by decide) hlk dX6_fits_59 (Nat.le_refl _) (Nat.le_refl _)
      · replace hv := (if_neg hc).symm.trans hv
        refine lv_iconst (v := (1 : Int32)) S.1 S.2.1 dX6_fits_54 (by decide) ?_
        refine lv_goto (tgt := 59) S.1 S.2.1 dX6_fits_55 (by decide) ?_
        replace hk := zz_fin hv hk
        obtain rfl := hR0 _ hk
        exact zz_zret S Z hret (by decide) hlk dX6_fits_59 (Nat.le_refl _) (Nat.le_refl _)
  have hv := hf
  unfold f_X6_fits at hv
  clear hf
  obtain ⟨x, hxx⟩ : ∃ x, x = r := ⟨_, rfl⟩
  rw [← hxx] at hv hk
  have ⟨H, hH⟩ : ∃ H, H = s.heap := ⟨_, rfl⟩
  have ⟨locs, hlo⟩ : ∃ q : List Loc, q = [] := ⟨_, rfl⟩
  have Z : zz_B D dA A h n s.heap H locs := by rw [hH, hlo]; exact Z
  have key : zz_W p l e rm_X6_fits s m args below meth c D dA A (some (.int r)) h n 0 0 H locs 0 0 0 ls [] := by
    clear hH hlo hxx
    refine lv_aload_n S.1 S.2.1 dX6_fits_0 rfl (lv_at hl 0 rfl) ?_
    refine zz_gI S K Z hv zc_4 (by decide) gf_X6_7 dX6_fits_1 (fun v1 hv => ?_)
    refine lv_iload_n S.1 S.2.1 dX6_fits_4 rfl (lv_at hl 2 rfl) ?_
    refine lv_icmp_eq (tgt := 10) S.1 S.2.1 dX6_fits_5 (by decide) (fun hc => ?_) (fun hc => ?_)
    · replace hv := (if_pos hc).symm.trans hv
      refine lv_aload_n S.1 S.2.1 dX6_fits_10 rfl (lv_at hl 0 rfl) ?_
      refine zz_gI S K Z hv zc_4 (by decide) gf_X6_13 dX6_fits_11 (fun v2 hv => ?_)
      refine lv_iconst (v := (-1 : Int32)) S.1 S.2.1 dX6_fits_14 (by decide) ?_
      refine lv_icmp_eq (tgt := 31) S.1 S.2.1 dX6_fits_15 (by decide) (fun hc => ?_) (fun hc => ?_)
      · replace hv := (if_pos hc).symm.trans hv
        exact J31  _ hv hk H locs ls Z (lv_sub hl [0, 1] rfl)
      · replace hv := (if_neg hc).symm.trans hv
        refine lv_aload_n S.1 S.2.1 dX6_fits_18 rfl (lv_at hl 0 rfl) ?_
        refine zz_gI S K Z hv zc_4 (by decide) gf_X6_13 dX6_fits_19 (fun v7 hv => ?_)
        refine lv_aload_n S.1 S.2.1 dX6_fits_22 rfl (lv_at hl 1 rfl) ?_
        refine zz_gI S K Z hv zc_3 (by decide) gf_X6_16 dX6_fits_23 (fun v8 hv => ?_)
        refine lv_icmp_eq (tgt := 31) S.1 S.2.1 dX6_fits_26 (by decide) (fun hc => ?_) (fun hc => ?_)
        · replace hv := (if_pos hc).symm.trans hv
          exact J31  _ hv hk H locs ls Z (lv_sub hl [0, 1] rfl)
        · replace hv := (if_neg hc).symm.trans hv
          refine lv_iconst (v := (0 : Int32)) S.1 S.2.1 dX6_fits_29 (by decide) ?_
          replace hk := zz_fin hv hk
          obtain rfl := hR0 _ hk
          exact zz_zret S Z hret (by decide) hlk dX6_fits_30 (Nat.le_refl _) (Nat.le_refl _)
    · replace hv := (if_neg hc).symm.trans hv
      refine lv_iconst (v := (0 : Int32)) S.1 S.2.1 dX6_fits_8 (by decide) ?_
      replace hk := zz_fin hv hk
      obtain rfl := hR0 _ hk
      exact zz_zret S Z hret (by decide) hlk dX6_fits_9 (Nat.le_refl _) (Nat.le_refl _)
  rw [hH, hlo] at key
  exact key

noncomputable def f_X10_firstThatFits_L2 (h : ZH) (a0 : Nat) (a1 : Nat) (a2 : Int32) (x3_1 : Int32)  : Option ((Int32) ⊕ (Int32)) :=
  (zg_I h a0 8 4).bind fun v2 => if v2 ≤ x3_1 then ((some ((-1 : Int32))).map Sum.inr) else ((zg_R h a0 8 2).bind fun v3 => (zl_N h v3 7).bind fun v4 => if v4 ≤ x3_1 then ((some ((-1 : Int32))).map Sum.inr) else ((zg_R h a0 8 2).bind fun v5 => (zl_R h v5 7 x3_1).bind fun v6 => zz_isO h v6 4 <| (f_X6_fits h v6 a1 a2).bind fun v7 => if v7 = 0 then (some (.inl (x3_1 + (1 : Int32)))) else ((some (x3_1)).map Sum.inr)))
noncomputable def f_X10_firstThatFits (h : ZH) (a0 : Nat) (a1 : Nat) (a2 : Int32) : Option (Int32) :=
  zz_loop (fun st : (Int32) => f_X10_firstThatFits_L2 h a0 a1 a2 (st)) ((0 : Int32))
abbrev rm_X10_firstThatFits : Room := { frames := 2, cells := 0, slots := 0, locals := 43 }
set_option maxRecDepth 100000 in
set_option maxHeartbeats 4000000 in
theorem c_X10_firstThatFits {l : Launch} {D : va_G} {dA : Nat → ClassId} {A : Nat → Prop} {h : ZH} {n : Nat} (a0 : Nat) (a1 : Nat) (a2 : Int32) {r : Int32} (hf : f_X10_firstThatFits h a0 a1 a2 = some r) : Met l yX10_firstThatFits (zz_ws yX10_firstThatFits cX10_firstThatFits 4 (some .int)) rm_X10_firstThatFits (zz_P D dA A h n [.ref (a0), .ref (a1), .int (a2)]) (zz_Q D dA A (some (.int r)) h n) 0 0 A := by
  refine zz_met (by decide) (Nat.le_of_ble_eq_true rfl) ?_
  intro p e s m args below meth c ls S K hret hlk hnm hl Z
  replace hl : lv_has ls 4 [(0, .ref (a0)), (1, .ref (a1)), (2, .int (a2))] := hl
  obtain ⟨K0, hR0, hk⟩ : ∃ K0 : (Int32) → Prop, (∀ x, K0 x → x = r) ∧ K0 r := ⟨fun x => x = r, fun _ h => h, rfl⟩
  have L2 : ∀ (st : (Int32)) (x : (Int32)), zz_loop (fun st : (Int32) => f_X10_firstThatFits_L2 h a0 a1 a2 (st)) st = some x → K0 x → (fun st : (Int32) => ∀ (H : Heap) (locs : List Loc) (ls : Array Slot), zz_B D dA A h n s.heap H locs → lv_has ls 4 [(0, .ref (a0)), (1, .ref (a1)), (2, .int (a2)), (3, .int ((st)))] → zz_W p l e rm_X10_firstThatFits s m args below meth c D dA A (some (.int r)) h n 0 0 H locs 0 0 2 ls []) st := by
    refine zz_loop_go (K := K0) ?_
    intro K1 hP1 hR1
    rintro x3_1 x hv hk H locs ls Z hl
    replace hv : f_X10_firstThatFits_L2 h a0 a1 a2 x3_1 = some x := hv
    unfold f_X10_firstThatFits_L2 at hv
    replace hl : lv_has ls 4 [(0, .ref (a0)), (1, .ref (a1)), (2, .int (a2)), (3, .int (x3_1))] := hl
    replace Z : zz_B D dA A h n s.heap H locs := Z
    show zz_W p l e rm_X10_firstThatFits s m args below meth c D dA A (some (.int r)) h n 0 0 H locs 0 0 2 ls []
    refine lv_iload_n S.1 S.2.1 dX10_firstThatFits_2 rfl (lv_at hl 3 rfl) ?_
    refine lv_aload_n S.1 S.2.1 dX10_firstThatFits_3 rfl (lv_at hl 0 rfl) ?_
    refine zz_gI S K Z hv zc_8 (by decide) gf_X10_41 dX10_firstThatFits_4 (fun v2 hv => ?_)
    refine lv_icmp_ge (tgt := 41) S.1 S.2.1 dX10_firstThatFits_7 (by decide) (fun hc => ?_) (fun hc => ?_)
    · replace hv := (if_pos hc).symm.trans hv
      obtain ⟨_, hv, hk⟩ := zz_mapk hv hk
      replace hk := hR1 _ hk
      refine lv_iconst (v := (-1 : Int32)) S.1 S.2.1 dX10_firstThatFits_41 (by decide) ?_
      replace hk := zz_fin hv hk
      obtain rfl := hR0 _ hk
      exact zz_iret S Z hret hlk dX10_firstThatFits_42 (Nat.le_refl _) (Nat.le_refl _)
    · replace hv := (if_neg hc).symm.trans hv
      refine lv_iload_n S.1 S.2.1 dX10_firstThatFits_10 rfl (lv_at hl 3 rfl) ?_
      refine lv_aload_n S.1 S.2.1 dX10_firstThatFits_11 rfl (lv_at hl 0 rfl) ?_
      refine zz_gR S K Z hv zc_8 (by decide) gf_X10_25 dX10_firstThatFits_12 (fun v3 hv => ?_)
      refine zz_alen S K Z hv rfl dX10_firstThatFits_15 (fun v4 hv => ?_)
      refine lv_icmp_ge (tgt := 41) S.1 S.2.1 dX10_firstThatFits_16 (by decide) (fun hc => ?_) (fun hc => ?_)
      · replace hv := (if_pos hc).symm.trans hv
        obtain ⟨_, hv, hk⟩ := zz_mapk hv hk
        replace hk := hR1 _ hk
        refine lv_iconst (v := (-1 : Int32)) S.1 S.2.1 dX10_firstThatFits_41 (by decide) ?_
        replace hk := zz_fin hv hk
        obtain rfl := hR0 _ hk
        exact zz_iret S Z hret hlk dX10_firstThatFits_42 (Nat.le_refl _) (Nat.le_refl _)
      · replace hv := (if_neg hc).symm.trans hv
        refine lv_aload_n S.1 S.2.1 dX10_firstThatFits_19 rfl (lv_at hl 0 rfl) ?_
        refine zz_gR S K Z hv zc_8 (by decide) gf_X10_25 dX10_firstThatFits_20 (fun v5 hv => ?_)
        refine lv_iload_n S.1 S.2.1 dX10_firstThatFits_23 rfl (lv_at hl 3 rfl) ?_
        refine zz_aald S K Z hv rfl dX10_firstThatFits_24 (fun v6 hv => ?_)
        refine lv_aload_n S.1 S.2.1 dX10_firstThatFits_25 rfl (lv_at hl 1 rfl) ?_
        refine lv_iload_n S.1 S.2.1 dX10_firstThatFits_26 rfl (lv_at hl 2 rfl) ?_
        obtain ⟨hci, hv⟩ := zz_isO_s hv
        obtain ⟨v7, hq, hv⟩ := zz_bd hv
        refine zz_V [.ref (a1), .int (a2)] S K Z hci zc_4 rfl (c_X6_fits v6 a1 a2 hq) ⟨rfl, rfl⟩ gm_X6_fits gmv_X6_fits gl_X10_70 ⟨by decide, by decide⟩ rfl hl.1 rfl (Nat.le_of_ble_eq_true rfl) dX10_firstThatFits_27 ⟨Nat.zero_le _, Nat.zero_le _⟩ (fun H locs Z => ?_)
        show W _ _ _ _ _ _ _ _ _ _ _ _ 0 0 _ (F0 m 30 ls [.int (v7)])
        refine lv_if_eq (tgt := 35) S.1 S.2.1 dX10_firstThatFits_30 (by decide) (fun hc => ?_) (fun hc => ?_)
        · replace hv := (if_pos hc).symm.trans hv
          refine lv_iinc (v := x3_1 + (1 : Int32)) (lv' := [(3, .int (x3_1 + (1 : Int32))), (0, .ref (a0)), (1, .ref (a1)), (2, .int (a2))]) S.1 S.2.1 dX10_firstThatFits_35 hl (k := 3) rfl rfl (by decide) rfl (fun ls hl => ?_)
          refine lv_goto (tgt := 2) S.1 S.2.1 dX10_firstThatFits_38 (by decide) ?_
          replace hk := zz_fin hv hk
          exact hP1 _ hk H locs ls Z (lv_sub hl [1, 2, 3, 0] rfl)
        · replace hv := (if_neg hc).symm.trans hv
          obtain ⟨_, hv, hk⟩ := zz_mapk hv hk
          replace hk := hR1 _ hk
          refine lv_iload_n S.1 S.2.1 dX10_firstThatFits_33 rfl (lv_at hl 3 rfl) ?_
          replace hk := zz_fin hv hk
          obtain rfl := hR0 _ hk
          exact zz_iret S Z hret hlk dX10_firstThatFits_34 (Nat.le_refl _) (Nat.le_refl _)
  have hv := hf
  unfold f_X10_firstThatFits at hv
  clear hf
  obtain ⟨x, hxx⟩ : ∃ x, x = r := ⟨_, rfl⟩
  rw [← hxx] at hv hk
  have ⟨H, hH⟩ : ∃ H, H = s.heap := ⟨_, rfl⟩
  have ⟨locs, hlo⟩ : ∃ q : List Loc, q = [] := ⟨_, rfl⟩
  have Z : zz_B D dA A h n s.heap H locs := by rw [hH, hlo]; exact Z
  have key : zz_W p l e rm_X10_firstThatFits s m args below meth c D dA A (some (.int r)) h n 0 0 H locs 0 0 0 ls [] := by
    clear hH hlo hxx
    refine lv_iconst (v := (0 : Int32)) S.1 S.2.1 dX10_firstThatFits_0 (by decide) ?_
    refine lv_istore_n (lv' := [(3, .int ((0 : Int32))), (0, .ref (a0)), (1, .ref (a1)), (2, .int (a2))]) S.1 S.2.1 dX10_firstThatFits_1 rfl hl (by decide) rfl (fun ls hl => ?_)
    exact L2  ((0 : Int32)) _ hv hk H locs ls Z (lv_sub hl [1, 2, 3, 0] rfl)
  rw [hH, hlo] at key
  exact key

noncomputable def f_X4_setFlag (h : ZH) (a0 : Nat) (a1 : Int32) (a2 : Int32) : Option (ZH) :=
  if a1 < 0 then (some (h)) else ((zg_R h a0 3 0).bind fun v1 => (zl_N h v1 1).bind fun v2 => if v2 ≤ a1 then (some (h)) else ((zg_R h a0 3 0).bind fun v3 => (zs_I h v3 1 a1 a2).bind fun h4 => some (h4)))
abbrev rm_X4_setFlag : Room := { frames := 0, cells := 0, slots := 0, locals := 0 }
set_option maxRecDepth 100000 in
set_option maxHeartbeats 4000000 in
theorem c_X4_setFlag {l : Launch} {D : va_G} {dA : Nat → ClassId} {A : Nat → Prop} {h : ZH} {n : Nat} (a0 : Nat) (a1 : Int32) (a2 : Int32) {hx : ZH} (hf : f_X4_setFlag h a0 a1 a2 = some hx) : Met l yX4_setFlag (zz_ws yX4_setFlag cX4_setFlag 3 none) rm_X4_setFlag (zz_P D dA A h n [.ref (a0), .int (a1), .int (a2)]) (zz_Q D dA A (none) hx n) 0 0 A := by
  refine zz_met (by decide) (Nat.le_of_ble_eq_true rfl) ?_
  intro p e s m args below meth c ls S K hret hlk hnm hl Z
  replace hl : lv_has ls 3 [(0, .ref (a0)), (1, .int (a1)), (2, .int (a2))] := hl
  obtain ⟨K0, hR0, hk⟩ : ∃ K0 : (ZH) → Prop, (∀ x, K0 x → x = hx) ∧ K0 hx := ⟨fun x => x = hx, fun _ h => h, rfl⟩
  have hv := hf
  unfold f_X4_setFlag at hv
  clear hf
  obtain ⟨x, hxx⟩ : ∃ x, x = hx := ⟨_, rfl⟩
  rw [← hxx] at hv hk
  have ⟨H, hH⟩ : ∃ H, H = s.heap := ⟨_, rfl⟩
  have ⟨locs, hlo⟩ : ∃ q : List Loc, q = [] := ⟨_, rfl⟩
  have Z : zz_B D dA A h n s.heap H locs := by rw [hH, hlo]; exact Z
  have key : zz_W p l e rm_X4_setFlag s m args below meth c D dA A (none) hx n 0 0 H locs 0 0 0 ls [] := by
    clear hH hlo hxx
    refine lv_iload_n S.1 S.2.1 dX4_setFlag_0 rfl (lv_at hl 1 rfl) ?_
    refine lv_if_lt (tgt := 20) S.1 S.2.1 dX4_setFlag_1 (by decide) (fun hc => ?_) (fun hc => ?_)
    · replace hv := (if_pos hc).symm.trans hv
      replace hk := zz_fin hv hk
      obtain rfl := hR0 _ hk
      exact zz_vret S Z hret hlk dX4_setFlag_20 (Nat.le_refl _) (Nat.le_refl _)
    · replace hv := (if_neg hc).symm.trans hv
      refine lv_iload_n S.1 S.2.1 dX4_setFlag_4 rfl (lv_at hl 1 rfl) ?_
      refine lv_aload_n S.1 S.2.1 dX4_setFlag_5 rfl (lv_at hl 0 rfl) ?_
      refine zz_gR S K Z hv zc_3 (by decide) gf_X4_9 dX4_setFlag_6 (fun v1 hv => ?_)
      refine zz_alen S K Z hv rfl dX4_setFlag_9 (fun v2 hv => ?_)
      refine lv_icmp_ge (tgt := 20) S.1 S.2.1 dX4_setFlag_10 (by decide) (fun hc => ?_) (fun hc => ?_)
      · replace hv := (if_pos hc).symm.trans hv
        replace hk := zz_fin hv hk
        obtain rfl := hR0 _ hk
        exact zz_vret S Z hret hlk dX4_setFlag_20 (Nat.le_refl _) (Nat.le_refl _)
      · replace hv := (if_neg hc).symm.trans hv
        refine lv_aload_n S.1 S.2.1 dX4_setFlag_13 rfl (lv_at hl 0 rfl) ?_
        refine zz_gR S K Z hv zc_3 (by decide) gf_X4_9 dX4_setFlag_14 (fun v3 hv => ?_)
        refine lv_iload_n S.1 S.2.1 dX4_setFlag_17 rfl (lv_at hl 1 rfl) ?_
        refine lv_iload_n S.1 S.2.1 dX4_setFlag_18 rfl (lv_at hl 2 rfl) ?_
        refine zz_iast S K Z hv dX4_setFlag_19 (fun h4 H locs hv Z => ?_)
        replace hk := zz_fin hv hk
        obtain rfl := hR0 _ hk
        exact zz_vret S Z hret hlk dX4_setFlag_20 (Nat.le_refl _) (Nat.le_refl _)
  rw [hH, hlo] at key
  exact key

noncomputable def f_X10_divide (h : ZH) (a0 : Nat) (a1 : Nat) (a2 : Nat) : Option (Int32 × ZH) :=
  (zg_I h a1 4 6).bind fun v1 => zz_isO h a2 3 <| (f_X4_flag h a2 v1).bind fun v2 => if v2 = 0 then (some (((4 : Int32), h))) else ((zg_I h a1 4 5).bind fun v3 => zz_ne v2 <| zz_isO h a2 3 <| (f_X4_setFlag h a2 v3 ((12 : Int32) / v2)).bind fun h4 => some (((0 : Int32), h4)))
abbrev rm_X10_divide : Room := { frames := 1, cells := 0, slots := 0, locals := 22 }
set_option maxRecDepth 100000 in
set_option maxHeartbeats 4000000 in
theorem c_X10_divide {l : Launch} {D : va_G} {dA : Nat → ClassId} {A : Nat → Prop} {h : ZH} {n : Nat} (a0 : Nat) (a1 : Nat) (a2 : Nat) {r : Int32} {hx : ZH} (hf : f_X10_divide h a0 a1 a2 = some (r, hx)) : Met l yX10_divide (zz_ws yX10_divide cX10_divide 4 (some .int)) rm_X10_divide (zz_P D dA A h n [.ref (a0), .ref (a1), .ref (a2)]) (zz_Q D dA A (some (.int r)) hx n) 0 0 A := by
  refine zz_met (by decide) (Nat.le_of_ble_eq_true rfl) ?_
  intro p e s m args below meth c ls S K hret hlk hnm hl Z
  replace hl : lv_has ls 4 [(0, .ref (a0)), (1, .ref (a1)), (2, .ref (a2))] := hl
  obtain ⟨K0, hR0, hk⟩ : ∃ K0 : (Int32 × ZH) → Prop, (∀ x, K0 x → x = (r, hx)) ∧ K0 (r, hx) := ⟨fun x => x = (r, hx), fun _ h => h, rfl⟩
  have hv := hf
  unfold f_X10_divide at hv
  clear hf
  obtain ⟨x, hxx⟩ : ∃ x, x = (r, hx) := ⟨_, rfl⟩
  rw [← hxx] at hv hk
  have ⟨H, hH⟩ : ∃ H, H = s.heap := ⟨_, rfl⟩
  have ⟨locs, hlo⟩ : ∃ q : List Loc, q = [] := ⟨_, rfl⟩
  have Z : zz_B D dA A h n s.heap H locs := by rw [hH, hlo]; exact Z
  have key : zz_W p l e rm_X10_divide s m args below meth c D dA A (some (.int r)) hx n 0 0 H locs 0 0 0 ls [] := by
    clear hH hlo hxx
    refine lv_aload_n S.1 S.2.1 dX10_divide_0 rfl (lv_at hl 2 rfl) ?_
    refine lv_aload_n S.1 S.2.1 dX10_divide_1 rfl (lv_at hl 1 rfl) ?_
    refine zz_gI S K Z hv zc_4 (by decide) gf_X10_83 dX10_divide_2 (fun v1 hv => ?_)
    obtain ⟨hci, hv⟩ := zz_isO_s hv
    obtain ⟨v2, hq, hv⟩ := zz_bd hv
    refine zz_V [.int (v1)] S K Z hci zc_3 rfl (c_X4_flag a2 v1 hq) ⟨rfl, rfl⟩ gm_X4_flag gmv_X4_flag gl_X10_79 ⟨by decide, by decide⟩ rfl hl.1 rfl (Nat.le_of_ble_eq_true rfl) dX10_divide_5 ⟨Nat.zero_le _, Nat.zero_le _⟩ (fun H locs Z => ?_)
    show W _ _ _ _ _ _ _ _ _ _ _ _ 0 0 _ (F0 m 8 ls [.int (v2)])
    refine lv_istore_n (lv' := [(3, .int (v2)), (0, .ref (a0)), (1, .ref (a1)), (2, .ref (a2))]) S.1 S.2.1 dX10_divide_8 rfl hl (by decide) rfl (fun ls hl => ?_)
    refine lv_iload_n S.1 S.2.1 dX10_divide_9 rfl (lv_at hl 0 rfl) ?_
    refine lv_if_ne (tgt := 15) S.1 S.2.1 dX10_divide_10 (by decide) (fun hc => ?_) (fun hc => ?_)
    · replace hv := (if_neg hc).symm.trans hv
      refine lv_aload_n S.1 S.2.1 dX10_divide_15 rfl (lv_at hl 3 rfl) ?_
      refine lv_aload_n S.1 S.2.1 dX10_divide_16 rfl (lv_at hl 2 rfl) ?_
      refine zz_gI S K Z hv zc_4 (by decide) gf_X10_76 dX10_divide_17 (fun v3 hv => ?_)
      refine lv_bipush (v := (12 : Int32)) S.1 S.2.1 dX10_divide_20 (by decide) ?_
      refine lv_iload_n S.1 S.2.1 dX10_divide_22 rfl (lv_at hl 0 rfl) ?_
      obtain ⟨hne, hv⟩ := zz_ne_s hv
      refine lv_idiv S.1 S.2.1 dX10_divide_23 hne ?_
      obtain ⟨hci, hv⟩ := zz_isO_s hv
      obtain ⟨h4, hq, hv⟩ := zz_bd hv
      refine zz_V [.int (v3), .int ((12 : Int32) / v2)] S K Z hci zc_3 rfl (c_X4_setFlag a2 v3 ((12 : Int32) / v2) hq) ⟨rfl, rfl⟩ gm_X4_setFlag gmv_X4_setFlag gl_X10_86 ⟨by decide, by decide⟩ rfl hl.1 rfl (Nat.le_of_ble_eq_true rfl) dX10_divide_24 ⟨Nat.zero_le _, Nat.zero_le _⟩ (fun H locs Z => ?_)
      show W _ _ _ _ _ _ _ _ _ _ _ _ 0 0 _ (F0 m 27 ls [])
      refine lv_iconst (v := (0 : Int32)) S.1 S.2.1 dX10_divide_27 (by decide) ?_
      replace hk := zz_fin hv hk
      obtain ⟨rfl, rfl⟩ := Prod.mk.inj (hR0 _ hk)
      exact zz_iret S Z hret hlk dX10_divide_28 (Nat.le_refl _) (Nat.le_refl _)
    · replace hv := (if_pos hc).symm.trans hv
      refine lv_iconst (v := (4 : Int32)) S.1 S.2.1 dX10_divide_13 (by decide) ?_
      replace hk := zz_fin hv hk
      obtain ⟨rfl, rfl⟩ := Prod.mk.inj (hR0 _ hk)
      exact zz_iret S Z hret hlk dX10_divide_14 (Nat.le_refl _) (Nat.le_refl _)
  rw [hH, hlo] at key
  exact key

noncomputable def f_X3_faultAt (h : ZH) (a0 : Nat) (a1 : Int32) (a2 : Int32) : Option (Int32) :=
  (zg_I h a0 2 1).bind fun v1 => if v1 = 0 then (some ((1 : Int32))) else ((zg_I h a0 2 1).bind fun v2 => if v2 = a1 then (if a2 < 0 then (some ((3 : Int32))) else ((zg_I h a0 2 2).bind fun v3 => if a2 < v3 then (some ((0 : Int32))) else (some ((3 : Int32))))) else (some ((2 : Int32))))
abbrev rm_X3_faultAt : Room := { frames := 0, cells := 0, slots := 0, locals := 0 }
set_option maxRecDepth 100000 in
set_option maxHeartbeats 4000000 in
theorem c_X3_faultAt {l : Launch} {D : va_G} {dA : Nat → ClassId} {A : Nat → Prop} {h : ZH} {n : Nat} (a0 : Nat) (a1 : Int32) (a2 : Int32) {r : Int32} (hf : f_X3_faultAt h a0 a1 a2 = some r) : Met l yX3_faultAt (zz_ws yX3_faultAt cX3_faultAt 3 (some .int)) rm_X3_faultAt (zz_P D dA A h n [.ref (a0), .int (a1), .int (a2)]) (zz_Q D dA A (some (.int r)) h n) 0 0 A := by
  refine zz_met (by decide) (Nat.le_of_ble_eq_true rfl) ?_
  intro p e s m args below meth c ls S K hret hlk hnm hl Z
  replace hl : lv_has ls 3 [(0, .ref (a0)), (1, .int (a1)), (2, .int (a2))] := hl
  obtain ⟨K0, hR0, hk⟩ : ∃ K0 : (Int32) → Prop, (∀ x, K0 x → x = r) ∧ K0 r := ⟨fun x => x = r, fun _ h => h, rfl⟩
  have hv := hf
  unfold f_X3_faultAt at hv
  clear hf
  obtain ⟨x, hxx⟩ : ∃ x, x = r := ⟨_, rfl⟩
  rw [← hxx] at hv hk
  have ⟨H, hH⟩ : ∃ H, H = s.heap := ⟨_, rfl⟩
  have ⟨locs, hlo⟩ : ∃ q : List Loc, q = [] := ⟨_, rfl⟩
  have Z : zz_B D dA A h n s.heap H locs := by rw [hH, hlo]; exact Z
  have key : zz_W p l e rm_X3_faultAt s m args below meth c D dA A (some (.int r)) h n 0 0 H locs 0 0 0 ls [] := by
    clear hH hlo hxx
    refine lv_aload_n S.1 S.2.1 dX3_faultAt_0 rfl (lv_at hl 0 rfl) ?_
    refine zz_gI S K Z hv zc_2 (by decide) gf_X3_15 dX3_faultAt_1 (fun v1 hv => ?_)
    refine lv_if_ne (tgt := 9) S.1 S.2.1 dX3_faultAt_4 (by decide) (fun hc => ?_) (fun hc => ?_)
    · replace hv := (if_neg hc).symm.trans hv
      refine lv_aload_n S.1 S.2.1 dX3_faultAt_9 rfl (lv_at hl 0 rfl) ?_
      refine zz_gI S K Z hv zc_2 (by decide) gf_X3_15 dX3_faultAt_10 (fun v2 hv => ?_)
      refine lv_iload_n S.1 S.2.1 dX3_faultAt_13 rfl (lv_at hl 1 rfl) ?_
      refine lv_icmp_eq (tgt := 19) S.1 S.2.1 dX3_faultAt_14 (by decide) (fun hc => ?_) (fun hc => ?_)
      · replace hv := (if_pos hc).symm.trans hv
        refine lv_iload_n S.1 S.2.1 dX3_faultAt_19 rfl (lv_at hl 2 rfl) ?_
        refine lv_if_lt (tgt := 31) S.1 S.2.1 dX3_faultAt_20 (by decide) (fun hc => ?_) (fun hc => ?_)
        · replace hv := (if_pos hc).symm.trans hv
          refine lv_iconst (v := (3 : Int32)) S.1 S.2.1 dX3_faultAt_31 (by decide) ?_
          refine lv_goto (tgt := 36) S.1 S.2.1 dX3_faultAt_32 (by decide) ?_
          replace hk := zz_fin hv hk
          obtain rfl := hR0 _ hk
          exact zz_iret S Z hret hlk dX3_faultAt_36 (Nat.le_refl _) (Nat.le_refl _)
        · replace hv := (if_neg hc).symm.trans hv
          refine lv_iload_n S.1 S.2.1 dX3_faultAt_23 rfl (lv_at hl 2 rfl) ?_
          refine lv_aload_n S.1 S.2.1 dX3_faultAt_24 rfl (lv_at hl 0 rfl) ?_
          refine zz_gI S K Z hv zc_2 (by decide) gf_X3_19 dX3_faultAt_25 (fun v3 hv => ?_)
          refine lv_icmp_lt (tgt := 35) S.1 S.2.1 dX3_faultAt_28 (by decide) (fun hc => ?_) (fun hc => ?_)
          · replace hv := (if_pos hc).symm.trans hv
            refine lv_iconst (v := (0 : Int32)) S.1 S.2.1 dX3_faultAt_35 (by decide) ?_
            replace hk := zz_fin hv hk
            obtain rfl := hR0 _ hk
            exact zz_iret S Z hret hlk dX3_faultAt_36 (Nat.le_refl _) (Nat.le_refl _)
          · replace hv := (if_neg hc).symm.trans hv
            refine lv_iconst (v := (3 : Int32)) S.1 S.2.1 dX3_faultAt_31 (by decide) ?_
            refine lv_goto (tgt := 36) S.1 S.2.1 dX3_faultAt_32 (by decide) ?_
            replace hk := zz_fin hv hk
            obtain rfl := hR0 _ hk
            exact zz_iret S Z hret hlk dX3_faultAt_36 (Nat.le_refl _) (Nat.le_refl _)
      · replace hv := (if_neg hc).symm.trans hv
        refine lv_iconst (v := (2 : Int32)) S.1 S.2.1 dX3_faultAt_17 (by decide) ?_
        replace hk := zz_fin hv hk
        obtain rfl := hR0 _ hk
        exact zz_iret S Z hret hlk dX3_faultAt_18 (Nat.le_refl _) (Nat.le_refl _)
    · replace hv := (if_pos hc).symm.trans hv
      refine lv_iconst (v := (1 : Int32)) S.1 S.2.1 dX3_faultAt_7 (by decide) ?_
      replace hk := zz_fin hv hk
      obtain rfl := hR0 _ hk
      exact zz_iret S Z hret hlk dX3_faultAt_8 (Nat.le_refl _) (Nat.le_refl _)
  rw [hH, hlo] at key
  exact key

noncomputable def f_X3_item (h : ZH) (a0 : Nat) (a1 : Int32) : Option (Int32) :=
  if a1 < 0 then (some ((0 : Int32))) else ((zg_R h a0 2 0).bind fun v1 => (zl_N h v1 1).bind fun v2 => if a1 < v2 then ((zg_R h a0 2 0).bind fun v3 => (zl_I h v3 1 a1).bind fun v4 => some (v4)) else (some ((0 : Int32))))
abbrev rm_X3_item : Room := { frames := 0, cells := 0, slots := 0, locals := 0 }
set_option maxRecDepth 100000 in
set_option maxHeartbeats 4000000 in
theorem c_X3_item {l : Launch} {D : va_G} {dA : Nat → ClassId} {A : Nat → Prop} {h : ZH} {n : Nat} (a0 : Nat) (a1 : Int32) {r : Int32} (hf : f_X3_item h a0 a1 = some r) : Met l yX3_item (zz_ws yX3_item cX3_item 2 (some .int)) rm_X3_item (zz_P D dA A h n [.ref (a0), .int (a1)]) (zz_Q D dA A (some (.int r)) h n) 0 0 A := by
  refine zz_met (by decide) (Nat.le_of_ble_eq_true rfl) ?_
  intro p e s m args below meth c ls S K hret hlk hnm hl Z
  replace hl : lv_has ls 2 [(0, .ref (a0)), (1, .int (a1))] := hl
  obtain ⟨K0, hR0, hk⟩ : ∃ K0 : (Int32) → Prop, (∀ x, K0 x → x = r) ∧ K0 r := ⟨fun x => x = r, fun _ h => h, rfl⟩
  have hv := hf
  unfold f_X3_item at hv
  clear hf
  obtain ⟨x, hxx⟩ : ∃ x, x = r := ⟨_, rfl⟩
  rw [← hxx] at hv hk
  have ⟨H, hH⟩ : ∃ H, H = s.heap := ⟨_, rfl⟩
  have ⟨locs, hlo⟩ : ∃ q : List Loc, q = [] := ⟨_, rfl⟩
  have Z : zz_B D dA A h n s.heap H locs := by rw [hH, hlo]; exact Z
  have key : zz_W p l e rm_X3_item s m args below meth c D dA A (some (.int r)) h n 0 0 H locs 0 0 0 ls [] := by
    clear hH hlo hxx
    refine lv_iload_n S.1 S.2.1 dX3_item_0 rfl (lv_at hl 1 rfl) ?_
    refine lv_if_lt (tgt := 13) S.1 S.2.1 dX3_item_1 (by decide) (fun hc => ?_) (fun hc => ?_)
    · replace hv := (if_pos hc).symm.trans hv
      refine lv_iconst (v := (0 : Int32)) S.1 S.2.1 dX3_item_13 (by decide) ?_
      refine lv_goto (tgt := 23) S.1 S.2.1 dX3_item_14 (by decide) ?_
      replace hk := zz_fin hv hk
      obtain rfl := hR0 _ hk
      exact zz_iret S Z hret hlk dX3_item_23 (Nat.le_refl _) (Nat.le_refl _)
    · replace hv := (if_neg hc).symm.trans hv
      refine lv_iload_n S.1 S.2.1 dX3_item_4 rfl (lv_at hl 1 rfl) ?_
      refine lv_aload_n S.1 S.2.1 dX3_item_5 rfl (lv_at hl 0 rfl) ?_
      refine zz_gR S K Z hv zc_2 (by decide) gf_X3_9 dX3_item_6 (fun v1 hv => ?_)
      refine zz_alen S K Z hv rfl dX3_item_9 (fun v2 hv => ?_)
      refine lv_icmp_lt (tgt := 17) S.1 S.2.1 dX3_item_10 (by decide) (fun hc => ?_) (fun hc => ?_)
      · replace hv := (if_pos hc).symm.trans hv
        refine lv_aload_n S.1 S.2.1 dX3_item_17 rfl (lv_at hl 0 rfl) ?_
        refine zz_gR S K Z hv zc_2 (by decide) gf_X3_9 dX3_item_18 (fun v3 hv => ?_)
        refine lv_iload_n S.1 S.2.1 dX3_item_21 rfl (lv_at hl 1 rfl) ?_
        refine zz_iald S K Z hv dX3_item_22 (fun v4 hv => ?_)
        replace hk := zz_fin hv hk
        obtain rfl := hR0 _ hk
        exact zz_iret S Z hret hlk dX3_item_23 (Nat.le_refl _) (Nat.le_refl _)
      · replace hv := (if_neg hc).symm.trans hv
        refine lv_iconst (v := (0 : Int32)) S.1 S.2.1 dX3_item_13 (by decide) ?_
        refine lv_goto (tgt := 23) S.1 S.2.1 dX3_item_14 (by decide) ?_
        replace hk := zz_fin hv hk
        obtain rfl := hR0 _ hk
        exact zz_iret S Z hret hlk dX3_item_23 (Nat.le_refl _) (Nat.le_refl _)
  rw [hH, hlo] at key
  exact key

noncomputable def f_X10_takeItem (h : ZH) (a0 : Nat) (a1 : Int32) (a2 : Int32) (a3 : Int32) (a4 : Nat) : Option (Int32 × ZH) :=
  if a1 < 0 then (some (((1 : Int32), h))) else ((zg_R h a0 8 3).bind fun v1 => (zl_N h v1 5).bind fun v2 => if a1 < v2 then ((zg_R h a0 8 3).bind fun v3 => (zl_R h v3 5 a1).bind fun v4 => zz_isO h v4 2 <| (f_X3_faultAt h v4 a2 a3).bind fun v5 => if v5 = 0 then ((zg_R h a0 8 3).bind fun v6 => (zl_R h v6 5 a1).bind fun v7 => zz_isO h v7 2 <| (f_X3_item h v7 a3).bind fun v8 => zz_isO h a4 3 <| (f_X4_setFlag h a4 (7 : Int32) v8).bind fun h9 => some ((v5, h9))) else (some ((v5, h)))) else (some (((1 : Int32), h))))
abbrev rm_X10_takeItem : Room := { frames := 1, cells := 0, slots := 0, locals := 22 }
set_option maxRecDepth 100000 in
set_option maxHeartbeats 4000000 in
theorem c_X10_takeItem {l : Launch} {D : va_G} {dA : Nat → ClassId} {A : Nat → Prop} {h : ZH} {n : Nat} (a0 : Nat) (a1 : Int32) (a2 : Int32) (a3 : Int32) (a4 : Nat) {r : Int32} {hx : ZH} (hf : f_X10_takeItem h a0 a1 a2 a3 a4 = some (r, hx)) : Met l yX10_takeItem (zz_ws yX10_takeItem cX10_takeItem 6 (some .int)) rm_X10_takeItem (zz_P D dA A h n [.ref (a0), .int (a1), .int (a2), .int (a3), .ref (a4)]) (zz_Q D dA A (some (.int r)) hx n) 0 0 A := by
  refine zz_met (by decide) (Nat.le_of_ble_eq_true rfl) ?_
  intro p e s m args below meth c ls S K hret hlk hnm hl Z
  replace hl : lv_has ls 6 [(0, .ref (a0)), (1, .int (a1)), (2, .int (a2)), (3, .int (a3)), (4, .ref (a4))] := hl
  obtain ⟨K0, hR0, hk⟩ : ∃ K0 : (Int32 × ZH) → Prop, (∀ x, K0 x → x = (r, hx)) ∧ K0 (r, hx) := ⟨fun x => x = (r, hx), fun _ h => h, rfl⟩
  have hv := hf
  unfold f_X10_takeItem at hv
  clear hf
  obtain ⟨x, hxx⟩ : ∃ x, x = (r, hx) := ⟨_, rfl⟩
  rw [← hxx] at hv hk
  have ⟨H, hH⟩ : ∃ H, H = s.heap := ⟨_, rfl⟩
  have ⟨locs, hlo⟩ : ∃ q : List Loc, q = [] := ⟨_, rfl⟩
  have Z : zz_B D dA A h n s.heap H locs := by rw [hH, hlo]; exact Z
  have key : zz_W p l e rm_X10_takeItem s m args below meth c D dA A (some (.int r)) hx n 0 0 H locs 0 0 0 ls [] := by
    clear hH hlo hxx
    refine lv_iload_n S.1 S.2.1 dX10_takeItem_0 rfl (lv_at hl 1 rfl) ?_
    refine lv_if_lt (tgt := 13) S.1 S.2.1 dX10_takeItem_1 (by decide) (fun hc => ?_) (fun hc => ?_)
    · replace hv := (if_pos hc).symm.trans hv
      refine lv_iconst (v := (1 : Int32)) S.1 S.2.1 dX10_takeItem_13 (by decide) ?_
      replace hk := zz_fin hv hk
      obtain ⟨rfl, rfl⟩ := Prod.mk.inj (hR0 _ hk)
      exact zz_iret S Z hret hlk dX10_takeItem_14 (Nat.le_refl _) (Nat.le_refl _)
    · replace hv := (if_neg hc).symm.trans hv
      refine lv_iload_n S.1 S.2.1 dX10_takeItem_4 rfl (lv_at hl 1 rfl) ?_
      refine lv_aload_n S.1 S.2.1 dX10_takeItem_5 rfl (lv_at hl 0 rfl) ?_
      refine zz_gR S K Z hv zc_8 (by decide) gf_X10_31 dX10_takeItem_6 (fun v1 hv => ?_)
      refine zz_alen S K Z hv rfl dX10_takeItem_9 (fun v2 hv => ?_)
      refine lv_icmp_lt (tgt := 15) S.1 S.2.1 dX10_takeItem_10 (by decide) (fun hc => ?_) (fun hc => ?_)
      · replace hv := (if_pos hc).symm.trans hv
        refine lv_aload_n S.1 S.2.1 dX10_takeItem_15 rfl (lv_at hl 0 rfl) ?_
        refine zz_gR S K Z hv zc_8 (by decide) gf_X10_31 dX10_takeItem_16 (fun v3 hv => ?_)
        refine lv_iload_n S.1 S.2.1 dX10_takeItem_19 rfl (lv_at hl 1 rfl) ?_
        refine zz_aald S K Z hv rfl dX10_takeItem_20 (fun v4 hv => ?_)
        refine lv_iload_n S.1 S.2.1 dX10_takeItem_21 rfl (lv_at hl 2 rfl) ?_
        refine lv_iload_n S.1 S.2.1 dX10_takeItem_22 rfl (lv_at hl 3 rfl) ?_
        obtain ⟨hci, hv⟩ := zz_isO_s hv
        obtain ⟨v5, hq, hv⟩ := zz_bd hv
        refine zz_V [.int (a2), .int (a3)] S K Z hci zc_2 rfl (c_X3_faultAt v4 a2 a3 hq) ⟨rfl, rfl⟩ gm_X3_faultAt gmv_X3_faultAt gl_X10_109 ⟨by decide, by decide⟩ rfl hl.1 rfl (Nat.le_of_ble_eq_true rfl) dX10_takeItem_23 ⟨Nat.zero_le _, Nat.zero_le _⟩ (fun H locs Z => ?_)
        show W _ _ _ _ _ _ _ _ _ _ _ _ 0 0 _ (F0 m 26 ls [.int (v5)])
        refine lv_istore (lv' := [(5, .int (v5)), (0, .ref (a0)), (1, .int (a1)), (2, .int (a2)), (3, .int (a3)), (4, .ref (a4))]) S.1 S.2.1 dX10_takeItem_26 hl (by decide) rfl (fun ls hl => ?_)
        refine lv_iload S.1 S.2.1 dX10_takeItem_28 (lv_at hl 0 rfl) ?_
        refine lv_if_ne (tgt := 50) S.1 S.2.1 dX10_takeItem_30 (by decide) (fun hc => ?_) (fun hc => ?_)
        · replace hv := (if_neg hc).symm.trans hv
          refine lv_iload S.1 S.2.1 dX10_takeItem_50 (lv_at hl 0 rfl) ?_
          replace hk := zz_fin hv hk
          obtain ⟨rfl, rfl⟩ := Prod.mk.inj (hR0 _ hk)
          exact zz_iret S Z hret hlk dX10_takeItem_52 (Nat.le_refl _) (Nat.le_refl _)
        · replace hv := (if_pos hc).symm.trans hv
          refine lv_aload S.1 S.2.1 dX10_takeItem_33 (lv_at hl 5 rfl) ?_
          refine lv_bipush (v := (7 : Int32)) S.1 S.2.1 dX10_takeItem_35 (by decide) ?_
          refine lv_aload_n S.1 S.2.1 dX10_takeItem_37 rfl (lv_at hl 1 rfl) ?_
          refine zz_gR S K Z hv zc_8 (by decide) gf_X10_31 dX10_takeItem_38 (fun v6 hv => ?_)
          refine lv_iload_n S.1 S.2.1 dX10_takeItem_41 rfl (lv_at hl 2 rfl) ?_
          refine zz_aald S K Z hv rfl dX10_takeItem_42 (fun v7 hv => ?_)
          refine lv_iload_n S.1 S.2.1 dX10_takeItem_43 rfl (lv_at hl 4 rfl) ?_
          obtain ⟨hci, hv⟩ := zz_isO_s hv
          obtain ⟨v8, hq, hv⟩ := zz_bd hv
          refine zz_V [.int (a3)] S K Z hci zc_2 rfl (c_X3_item v7 a3 hq) ⟨rfl, rfl⟩ gm_X3_item gmv_X3_item gl_X10_112 ⟨by decide, by decide⟩ rfl hl.1 rfl (Nat.le_of_ble_eq_true rfl) dX10_takeItem_44 ⟨Nat.zero_le _, Nat.zero_le _⟩ (fun H locs Z => ?_)
          show W _ _ _ _ _ _ _ _ _ _ _ _ 0 0 _ (F0 m 47 ls [.int (v8), .int ((7 : Int32)), .ref (a4)])
          obtain ⟨hci, hv⟩ := zz_isO_s hv
          obtain ⟨h9, hq, hv⟩ := zz_bd hv
          refine zz_V [.int ((7 : Int32)), .int (v8)] S K Z hci zc_3 rfl (c_X4_setFlag a4 (7 : Int32) v8 hq) ⟨rfl, rfl⟩ gm_X4_setFlag gmv_X4_setFlag gl_X10_86 ⟨by decide, by decide⟩ rfl hl.1 rfl (Nat.le_of_ble_eq_true rfl) dX10_takeItem_47 ⟨Nat.zero_le _, Nat.zero_le _⟩ (fun H locs Z => ?_)
          show W _ _ _ _ _ _ _ _ _ _ _ _ 0 0 _ (F0 m 50 ls [])
          refine lv_iload S.1 S.2.1 dX10_takeItem_50 (lv_at hl 0 rfl) ?_
          replace hk := zz_fin hv hk
          obtain ⟨rfl, rfl⟩ := Prod.mk.inj (hR0 _ hk)
          exact zz_iret S Z hret hlk dX10_takeItem_52 (Nat.le_refl _) (Nat.le_refl _)
      · replace hv := (if_neg hc).symm.trans hv
        refine lv_iconst (v := (1 : Int32)) S.1 S.2.1 dX10_takeItem_13 (by decide) ?_
        replace hk := zz_fin hv hk
        obtain ⟨rfl, rfl⟩ := Prod.mk.inj (hR0 _ hk)
        exact zz_iret S Z hret hlk dX10_takeItem_14 (Nat.le_refl _) (Nat.le_refl _)
  rw [hH, hlo] at key
  exact key

noncomputable def f_X10_nextSeed (h : ZH) (a0 : Int32) : Option (Int32) :=
  some ((a0 * (1103515245 : Int32)) + (12345 : Int32))
abbrev rm_X10_nextSeed : Room := { frames := 0, cells := 0, slots := 0, locals := 0 }
set_option maxRecDepth 100000 in
set_option maxHeartbeats 4000000 in
theorem c_X10_nextSeed {l : Launch} {D : va_G} {dA : Nat → ClassId} {A : Nat → Prop} {h : ZH} {n : Nat} (a0 : Int32) {r : Int32} (hf : f_X10_nextSeed h a0 = some r) : Met l yX10_nextSeed (zz_ws yX10_nextSeed cX10_nextSeed 1 (some .int)) rm_X10_nextSeed (zz_P D dA A h n [.int (a0)]) (zz_Q D dA A (some (.int r)) h n) 0 0 A := by
  refine zz_met (by decide) (Nat.le_of_ble_eq_true rfl) ?_
  intro p e s m args below meth c ls S K hret hlk hnm hl Z
  replace hl : lv_has ls 1 [(0, .int (a0))] := hl
  obtain ⟨K0, hR0, hk⟩ : ∃ K0 : (Int32) → Prop, (∀ x, K0 x → x = r) ∧ K0 r := ⟨fun x => x = r, fun _ h => h, rfl⟩
  have hv := hf
  unfold f_X10_nextSeed at hv
  clear hf
  obtain ⟨x, hxx⟩ : ∃ x, x = r := ⟨_, rfl⟩
  rw [← hxx] at hv hk
  have ⟨H, hH⟩ : ∃ H, H = s.heap := ⟨_, rfl⟩
  have ⟨locs, hlo⟩ : ∃ q : List Loc, q = [] := ⟨_, rfl⟩
  have Z : zz_B D dA A h n s.heap H locs := by rw [hH, hlo]; exact Z
  have key : zz_W p l e rm_X10_nextSeed s m args below meth c D dA A (some (.int r)) h n 0 0 H locs 0 0 0 ls [] := by
    clear hH hlo hxx
    refine lv_iload_n S.1 S.2.1 dX10_nextSeed_0 rfl (lv_at hl 0 rfl) ?_
    refine lv_ldc (v := (1103515245 : Int32)) S.1 S.2.1 S.2.2.2.1 (S.2.2.2.2 _ gk_X10_115) dX10_nextSeed_1 ?_
    refine lv_imul S.1 S.2.1 dX10_nextSeed_3 ?_
    refine lv_sipush (v := (12345 : Int32)) S.1 S.2.1 dX10_nextSeed_4 (by decide) ?_
    refine lv_iadd S.1 S.2.1 dX10_nextSeed_7 ?_
    replace hk := zz_fin hv hk
    obtain rfl := hR0 _ hk
    exact zz_iret S Z hret hlk dX10_nextSeed_8 (Nat.le_refl _) (Nat.le_refl _)
  rw [hH, hlo] at key
  exact key

noncomputable def f_X10_drawn (h : ZH) (a0 : Int32) (a1 : Int32) : Option (Int32) :=
  if (1 : Int32) ≤ a1 then (zz_ne a1 <| some ((((a0.toUInt32 >>> ((16 : Int32).toUInt32 &&& Int32.toUInt32 31)).toInt32) &&& (32767 : Int32)) - (((a0.toUInt32 >>> ((16 : Int32).toUInt32 &&& Int32.toUInt32 31)).toInt32) &&& (32767 : Int32)) / a1 * a1)) else (some ((0 : Int32)))
abbrev rm_X10_drawn : Room := { frames := 0, cells := 0, slots := 0, locals := 0 }
set_option maxRecDepth 100000 in
set_option maxHeartbeats 4000000 in
theorem c_X10_drawn {l : Launch} {D : va_G} {dA : Nat → ClassId} {A : Nat → Prop} {h : ZH} {n : Nat} (a0 : Int32) (a1 : Int32) {r : Int32} (hf : f_X10_drawn h a0 a1 = some r) : Met l yX10_drawn (zz_ws yX10_drawn cX10_drawn 2 (some .int)) rm_X10_drawn (zz_P D dA A h n [.int (a0), .int (a1)]) (zz_Q D dA A (some (.int r)) h n) 0 0 A := by
  refine zz_met (by decide) (Nat.le_of_ble_eq_true rfl) ?_
  intro p e s m args below meth c ls S K hret hlk hnm hl Z
  replace hl : lv_has ls 2 [(0, .int (a0)), (1, .int (a1))] := hl
  obtain ⟨K0, hR0, hk⟩ : ∃ K0 : (Int32) → Prop, (∀ x, K0 x → x = r) ∧ K0 r := ⟨fun x => x = r, fun _ h => h, rfl⟩
  have hv := hf
  unfold f_X10_drawn at hv
  clear hf
  obtain ⟨x, hxx⟩ : ∃ x, x = r := ⟨_, rfl⟩
  rw [← hxx] at hv hk
  have ⟨H, hH⟩ : ∃ H, H = s.heap := ⟨_, rfl⟩
  have ⟨locs, hlo⟩ : ∃ q : List Loc, q = [] := ⟨_, rfl⟩
  have Z : zz_B D dA A h n s.heap H locs := by rw [hH, hlo]; exact Z
  have key : zz_W p l e rm_X10_drawn s m args below meth c D dA A (some (.int r)) h n 0 0 H locs 0 0 0 ls [] := by
    clear hH hlo hxx
    refine lv_iload_n S.1 S.2.1 dX10_drawn_0 rfl (lv_at hl 1 rfl) ?_
    refine lv_iconst (v := (1 : Int32)) S.1 S.2.1 dX10_drawn_1 (by decide) ?_
    refine lv_icmp_ge (tgt := 9) S.1 S.2.1 dX10_drawn_2 (by decide) (fun hc => ?_) (fun hc => ?_)
    · replace hv := (if_pos hc).symm.trans hv
      refine lv_iload_n S.1 S.2.1 dX10_drawn_9 rfl (lv_at hl 0 rfl) ?_
      refine lv_bipush (v := (16 : Int32)) S.1 S.2.1 dX10_drawn_10 (by decide) ?_
      refine lv_iushr S.1 S.2.1 dX10_drawn_12 rfl ?_
      refine lv_sipush (v := (32767 : Int32)) S.1 S.2.1 dX10_drawn_13 (by decide) ?_
      refine lv_iand S.1 S.2.1 dX10_drawn_16 ?_
      refine lv_iload_n S.1 S.2.1 dX10_drawn_17 rfl (lv_at hl 1 rfl) ?_
      obtain ⟨hne, hv⟩ := zz_ne_s hv
      refine lv_irem S.1 S.2.1 dX10_drawn_18 hne ?_
      replace hk := zz_fin hv hk
      obtain rfl := hR0 _ hk
      exact zz_iret S Z hret hlk dX10_drawn_19 (Nat.le_refl _) (Nat.le_refl _)
    · replace hv := (if_neg hc).symm.trans hv
      refine lv_iconst (v := (0 : Int32)) S.1 S.2.1 dX10_drawn_5 (by decide) ?_
      refine lv_goto (tgt := 19) S.1 S.2.1 dX10_drawn_6 (by decide) ?_
      replace hk := zz_fin hv hk
      obtain rfl := hR0 _ hk
      exact zz_iret S Z hret hlk dX10_drawn_19 (Nat.le_refl _) (Nat.le_refl _)
  rw [hH, hlo] at key
  exact key

noncomputable def f_X10_act (h : ZH) (a0 : Nat) (a1 : Nat) (a2 : Nat) : Option (Int32 × ZH) :=
  (zg_I h a1 4 4).bind fun v1 => if v1 = (1 : Int32) then ((zg_I h a1 4 5).bind fun v2 => (zg_I h a1 4 5).bind fun v3 => zz_isO h a2 3 <| (f_X4_flag h a2 v3).bind fun v4 => (zg_I h a1 4 6).bind fun v5 => zz_isO h a2 3 <| (f_X4_setFlag h a2 v2 (v4 + v5)).bind fun h6 => some (((0 : Int32), h6))) else (if v1 = (2 : Int32) then (zz_isO h a0 8 <| (f_X10_divide h a0 a1 a2).bind fun (v7, h8) => some ((v7, h8))) else (if v1 = (3 : Int32) then ((zg_I h a1 4 5).bind fun v9 => (zg_I h a1 4 6).bind fun v10 => zz_isO h a2 3 <| (f_X4_flag h a2 v10).bind fun v11 => zz_isO h a0 8 <| (f_X10_takeItem h a0 v9 (2 : Int32) v11 a2).bind fun (v12, h13) => some ((v12, h13))) else (if v1 = (4 : Int32) then ((zg_I h a1 4 5).bind fun v14 => zz_isO h a0 8 <| (f_X10_takeItem h a0 v14 (1 : Int32) (0 : Int32) a2).bind fun (v15, h16) => some ((v15, h16))) else (if v1 = (5 : Int32) then ((zg_I h a2 3 2).bind fun v17 => (f_X10_nextSeed h v17).bind fun v18 => (zp_V h a2 3 2 (.int (v18))).bind fun h19 => (zg_I h19 a1 4 5).bind fun v20 => (zg_I h19 a2 3 2).bind fun v21 => (zg_I h19 a1 4 6).bind fun v22 => (f_X10_drawn h19 v21 v22).bind fun v23 => zz_isO h19 a2 3 <| (f_X4_setFlag h19 a2 v20 v23).bind fun h24 => some (((0 : Int32), h24))) else (if v1 = (6 : Int32) then ((zg_I h a1 4 5).bind fun v25 => (zp_V h a2 3 3 (.int (v25))).bind fun h26 => some (((0 : Int32), h26))) else (some (((0 : Int32), h))))))))
abbrev rm_X10_act : Room := { frames := 2, cells := 0, slots := 0, locals := 47 }
set_option maxRecDepth 100000 in
set_option maxHeartbeats 4000000 in
theorem c_X10_act {l : Launch} {D : va_G} {dA : Nat → ClassId} {A : Nat → Prop} {h : ZH} {n : Nat} (a0 : Nat) (a1 : Nat) (a2 : Nat) {r : Int32} {hx : ZH} (hf : f_X10_act h a0 a1 a2 = some (r, hx)) : Met l yX10_act (zz_ws yX10_act cX10_act 3 (some .int)) rm_X10_act (zz_P D dA A h n [.ref (a0), .ref (a1), .ref (a2)]) (zz_Q D dA A (some (.int r)) hx n) 0 0 A := by
  refine zz_met (by decide) (Nat.le_of_ble_eq_true rfl) ?_
  intro p e s m args below meth c ls S K hret hlk hnm hl Z
  replace hl : lv_has ls 3 [(0, .ref (a0)), (1, .ref (a1)), (2, .ref (a2))] := hl
  obtain ⟨K0, hR0, hk⟩ : ∃ K0 : (Int32 × ZH) → Prop, (∀ x, K0 x → x = (r, hx)) ∧ K0 (r, hx) := ⟨fun x => x = (r, hx), fun _ h => h, rfl⟩
  have hv := hf
  unfold f_X10_act at hv
  clear hf
  obtain ⟨x, hxx⟩ : ∃ x, x = (r, hx) := ⟨_, rfl⟩
  rw [← hxx] at hv hk
  have ⟨H, hH⟩ : ∃ H, H = s.heap := ⟨_, rfl⟩
  have ⟨locs, hlo⟩ : ∃ q : List Loc, q = [] := ⟨_, rfl⟩
  have Z : zz_B D dA A h n s.heap H locs := by rw [hH, hlo]; exact Z
  have key : zz_W p l e rm_X10_act s m args below meth c D dA A (some (.int r)) hx n 0 0 H locs 0 0 0 ls [] := by
    clear hH hlo hxx
    refine lv_aload_n S.1 S.2.1 dX10_act_0 rfl (lv_at hl 1 rfl) ?_
    refine zz_gI S K Z hv zc_4 (by decide) gf_X10_74 dX10_act_1 (fun v1 hv => ?_)
    by_cases hc1 : v1 = (1 : Int32)
    · replace hv := (if_pos hc1).symm.trans hv
      refine lv_tableIn (tgt := 44) S.1 S.2.1 dX10_act_4 (by rw [hc1]; decide) (by rw [hc1]; decide) (by rw [hc1]; rfl) (by decide) ?_
      refine lv_aload_n S.1 S.2.1 dX10_act_44 rfl (lv_at hl 2 rfl) ?_
      refine lv_aload_n S.1 S.2.1 dX10_act_45 rfl (lv_at hl 1 rfl) ?_
      refine zz_gI S K Z hv zc_4 (by decide) gf_X10_76 dX10_act_46 (fun v2 hv => ?_)
      refine lv_aload_n S.1 S.2.1 dX10_act_49 rfl (lv_at hl 2 rfl) ?_
      refine lv_aload_n S.1 S.2.1 dX10_act_50 rfl (lv_at hl 1 rfl) ?_
      refine zz_gI S K Z hv zc_4 (by decide) gf_X10_76 dX10_act_51 (fun v3 hv => ?_)
      obtain ⟨hci, hv⟩ := zz_isO_s hv
      obtain ⟨v4, hq, hv⟩ := zz_bd hv
      refine zz_V [.int (v3)] S K Z hci zc_3 rfl (c_X4_flag a2 v3 hq) ⟨rfl, rfl⟩ gm_X4_flag gmv_X4_flag gl_X10_79 ⟨by decide, by decide⟩ rfl hl.1 rfl (Nat.le_of_ble_eq_true rfl) dX10_act_54 ⟨Nat.zero_le _, Nat.zero_le _⟩ (fun H locs Z => ?_)
      show W _ _ _ _ _ _ _ _ _ _ _ _ 0 0 _ (F0 m 57 ls [.int (v4), .int (v2), .ref (a2)])
      refine lv_aload_n S.1 S.2.1 dX10_act_57 rfl (lv_at hl 1 rfl) ?_
      refine zz_gI S K Z hv zc_4 (by decide) gf_X10_83 dX10_act_58 (fun v5 hv => ?_)
      refine lv_iadd S.1 S.2.1 dX10_act_61 ?_
      obtain ⟨hci, hv⟩ := zz_isO_s hv
      obtain ⟨h6, hq, hv⟩ := zz_bd hv
      refine zz_V [.int (v2), .int (v4 + v5)] S K Z hci zc_3 rfl (c_X4_setFlag a2 v2 (v4 + v5) hq) ⟨rfl, rfl⟩ gm_X4_setFlag gmv_X4_setFlag gl_X10_86 ⟨by decide, by decide⟩ rfl hl.1 rfl (Nat.le_of_ble_eq_true rfl) dX10_act_62 ⟨Nat.zero_le _, Nat.zero_le _⟩ (fun H locs Z => ?_)
      show W _ _ _ _ _ _ _ _ _ _ _ _ 0 0 _ (F0 m 65 ls [])
      refine lv_iconst (v := (0 : Int32)) S.1 S.2.1 dX10_act_65 (by decide) ?_
      replace hk := zz_fin hv hk
      obtain ⟨rfl, rfl⟩ := Prod.mk.inj (hR0 _ hk)
      exact zz_iret S Z hret hlk dX10_act_66 (Nat.le_refl _) (Nat.le_refl _)
    · replace hv := (if_neg hc1).symm.trans hv
      by_cases hc2 : v1 = (2 : Int32)
      · replace hv := (if_pos hc2).symm.trans hv
        refine lv_tableIn (tgt := 67) S.1 S.2.1 dX10_act_4 (by rw [hc2]; decide) (by rw [hc2]; decide) (by rw [hc2]; rfl) (by decide) ?_
        refine lv_aload_n S.1 S.2.1 dX10_act_67 rfl (lv_at hl 0 rfl) ?_
        refine lv_aload_n S.1 S.2.1 dX10_act_68 rfl (lv_at hl 1 rfl) ?_
        refine lv_aload_n S.1 S.2.1 dX10_act_69 rfl (lv_at hl 2 rfl) ?_
        obtain ⟨hci, hv⟩ := zz_isO_s hv
        obtain ⟨⟨v7, h8⟩, hq, hv⟩ := zz_bd hv
        refine zz_V [.ref (a1), .ref (a2)] S K Z hci zc_8 rfl (c_X10_divide a0 a1 a2 hq) ⟨rfl, rfl⟩ gm_X10_divide gmv_X10_divide gl_X10_89 ⟨by decide, by decide⟩ rfl hl.1 rfl (Nat.le_of_ble_eq_true rfl) dX10_act_70 ⟨Nat.zero_le _, Nat.zero_le _⟩ (fun H locs Z => ?_)
        show W _ _ _ _ _ _ _ _ _ _ _ _ 0 0 _ (F0 m 73 ls [.int (v7)])
        replace hk := zz_fin hv hk
        obtain ⟨rfl, rfl⟩ := Prod.mk.inj (hR0 _ hk)
        exact zz_iret S Z hret hlk dX10_act_73 (Nat.le_refl _) (Nat.le_refl _)
      · replace hv := (if_neg hc2).symm.trans hv
        by_cases hc3 : v1 = (3 : Int32)
        · replace hv := (if_pos hc3).symm.trans hv
          refine lv_tableIn (tgt := 74) S.1 S.2.1 dX10_act_4 (by rw [hc3]; decide) (by rw [hc3]; decide) (by rw [hc3]; rfl) (by decide) ?_
          refine lv_aload_n S.1 S.2.1 dX10_act_74 rfl (lv_at hl 0 rfl) ?_
          refine lv_aload_n S.1 S.2.1 dX10_act_75 rfl (lv_at hl 1 rfl) ?_
          refine zz_gI S K Z hv zc_4 (by decide) gf_X10_76 dX10_act_76 (fun v9 hv => ?_)
          refine lv_iconst (v := (2 : Int32)) S.1 S.2.1 dX10_act_79 (by decide) ?_
          refine lv_aload_n S.1 S.2.1 dX10_act_80 rfl (lv_at hl 2 rfl) ?_
          refine lv_aload_n S.1 S.2.1 dX10_act_81 rfl (lv_at hl 1 rfl) ?_
          refine zz_gI S K Z hv zc_4 (by decide) gf_X10_83 dX10_act_82 (fun v10 hv => ?_)
          obtain ⟨hci, hv⟩ := zz_isO_s hv
          obtain ⟨v11, hq, hv⟩ := zz_bd hv
          refine zz_V [.int (v10)] S K Z hci zc_3 rfl (c_X4_flag a2 v10 hq) ⟨rfl, rfl⟩ gm_X4_flag gmv_X4_flag gl_X10_79 ⟨by decide, by decide⟩ rfl hl.1 rfl (Nat.le_of_ble_eq_true rfl) dX10_act_85 ⟨Nat.zero_le _, Nat.zero_le _⟩ (fun H locs Z => ?_)
          show W _ _ _ _ _ _ _ _ _ _ _ _ 0 0 _ (F0 m 88 ls [.int (v11), .int ((2 : Int32)), .int (v9), .ref (a0)])
          refine lv_aload_n S.1 S.2.1 dX10_act_88 rfl (lv_at hl 2 rfl) ?_
          obtain ⟨hci, hv⟩ := zz_isO_s hv
          obtain ⟨⟨v12, h13⟩, hq, hv⟩ := zz_bd hv
          refine zz_V [.int (v9), .int ((2 : Int32)), .int (v11), .ref (a2)] S K Z hci zc_8 rfl (c_X10_takeItem a0 v9 (2 : Int32) v11 a2 hq) ⟨rfl, rfl⟩ gm_X10_takeItem gmv_X10_takeItem gl_X10_92 ⟨by decide, by decide⟩ rfl hl.1 rfl (Nat.le_of_ble_eq_true rfl) dX10_act_89 ⟨Nat.zero_le _, Nat.zero_le _⟩ (fun H locs Z => ?_)
          show W _ _ _ _ _ _ _ _ _ _ _ _ 0 0 _ (F0 m 92 ls [.int (v12)])
          replace hk := zz_fin hv hk
          obtain ⟨rfl, rfl⟩ := Prod.mk.inj (hR0 _ hk)
          exact zz_iret S Z hret hlk dX10_act_92 (Nat.le_refl _) (Nat.le_refl _)
        · replace hv := (if_neg hc3).symm.trans hv
          by_cases hc4 : v1 = (4 : Int32)
          · replace hv := (if_pos hc4).symm.trans hv
            refine lv_tableIn (tgt := 93) S.1 S.2.1 dX10_act_4 (by rw [hc4]; decide) (by rw [hc4]; decide) (by rw [hc4]; rfl) (by decide) ?_
            refine lv_aload_n S.1 S.2.1 dX10_act_93 rfl (lv_at hl 0 rfl) ?_
            refine lv_aload_n S.1 S.2.1 dX10_act_94 rfl (lv_at hl 1 rfl) ?_
            refine zz_gI S K Z hv zc_4 (by decide) gf_X10_76 dX10_act_95 (fun v14 hv => ?_)
            refine lv_iconst (v := (1 : Int32)) S.1 S.2.1 dX10_act_98 (by decide) ?_
            refine lv_iconst (v := (0 : Int32)) S.1 S.2.1 dX10_act_99 (by decide) ?_
            refine lv_aload_n S.1 S.2.1 dX10_act_100 rfl (lv_at hl 2 rfl) ?_
            obtain ⟨hci, hv⟩ := zz_isO_s hv
            obtain ⟨⟨v15, h16⟩, hq, hv⟩ := zz_bd hv
            refine zz_V [.int (v14), .int ((1 : Int32)), .int ((0 : Int32)), .ref (a2)] S K Z hci zc_8 rfl (c_X10_takeItem a0 v14 (1 : Int32) (0 : Int32) a2 hq) ⟨rfl, rfl⟩ gm_X10_takeItem gmv_X10_takeItem gl_X10_92 ⟨by decide, by decide⟩ rfl hl.1 rfl (Nat.le_of_ble_eq_true rfl) dX10_act_101 ⟨Nat.zero_le _, Nat.zero_le _⟩ (fun H locs Z => ?_)
            show W _ _ _ _ _ _ _ _ _ _ _ _ 0 0 _ (F0 m 104 ls [.int (v15)])
            replace hk := zz_fin hv hk
            obtain ⟨rfl, rfl⟩ := Prod.mk.inj (hR0 _ hk)
            exact zz_iret S Z hret hlk dX10_act_104 (Nat.le_refl _) (Nat.le_refl _)
          · replace hv := (if_neg hc4).symm.trans hv
            by_cases hc5 : v1 = (5 : Int32)
            · replace hv := (if_pos hc5).symm.trans hv
              refine lv_tableIn (tgt := 105) S.1 S.2.1 dX10_act_4 (by rw [hc5]; decide) (by rw [hc5]; decide) (by rw [hc5]; rfl) (by decide) ?_
              refine lv_aload_n S.1 S.2.1 dX10_act_105 rfl (lv_at hl 2 rfl) ?_
              refine lv_aload_n S.1 S.2.1 dX10_act_106 rfl (lv_at hl 2 rfl) ?_
              refine zz_gI S K Z hv zc_3 (by decide) gf_X10_96 dX10_act_107 (fun v17 hv => ?_)
              obtain ⟨v18, hq, hv⟩ := zz_bd hv
              refine zz_S [.int (v17)] S K Z (c_X10_nextSeed v17 hq) ⟨rfl, rfl⟩ gm_X10_nextSeed gs_X10_nextSeed gl_X10_99 ⟨by decide, by decide⟩ rfl hl.1 rfl (Nat.le_of_ble_eq_true rfl) dX10_act_110 ⟨Nat.zero_le _, Nat.zero_le _⟩ (fun H locs Z => ?_)
              show W _ _ _ _ _ _ _ _ _ _ _ _ 0 0 _ (F0 m 113 ls [.int (v18), .ref (a2)])
              refine zz_put S K Z hv zc_3 (by decide) gf_X10_96 rfl rfl rfl dX10_act_113 (fun h19 H locs hv Z => ?_)
              refine lv_aload_n S.1 S.2.1 dX10_act_116 rfl (lv_at hl 2 rfl) ?_
              refine lv_aload_n S.1 S.2.1 dX10_act_117 rfl (lv_at hl 1 rfl) ?_
              refine zz_gI S K Z hv zc_4 (by decide) gf_X10_76 dX10_act_118 (fun v20 hv => ?_)
              refine lv_aload_n S.1 S.2.1 dX10_act_121 rfl (lv_at hl 2 rfl) ?_
              refine zz_gI S K Z hv zc_3 (by decide) gf_X10_96 dX10_act_122 (fun v21 hv => ?_)
              refine lv_aload_n S.1 S.2.1 dX10_act_125 rfl (lv_at hl 1 rfl) ?_
              refine zz_gI S K Z hv zc_4 (by decide) gf_X10_83 dX10_act_126 (fun v22 hv => ?_)
              obtain ⟨v23, hq, hv⟩ := zz_bd hv
              refine zz_S [.int (v21), .int (v22)] S K Z (c_X10_drawn v21 v22 hq) ⟨rfl, rfl⟩ gm_X10_drawn gs_X10_drawn gl_X10_102 ⟨by decide, by decide⟩ rfl hl.1 rfl (Nat.le_of_ble_eq_true rfl) dX10_act_129 ⟨Nat.zero_le _, Nat.zero_le _⟩ (fun H locs Z => ?_)
              show W _ _ _ _ _ _ _ _ _ _ _ _ 0 0 _ (F0 m 132 ls [.int (v23), .int (v20), .ref (a2)])
              obtain ⟨hci, hv⟩ := zz_isO_s hv
              obtain ⟨h24, hq, hv⟩ := zz_bd hv
              refine zz_V [.int (v20), .int (v23)] S K Z hci zc_3 rfl (c_X4_setFlag a2 v20 v23 hq) ⟨rfl, rfl⟩ gm_X4_setFlag gmv_X4_setFlag gl_X10_86 ⟨by decide, by decide⟩ rfl hl.1 rfl (Nat.le_of_ble_eq_true rfl) dX10_act_132 ⟨Nat.zero_le _, Nat.zero_le _⟩ (fun H locs Z => ?_)
              show W _ _ _ _ _ _ _ _ _ _ _ _ 0 0 _ (F0 m 135 ls [])
              refine lv_iconst (v := (0 : Int32)) S.1 S.2.1 dX10_act_135 (by decide) ?_
              replace hk := zz_fin hv hk
              obtain ⟨rfl, rfl⟩ := Prod.mk.inj (hR0 _ hk)
              exact zz_iret S Z hret hlk dX10_act_136 (Nat.le_refl _) (Nat.le_refl _)
            · replace hv := (if_neg hc5).symm.trans hv
              by_cases hc6 : v1 = (6 : Int32)
              · replace hv := (if_pos hc6).symm.trans hv
                refine lv_tableIn (tgt := 137) S.1 S.2.1 dX10_act_4 (by rw [hc6]; decide) (by rw [hc6]; decide) (by rw [hc6]; rfl) (by decide) ?_
                refine lv_aload_n S.1 S.2.1 dX10_act_137 rfl (lv_at hl 2 rfl) ?_
                refine lv_aload_n S.1 S.2.1 dX10_act_138 rfl (lv_at hl 1 rfl) ?_
                refine zz_gI S K Z hv zc_4 (by decide) gf_X10_76 dX10_act_139 (fun v25 hv => ?_)
                refine zz_put S K Z hv zc_3 (by decide) gf_X10_106 rfl rfl rfl dX10_act_142 (fun h26 H locs hv Z => ?_)
                refine lv_iconst (v := (0 : Int32)) S.1 S.2.1 dX10_act_145 (by decide) ?_
                replace hk := zz_fin hv hk
                obtain ⟨rfl, rfl⟩ := Prod.mk.inj (hR0 _ hk)
                exact zz_iret S Z hret hlk dX10_act_146 (Nat.le_refl _) (Nat.le_refl _)
              · replace hv := (if_neg hc6).symm.trans hv
                refine lv_tableOut (tgt := 147) S.1 S.2.1 dX10_act_4 (zz_sw_out (fun k h1 h2 => by
                  have h3 : k = 1 ∨ k = 2 ∨ k = 3 ∨ k = 4 ∨ k = 5 ∨ k = 6 := by omega
                  rcases h3 with rfl | rfl | rfl | rfl | rfl | rfl
                  · exact hc1
                  · exact hc2
                  · exact hc3
                  · exact hc4
                  · exact hc5
                  · exact hc6)) (by decide) ?_
                refine lv_iconst (v := (0 : Int32)) S.1 S.2.1 dX10_act_147 (by decide) ?_
                replace hk := zz_fin hv hk
                obtain ⟨rfl, rfl⟩ := Prod.mk.inj (hR0 _ hk)
                exact zz_iret S Z hret hlk dX10_act_148 (Nat.le_refl _) (Nat.le_refl _)
  rw [hH, hlo] at key
  exact key

noncomputable def f_X10_say_J35 (h : ZH) (a0 : Nat) (a1 : Nat) (a2 : Int32) (h5 : ZH) : Option (Int32 × ZH) :=
  (zp_V h5 a1 3 4 (.int ((-1 : Int32)))).bind fun h6 => some (((-1 : Int32), h6))
noncomputable def f_X10_say_J87 (h : ZH) (a0 : Nat) (a1 : Nat) (a2 : Int32) (x3_14 : Int32) (x4_15 : Nat) (h16 : ZH) : Option (Int32 × ZH) :=
  (zg_I h16 x4_15 4 7).bind fun v17 => (zp_V h16 a1 3 4 (.int (v17))).bind fun h18 => some ((x3_14, h18))
noncomputable def f_X10_say_J21 (h : ZH) (a0 : Nat) (a1 : Nat) (a2 : Int32) (s3 : Int32) (h4 : ZH) : Option (Int32 × ZH) :=
  if s3 < 0 then (f_X10_say_J35 h a0 a1 a2 h4) else ((zg_R h4 a0 8 2).bind fun v7 => (zl_N h4 v7 7).bind fun v8 => if s3 < v8 then ((zg_R h4 a0 8 2).bind fun v9 => (zl_R h4 v9 7 s3).bind fun v10 => zz_isO h4 a0 8 <| (f_X10_act h4 a0 v10 a1).bind fun (v11, h12) => if v11 = 0 then ((zg_I h12 v10 4 8).bind fun v13 => if v13 = (-1 : Int32) then (f_X10_say_J87 h a0 a1 a2 s3 v10 h12) else ((zg_I h12 v10 4 8).bind fun v19 => (zp_V h12 a1 3 1 (.int (v19))).bind fun h20 => f_X10_say_J87 h a0 a1 a2 s3 v10 h20)) else (some (((-1 : Int32) - v11, h12)))) else (f_X10_say_J35 h a0 a1 a2 h4))
noncomputable def f_X10_say (h : ZH) (a0 : Nat) (a1 : Nat) (a2 : Int32) : Option (Int32 × ZH) :=
  (zg_R h a0 8 0).bind fun v1 => zz_isO h v1 1 <| (f_X1_has h v1 a2).bind fun v2 => if v2 = 0 then (f_X10_say_J21 h a0 a1 a2 (-1 : Int32) h) else (zz_isO h a0 8 <| (f_X10_firstThatFits h a0 a1 a2).bind fun v21 => f_X10_say_J21 h a0 a1 a2 v21 h)
abbrev rm_X10_say : Room := { frames := 3, cells := 0, slots := 0, locals := 69 }
set_option maxRecDepth 100000 in
set_option maxHeartbeats 4000000 in
theorem c_X10_say {l : Launch} {D : va_G} {dA : Nat → ClassId} {A : Nat → Prop} {h : ZH} {n : Nat} (a0 : Nat) (a1 : Nat) (a2 : Int32) {r : Int32} {hx : ZH} (hf : f_X10_say h a0 a1 a2 = some (r, hx)) : Met l yX10_say (zz_ws yX10_say cX10_say 6 (some .int)) rm_X10_say (zz_P D dA A h n [.ref (a0), .ref (a1), .int (a2)]) (zz_Q D dA A (some (.int r)) hx n) 0 0 A := by
  refine zz_met (by decide) (Nat.le_of_ble_eq_true rfl) ?_
  intro p e s m args below meth c ls S K hret hlk hnm hl Z
  replace hl : lv_has ls 6 [(0, .ref (a0)), (1, .ref (a1)), (2, .int (a2))] := hl
  obtain ⟨K0, hR0, hk⟩ : ∃ K0 : (Int32 × ZH) → Prop, (∀ x, K0 x → x = (r, hx)) ∧ K0 (r, hx) := ⟨fun x => x = (r, hx), fun _ h => h, rfl⟩
  have J35 : ∀ (h5 : ZH) (x : (Int32 × ZH)), f_X10_say_J35 h a0 a1 a2 h5 = some x → K0 x → ∀ (H : Heap) (locs : List Loc) (ls : Array Slot), zz_B D dA A h5 n s.heap H locs → lv_has ls 6 [(1, .ref (a1))] → zz_W p l e rm_X10_say s m args below meth c D dA A (some (.int r)) hx n 0 0 H locs 0 0 35 ls [] := by
    intro h5 x hv hk H locs ls Z hl
    unfold f_X10_say_J35 at hv
    refine lv_aload_n S.1 S.2.1 dX10_say_35 rfl (lv_at hl 0 rfl) ?_
    refine lv_iconst (v := (-1 : Int32)) S.1 S.2.1 dX10_say_36 (by decide) ?_
    refine zz_put S K Z hv zc_3 (by decide) gf_X10_52 rfl rfl rfl dX10_say_37 (fun h6 H locs hv Z => ?_)
    refine lv_iconst (v := (-1 : Int32)) S.1 S.2.1 dX10_say_40 (by decide) ?_
    replace hk := zz_fin hv hk
    obtain ⟨rfl, rfl⟩ := Prod.mk.inj (hR0 _ hk)
    exact zz_iret S Z hret hlk dX10_say_41 (Nat.le_refl _) (Nat.le_refl _)
  have J87 : ∀ (x3_14 : Int32) (x4_15 : Nat) (h16 : ZH) (x : (Int32 × ZH)), f_X10_say_J87 h a0 a1 a2 x3_14 x4_15 h16 = some x → K0 x → ∀ (H : Heap) (locs : List Loc) (ls : Array Slot), zz_B D dA A h16 n s.heap H locs → lv_has ls 6 [(1, .ref (a1)), (3, .int (x3_14)), (4, .ref (x4_15))] → zz_W p l e rm_X10_say s m args below meth c D dA A (some (.int r)) hx n 0 0 H locs 0 0 87 ls [] := by
    intro x3_14 x4_15 h16 x hv hk H locs ls Z hl
    unfold f_X10_say_J87 at hv
    refine lv_aload_n S.1 S.2.1 dX10_say_87 rfl (lv_at hl 0 rfl) ?_
    refine lv_aload S.1 S.2.1 dX10_say_88 (lv_at hl 2 rfl) ?_
    refine zz_gI S K Z hv zc_4 (by decide) gf_X10_67 dX10_say_90 (fun v17 hv => ?_)
    refine zz_put S K Z hv zc_3 (by decide) gf_X10_52 rfl rfl rfl dX10_say_93 (fun h18 H locs hv Z => ?_)
    refine lv_iload_n S.1 S.2.1 dX10_say_96 rfl (lv_at hl 1 rfl) ?_
    replace hk := zz_fin hv hk
    obtain ⟨rfl, rfl⟩ := Prod.mk.inj (hR0 _ hk)
    exact zz_iret S Z hret hlk dX10_say_97 (Nat.le_refl _) (Nat.le_refl _)
  have J21 : ∀ (s3 : Int32) (h4 : ZH) (x : (Int32 × ZH)), f_X10_say_J21 h a0 a1 a2 s3 h4 = some x → K0 x → ∀ (H : Heap) (locs : List Loc) (ls : Array Slot), zz_B D dA A h4 n s.heap H locs → lv_has ls 6 [(0, .ref (a0)), (1, .ref (a1))] → zz_W p l e rm_X10_say s m args below meth c D dA A (some (.int r)) hx n 0 0 H locs 0 0 21 ls [.int (s3)] := by
    intro s3 h4 x hv hk H locs ls Z hl
    unfold f_X10_say_J21 at hv
    refine lv_istore_n (lv' := [(3, .int (s3)), (0, .ref (a0)), (1, .ref (a1))]) S.1 S.2.1 dX10_say_21 rfl hl (by decide) rfl (fun ls hl => ?_)
    refine lv_iload_n S.1 S.2.1 dX10_say_22 rfl (lv_at hl 0 rfl) ?_
    refine lv_if_lt (tgt := 35) S.1 S.2.1 dX10_say_23 (by decide) (fun hc => ?_) (fun hc => ?_)
    · replace hv := (if_pos hc).symm.trans hv
      exact J35 h4 _ hv hk H locs ls Z (lv_sub hl [2] rfl)
    · replace hv := (if_neg hc).symm.trans hv
      refine lv_iload_n S.1 S.2.1 dX10_say_26 rfl (lv_at hl 0 rfl) ?_
      refine lv_aload_n S.1 S.2.1 dX10_say_27 rfl (lv_at hl 1 rfl) ?_
      refine zz_gR S K Z hv zc_8 (by decide) gf_X10_25 dX10_say_28 (fun v7 hv => ?_)
      refine zz_alen S K Z hv rfl dX10_say_31 (fun v8 hv => ?_)
      refine lv_icmp_lt (tgt := 42) S.1 S.2.1 dX10_say_32 (by decide) (fun hc => ?_) (fun hc => ?_)
      · replace hv := (if_pos hc).symm.trans hv
        refine lv_aload_n S.1 S.2.1 dX10_say_42 rfl (lv_at hl 1 rfl) ?_
        refine zz_gR S K Z hv zc_8 (by decide) gf_X10_25 dX10_say_43 (fun v9 hv => ?_)
        refine lv_iload_n S.1 S.2.1 dX10_say_46 rfl (lv_at hl 0 rfl) ?_
        refine zz_aald S K Z hv rfl dX10_say_47 (fun v10 hv => ?_)
        refine lv_astore (lv' := [(4, .ref (v10)), (3, .int (s3)), (0, .ref (a0)), (1, .ref (a1))]) S.1 S.2.1 dX10_say_48 hl (by decide) rfl (fun ls hl => ?_)
        refine lv_aload_n S.1 S.2.1 dX10_say_50 rfl (lv_at hl 2 rfl) ?_
        refine lv_aload S.1 S.2.1 dX10_say_51 (lv_at hl 0 rfl) ?_
        refine lv_aload_n S.1 S.2.1 dX10_say_53 rfl (lv_at hl 3 rfl) ?_
        obtain ⟨hci, hv⟩ := zz_isO_s hv
        obtain ⟨⟨v11, h12⟩, hq, hv⟩ := zz_bd hv
        refine zz_V [.ref (v10), .ref (a1)] S K Z hci zc_8 rfl (c_X10_act a0 v10 a1 hq) ⟨rfl, rfl⟩ gm_X10_act gmv_X10_act gl_X10_57 ⟨by decide, by decide⟩ rfl hl.1 rfl (Nat.le_of_ble_eq_true rfl) dX10_say_54 ⟨Nat.zero_le _, Nat.zero_le _⟩ (fun H locs Z => ?_)
        show W _ _ _ _ _ _ _ _ _ _ _ _ 0 0 _ (F0 m 57 ls [.int (v11)])
        refine lv_istore (lv' := [(5, .int (v11)), (4, .ref (v10)), (3, .int (s3)), (0, .ref (a0)), (1, .ref (a1))]) S.1 S.2.1 dX10_say_57 hl (by decide) rfl (fun ls hl => ?_)
        refine lv_iload S.1 S.2.1 dX10_say_59 (lv_at hl 0 rfl) ?_
        refine lv_if_eq (tgt := 69) S.1 S.2.1 dX10_say_61 (by decide) (fun hc => ?_) (fun hc => ?_)
        · replace hv := (if_pos hc).symm.trans hv
          refine lv_aload S.1 S.2.1 dX10_say_69 (lv_at hl 1 rfl) ?_
          refine zz_gI S K Z hv zc_4 (by decide) gf_X10_61 dX10_say_71 (fun v13 hv => ?_)
          refine lv_iconst (v := (-1 : Int32)) S.1 S.2.1 dX10_say_74 (by decide) ?_
          refine lv_icmp_eq (tgt := 87) S.1 S.2.1 dX10_say_75 (by decide) (fun hc => ?_) (fun hc => ?_)
          · replace hv := (if_pos hc).symm.trans hv
            exact J87 s3 v10 h12 _ hv hk H locs ls Z (lv_sub hl [4, 2, 1] rfl)
          · replace hv := (if_neg hc).symm.trans hv
            refine lv_aload_n S.1 S.2.1 dX10_say_78 rfl (lv_at hl 4 rfl) ?_
            refine lv_aload S.1 S.2.1 dX10_say_79 (lv_at hl 1 rfl) ?_
            refine zz_gI S K Z hv zc_4 (by decide) gf_X10_61 dX10_say_81 (fun v19 hv => ?_)
            refine zz_put S K Z hv zc_3 (by decide) gf_X10_64 rfl rfl rfl dX10_say_84 (fun h20 H locs hv Z => ?_)
            exact J87 s3 v10 h20 _ hv hk H locs ls Z (lv_sub hl [4, 2, 1] rfl)
        · replace hv := (if_neg hc).symm.trans hv
          refine lv_iconst (v := (-1 : Int32)) S.1 S.2.1 dX10_say_64 (by decide) ?_
          refine lv_iload S.1 S.2.1 dX10_say_65 (lv_at hl 0 rfl) ?_
          refine lv_isub S.1 S.2.1 dX10_say_67 ?_
          replace hk := zz_fin hv hk
          obtain ⟨rfl, rfl⟩ := Prod.mk.inj (hR0 _ hk)
          exact zz_iret S Z hret hlk dX10_say_68 (Nat.le_refl _) (Nat.le_refl _)
      · replace hv := (if_neg hc).symm.trans hv
        exact J35 h4 _ hv hk H locs ls Z (lv_sub hl [2] rfl)
  have hv := hf
  unfold f_X10_say at hv
  clear hf
  obtain ⟨x, hxx⟩ : ∃ x, x = (r, hx) := ⟨_, rfl⟩
  rw [← hxx] at hv hk
  have ⟨H, hH⟩ : ∃ H, H = s.heap := ⟨_, rfl⟩
  have ⟨locs, hlo⟩ : ∃ q : List Loc, q = [] := ⟨_, rfl⟩
  have Z : zz_B D dA A h n s.heap H locs := by rw [hH, hlo]; exact Z
  have key : zz_W p l e rm_X10_say s m args below meth c D dA A (some (.int r)) hx n 0 0 H locs 0 0 0 ls [] := by
    clear hH hlo hxx
    refine lv_aload_n S.1 S.2.1 dX10_say_0 rfl (lv_at hl 0 rfl) ?_
    refine zz_gR S K Z hv zc_8 (by decide) gf_X10_14 dX10_say_1 (fun v1 hv => ?_)
    refine lv_iload_n S.1 S.2.1 dX10_say_4 rfl (lv_at hl 2 rfl) ?_
    obtain ⟨hci, hv⟩ := zz_isO_s hv
    obtain ⟨v2, hq, hv⟩ := zz_bd hv
    refine zz_V [.int (a2)] S K Z hci zc_1 rfl (c_X1_has v1 a2 hq) ⟨rfl, rfl⟩ gm_X1_has gmv_X1_has gl_X10_44 ⟨by decide, by decide⟩ rfl hl.1 rfl (Nat.le_of_ble_eq_true rfl) dX10_say_5 ⟨Nat.zero_le _, Nat.zero_le _⟩ (fun H locs Z => ?_)
    show W _ _ _ _ _ _ _ _ _ _ _ _ 0 0 _ (F0 m 8 ls [.int (v2)])
    refine lv_if_eq (tgt := 20) S.1 S.2.1 dX10_say_8 (by decide) (fun hc => ?_) (fun hc => ?_)
    · replace hv := (if_pos hc).symm.trans hv
      refine lv_iconst (v := (-1 : Int32)) S.1 S.2.1 dX10_say_20 (by decide) ?_
      exact J21 (-1 : Int32) h _ hv hk H locs ls Z (lv_sub hl [0, 1] rfl)
    · replace hv := (if_neg hc).symm.trans hv
      refine lv_aload_n S.1 S.2.1 dX10_say_11 rfl (lv_at hl 0 rfl) ?_
      refine lv_aload_n S.1 S.2.1 dX10_say_12 rfl (lv_at hl 1 rfl) ?_
      refine lv_iload_n S.1 S.2.1 dX10_say_13 rfl (lv_at hl 2 rfl) ?_
      obtain ⟨hci, hv⟩ := zz_isO_s hv
      obtain ⟨v21, hq, hv⟩ := zz_bd hv
      refine zz_V [.ref (a1), .int (a2)] S K Z hci zc_8 rfl (c_X10_firstThatFits a0 a1 a2 hq) ⟨rfl, rfl⟩ gm_X10_firstThatFits gmv_X10_firstThatFits gl_X10_48 ⟨by decide, by decide⟩ rfl hl.1 rfl (Nat.le_of_ble_eq_true rfl) dX10_say_14 ⟨Nat.zero_le _, Nat.zero_le _⟩ (fun H locs Z => ?_)
      show W _ _ _ _ _ _ _ _ _ _ _ _ 0 0 _ (F0 m 17 ls [.int (v21)])
      refine lv_goto (tgt := 21) S.1 S.2.1 dX10_say_17 (by decide) ?_
      exact J21 v21 h _ hv hk H locs ls Z (lv_sub hl [0, 1] rfl)
  rw [hH, hlo] at key
  exact key

noncomputable def f_X8_hear_J63 (h : ZH) (a0 : Nat) (a1 : Int32) (h7 : ZH) : Option (Int32 × ZH) :=
  (zg_R h7 a0 6 1).bind fun v8 => (zg_I h7 v8 3 4).bind fun v9 => zz_let (v9 + (1 : Int32)) fun v10 => if v10 < 0 then (some (((0 : Int32), h7))) else ((zg_R h7 a0 6 3).bind fun v11 => (zl_N h7 v11 1).bind fun v12 => if v12 ≤ v10 then (some (((0 : Int32), h7))) else ((zg_R h7 a0 6 3).bind fun v13 => (zl_I h7 v13 1 v10).bind fun v14 => (zs_I h7 v13 1 v10 (v14 + (1 : Int32))).bind fun h15 => some (((0 : Int32), h15))))
noncomputable def f_X8_hear (h : ZH) (a0 : Nat) (a1 : Int32) : Option (Int32 × ZH) :=
  (zg_R h a0 6 0).bind fun v1 => (zg_R h a0 6 1).bind fun v2 => zz_isO h v1 8 <| (f_X10_say h v1 v2 a1).bind fun (v3, h4) => (zg_I h4 a0 6 4).bind fun v5 => (zp_V h4 a0 6 4 (.int (v5 + (1 : Int32)))).bind fun h6 => if (-1 : Int32) ≤ v3 then (if v3 < 0 then (f_X8_hear_J63 h a0 a1 h6) else ((zg_R h6 a0 6 2).bind fun v16 => (zl_N h6 v16 1).bind fun v17 => if v17 ≤ v3 then (f_X8_hear_J63 h a0 a1 h6) else ((zg_R h6 a0 6 2).bind fun v18 => (zl_I h6 v18 1 v3).bind fun v19 => (zs_I h6 v18 1 v3 (v19 + (1 : Int32))).bind fun h20 => f_X8_hear_J63 h a0 a1 h20))) else ((zp_V h6 a0 6 5 (.int ((-1 : Int32) - v3))).bind fun h21 => (zg_I h21 a0 6 5).bind fun v22 => some ((v22, h21)))
abbrev rm_X8_hear : Room := { frames := 4, cells := 0, slots := 0, locals := 94 }
set_option maxRecDepth 100000 in
set_option maxHeartbeats 4000000 in
theorem c_X8_hear {l : Launch} {D : va_G} {dA : Nat → ClassId} {A : Nat → Prop} {h : ZH} {n : Nat} (a0 : Nat) (a1 : Int32) {r : Int32} {hx : ZH} (hf : f_X8_hear h a0 a1 = some (r, hx)) : Met l yX8_hear (zz_ws yX8_hear cX8_hear 4 (some .int)) rm_X8_hear (zz_P D dA A h n [.ref (a0), .int (a1)]) (zz_Q D dA A (some (.int r)) hx n) 0 0 A := by
  refine zz_met (by decide) (Nat.le_of_ble_eq_true rfl) ?_
  intro p e s m args below meth c ls S K hret hlk hnm hl Z
  replace hl : lv_has ls 4 [(0, .ref (a0)), (1, .int (a1))] := hl
  obtain ⟨K0, hR0, hk⟩ : ∃ K0 : (Int32 × ZH) → Prop, (∀ x, K0 x → x = (r, hx)) ∧ K0 (r, hx) := ⟨fun x => x = (r, hx), fun _ h => h, rfl⟩
  have J63 : ∀ (h7 : ZH) (x : (Int32 × ZH)), f_X8_hear_J63 h a0 a1 h7 = some x → K0 x → ∀ (H : Heap) (locs : List Loc) (ls : Array Slot), zz_B D dA A h7 n s.heap H locs → lv_has ls 4 [(0, .ref (a0))] → zz_W p l e rm_X8_hear s m args below meth c D dA A (some (.int r)) hx n 0 0 H locs 0 0 63 ls [] := by
    intro h7 x hv hk H locs ls Z hl
    unfold f_X8_hear_J63 at hv
    refine lv_aload_n S.1 S.2.1 dX8_hear_63 rfl (lv_at hl 0 rfl) ?_
    refine zz_gR S K Z hv zc_6 (by decide) gf_X8_12 dX8_hear_64 (fun v8 hv => ?_)
    refine zz_gI S K Z hv zc_3 (by decide) gf_X8_52 dX8_hear_67 (fun v9 hv => ?_)
    refine lv_iconst (v := (1 : Int32)) S.1 S.2.1 dX8_hear_70 (by decide) ?_
    refine lv_iadd S.1 S.2.1 dX8_hear_71 ?_
    refine zz_lt hv (G := fun w => W _ _ _ _ _ _ _ _ _ _ _ _ _ _ _ (F0 _ _ _ (.int w :: _))) (fun v10 hv => ?_)
    refine lv_istore_n (lv' := [(3, .int (v10)), (0, .ref (a0))]) S.1 S.2.1 dX8_hear_72 rfl hl (by decide) rfl (fun ls hl => ?_)
    refine lv_iload_n S.1 S.2.1 dX8_hear_73 rfl (lv_at hl 0 rfl) ?_
    refine lv_if_lt (tgt := 96) S.1 S.2.1 dX8_hear_74 (by decide) (fun hc => ?_) (fun hc => ?_)
    · replace hv := (if_pos hc).symm.trans hv
      refine lv_iconst (v := (0 : Int32)) S.1 S.2.1 dX8_hear_96 (by decide) ?_
      replace hk := zz_fin hv hk
      obtain ⟨rfl, rfl⟩ := Prod.mk.inj (hR0 _ hk)
      exact zz_iret S Z hret hlk dX8_hear_97 (Nat.le_refl _) (Nat.le_refl _)
    · replace hv := (if_neg hc).symm.trans hv
      refine lv_iload_n S.1 S.2.1 dX8_hear_77 rfl (lv_at hl 0 rfl) ?_
      refine lv_aload_n S.1 S.2.1 dX8_hear_78 rfl (lv_at hl 1 rfl) ?_
      refine zz_gR S K Z hv zc_6 (by decide) gf_X8_22 dX8_hear_79 (fun v11 hv => ?_)
      refine zz_alen S K Z hv rfl dX8_hear_82 (fun v12 hv => ?_)
      refine lv_icmp_ge (tgt := 96) S.1 S.2.1 dX8_hear_83 (by decide) (fun hc => ?_) (fun hc => ?_)
      · replace hv := (if_pos hc).symm.trans hv
        refine lv_iconst (v := (0 : Int32)) S.1 S.2.1 dX8_hear_96 (by decide) ?_
        replace hk := zz_fin hv hk
        obtain ⟨rfl, rfl⟩ := Prod.mk.inj (hR0 _ hk)
        exact zz_iret S Z hret hlk dX8_hear_97 (Nat.le_refl _) (Nat.le_refl _)
      · replace hv := (if_neg hc).symm.trans hv
        refine lv_aload_n S.1 S.2.1 dX8_hear_86 rfl (lv_at hl 1 rfl) ?_
        refine zz_gR S K Z hv zc_6 (by decide) gf_X8_22 dX8_hear_87 (fun v13 hv => ?_)
        refine lv_iload_n S.1 S.2.1 dX8_hear_90 rfl (lv_at hl 0 rfl) ?_
        refine lv_dup2_11 S.1 S.2.1 dX8_hear_91 rfl rfl ?_
        refine zz_iald S K Z hv dX8_hear_92 (fun v14 hv => ?_)
        refine lv_iconst (v := (1 : Int32)) S.1 S.2.1 dX8_hear_93 (by decide) ?_
        refine lv_iadd S.1 S.2.1 dX8_hear_94 ?_
        refine zz_iast S K Z hv dX8_hear_95 (fun h15 H locs hv Z => ?_)
        refine lv_iconst (v := (0 : Int32)) S.1 S.2.1 dX8_hear_96 (by decide) ?_
        replace hk := zz_fin hv hk
        obtain ⟨rfl, rfl⟩ := Prod.mk.inj (hR0 _ hk)
        exact zz_iret S Z hret hlk dX8_hear_97 (Nat.le_refl _) (Nat.le_refl _)
  have hv := hf
  unfold f_X8_hear at hv
  clear hf
  obtain ⟨x, hxx⟩ : ∃ x, x = (r, hx) := ⟨_, rfl⟩
  rw [← hxx] at hv hk
  have ⟨H, hH⟩ : ∃ H, H = s.heap := ⟨_, rfl⟩
  have ⟨locs, hlo⟩ : ∃ q : List Loc, q = [] := ⟨_, rfl⟩
  have Z : zz_B D dA A h n s.heap H locs := by rw [hH, hlo]; exact Z
  have key : zz_W p l e rm_X8_hear s m args below meth c D dA A (some (.int r)) hx n 0 0 H locs 0 0 0 ls [] := by
    clear hH hlo hxx
    refine lv_aload_n S.1 S.2.1 dX8_hear_0 rfl (lv_at hl 0 rfl) ?_
    refine zz_gR S K Z hv zc_6 (by decide) gf_X8_25 dX8_hear_1 (fun v1 hv => ?_)
    refine lv_aload_n S.1 S.2.1 dX8_hear_4 rfl (lv_at hl 0 rfl) ?_
    refine zz_gR S K Z hv zc_6 (by decide) gf_X8_12 dX8_hear_5 (fun v2 hv => ?_)
    refine lv_iload_n S.1 S.2.1 dX8_hear_8 rfl (lv_at hl 1 rfl) ?_
    obtain ⟨hci, hv⟩ := zz_isO_s hv
    obtain ⟨⟨v3, h4⟩, hq, hv⟩ := zz_bd hv
    refine zz_V [.ref (v2), .int (a1)] S K Z hci zc_8 rfl (c_X10_say v1 v2 a1 hq) ⟨rfl, rfl⟩ gm_X10_say gmv_X10_say gl_X8_42 ⟨by decide, by decide⟩ rfl hl.1 rfl (Nat.le_of_ble_eq_true rfl) dX8_hear_9 ⟨Nat.zero_le _, Nat.zero_le _⟩ (fun H locs Z => ?_)
    show W _ _ _ _ _ _ _ _ _ _ _ _ 0 0 _ (F0 m 12 ls [.int (v3)])
    refine lv_istore_n (lv' := [(2, .int (v3)), (0, .ref (a0)), (1, .int (a1))]) S.1 S.2.1 dX8_hear_12 rfl hl (by decide) rfl (fun ls hl => ?_)
    refine lv_aload_n S.1 S.2.1 dX8_hear_13 rfl (lv_at hl 1 rfl) ?_
    refine lv_dup S.1 S.2.1 dX8_hear_14 rfl ?_
    refine zz_gI S K Z hv zc_6 (by decide) gf_X8_46 dX8_hear_15 (fun v5 hv => ?_)
    refine lv_iconst (v := (1 : Int32)) S.1 S.2.1 dX8_hear_18 (by decide) ?_
    refine lv_iadd S.1 S.2.1 dX8_hear_19 ?_
    refine zz_put S K Z hv zc_6 (by decide) gf_X8_46 rfl rfl rfl dX8_hear_20 (fun h6 H locs hv Z => ?_)
    refine lv_iload_n S.1 S.2.1 dX8_hear_23 rfl (lv_at hl 0 rfl) ?_
    refine lv_iconst (v := (-1 : Int32)) S.1 S.2.1 dX8_hear_24 (by decide) ?_
    refine lv_icmp_ge (tgt := 40) S.1 S.2.1 dX8_hear_25 (by decide) (fun hc => ?_) (fun hc => ?_)
    · replace hv := (if_pos hc).symm.trans hv
      refine lv_iload_n S.1 S.2.1 dX8_hear_40 rfl (lv_at hl 0 rfl) ?_
      refine lv_if_lt (tgt := 63) S.1 S.2.1 dX8_hear_41 (by decide) (fun hc => ?_) (fun hc => ?_)
      · replace hv := (if_pos hc).symm.trans hv
        exact J63 h6 _ hv hk H locs ls Z (lv_sub hl [1] rfl)
      · replace hv := (if_neg hc).symm.trans hv
        refine lv_iload_n S.1 S.2.1 dX8_hear_44 rfl (lv_at hl 0 rfl) ?_
        refine lv_aload_n S.1 S.2.1 dX8_hear_45 rfl (lv_at hl 1 rfl) ?_
        refine zz_gR S K Z hv zc_6 (by decide) gf_X8_18 dX8_hear_46 (fun v16 hv => ?_)
        refine zz_alen S K Z hv rfl dX8_hear_49 (fun v17 hv => ?_)
        refine lv_icmp_ge (tgt := 63) S.1 S.2.1 dX8_hear_50 (by decide) (fun hc => ?_) (fun hc => ?_)
        · replace hv := (if_pos hc).symm.trans hv
          exact J63 h6 _ hv hk H locs ls Z (lv_sub hl [1] rfl)
        · replace hv := (if_neg hc).symm.trans hv
          refine lv_aload_n S.1 S.2.1 dX8_hear_53 rfl (lv_at hl 1 rfl) ?_
          refine zz_gR S K Z hv zc_6 (by decide) gf_X8_18 dX8_hear_54 (fun v18 hv => ?_)
          refine lv_iload_n S.1 S.2.1 dX8_hear_57 rfl (lv_at hl 0 rfl) ?_
          refine lv_dup2_11 S.1 S.2.1 dX8_hear_58 rfl rfl ?_
          refine zz_iald S K Z hv dX8_hear_59 (fun v19 hv => ?_)
          refine lv_iconst (v := (1 : Int32)) S.1 S.2.1 dX8_hear_60 (by decide) ?_
          refine lv_iadd S.1 S.2.1 dX8_hear_61 ?_
          refine zz_iast S K Z hv dX8_hear_62 (fun h20 H locs hv Z => ?_)
          exact J63 h20 _ hv hk H locs ls Z (lv_sub hl [1] rfl)
    · replace hv := (if_neg hc).symm.trans hv
      refine lv_aload_n S.1 S.2.1 dX8_hear_28 rfl (lv_at hl 1 rfl) ?_
      refine lv_iconst (v := (-1 : Int32)) S.1 S.2.1 dX8_hear_29 (by decide) ?_
      refine lv_iload_n S.1 S.2.1 dX8_hear_30 rfl (lv_at hl 0 rfl) ?_
      refine lv_isub S.1 S.2.1 dX8_hear_31 ?_
      refine zz_put S K Z hv zc_6 (by decide) gf_X8_49 rfl rfl rfl dX8_hear_32 (fun h21 H locs hv Z => ?_)
      refine lv_aload_n S.1 S.2.1 dX8_hear_35 rfl (lv_at hl 1 rfl) ?_
      refine zz_gI S K Z hv zc_6 (by decide) gf_X8_49 dX8_hear_36 (fun v22 hv => ?_)
      replace hk := zz_fin hv hk
      obtain ⟨rfl, rfl⟩ := Prod.mk.inj (hR0 _ hk)
      exact zz_iret S Z hret hlk dX8_hear_39 (Nat.le_refl _) (Nat.le_refl _)
  rw [hH, hlo] at key
  exact key

noncomputable def f_X7_saysAll_L3 (h : ZH) (a0 : Nat) (a1 : Nat) (a2 : Int32) (a3 : Int32) (x4_1 : Int32) (h2 : ZH)  : Option ((Int32 × ZH) ⊕ (Int32 × ZH)) :=
  if a3 ≤ x4_1 then ((some (((1 : Int32), h2))).map Sum.inr) else ((f_X2_lettersEnd h2 a1 x4_1).bind fun v3 => if v3 ≤ x4_1 then ((some (((0 : Int32), h2))).map Sum.inr) else ((zg_R h2 a0 5 1).bind fun v4 => (zg_R h2 v4 6 1).bind fun v5 => (zg_I h2 v5 3 3).bind fun v6 => if v6 = 0 then ((zg_R h2 a0 5 1).bind fun v7 => (zg_R h2 a0 5 0).bind fun v8 => (zg_R h2 v8 8 0).bind fun v9 => zz_isO h2 v9 1 <| (f_X1_find h2 v9 a1 x4_1 v3).bind fun v10 => zz_isO h2 v7 6 <| (f_X8_hear h2 v7 v10).bind fun (v11, h12) => (zp_V h12 a0 5 7 (.int (v11))).bind fun h13 => (zg_I h13 a0 5 7).bind fun v14 => if v14 = 0 then (zz_let (v3 + (1 : Int32)) fun v15 => some (.inl (v15, h13))) else ((some (((0 : Int32), h13))).map Sum.inr)) else ((some (((0 : Int32), h2))).map Sum.inr)))
noncomputable def f_X7_saysAll (h : ZH) (a0 : Nat) (a1 : Nat) (a2 : Int32) (a3 : Int32) : Option (Int32 × ZH) :=
  zz_loop (fun st : (Int32 × ZH) => f_X7_saysAll_L3 h a0 a1 a2 a3 (st.1) (st.2)) (a2, h)
abbrev rm_X7_saysAll : Room := { frames := 5, cells := 0, slots := 0, locals := 117 }
set_option maxRecDepth 100000 in
set_option maxHeartbeats 4000000 in
theorem c_X7_saysAll {l : Launch} {D : va_G} {dA : Nat → ClassId} {A : Nat → Prop} {h : ZH} {n : Nat} (a0 : Nat) (a1 : Nat) (a2 : Int32) (a3 : Int32) {r : Int32} {hx : ZH} (hf : f_X7_saysAll h a0 a1 a2 a3 = some (r, hx)) : Met l yX7_saysAll (zz_ws yX7_saysAll cX7_saysAll 6 (some .boolean)) rm_X7_saysAll (zz_P D dA A h n [.ref (a0), .ref (a1), .int (a2), .int (a3)]) (zz_Q D dA A (some (.int r)) hx n) 0 0 A := by
  refine zz_met (by decide) (Nat.le_of_ble_eq_true rfl) ?_
  intro p e s m args below meth c ls S K hret hlk hnm hl Z
  replace hl : lv_has ls 6 [(0, .ref (a0)), (1, .ref (a1)), (2, .int (a2)), (3, .int (a3))] := hl
  obtain ⟨K0, hR0, hk⟩ : ∃ K0 : (Int32 × ZH) → Prop, (∀ x, K0 x → x = (r, hx)) ∧ K0 (r, hx) := ⟨fun x => x = (r, hx), fun _ h => h, rfl⟩
  have L3 : ∀ (st : (Int32 × ZH)) (x : (Int32 × ZH)), zz_loop (fun st : (Int32 × ZH) => f_X7_saysAll_L3 h a0 a1 a2 a3 (st.1) (st.2)) st = some x → K0 x → (fun st : (Int32 × ZH) => ∀ (H : Heap) (locs : List Loc) (ls : Array Slot), zz_B D dA A (st.2) n s.heap H locs → lv_has ls 6 [(0, .ref (a0)), (1, .ref (a1)), (3, .int (a3)), (4, .int ((st.1)))] → zz_W p l e rm_X7_saysAll s m args below meth c D dA A (some (.int r)) hx n 0 0 H locs 0 0 3 ls []) st := by
    refine zz_loop_go (K := K0) ?_
    intro K1 hP1 hR1
    rintro ⟨x4_1, h2⟩ x hv hk H locs ls Z hl
    replace hv : f_X7_saysAll_L3 h a0 a1 a2 a3 x4_1 h2 = some x := hv
    unfold f_X7_saysAll_L3 at hv
    replace hl : lv_has ls 6 [(0, .ref (a0)), (1, .ref (a1)), (3, .int (a3)), (4, .int (x4_1))] := hl
    replace Z : zz_B D dA A h2 n s.heap H locs := Z
    show zz_W p l e rm_X7_saysAll s m args below meth c D dA A (some (.int r)) hx n 0 0 H locs 0 0 3 ls []
    refine lv_iload S.1 S.2.1 dX7_saysAll_3 (lv_at hl 3 rfl) ?_
    refine lv_iload_n S.1 S.2.1 dX7_saysAll_5 rfl (lv_at hl 2 rfl) ?_
    refine lv_icmp_ge (tgt := 83) S.1 S.2.1 dX7_saysAll_6 (by decide) (fun hc => ?_) (fun hc => ?_)
    · replace hv := (if_pos hc).symm.trans hv
      obtain ⟨_, hv, hk⟩ := zz_mapk hv hk
      replace hk := hR1 _ hk
      refine lv_iconst (v := (1 : Int32)) S.1 S.2.1 dX7_saysAll_83 (by decide) ?_
      replace hk := zz_fin hv hk
      obtain ⟨rfl, rfl⟩ := Prod.mk.inj (hR0 _ hk)
      exact zz_zret S Z hret (by decide) hlk dX7_saysAll_84 (Nat.le_refl _) (Nat.le_refl _)
    · replace hv := (if_neg hc).symm.trans hv
      refine lv_aload_n S.1 S.2.1 dX7_saysAll_9 rfl (lv_at hl 1 rfl) ?_
      refine lv_iload S.1 S.2.1 dX7_saysAll_10 (lv_at hl 3 rfl) ?_
      obtain ⟨v3, hq, hv⟩ := zz_bd hv
      refine zz_S [.ref (a1), .int (x4_1)] S K Z (c_X2_lettersEnd a1 x4_1 hq) ⟨rfl, rfl⟩ gm_X2_lettersEnd gs_X2_lettersEnd gl_X7_108 ⟨by decide, by decide⟩ rfl hl.1 rfl (Nat.le_of_ble_eq_true rfl) dX7_saysAll_12 ⟨Nat.zero_le _, Nat.zero_le _⟩ (fun H locs Z => ?_)
      show W _ _ _ _ _ _ _ _ _ _ _ _ 0 0 _ (F0 m 15 ls [.int (v3)])
      refine lv_istore (lv' := [(5, .int (v3)), (0, .ref (a0)), (1, .ref (a1)), (3, .int (a3)), (4, .int (x4_1))]) S.1 S.2.1 dX7_saysAll_15 hl (by decide) rfl (fun ls hl => ?_)
      refine lv_iload S.1 S.2.1 dX7_saysAll_17 (lv_at hl 0 rfl) ?_
      refine lv_iload S.1 S.2.1 dX7_saysAll_19 (lv_at hl 4 rfl) ?_
      refine lv_icmp_le (tgt := 37) S.1 S.2.1 dX7_saysAll_21 (by decide) (fun hc => ?_) (fun hc => ?_)
      · replace hv := (if_pos hc).symm.trans hv
        obtain ⟨_, hv, hk⟩ := zz_mapk hv hk
        replace hk := hR1 _ hk
        refine lv_iconst (v := (0 : Int32)) S.1 S.2.1 dX7_saysAll_37 (by decide) ?_
        replace hk := zz_fin hv hk
        obtain ⟨rfl, rfl⟩ := Prod.mk.inj (hR0 _ hk)
        exact zz_zret S Z hret (by decide) hlk dX7_saysAll_38 (Nat.le_refl _) (Nat.le_refl _)
      · replace hv := (if_neg hc).symm.trans hv
        refine lv_aload_n S.1 S.2.1 dX7_saysAll_24 rfl (lv_at hl 1 rfl) ?_
        refine zz_gR S K Z hv zc_5 (by decide) gf_X7_32 dX7_saysAll_25 (fun v4 hv => ?_)
        refine zz_gR S K Z hv zc_6 (by decide) gf_X7_75 dX7_saysAll_28 (fun v5 hv => ?_)
        refine zz_gI S K Z hv zc_3 (by decide) gf_X7_98 dX7_saysAll_31 (fun v6 hv => ?_)
        refine lv_if_eq (tgt := 39) S.1 S.2.1 dX7_saysAll_34 (by decide) (fun hc => ?_) (fun hc => ?_)
        · replace hv := (if_pos hc).symm.trans hv
          refine lv_aload_n S.1 S.2.1 dX7_saysAll_39 rfl (lv_at hl 1 rfl) ?_
          refine lv_aload_n S.1 S.2.1 dX7_saysAll_40 rfl (lv_at hl 1 rfl) ?_
          refine zz_gR S K Z hv zc_5 (by decide) gf_X7_32 dX7_saysAll_41 (fun v7 hv => ?_)
          refine lv_aload_n S.1 S.2.1 dX7_saysAll_44 rfl (lv_at hl 1 rfl) ?_
          refine zz_gR S K Z hv zc_5 (by decide) gf_X7_28 dX7_saysAll_45 (fun v8 hv => ?_)
          refine zz_gR S K Z hv zc_8 (by decide) gf_X7_111 dX7_saysAll_48 (fun v9 hv => ?_)
          refine lv_aload_n S.1 S.2.1 dX7_saysAll_51 rfl (lv_at hl 2 rfl) ?_
          refine lv_iload S.1 S.2.1 dX7_saysAll_52 (lv_at hl 4 rfl) ?_
          refine lv_iload S.1 S.2.1 dX7_saysAll_54 (lv_at hl 0 rfl) ?_
          obtain ⟨hci, hv⟩ := zz_isO_s hv
          obtain ⟨v10, hq, hv⟩ := zz_bd hv
          refine zz_V [.ref (a1), .int (x4_1), .int (v3)] S K Z hci zc_1 rfl (c_X1_find v9 a1 x4_1 v3 hq) ⟨rfl, rfl⟩ gm_X1_find gmv_X1_find gl_X7_117 ⟨by decide, by decide⟩ rfl hl.1 rfl (Nat.le_of_ble_eq_true rfl) dX7_saysAll_56 ⟨Nat.zero_le _, Nat.zero_le _⟩ (fun H locs Z => ?_)
          show W _ _ _ _ _ _ _ _ _ _ _ _ 0 0 _ (F0 m 59 ls [.int (v10), .ref (v7), .ref (a0)])
          obtain ⟨hci, hv⟩ := zz_isO_s hv
          obtain ⟨⟨v11, h12⟩, hq, hv⟩ := zz_bd hv
          refine zz_V [.int (v10)] S K Z hci zc_6 rfl (c_X8_hear v7 v10 hq) ⟨rfl, rfl⟩ gm_X8_hear gmv_X8_hear gl_X7_122 ⟨by decide, by decide⟩ rfl hl.1 rfl (Nat.le_of_ble_eq_true rfl) dX7_saysAll_59 ⟨Nat.zero_le _, Nat.zero_le _⟩ (fun H locs Z => ?_)
          show W _ _ _ _ _ _ _ _ _ _ _ _ 0 0 _ (F0 m 62 ls [.int (v11), .ref (a0)])
          refine zz_put S K Z hv zc_5 (by decide) gf_X7_46 rfl rfl rfl dX7_saysAll_62 (fun h13 H locs hv Z => ?_)
          refine lv_aload_n S.1 S.2.1 dX7_saysAll_65 rfl (lv_at hl 1 rfl) ?_
          refine zz_gI S K Z hv zc_5 (by decide) gf_X7_46 dX7_saysAll_66 (fun v14 hv => ?_)
          refine lv_if_eq (tgt := 74) S.1 S.2.1 dX7_saysAll_69 (by decide) (fun hc => ?_) (fun hc => ?_)
          · replace hv := (if_pos hc).symm.trans hv
            refine lv_iload S.1 S.2.1 dX7_saysAll_74 (lv_at hl 0 rfl) ?_
            refine lv_iconst (v := (1 : Int32)) S.1 S.2.1 dX7_saysAll_76 (by decide) ?_
            refine lv_iadd S.1 S.2.1 dX7_saysAll_77 ?_
            refine zz_lt hv (G := fun w => W _ _ _ _ _ _ _ _ _ _ _ _ _ _ _ (F0 _ _ _ (.int w :: _))) (fun v15 hv => ?_)
            refine lv_istore (lv' := [(4, .int (v15)), (5, .int (v3)), (0, .ref (a0)), (1, .ref (a1)), (3, .int (a3))]) S.1 S.2.1 dX7_saysAll_78 hl (by decide) rfl (fun ls hl => ?_)
            refine lv_goto (tgt := 3) S.1 S.2.1 dX7_saysAll_80 (by decide) ?_
            replace hk := zz_fin hv hk
            exact hP1 _ hk H locs ls Z (lv_sub hl [2, 3, 4, 0] rfl)
          · replace hv := (if_neg hc).symm.trans hv
            obtain ⟨_, hv, hk⟩ := zz_mapk hv hk
            replace hk := hR1 _ hk
            refine lv_iconst (v := (0 : Int32)) S.1 S.2.1 dX7_saysAll_72 (by decide) ?_
            replace hk := zz_fin hv hk
            obtain ⟨rfl, rfl⟩ := Prod.mk.inj (hR0 _ hk)
            exact zz_zret S Z hret (by decide) hlk dX7_saysAll_73 (Nat.le_refl _) (Nat.le_refl _)
        · replace hv := (if_neg hc).symm.trans hv
          obtain ⟨_, hv, hk⟩ := zz_mapk hv hk
          replace hk := hR1 _ hk
          refine lv_iconst (v := (0 : Int32)) S.1 S.2.1 dX7_saysAll_37 (by decide) ?_
          replace hk := zz_fin hv hk
          obtain ⟨rfl, rfl⟩ := Prod.mk.inj (hR0 _ hk)
          exact zz_zret S Z hret (by decide) hlk dX7_saysAll_38 (Nat.le_refl _) (Nat.le_refl _)
  have hv := hf
  unfold f_X7_saysAll at hv
  clear hf
  obtain ⟨x, hxx⟩ : ∃ x, x = (r, hx) := ⟨_, rfl⟩
  rw [← hxx] at hv hk
  have ⟨H, hH⟩ : ∃ H, H = s.heap := ⟨_, rfl⟩
  have ⟨locs, hlo⟩ : ∃ q : List Loc, q = [] := ⟨_, rfl⟩
  have Z : zz_B D dA A h n s.heap H locs := by rw [hH, hlo]; exact Z
  have key : zz_W p l e rm_X7_saysAll s m args below meth c D dA A (some (.int r)) hx n 0 0 H locs 0 0 0 ls [] := by
    clear hH hlo hxx
    refine lv_iload_n S.1 S.2.1 dX7_saysAll_0 rfl (lv_at hl 2 rfl) ?_
    refine lv_istore (lv' := [(4, .int (a2)), (0, .ref (a0)), (1, .ref (a1)), (2, .int (a2)), (3, .int (a3))]) S.1 S.2.1 dX7_saysAll_1 hl (by decide) rfl (fun ls hl => ?_)
    exact L3  (a2, h) _ hv hk H locs ls Z (lv_sub hl [1, 2, 4, 0] rfl)
  rw [hH, hlo] at key
  exact key

noncomputable def f_X10_textLength (h : ZH) (a0 : Nat) (a1 : Int32) : Option (Int32) :=
  if a1 = (-1 : Int32) then (some ((1 : Int32))) else ((zg_R h a0 8 1).bind fun v1 => zz_isO h v1 1 <| (f_X1_lengthOf h v1 a1).bind fun v2 => some (v2))
abbrev rm_X10_textLength : Room := { frames := 1, cells := 0, slots := 0, locals := 21 }
set_option maxRecDepth 100000 in
set_option maxHeartbeats 4000000 in
theorem c_X10_textLength {l : Launch} {D : va_G} {dA : Nat → ClassId} {A : Nat → Prop} {h : ZH} {n : Nat} (a0 : Nat) (a1 : Int32) {r : Int32} (hf : f_X10_textLength h a0 a1 = some r) : Met l yX10_textLength (zz_ws yX10_textLength cX10_textLength 2 (some .int)) rm_X10_textLength (zz_P D dA A h n [.ref (a0), .int (a1)]) (zz_Q D dA A (some (.int r)) h n) 0 0 A := by
  refine zz_met (by decide) (Nat.le_of_ble_eq_true rfl) ?_
  intro p e s m args below meth c ls S K hret hlk hnm hl Z
  replace hl : lv_has ls 2 [(0, .ref (a0)), (1, .int (a1))] := hl
  obtain ⟨K0, hR0, hk⟩ : ∃ K0 : (Int32) → Prop, (∀ x, K0 x → x = r) ∧ K0 r := ⟨fun x => x = r, fun _ h => h, rfl⟩
  have hv := hf
  unfold f_X10_textLength at hv
  clear hf
  obtain ⟨x, hxx⟩ : ∃ x, x = r := ⟨_, rfl⟩
  rw [← hxx] at hv hk
  have ⟨H, hH⟩ : ∃ H, H = s.heap := ⟨_, rfl⟩
  have ⟨locs, hlo⟩ : ∃ q : List Loc, q = [] := ⟨_, rfl⟩
  have Z : zz_B D dA A h n s.heap H locs := by rw [hH, hlo]; exact Z
  have key : zz_W p l e rm_X10_textLength s m args below meth c D dA A (some (.int r)) h n 0 0 H locs 0 0 0 ls [] := by
    clear hH hlo hxx
    refine lv_iload_n S.1 S.2.1 dX10_textLength_0 rfl (lv_at hl 1 rfl) ?_
    refine lv_iconst (v := (-1 : Int32)) S.1 S.2.1 dX10_textLength_1 (by decide) ?_
    refine lv_icmp_ne (tgt := 9) S.1 S.2.1 dX10_textLength_2 (by decide) (fun hc => ?_) (fun hc => ?_)
    · replace hv := (if_neg hc).symm.trans hv
      refine lv_aload_n S.1 S.2.1 dX10_textLength_9 rfl (lv_at hl 0 rfl) ?_
      refine zz_gR S K Z hv zc_8 (by decide) gf_X10_20 dX10_textLength_10 (fun v1 hv => ?_)
      refine lv_iload_n S.1 S.2.1 dX10_textLength_13 rfl (lv_at hl 1 rfl) ?_
      obtain ⟨hci, hv⟩ := zz_isO_s hv
      obtain ⟨v2, hq, hv⟩ := zz_bd hv
      refine zz_V [.int (a1)] S K Z hci zc_1 rfl (c_X1_lengthOf v1 a1 hq) ⟨rfl, rfl⟩ gm_X1_lengthOf gmv_X1_lengthOf gl_X10_116 ⟨by decide, by decide⟩ rfl hl.1 rfl (Nat.le_of_ble_eq_true rfl) dX10_textLength_14 ⟨Nat.zero_le _, Nat.zero_le _⟩ (fun H locs Z => ?_)
      show W _ _ _ _ _ _ _ _ _ _ _ _ 0 0 _ (F0 m 17 ls [.int (v2)])
      replace hk := zz_fin hv hk
      obtain rfl := hR0 _ hk
      exact zz_iret S Z hret hlk dX10_textLength_17 (Nat.le_refl _) (Nat.le_refl _)
    · replace hv := (if_pos hc).symm.trans hv
      refine lv_iconst (v := (1 : Int32)) S.1 S.2.1 dX10_textLength_5 (by decide) ?_
      refine lv_goto (tgt := 17) S.1 S.2.1 dX10_textLength_6 (by decide) ?_
      replace hk := zz_fin hv hk
      obtain rfl := hR0 _ hk
      exact zz_iret S Z hret hlk dX10_textLength_17 (Nat.le_refl _) (Nat.le_refl _)
  rw [hH, hlo] at key
  exact key

noncomputable def f_X5_partEnd_J54 (h : ZH) (a0 : Nat) (a1 : Int32) (a2 : Int32) (x4_4 : Int32) : Option (Int32) :=
  some (x4_4 + (1 : Int32))
noncomputable def f_X5_partEnd_L31 (h : ZH) (a0 : Nat) (a1 : Int32) (a2 : Int32) (x4_3 : Int32)  : Option ((Int32) ⊕ (Int32)) :=
  if a2 ≤ x4_3 then ((f_X5_partEnd_J54 h a0 a1 a2 x4_3).map Sum.inr) else (zz_isO h a0 0 <| (f_X0_at h a0 x4_3).bind fun v5 => if v5 = (93 : Int32) then ((f_X5_partEnd_J54 h a0 a1 a2 x4_3).map Sum.inr) else (some (.inl (x4_3 + (1 : Int32)))))
noncomputable def f_X5_partEnd (h : ZH) (a0 : Nat) (a1 : Int32) (a2 : Int32) : Option (Int32) :=
  zz_isO h a0 0 <| (f_X0_at h a0 a1).bind fun v1 => if v1 = (92 : Int32) then (some (a1 + (2 : Int32))) else (if v1 = (91 : Int32) then (zz_let (a1 + (1 : Int32)) fun v2 => zz_loop (fun st : (Int32) => f_X5_partEnd_L31 h a0 a1 a2 (st)) (v2)) else (some (a1 + (1 : Int32))))
abbrev rm_X5_partEnd : Room := { frames := 1, cells := 0, slots := 0, locals := 21 }
set_option maxRecDepth 100000 in
set_option maxHeartbeats 4000000 in
theorem c_X5_partEnd {l : Launch} {D : va_G} {dA : Nat → ClassId} {A : Nat → Prop} {h : ZH} {n : Nat} (a0 : Nat) (a1 : Int32) (a2 : Int32) {r : Int32} (hf : f_X5_partEnd h a0 a1 a2 = some r) : Met l yX5_partEnd (zz_ws yX5_partEnd cX5_partEnd 5 (some .int)) rm_X5_partEnd (zz_P D dA A h n [.ref (a0), .int (a1), .int (a2)]) (zz_Q D dA A (some (.int r)) h n) 0 0 A := by
  refine zz_met (by decide) (Nat.le_of_ble_eq_true rfl) ?_
  intro p e s m args below meth c ls S K hret hlk hnm hl Z
  replace hl : lv_has ls 5 [(0, .ref (a0)), (1, .int (a1)), (2, .int (a2))] := hl
  obtain ⟨K0, hR0, hk⟩ : ∃ K0 : (Int32) → Prop, (∀ x, K0 x → x = r) ∧ K0 r := ⟨fun x => x = r, fun _ h => h, rfl⟩
  have J54 : ∀ (x4_4 : Int32) (x : (Int32)), f_X5_partEnd_J54 h a0 a1 a2 x4_4 = some x → K0 x → ∀ (H : Heap) (locs : List Loc) (ls : Array Slot), zz_B D dA A h n s.heap H locs → lv_has ls 5 [(4, .int (x4_4))] → zz_W p l e rm_X5_partEnd s m args below meth c D dA A (some (.int r)) h n 0 0 H locs 0 0 54 ls [] := by
    intro x4_4 x hv hk H locs ls Z hl
    unfold f_X5_partEnd_J54 at hv
    refine lv_iload S.1 S.2.1 dX5_partEnd_54 (lv_at hl 0 rfl) ?_
    refine lv_iconst (v := (1 : Int32)) S.1 S.2.1 dX5_partEnd_56 (by decide) ?_
    refine lv_iadd S.1 S.2.1 dX5_partEnd_57 ?_
    replace hk := zz_fin hv hk
    obtain rfl := hR0 _ hk
    exact zz_iret S Z hret hlk dX5_partEnd_58 (Nat.le_refl _) (Nat.le_refl _)
  have L31 : ∀ (st : (Int32)) (x : (Int32)), zz_loop (fun st : (Int32) => f_X5_partEnd_L31 h a0 a1 a2 (st)) st = some x → K0 x → (fun st : (Int32) => ∀ (H : Heap) (locs : List Loc) (ls : Array Slot), zz_B D dA A h n s.heap H locs → lv_has ls 5 [(0, .ref (a0)), (2, .int (a2)), (4, .int ((st)))] → zz_W p l e rm_X5_partEnd s m args below meth c D dA A (some (.int r)) h n 0 0 H locs 0 0 31 ls []) st := by
    refine zz_loop_go (K := K0) ?_
    intro K1 hP1 hR1
    rintro x4_3 x hv hk H locs ls Z hl
    replace hv : f_X5_partEnd_L31 h a0 a1 a2 x4_3 = some x := hv
    unfold f_X5_partEnd_L31 at hv
    replace hl : lv_has ls 5 [(0, .ref (a0)), (2, .int (a2)), (4, .int (x4_3))] := hl
    replace Z : zz_B D dA A h n s.heap H locs := Z
    show zz_W p l e rm_X5_partEnd s m args below meth c D dA A (some (.int r)) h n 0 0 H locs 0 0 31 ls []
    refine lv_iload S.1 S.2.1 dX5_partEnd_31 (lv_at hl 2 rfl) ?_
    refine lv_iload_n S.1 S.2.1 dX5_partEnd_33 rfl (lv_at hl 1 rfl) ?_
    refine lv_icmp_ge (tgt := 54) S.1 S.2.1 dX5_partEnd_34 (by decide) (fun hc => ?_) (fun hc => ?_)
    · replace hv := (if_pos hc).symm.trans hv
      obtain ⟨_, hv, hk⟩ := zz_mapk hv hk
      replace hk := hR1 _ hk
      exact J54 x4_3 _ hv hk H locs ls Z (lv_sub hl [2] rfl)
    · replace hv := (if_neg hc).symm.trans hv
      refine lv_aload_n S.1 S.2.1 dX5_partEnd_37 rfl (lv_at hl 0 rfl) ?_
      refine lv_iload S.1 S.2.1 dX5_partEnd_38 (lv_at hl 2 rfl) ?_
      obtain ⟨hci, hv⟩ := zz_isO_s hv
      obtain ⟨v5, hq, hv⟩ := zz_bd hv
      refine zz_V [.int (x4_3)] S K Z hci zc_0 rfl (c_X0_at a0 x4_3 hq) ⟨rfl, rfl⟩ gm_X0_at gmv_X0_at gl_X5_30 ⟨by decide, by decide⟩ rfl hl.1 rfl (Nat.le_of_ble_eq_true rfl) dX5_partEnd_40 ⟨Nat.zero_le _, Nat.zero_le _⟩ (fun H locs Z => ?_)
      show W _ _ _ _ _ _ _ _ _ _ _ _ 0 0 _ (F0 m 43 ls [.int (v5)])
      refine lv_bipush (v := (93 : Int32)) S.1 S.2.1 dX5_partEnd_43 (by decide) ?_
      refine lv_icmp_eq (tgt := 54) S.1 S.2.1 dX5_partEnd_45 (by decide) (fun hc => ?_) (fun hc => ?_)
      · replace hv := (if_pos hc).symm.trans hv
        obtain ⟨_, hv, hk⟩ := zz_mapk hv hk
        replace hk := hR1 _ hk
        exact J54 x4_3 _ hv hk H locs ls Z (lv_sub hl [2] rfl)
      · replace hv := (if_neg hc).symm.trans hv
        refine lv_iinc (v := x4_3 + (1 : Int32)) (lv' := [(4, .int (x4_3 + (1 : Int32))), (0, .ref (a0)), (2, .int (a2))]) S.1 S.2.1 dX5_partEnd_48 hl (k := 2) rfl rfl (by decide) rfl (fun ls hl => ?_)
        refine lv_goto (tgt := 31) S.1 S.2.1 dX5_partEnd_51 (by decide) ?_
        replace hk := zz_fin hv hk
        exact hP1 _ hk H locs ls Z (lv_sub hl [1, 2, 0] rfl)
  have hv := hf
  unfold f_X5_partEnd at hv
  clear hf
  obtain ⟨x, hxx⟩ : ∃ x, x = r := ⟨_, rfl⟩
  rw [← hxx] at hv hk
  have ⟨H, hH⟩ : ∃ H, H = s.heap := ⟨_, rfl⟩
  have ⟨locs, hlo⟩ : ∃ q : List Loc, q = [] := ⟨_, rfl⟩
  have Z : zz_B D dA A h n s.heap H locs := by rw [hH, hlo]; exact Z
  have key : zz_W p l e rm_X5_partEnd s m args below meth c D dA A (some (.int r)) h n 0 0 H locs 0 0 0 ls [] := by
    clear hH hlo hxx
    refine lv_aload_n S.1 S.2.1 dX5_partEnd_0 rfl (lv_at hl 0 rfl) ?_
    refine lv_iload_n S.1 S.2.1 dX5_partEnd_1 rfl (lv_at hl 1 rfl) ?_
    obtain ⟨hci, hv⟩ := zz_isO_s hv
    obtain ⟨v1, hq, hv⟩ := zz_bd hv
    refine zz_V [.int (a1)] S K Z hci zc_0 rfl (c_X0_at a0 a1 hq) ⟨rfl, rfl⟩ gm_X0_at gmv_X0_at gl_X5_30 ⟨by decide, by decide⟩ rfl hl.1 rfl (Nat.le_of_ble_eq_true rfl) dX5_partEnd_2 ⟨Nat.zero_le _, Nat.zero_le _⟩ (fun H locs Z => ?_)
    show W _ _ _ _ _ _ _ _ _ _ _ _ 0 0 _ (F0 m 5 ls [.int (v1)])
    refine lv_istore_n (lv' := [(3, .int (v1)), (0, .ref (a0)), (1, .int (a1)), (2, .int (a2))]) S.1 S.2.1 dX5_partEnd_5 rfl hl (by decide) rfl (fun ls hl => ?_)
    refine lv_iload_n S.1 S.2.1 dX5_partEnd_6 rfl (lv_at hl 0 rfl) ?_
    refine lv_bipush (v := (92 : Int32)) S.1 S.2.1 dX5_partEnd_7 (by decide) ?_
    refine lv_icmp_ne (tgt := 16) S.1 S.2.1 dX5_partEnd_9 (by decide) (fun hc => ?_) (fun hc => ?_)
    · replace hv := (if_neg hc).symm.trans hv
      refine lv_iload_n S.1 S.2.1 dX5_partEnd_16 rfl (lv_at hl 0 rfl) ?_
      refine lv_bipush (v := (91 : Int32)) S.1 S.2.1 dX5_partEnd_17 (by decide) ?_
      refine lv_icmp_eq (tgt := 26) S.1 S.2.1 dX5_partEnd_19 (by decide) (fun hc => ?_) (fun hc => ?_)
      · replace hv := (if_pos hc).symm.trans hv
        refine lv_iload_n S.1 S.2.1 dX5_partEnd_26 rfl (lv_at hl 2 rfl) ?_
        refine lv_iconst (v := (1 : Int32)) S.1 S.2.1 dX5_partEnd_27 (by decide) ?_
        refine lv_iadd S.1 S.2.1 dX5_partEnd_28 ?_
        refine zz_lt hv (G := fun w => W _ _ _ _ _ _ _ _ _ _ _ _ _ _ _ (F0 _ _ _ (.int w :: _))) (fun v2 hv => ?_)
        refine lv_istore (lv' := [(4, .int (v2)), (3, .int (v1)), (0, .ref (a0)), (1, .int (a1)), (2, .int (a2))]) S.1 S.2.1 dX5_partEnd_29 hl (by decide) rfl (fun ls hl => ?_)
        exact L31  (v2) _ hv hk H locs ls Z (lv_sub hl [2, 4, 0] rfl)
      · replace hv := (if_neg hc).symm.trans hv
        refine lv_iload_n S.1 S.2.1 dX5_partEnd_22 rfl (lv_at hl 2 rfl) ?_
        refine lv_iconst (v := (1 : Int32)) S.1 S.2.1 dX5_partEnd_23 (by decide) ?_
        refine lv_iadd S.1 S.2.1 dX5_partEnd_24 ?_
        replace hk := zz_fin hv hk
        obtain rfl := hR0 _ hk
        exact zz_iret S Z hret hlk dX5_partEnd_25 (Nat.le_refl _) (Nat.le_refl _)
    · replace hv := (if_pos hc).symm.trans hv
      refine lv_iload_n S.1 S.2.1 dX5_partEnd_12 rfl (lv_at hl 2 rfl) ?_
      refine lv_iconst (v := (2 : Int32)) S.1 S.2.1 dX5_partEnd_13 (by decide) ?_
      refine lv_iadd S.1 S.2.1 dX5_partEnd_14 ?_
      replace hk := zz_fin hv hk
      obtain rfl := hR0 _ hk
      exact zz_iret S Z hret hlk dX5_partEnd_15 (Nat.le_refl _) (Nat.le_refl _)
  rw [hH, hlo] at key
  exact key

noncomputable def f_X10_textSign (h : ZH) (a0 : Nat) (a1 : Int32) (a2 : Int32) : Option (Int32) :=
  if a1 = (-1 : Int32) then (some ((63 : Int32))) else ((zg_R h a0 8 1).bind fun v1 => zz_isO h v1 1 <| (f_X1_signOf h v1 a1 a2).bind fun v2 => some (v2))
abbrev rm_X10_textSign : Room := { frames := 2, cells := 0, slots := 0, locals := 44 }
set_option maxRecDepth 100000 in
set_option maxHeartbeats 4000000 in
theorem c_X10_textSign {l : Launch} {D : va_G} {dA : Nat → ClassId} {A : Nat → Prop} {h : ZH} {n : Nat} (a0 : Nat) (a1 : Int32) (a2 : Int32) {r : Int32} (hf : f_X10_textSign h a0 a1 a2 = some r) : Met l yX10_textSign (zz_ws yX10_textSign cX10_textSign 3 (some .int)) rm_X10_textSign (zz_P D dA A h n [.ref (a0), .int (a1), .int (a2)]) (zz_Q D dA A (some (.int r)) h n) 0 0 A := by
  refine zz_met (by decide) (Nat.le_of_ble_eq_true rfl) ?_
  intro p e s m args below meth c ls S K hret hlk hnm hl Z
  replace hl : lv_has ls 3 [(0, .ref (a0)), (1, .int (a1)), (2, .int (a2))] := hl
  obtain ⟨K0, hR0, hk⟩ : ∃ K0 : (Int32) → Prop, (∀ x, K0 x → x = r) ∧ K0 r := ⟨fun x => x = r, fun _ h => h, rfl⟩
  have hv := hf
  unfold f_X10_textSign at hv
  clear hf
  obtain ⟨x, hxx⟩ : ∃ x, x = r := ⟨_, rfl⟩
  rw [← hxx] at hv hk
  have ⟨H, hH⟩ : ∃ H, H = s.heap := ⟨_, rfl⟩
  have ⟨locs, hlo⟩ : ∃ q : List Loc, q = [] := ⟨_, rfl⟩
  have Z : zz_B D dA A h n s.heap H locs := by rw [hH, hlo]; exact Z
  have key : zz_W p l e rm_X10_textSign s m args below meth c D dA A (some (.int r)) h n 0 0 H locs 0 0 0 ls [] := by
    clear hH hlo hxx
    refine lv_iload_n S.1 S.2.1 dX10_textSign_0 rfl (lv_at hl 1 rfl) ?_
    refine lv_iconst (v := (-1 : Int32)) S.1 S.2.1 dX10_textSign_1 (by decide) ?_
    refine lv_icmp_ne (tgt := 10) S.1 S.2.1 dX10_textSign_2 (by decide) (fun hc => ?_) (fun hc => ?_)
    · replace hv := (if_neg hc).symm.trans hv
      refine lv_aload_n S.1 S.2.1 dX10_textSign_10 rfl (lv_at hl 0 rfl) ?_
      refine zz_gR S K Z hv zc_8 (by decide) gf_X10_20 dX10_textSign_11 (fun v1 hv => ?_)
      refine lv_iload_n S.1 S.2.1 dX10_textSign_14 rfl (lv_at hl 1 rfl) ?_
      refine lv_iload_n S.1 S.2.1 dX10_textSign_15 rfl (lv_at hl 2 rfl) ?_
      obtain ⟨hci, hv⟩ := zz_isO_s hv
      obtain ⟨v2, hq, hv⟩ := zz_bd hv
      refine zz_V [.int (a1), .int (a2)] S K Z hci zc_1 rfl (c_X1_signOf v1 a1 a2 hq) ⟨rfl, rfl⟩ gm_X1_signOf gmv_X1_signOf gl_X10_119 ⟨by decide, by decide⟩ rfl hl.1 rfl (Nat.le_of_ble_eq_true rfl) dX10_textSign_16 ⟨Nat.zero_le _, Nat.zero_le _⟩ (fun H locs Z => ?_)
      show W _ _ _ _ _ _ _ _ _ _ _ _ 0 0 _ (F0 m 19 ls [.int (v2)])
      replace hk := zz_fin hv hk
      obtain rfl := hR0 _ hk
      exact zz_iret S Z hret hlk dX10_textSign_19 (Nat.le_refl _) (Nat.le_refl _)
    · replace hv := (if_pos hc).symm.trans hv
      refine lv_bipush (v := (63 : Int32)) S.1 S.2.1 dX10_textSign_5 (by decide) ?_
      refine lv_goto (tgt := 19) S.1 S.2.1 dX10_textSign_7 (by decide) ?_
      replace hk := zz_fin hv hk
      obtain rfl := hR0 _ hk
      exact zz_iret S Z hret hlk dX10_textSign_19 (Nat.le_refl _) (Nat.le_refl _)
  rw [hH, hlo] at key
  exact key

noncomputable def f_X5_takes_L64 (h : ZH) (a0 : Nat) (a1 : Int32) (a2 : Int32) (a3 : Int32) (x5_3 : Int32)  : Option ((Int32) ⊕ (Int32)) :=
  if (a2 - (1 : Int32)) ≤ x5_3 then ((some ((0 : Int32))).map Sum.inr) else (zz_isO h a0 0 <| (f_X0_at h a0 x5_3).bind fun v4 => if v4 = a3 then ((some ((1 : Int32))).map Sum.inr) else (some (.inl (x5_3 + (1 : Int32)))))
noncomputable def f_X5_takes (h : ZH) (a0 : Nat) (a1 : Int32) (a2 : Int32) (a3 : Int32) : Option (Int32) :=
  zz_isO h a0 0 <| (f_X0_at h a0 a1).bind fun v1 => if v1 = (46 : Int32) then (some ((1 : Int32))) else (if v1 = (92 : Int32) then (zz_isO h a0 0 <| (f_X0_at h a0 (a1 + (1 : Int32))).bind fun v5 => if v5 = a3 then (some ((1 : Int32))) else (some ((0 : Int32)))) else (if v1 = (91 : Int32) then (zz_let (a1 + (1 : Int32)) fun v2 => zz_loop (fun st : (Int32) => f_X5_takes_L64 h a0 a1 a2 a3 (st)) (v2)) else (if v1 = a3 then (some ((1 : Int32))) else (some ((0 : Int32))))))
abbrev rm_X5_takes : Room := { frames := 1, cells := 0, slots := 0, locals := 21 }
set_option maxRecDepth 100000 in
set_option maxHeartbeats 4000000 in
theorem c_X5_takes {l : Launch} {D : va_G} {dA : Nat → ClassId} {A : Nat → Prop} {h : ZH} {n : Nat} (a0 : Nat) (a1 : Int32) (a2 : Int32) (a3 : Int32) {r : Int32} (hf : f_X5_takes h a0 a1 a2 a3 = some r) : Met l yX5_takes (zz_ws yX5_takes cX5_takes 6 (some .boolean)) rm_X5_takes (zz_P D dA A h n [.ref (a0), .int (a1), .int (a2), .int (a3)]) (zz_Q D dA A (some (.int r)) h n) 0 0 A := by
  refine zz_met (by decide) (Nat.le_of_ble_eq_true rfl) ?_
  intro p e s m args below meth c ls S K hret hlk hnm hl Z
  replace hl : lv_has ls 6 [(0, .ref (a0)), (1, .int (a1)), (2, .int (a2)), (3, .int (a3))] := hl
  obtain ⟨K0, hR0, hk⟩ : ∃ K0 : (Int32) → Prop, (∀ x, K0 x → x = r) ∧ K0 r := ⟨fun x => x = r, fun _ h => h, rfl⟩
  have L64 : ∀ (st : (Int32)) (x : (Int32)), zz_loop (fun st : (Int32) => f_X5_takes_L64 h a0 a1 a2 a3 (st)) st = some x → K0 x → (fun st : (Int32) => ∀ (H : Heap) (locs : List Loc) (ls : Array Slot), zz_B D dA A h n s.heap H locs → lv_has ls 6 [(0, .ref (a0)), (2, .int (a2)), (3, .int (a3)), (5, .int ((st)))] → zz_W p l e rm_X5_takes s m args below meth c D dA A (some (.int r)) h n 0 0 H locs 0 0 64 ls []) st := by
    refine zz_loop_go (K := K0) ?_
    intro K1 hP1 hR1
    rintro x5_3 x hv hk H locs ls Z hl
    replace hv : f_X5_takes_L64 h a0 a1 a2 a3 x5_3 = some x := hv
    unfold f_X5_takes_L64 at hv
    replace hl : lv_has ls 6 [(0, .ref (a0)), (2, .int (a2)), (3, .int (a3)), (5, .int (x5_3))] := hl
    replace Z : zz_B D dA A h n s.heap H locs := Z
    show zz_W p l e rm_X5_takes s m args below meth c D dA A (some (.int r)) h n 0 0 H locs 0 0 64 ls []
    refine lv_iload S.1 S.2.1 dX5_takes_64 (lv_at hl 3 rfl) ?_
    refine lv_iload_n S.1 S.2.1 dX5_takes_66 rfl (lv_at hl 1 rfl) ?_
    refine lv_iconst (v := (1 : Int32)) S.1 S.2.1 dX5_takes_67 (by decide) ?_
    refine lv_isub S.1 S.2.1 dX5_takes_68 ?_
    refine lv_icmp_ge (tgt := 90) S.1 S.2.1 dX5_takes_69 (by decide) (fun hc => ?_) (fun hc => ?_)
    · replace hv := (if_pos hc).symm.trans hv
      obtain ⟨_, hv, hk⟩ := zz_mapk hv hk
      replace hk := hR1 _ hk
      refine lv_iconst (v := (0 : Int32)) S.1 S.2.1 dX5_takes_90 (by decide) ?_
      replace hk := zz_fin hv hk
      obtain rfl := hR0 _ hk
      exact zz_zret S Z hret (by decide) hlk dX5_takes_91 (Nat.le_refl _) (Nat.le_refl _)
    · replace hv := (if_neg hc).symm.trans hv
      refine lv_aload_n S.1 S.2.1 dX5_takes_72 rfl (lv_at hl 0 rfl) ?_
      refine lv_iload S.1 S.2.1 dX5_takes_73 (lv_at hl 3 rfl) ?_
      obtain ⟨hci, hv⟩ := zz_isO_s hv
      obtain ⟨v4, hq, hv⟩ := zz_bd hv
      refine zz_V [.int (x5_3)] S K Z hci zc_0 rfl (c_X0_at a0 x5_3 hq) ⟨rfl, rfl⟩ gm_X0_at gmv_X0_at gl_X5_30 ⟨by decide, by decide⟩ rfl hl.1 rfl (Nat.le_of_ble_eq_true rfl) dX5_takes_75 ⟨Nat.zero_le _, Nat.zero_le _⟩ (fun H locs Z => ?_)
      show W _ _ _ _ _ _ _ _ _ _ _ _ 0 0 _ (F0 m 78 ls [.int (v4)])
      refine lv_iload_n S.1 S.2.1 dX5_takes_78 rfl (lv_at hl 2 rfl) ?_
      refine lv_icmp_ne (tgt := 84) S.1 S.2.1 dX5_takes_79 (by decide) (fun hc => ?_) (fun hc => ?_)
      · replace hv := (if_neg hc).symm.trans hv
        refine lv_iinc (v := x5_3 + (1 : Int32)) (lv' := [(5, .int (x5_3 + (1 : Int32))), (0, .ref (a0)), (2, .int (a2)), (3, .int (a3))]) S.1 S.2.1 dX5_takes_84 hl (k := 3) rfl rfl (by decide) rfl (fun ls hl => ?_)
        refine lv_goto (tgt := 64) S.1 S.2.1 dX5_takes_87 (by decide) ?_
        replace hk := zz_fin hv hk
        exact hP1 _ hk H locs ls Z (lv_sub hl [1, 2, 3, 0] rfl)
      · replace hv := (if_pos hc).symm.trans hv
        obtain ⟨_, hv, hk⟩ := zz_mapk hv hk
        replace hk := hR1 _ hk
        refine lv_iconst (v := (1 : Int32)) S.1 S.2.1 dX5_takes_82 (by decide) ?_
        replace hk := zz_fin hv hk
        obtain rfl := hR0 _ hk
        exact zz_zret S Z hret (by decide) hlk dX5_takes_83 (Nat.le_refl _) (Nat.le_refl _)
  have hv := hf
  unfold f_X5_takes at hv
  clear hf
  obtain ⟨x, hxx⟩ : ∃ x, x = r := ⟨_, rfl⟩
  rw [← hxx] at hv hk
  have ⟨H, hH⟩ : ∃ H, H = s.heap := ⟨_, rfl⟩
  have ⟨locs, hlo⟩ : ∃ q : List Loc, q = [] := ⟨_, rfl⟩
  have Z : zz_B D dA A h n s.heap H locs := by rw [hH, hlo]; exact Z
  have key : zz_W p l e rm_X5_takes s m args below meth c D dA A (some (.int r)) h n 0 0 H locs 0 0 0 ls [] := by
    clear hH hlo hxx
    refine lv_aload_n S.1 S.2.1 dX5_takes_0 rfl (lv_at hl 0 rfl) ?_
    refine lv_iload_n S.1 S.2.1 dX5_takes_1 rfl (lv_at hl 1 rfl) ?_
    obtain ⟨hci, hv⟩ := zz_isO_s hv
    obtain ⟨v1, hq, hv⟩ := zz_bd hv
    refine zz_V [.int (a1)] S K Z hci zc_0 rfl (c_X0_at a0 a1 hq) ⟨rfl, rfl⟩ gm_X0_at gmv_X0_at gl_X5_30 ⟨by decide, by decide⟩ rfl hl.1 rfl (Nat.le_of_ble_eq_true rfl) dX5_takes_2 ⟨Nat.zero_le _, Nat.zero_le _⟩ (fun H locs Z => ?_)
    show W _ _ _ _ _ _ _ _ _ _ _ _ 0 0 _ (F0 m 5 ls [.int (v1)])
    refine lv_istore (lv' := [(4, .int (v1)), (0, .ref (a0)), (1, .int (a1)), (2, .int (a2)), (3, .int (a3))]) S.1 S.2.1 dX5_takes_5 hl (by decide) rfl (fun ls hl => ?_)
    refine lv_iload S.1 S.2.1 dX5_takes_7 (lv_at hl 0 rfl) ?_
    refine lv_bipush (v := (46 : Int32)) S.1 S.2.1 dX5_takes_9 (by decide) ?_
    refine lv_icmp_ne (tgt := 16) S.1 S.2.1 dX5_takes_11 (by decide) (fun hc => ?_) (fun hc => ?_)
    · replace hv := (if_neg hc).symm.trans hv
      refine lv_iload S.1 S.2.1 dX5_takes_16 (lv_at hl 0 rfl) ?_
      refine lv_bipush (v := (92 : Int32)) S.1 S.2.1 dX5_takes_18 (by decide) ?_
      refine lv_icmp_ne (tgt := 40) S.1 S.2.1 dX5_takes_20 (by decide) (fun hc => ?_) (fun hc => ?_)
      · replace hv := (if_neg hc).symm.trans hv
        refine lv_iload S.1 S.2.1 dX5_takes_40 (lv_at hl 0 rfl) ?_
        refine lv_bipush (v := (91 : Int32)) S.1 S.2.1 dX5_takes_42 (by decide) ?_
        refine lv_icmp_eq (tgt := 59) S.1 S.2.1 dX5_takes_44 (by decide) (fun hc => ?_) (fun hc => ?_)
        · replace hv := (if_pos hc).symm.trans hv
          refine lv_iload_n S.1 S.2.1 dX5_takes_59 rfl (lv_at hl 2 rfl) ?_
          refine lv_iconst (v := (1 : Int32)) S.1 S.2.1 dX5_takes_60 (by decide) ?_
          refine lv_iadd S.1 S.2.1 dX5_takes_61 ?_
          refine zz_lt hv (G := fun w => W _ _ _ _ _ _ _ _ _ _ _ _ _ _ _ (F0 _ _ _ (.int w :: _))) (fun v2 hv => ?_)
          refine lv_istore (lv' := [(5, .int (v2)), (4, .int (v1)), (0, .ref (a0)), (1, .int (a1)), (2, .int (a2)), (3, .int (a3))]) S.1 S.2.1 dX5_takes_62 hl (by decide) rfl (fun ls hl => ?_)
          exact L64  (v2) _ hv hk H locs ls Z (lv_sub hl [2, 4, 5, 0] rfl)
        · replace hv := (if_neg hc).symm.trans hv
          refine lv_iload S.1 S.2.1 dX5_takes_47 (lv_at hl 0 rfl) ?_
          refine lv_iload_n S.1 S.2.1 dX5_takes_49 rfl (lv_at hl 4 rfl) ?_
          refine lv_icmp_ne (tgt := 57) S.1 S.2.1 dX5_takes_50 (by decide) (fun hc => ?_) (fun hc => ?_)
          · replace hv := (if_neg hc).symm.trans hv
            refine lv_iconst (v := (0 : Int32)) S.1 S.2.1 dX5_takes_57 (by decide) ?_
            replace hk := zz_fin hv hk
            obtain rfl := hR0 _ hk
            exact zz_zret S Z hret (by decide) hlk dX5_takes_58 (Nat.le_refl _) (Nat.le_refl _)
          · replace hv := (if_pos hc).symm.trans hv
            refine lv_iconst (v := (1 : Int32)) S.1 S.2.1 dX5_takes_53 (by decide) ?_
            refine lv_goto (tgt := 58) S.1 S.2.1 dX5_takes_54 (by decide) ?_
            replace hk := zz_fin hv hk
            obtain rfl := hR0 _ hk
            exact zz_zret S Z hret (by decide) hlk dX5_takes_58 (Nat.le_refl _) (Nat.le_refl _)
      · replace hv := (if_pos hc).symm.trans hv
        refine lv_aload_n S.1 S.2.1 dX5_takes_23 rfl (lv_at hl 1 rfl) ?_
        refine lv_iload_n S.1 S.2.1 dX5_takes_24 rfl (lv_at hl 2 rfl) ?_
        refine lv_iconst (v := (1 : Int32)) S.1 S.2.1 dX5_takes_25 (by decide) ?_
        refine lv_iadd S.1 S.2.1 dX5_takes_26 ?_
        obtain ⟨hci, hv⟩ := zz_isO_s hv
        obtain ⟨v5, hq, hv⟩ := zz_bd hv
        refine zz_V [.int (a1 + (1 : Int32))] S K Z hci zc_0 rfl (c_X0_at a0 (a1 + (1 : Int32)) hq) ⟨rfl, rfl⟩ gm_X0_at gmv_X0_at gl_X5_30 ⟨by decide, by decide⟩ rfl hl.1 rfl (Nat.le_of_ble_eq_true rfl) dX5_takes_27 ⟨Nat.zero_le _, Nat.zero_le _⟩ (fun H locs Z => ?_)
        show W _ _ _ _ _ _ _ _ _ _ _ _ 0 0 _ (F0 m 30 ls [.int (v5)])
        refine lv_iload_n S.1 S.2.1 dX5_takes_30 rfl (lv_at hl 4 rfl) ?_
        refine lv_icmp_ne (tgt := 38) S.1 S.2.1 dX5_takes_31 (by decide) (fun hc => ?_) (fun hc => ?_)
        · replace hv := (if_neg hc).symm.trans hv
          refine lv_iconst (v := (0 : Int32)) S.1 S.2.1 dX5_takes_38 (by decide) ?_
          replace hk := zz_fin hv hk
          obtain rfl := hR0 _ hk
          exact zz_zret S Z hret (by decide) hlk dX5_takes_39 (Nat.le_refl _) (Nat.le_refl _)
        · replace hv := (if_pos hc).symm.trans hv
          refine lv_iconst (v := (1 : Int32)) S.1 S.2.1 dX5_takes_34 (by decide) ?_
          refine lv_goto (tgt := 39) S.1 S.2.1 dX5_takes_35 (by decide) ?_
          replace hk := zz_fin hv hk
          obtain rfl := hR0 _ hk
          exact zz_zret S Z hret (by decide) hlk dX5_takes_39 (Nat.le_refl _) (Nat.le_refl _)
    · replace hv := (if_pos hc).symm.trans hv
      refine lv_iconst (v := (1 : Int32)) S.1 S.2.1 dX5_takes_14 (by decide) ?_
      replace hk := zz_fin hv hk
      obtain rfl := hR0 _ hk
      exact zz_zret S Z hret (by decide) hlk dX5_takes_15 (Nat.le_refl _) (Nat.le_refl _)
  rw [hH, hlo] at key
  exact key

noncomputable def f_X5_oneSignFurther_L6 (h : ZH) (a0 : Nat) (a1 : Int32) (a2 : Int32) (a3 : Nat) (a4 : Int32) (a5 : Int32) (x6_1 : Int32) (x7_2 : Int32)  : Option ((Int32 × Int32) ⊕ (Int32)) :=
  if (20 : Int32) ≤ x7_2 then ((some (x6_1)).map Sum.inr) else (if ((a5 >>> (x7_2 &&& 31)) &&& (1 : Int32)) = 0 then (some (.inl (x6_1, x7_2 + (1 : Int32)))) else (zz_isO h a3 8 <| (f_X10_textSign h a3 a4 x7_2).bind fun v3 => (f_X5_takes h a0 a1 a2 v3).bind fun v4 => if v4 = 0 then (some (.inl (x6_1, x7_2 + (1 : Int32)))) else (zz_let (x6_1 ||| ((1 : Int32) <<< ((x7_2 + (1 : Int32)) &&& 31))) fun v5 => some (.inl (v5, x7_2 + (1 : Int32))))))
noncomputable def f_X5_oneSignFurther (h : ZH) (a0 : Nat) (a1 : Int32) (a2 : Int32) (a3 : Nat) (a4 : Int32) (a5 : Int32) : Option (Int32) :=
  zz_loop (fun st : (Int32 × Int32) => f_X5_oneSignFurther_L6 h a0 a1 a2 a3 a4 a5 (st.1) (st.2)) ((0 : Int32), (0 : Int32))
abbrev rm_X5_oneSignFurther : Room := { frames := 3, cells := 0, slots := 0, locals := 66 }
set_option maxRecDepth 100000 in
set_option maxHeartbeats 4000000 in
theorem c_X5_oneSignFurther {l : Launch} {D : va_G} {dA : Nat → ClassId} {A : Nat → Prop} {h : ZH} {n : Nat} (a0 : Nat) (a1 : Int32) (a2 : Int32) (a3 : Nat) (a4 : Int32) (a5 : Int32) {r : Int32} (hf : f_X5_oneSignFurther h a0 a1 a2 a3 a4 a5 = some r) : Met l yX5_oneSignFurther (zz_ws yX5_oneSignFurther cX5_oneSignFurther 8 (some .int)) rm_X5_oneSignFurther (zz_P D dA A h n [.ref (a0), .int (a1), .int (a2), .ref (a3), .int (a4), .int (a5)]) (zz_Q D dA A (some (.int r)) h n) 0 0 A := by
  refine zz_met (by decide) (Nat.le_of_ble_eq_true rfl) ?_
  intro p e s m args below meth c ls S K hret hlk hnm hl Z
  replace hl : lv_has ls 8 [(0, .ref (a0)), (1, .int (a1)), (2, .int (a2)), (3, .ref (a3)), (4, .int (a4)), (5, .int (a5))] := hl
  obtain ⟨K0, hR0, hk⟩ : ∃ K0 : (Int32) → Prop, (∀ x, K0 x → x = r) ∧ K0 r := ⟨fun x => x = r, fun _ h => h, rfl⟩
  have L6 : ∀ (st : (Int32 × Int32)) (x : (Int32)), zz_loop (fun st : (Int32 × Int32) => f_X5_oneSignFurther_L6 h a0 a1 a2 a3 a4 a5 (st.1) (st.2)) st = some x → K0 x → (fun st : (Int32 × Int32) => ∀ (H : Heap) (locs : List Loc) (ls : Array Slot), zz_B D dA A h n s.heap H locs → lv_has ls 8 [(0, .ref (a0)), (1, .int (a1)), (2, .int (a2)), (3, .ref (a3)), (4, .int (a4)), (5, .int (a5)), (6, .int ((st.1))), (7, .int ((st.2)))] → zz_W p l e rm_X5_oneSignFurther s m args below meth c D dA A (some (.int r)) h n 0 0 H locs 0 0 6 ls []) st := by
    refine zz_loop_go (K := K0) ?_
    intro K1 hP1 hR1
    rintro ⟨x6_1, x7_2⟩ x hv hk H locs ls Z hl
    replace hv : f_X5_oneSignFurther_L6 h a0 a1 a2 a3 a4 a5 x6_1 x7_2 = some x := hv
    unfold f_X5_oneSignFurther_L6 at hv
    replace hl : lv_has ls 8 [(0, .ref (a0)), (1, .int (a1)), (2, .int (a2)), (3, .ref (a3)), (4, .int (a4)), (5, .int (a5)), (6, .int (x6_1)), (7, .int (x7_2))] := hl
    replace Z : zz_B D dA A h n s.heap H locs := Z
    show zz_W p l e rm_X5_oneSignFurther s m args below meth c D dA A (some (.int r)) h n 0 0 H locs 0 0 6 ls []
    refine lv_iload S.1 S.2.1 dX5_oneSignFurther_6 (lv_at hl 7 rfl) ?_
    refine lv_bipush (v := (20 : Int32)) S.1 S.2.1 dX5_oneSignFurther_8 (by decide) ?_
    refine lv_icmp_ge (tgt := 57) S.1 S.2.1 dX5_oneSignFurther_10 (by decide) (fun hc => ?_) (fun hc => ?_)
    · replace hv := (if_pos hc).symm.trans hv
      obtain ⟨_, hv, hk⟩ := zz_mapk hv hk
      replace hk := hR1 _ hk
      refine lv_iload S.1 S.2.1 dX5_oneSignFurther_57 (lv_at hl 6 rfl) ?_
      replace hk := zz_fin hv hk
      obtain rfl := hR0 _ hk
      exact zz_iret S Z hret hlk dX5_oneSignFurther_59 (Nat.le_refl _) (Nat.le_refl _)
    · replace hv := (if_neg hc).symm.trans hv
      refine lv_iload S.1 S.2.1 dX5_oneSignFurther_13 (lv_at hl 5 rfl) ?_
      refine lv_iload S.1 S.2.1 dX5_oneSignFurther_15 (lv_at hl 7 rfl) ?_
      refine lv_ishr S.1 S.2.1 dX5_oneSignFurther_17 ?_
      refine lv_iconst (v := (1 : Int32)) S.1 S.2.1 dX5_oneSignFurther_18 (by decide) ?_
      refine lv_iand S.1 S.2.1 dX5_oneSignFurther_19 ?_
      refine lv_if_eq (tgt := 51) S.1 S.2.1 dX5_oneSignFurther_20 (by decide) (fun hc => ?_) (fun hc => ?_)
      · replace hv := (if_pos hc).symm.trans hv
        refine lv_iinc (v := x7_2 + (1 : Int32)) (lv' := [(7, .int (x7_2 + (1 : Int32))), (0, .ref (a0)), (1, .int (a1)), (2, .int (a2)), (3, .ref (a3)), (4, .int (a4)), (5, .int (a5)), (6, .int (x6_1))]) S.1 S.2.1 dX5_oneSignFurther_51 hl (k := 7) rfl rfl (by decide) rfl (fun ls hl => ?_)
        refine lv_goto (tgt := 6) S.1 S.2.1 dX5_oneSignFurther_54 (by decide) ?_
        replace hk := zz_fin hv hk
        exact hP1 _ hk H locs ls Z (lv_sub hl [1, 2, 3, 4, 5, 6, 7, 0] rfl)
      · replace hv := (if_neg hc).symm.trans hv
        refine lv_aload_n S.1 S.2.1 dX5_oneSignFurther_23 rfl (lv_at hl 0 rfl) ?_
        refine lv_iload_n S.1 S.2.1 dX5_oneSignFurther_24 rfl (lv_at hl 1 rfl) ?_
        refine lv_iload_n S.1 S.2.1 dX5_oneSignFurther_25 rfl (lv_at hl 2 rfl) ?_
        refine lv_aload_n S.1 S.2.1 dX5_oneSignFurther_26 rfl (lv_at hl 3 rfl) ?_
        refine lv_iload S.1 S.2.1 dX5_oneSignFurther_27 (lv_at hl 4 rfl) ?_
        refine lv_iload S.1 S.2.1 dX5_oneSignFurther_29 (lv_at hl 7 rfl) ?_
        obtain ⟨hci, hv⟩ := zz_isO_s hv
        obtain ⟨v3, hq, hv⟩ := zz_bd hv
        refine zz_V [.int (a4), .int (x7_2)] S K Z hci zc_8 rfl (c_X10_textSign a3 a4 x7_2 hq) ⟨rfl, rfl⟩ gm_X10_textSign gmv_X10_textSign gl_X5_39 ⟨by decide, by decide⟩ rfl hl.1 rfl (Nat.le_of_ble_eq_true rfl) dX5_oneSignFurther_31 ⟨Nat.zero_le _, Nat.zero_le _⟩ (fun H locs Z => ?_)
        show W _ _ _ _ _ _ _ _ _ _ _ _ 0 0 _ (F0 m 34 ls [.int (v3), .int (a2), .int (a1), .ref (a0)])
        obtain ⟨v4, hq, hv⟩ := zz_bd hv
        refine zz_S [.ref (a0), .int (a1), .int (a2), .int (v3)] S K Z (c_X5_takes a0 a1 a2 v3 hq) ⟨rfl, rfl⟩ gm_X5_takes gs_X5_takes gl_X5_42 ⟨by decide, by decide⟩ rfl hl.1 rfl (Nat.le_of_ble_eq_true rfl) dX5_oneSignFurther_34 ⟨Nat.zero_le _, Nat.zero_le _⟩ (fun H locs Z => ?_)
        show W _ _ _ _ _ _ _ _ _ _ _ _ 0 0 _ (F0 m 37 ls [.int (v4)])
        refine lv_if_eq (tgt := 51) S.1 S.2.1 dX5_oneSignFurther_37 (by decide) (fun hc => ?_) (fun hc => ?_)
        · replace hv := (if_pos hc).symm.trans hv
          refine lv_iinc (v := x7_2 + (1 : Int32)) (lv' := [(7, .int (x7_2 + (1 : Int32))), (0, .ref (a0)), (1, .int (a1)), (2, .int (a2)), (3, .ref (a3)), (4, .int (a4)), (5, .int (a5)), (6, .int (x6_1))]) S.1 S.2.1 dX5_oneSignFurther_51 hl (k := 7) rfl rfl (by decide) rfl (fun ls hl => ?_)
          refine lv_goto (tgt := 6) S.1 S.2.1 dX5_oneSignFurther_54 (by decide) ?_
          replace hk := zz_fin hv hk
          exact hP1 _ hk H locs ls Z (lv_sub hl [1, 2, 3, 4, 5, 6, 7, 0] rfl)
        · replace hv := (if_neg hc).symm.trans hv
          refine lv_iload S.1 S.2.1 dX5_oneSignFurther_40 (lv_at hl 6 rfl) ?_
          refine lv_iconst (v := (1 : Int32)) S.1 S.2.1 dX5_oneSignFurther_42 (by decide) ?_
          refine lv_iload S.1 S.2.1 dX5_oneSignFurther_43 (lv_at hl 7 rfl) ?_
          refine lv_iconst (v := (1 : Int32)) S.1 S.2.1 dX5_oneSignFurther_45 (by decide) ?_
          refine lv_iadd S.1 S.2.1 dX5_oneSignFurther_46 ?_
          refine lv_ishl S.1 S.2.1 dX5_oneSignFurther_47 ?_
          refine lv_ior S.1 S.2.1 dX5_oneSignFurther_48 ?_
          refine zz_lt hv (G := fun w => W _ _ _ _ _ _ _ _ _ _ _ _ _ _ _ (F0 _ _ _ (.int w :: _))) (fun v5 hv => ?_)
          refine lv_istore (lv' := [(6, .int (v5)), (0, .ref (a0)), (1, .int (a1)), (2, .int (a2)), (3, .ref (a3)), (4, .int (a4)), (5, .int (a5)), (7, .int (x7_2))]) S.1 S.2.1 dX5_oneSignFurther_49 hl (by decide) rfl (fun ls hl => ?_)
          refine lv_iinc (v := x7_2 + (1 : Int32)) (lv' := [(7, .int (x7_2 + (1 : Int32))), (6, .int (v5)), (0, .ref (a0)), (1, .int (a1)), (2, .int (a2)), (3, .ref (a3)), (4, .int (a4)), (5, .int (a5))]) S.1 S.2.1 dX5_oneSignFurther_51 hl (k := 7) rfl rfl (by decide) rfl (fun ls hl => ?_)
          refine lv_goto (tgt := 6) S.1 S.2.1 dX5_oneSignFurther_54 (by decide) ?_
          replace hk := zz_fin hv hk
          exact hP1 _ hk H locs ls Z (lv_sub hl [2, 3, 4, 5, 6, 7, 1, 0] rfl)
  have hv := hf
  unfold f_X5_oneSignFurther at hv
  clear hf
  obtain ⟨x, hxx⟩ : ∃ x, x = r := ⟨_, rfl⟩
  rw [← hxx] at hv hk
  have ⟨H, hH⟩ : ∃ H, H = s.heap := ⟨_, rfl⟩
  have ⟨locs, hlo⟩ : ∃ q : List Loc, q = [] := ⟨_, rfl⟩
  have Z : zz_B D dA A h n s.heap H locs := by rw [hH, hlo]; exact Z
  have key : zz_W p l e rm_X5_oneSignFurther s m args below meth c D dA A (some (.int r)) h n 0 0 H locs 0 0 0 ls [] := by
    clear hH hlo hxx
    refine lv_iconst (v := (0 : Int32)) S.1 S.2.1 dX5_oneSignFurther_0 (by decide) ?_
    refine lv_istore (lv' := [(6, .int ((0 : Int32))), (0, .ref (a0)), (1, .int (a1)), (2, .int (a2)), (3, .ref (a3)), (4, .int (a4)), (5, .int (a5))]) S.1 S.2.1 dX5_oneSignFurther_1 hl (by decide) rfl (fun ls hl => ?_)
    refine lv_iconst (v := (0 : Int32)) S.1 S.2.1 dX5_oneSignFurther_3 (by decide) ?_
    refine lv_istore (lv' := [(7, .int ((0 : Int32))), (6, .int ((0 : Int32))), (0, .ref (a0)), (1, .int (a1)), (2, .int (a2)), (3, .ref (a3)), (4, .int (a4)), (5, .int (a5))]) S.1 S.2.1 dX5_oneSignFurther_4 hl (by decide) rfl (fun ls hl => ?_)
    exact L6  ((0 : Int32), (0 : Int32)) _ hv hk H locs ls Z (lv_sub hl [2, 3, 4, 5, 6, 7, 1, 0] rfl)
  rw [hH, hlo] at key
  exact key
