noncomputable def f_X1_has (h : ZH) (a0 : Nat) (a1 : Int32) : Option (Int32) :=
  if a1 < 0 then (some ((0 : Int32))) else ((zg_I h a0 1 3).bind fun v1 => if v1 ≤ a1 then (some ((0 : Int32))) else ((zg_R h a0 1 2).bind fun v2 => (zl_N h v2 1).bind fun v3 => if v3 ≤ a1 then (some ((0 : Int32))) else (some ((1 : Int32)))))
abbrev rm_X1_has : Room := { frames := 0, cells := 0, slots := 0, locals := 0 }
set_option maxRecDepth 100000 in
set_option maxHeartbeats 4000000 in
theorem c_X1_has {l : Launch} {D : va_G} {dA : Nat → ClassId} {A : Nat → Prop} {h : ZH} {n : Nat} (a0 : Nat) (a1 : Int32) {r : Int32} (hf : f_X1_has h a0 a1 = some r) : Met l yX1_has (zz_ws yX1_has cX1_has 2 (some .boolean)) rm_X1_has (zz_P D dA A h n [.ref (a0), .int (a1)]) (zz_Q D dA A (some (.int r)) h n) 0 0 A := by
  refine zz_met (by decide) (Nat.le_of_ble_eq_true rfl) ?_
  intro p e s m args below meth c ls S K hret hlk hnm hl Z
  replace hl : lv_has ls 2 [(0, .ref (a0)), (1, .int (a1))] := hl
  obtain ⟨K0, hR0, hk⟩ : ∃ K0 : (Int32) → Prop, (∀ x, K0 x → x = r) ∧ K0 r := ⟨fun x => x = r, fun _ h => h, rfl⟩
  have hv := hf
  unfold f_X1_has at hv
  clear hf
  obtain ⟨x, hxx⟩ : ∃ x, x = r := ⟨_, rfl⟩
  rw [← hxx] at hv hk
  have ⟨H, hH⟩ : ∃ H, H = s.heap := ⟨_, rfl⟩
  have ⟨locs, hlo⟩ : ∃ q : List Loc, q = [] := ⟨_, rfl⟩
  have Z : zz_B D dA A h n s.heap H locs := by rw [hH, hlo]; exact Z
  have key : zz_W p l e rm_X1_has s m args below meth c D dA A (some (.int r)) h n 0 0 H locs 0 0 0 ls [] := by
    clear hH hlo hxx
    refine lv_iload_n S.1 S.2.1 dX1_has_0 rfl (lv_at hl 1 rfl) ?_
    refine lv_if_lt (tgt := 25) S.1 S.2.1 dX1_has_1 (by decide) (fun hc => ?_) (fun hc => ?_)
    · replace hv := (if_pos hc).symm.trans hv
      refine lv_iconst (v := (0 : Int32)) S.1 S.2.1 dX1_has_25 (by decide) ?_
      replace hk := zz_fin hv hk
      obtain rfl := hR0 _ hk
      exact zz_zret S Z hret (by decide) hlk dX1_has_26 (Nat.le_refl _) (Nat.le_refl _)
    · replace hv := (if_neg hc).symm.trans hv
      refine lv_iload_n S.1 S.2.1 dX1_has_4 rfl (lv_at hl 1 rfl) ?_
      refine lv_aload_n S.1 S.2.1 dX1_has_5 rfl (lv_at hl 0 rfl) ?_
      refine zz_gI S K Z hv zc_1 (by decide) gf_X1_23 dX1_has_6 (fun v1 hv => ?_)
      refine lv_icmp_ge (tgt := 25) S.1 S.2.1 dX1_has_9 (by decide) (fun hc => ?_) (fun hc => ?_)
      · replace hv := (if_pos hc).symm.trans hv
        refine lv_iconst (v := (0 : Int32)) S.1 S.2.1 dX1_has_25 (by decide) ?_
        replace hk := zz_fin hv hk
        obtain rfl := hR0 _ hk
        exact zz_zret S Z hret (by decide) hlk dX1_has_26 (Nat.le_refl _) (Nat.le_refl _)
      · replace hv := (if_neg hc).symm.trans hv
        refine lv_iload_n S.1 S.2.1 dX1_has_12 rfl (lv_at hl 1 rfl) ?_
        refine lv_aload_n S.1 S.2.1 dX1_has_13 rfl (lv_at hl 0 rfl) ?_
        refine zz_gR S K Z hv zc_1 (by decide) gf_X1_19 dX1_has_14 (fun v2 hv => ?_)
        refine zz_alen S K Z hv rfl dX1_has_17 (fun v3 hv => ?_)
        refine lv_icmp_ge (tgt := 25) S.1 S.2.1 dX1_has_18 (by decide) (fun hc => ?_) (fun hc => ?_)
        · replace hv := (if_pos hc).symm.trans hv
          refine lv_iconst (v := (0 : Int32)) S.1 S.2.1 dX1_has_25 (by decide) ?_
          replace hk := zz_fin hv hk
          obtain rfl := hR0 _ hk
          exact zz_zret S Z hret (by decide) hlk dX1_has_26 (Nat.le_refl _) (Nat.le_refl _)
        · replace hv := (if_neg hc).symm.trans hv
          refine lv_iconst (v := (1 : Int32)) S.1 S.2.1 dX1_has_21 (by decide) ?_
          refine lv_goto (tgt := 26) S.1 S.2.1 dX1_has_22 (by decide) ?_
          replace hk := zz_fin hv hk
          obtain rfl := hR0 _ hk
          exact zz_zret S Z hret (by decide) hlk dX1_has_26 (Nat.le_refl _) (Nat.le_refl _)
  rw [hH, hlo] at key
  exact key

noncomputable def f_X11_inside (h : ZH) (a0 : Int32) (a1 : Int32) (a2 : Int32) : Option (Int32) :=
  if a0 < a1 then (some ((0 : Int32))) else (if a2 < a0 then (some ((0 : Int32))) else (some ((1 : Int32))))
abbrev rm_X11_inside : Room := { frames := 0, cells := 0, slots := 0, locals := 0 }
set_option maxRecDepth 100000 in
set_option maxHeartbeats 4000000 in
theorem c_X11_inside {l : Launch} {D : va_G} {dA : Nat → ClassId} {A : Nat → Prop} {h : ZH} {n : Nat} (a0 : Int32) (a1 : Int32) (a2 : Int32) {r : Int32} (hf : f_X11_inside h a0 a1 a2 = some r) : Met l yX11_inside (zz_ws yX11_inside cX11_inside 3 (some .boolean)) rm_X11_inside (zz_P D dA A h n [.int (a0), .int (a1), .int (a2)]) (zz_Q D dA A (some (.int r)) h n) 0 0 A := by
  refine zz_met (by decide) (Nat.le_of_ble_eq_true rfl) ?_
  intro p e s m args below meth c ls S K hret hlk hnm hl Z
  replace hl : lv_has ls 3 [(0, .int (a0)), (1, .int (a1)), (2, .int (a2))] := hl
  obtain ⟨K0, hR0, hk⟩ : ∃ K0 : (Int32) → Prop, (∀ x, K0 x → x = r) ∧ K0 r := ⟨fun x => x = r, fun _ h => h, rfl⟩
  have hv := hf
  unfold f_X11_inside at hv
  clear hf
  obtain ⟨x, hxx⟩ : ∃ x, x = r := ⟨_, rfl⟩
  rw [← hxx] at hv hk
  have ⟨H, hH⟩ : ∃ H, H = s.heap := ⟨_, rfl⟩
  have ⟨locs, hlo⟩ : ∃ q : List Loc, q = [] := ⟨_, rfl⟩
  have Z : zz_B D dA A h n s.heap H locs := by rw [hH, hlo]; exact Z
  have key : zz_W p l e rm_X11_inside s m args below meth c D dA A (some (.int r)) h n 0 0 H locs 0 0 0 ls [] := by
    clear hH hlo hxx
    refine lv_iload_n S.1 S.2.1 dX11_inside_0 rfl (lv_at hl 0 rfl) ?_
    refine lv_iload_n S.1 S.2.1 dX11_inside_1 rfl (lv_at hl 1 rfl) ?_
    refine lv_icmp_lt (tgt := 14) S.1 S.2.1 dX11_inside_2 (by decide) (fun hc => ?_) (fun hc => ?_)
    · replace hv := (if_pos hc).symm.trans hv
      refine lv_iconst (v := (0 : Int32)) S.1 S.2.1 dX11_inside_14 (by decide) ?_
      replace hk := zz_fin hv hk
      obtain rfl := hR0 _ hk
      exact zz_zret S Z hret (by decide) hlk dX11_inside_15 (Nat.le_refl _) (Nat.le_refl _)
    · replace hv := (if_neg hc).symm.trans hv
      refine lv_iload_n S.1 S.2.1 dX11_inside_5 rfl (lv_at hl 0 rfl) ?_
      refine lv_iload_n S.1 S.2.1 dX11_inside_6 rfl (lv_at hl 2 rfl) ?_
      refine lv_icmp_gt (tgt := 14) S.1 S.2.1 dX11_inside_7 (by decide) (fun hc => ?_) (fun hc => ?_)
      · replace hv := (if_pos hc).symm.trans hv
        refine lv_iconst (v := (0 : Int32)) S.1 S.2.1 dX11_inside_14 (by decide) ?_
        replace hk := zz_fin hv hk
        obtain rfl := hR0 _ hk
        exact zz_zret S Z hret (by decide) hlk dX11_inside_15 (Nat.le_refl _) (Nat.le_refl _)
      · replace hv := (if_neg hc).symm.trans hv
        refine lv_iconst (v := (1 : Int32)) S.1 S.2.1 dX11_inside_10 (by decide) ?_
        refine lv_goto (tgt := 15) S.1 S.2.1 dX11_inside_11 (by decide) ?_
        replace hk := zz_fin hv hk
        obtain rfl := hR0 _ hk
        exact zz_zret S Z hret (by decide) hlk dX11_inside_15 (Nat.le_refl _) (Nat.le_refl _)
  rw [hH, hlo] at key
  exact key

noncomputable def f_X11_actWants (h : ZH) (a0 : Int32) (a1 : Int32) (a2 : Int32) : Option (Int32) :=
  if a0 = (0 : Int32) then (some ((1 : Int32))) else (if a0 = (1 : Int32) then ((f_X11_inside h a1 (0 : Int32) (7 : Int32)).bind fun v1 => if v1 = 0 then (some ((0 : Int32))) else ((f_X11_inside h a2 (-1000 : Int32) (1000 : Int32)).bind fun v2 => if v2 = 0 then (some ((0 : Int32))) else (some ((1 : Int32))))) else (if a0 = (2 : Int32) then ((f_X11_inside h a1 (0 : Int32) (7 : Int32)).bind fun v3 => if v3 = 0 then (some ((0 : Int32))) else ((f_X11_inside h a2 (0 : Int32) (7 : Int32)).bind fun v4 => if v4 = 0 then (some ((0 : Int32))) else (some ((1 : Int32))))) else (if a0 = (3 : Int32) then ((f_X11_inside h a1 (0 : Int32) (3 : Int32)).bind fun v5 => if v5 = 0 then (some ((0 : Int32))) else ((f_X11_inside h a2 (0 : Int32) (7 : Int32)).bind fun v6 => if v6 = 0 then (some ((0 : Int32))) else (some ((1 : Int32))))) else (if a0 = (4 : Int32) then ((f_X11_inside h a1 (0 : Int32) (3 : Int32)).bind fun v7 => zz_ok (v7 = 0 ∨ v7 = 1) <| some (v7)) else (if a0 = (5 : Int32) then ((f_X11_inside h a1 (0 : Int32) (7 : Int32)).bind fun v8 => if v8 = 0 then (some ((0 : Int32))) else ((f_X11_inside h a2 (1 : Int32) (100 : Int32)).bind fun v9 => if v9 = 0 then (some ((0 : Int32))) else (some ((1 : Int32))))) else (if a0 = (6 : Int32) then ((f_X11_inside h a1 (1 : Int32) (9 : Int32)).bind fun v10 => zz_ok (v10 = 0 ∨ v10 = 1) <| some (v10)) else (some ((0 : Int32)))))))))
abbrev rm_X11_actWants : Room := { frames := 1, cells := 0, slots := 0, locals := 22 }
set_option maxRecDepth 100000 in
set_option maxHeartbeats 4000000 in
theorem c_X11_actWants {l : Launch} {D : va_G} {dA : Nat → ClassId} {A : Nat → Prop} {h : ZH} {n : Nat} (a0 : Int32) (a1 : Int32) (a2 : Int32) {r : Int32} (hf : f_X11_actWants h a0 a1 a2 = some r) : Met l yX11_actWants (zz_ws yX11_actWants cX11_actWants 3 (some .boolean)) rm_X11_actWants (zz_P D dA A h n [.int (a0), .int (a1), .int (a2)]) (zz_Q D dA A (some (.int r)) h n) 0 0 A := by
  refine zz_met (by decide) (Nat.le_of_ble_eq_true rfl) ?_
  intro p e s m args below meth c ls S K hret hlk hnm hl Z
  replace hl : lv_has ls 3 [(0, .int (a0)), (1, .int (a1)), (2, .int (a2))] := hl
  obtain ⟨K0, hR0, hk⟩ : ∃ K0 : (Int32) → Prop, (∀ x, K0 x → x = r) ∧ K0 r := ⟨fun x => x = r, fun _ h => h, rfl⟩
  have hv := hf
  unfold f_X11_actWants at hv
  clear hf
  obtain ⟨x, hxx⟩ : ∃ x, x = r := ⟨_, rfl⟩
  rw [← hxx] at hv hk
  have ⟨H, hH⟩ : ∃ H, H = s.heap := ⟨_, rfl⟩
  have ⟨locs, hlo⟩ : ∃ q : List Loc, q = [] := ⟨_, rfl⟩
  have Z : zz_B D dA A h n s.heap H locs := by rw [hH, hlo]; exact Z
  have key : zz_W p l e rm_X11_actWants s m args below meth c D dA A (some (.int r)) h n 0 0 H locs 0 0 0 ls [] := by
    clear hH hlo hxx
    refine lv_iload_n S.1 S.2.1 dX11_actWants_0 rfl (lv_at hl 0 rfl) ?_
    by_cases hc0 : a0 = (0 : Int32)
    · replace hv := (if_pos hc0).symm.trans hv
      refine lv_tableIn (tgt := 44) S.1 S.2.1 dX11_actWants_1 (by rw [hc0]; decide) (by rw [hc0]; decide) (by rw [hc0]; rfl) (by decide) ?_
      refine lv_iconst (v := (1 : Int32)) S.1 S.2.1 dX11_actWants_44 (by decide) ?_
      replace hk := zz_fin hv hk
      obtain rfl := hR0 _ hk
      exact zz_zret S Z hret (by decide) hlk dX11_actWants_45 (Nat.le_refl _) (Nat.le_refl _)
    · replace hv := (if_neg hc0).symm.trans hv
      by_cases hc1 : a0 = (1 : Int32)
      · replace hv := (if_pos hc1).symm.trans hv
        refine lv_tableIn (tgt := 46) S.1 S.2.1 dX11_actWants_1 (by rw [hc1]; decide) (by rw [hc1]; decide) (by rw [hc1]; rfl) (by decide) ?_
        refine lv_iload_n S.1 S.2.1 dX11_actWants_46 rfl (lv_at hl 1 rfl) ?_
        refine lv_iconst (v := (0 : Int32)) S.1 S.2.1 dX11_actWants_47 (by decide) ?_
        refine lv_bipush (v := (7 : Int32)) S.1 S.2.1 dX11_actWants_48 (by decide) ?_
        obtain ⟨v1, hq, hv⟩ := zz_bd hv
        refine zz_S [.int (a1), .int ((0 : Int32)), .int ((7 : Int32))] S K Z (c_X11_inside a1 (0 : Int32) (7 : Int32) hq) ⟨rfl, rfl⟩ gm_X11_inside gs_X11_inside gl_X11_100 ⟨by decide, by decide⟩ rfl hl.1 rfl (Nat.le_of_ble_eq_true rfl) dX11_actWants_50 ⟨Nat.zero_le _, Nat.zero_le _⟩ (fun H locs Z => ?_)
        show W _ _ _ _ _ _ _ _ _ _ _ _ 0 0 _ (F0 m 53 ls [.int (v1)])
        refine lv_if_eq (tgt := 73) S.1 S.2.1 dX11_actWants_53 (by decide) (fun hc => ?_) (fun hc => ?_)
        · replace hv := (if_pos hc).symm.trans hv
          refine lv_iconst (v := (0 : Int32)) S.1 S.2.1 dX11_actWants_73 (by decide) ?_
          replace hk := zz_fin hv hk
          obtain rfl := hR0 _ hk
          exact zz_zret S Z hret (by decide) hlk dX11_actWants_74 (Nat.le_refl _) (Nat.le_refl _)
        · replace hv := (if_neg hc).symm.trans hv
          refine lv_iload_n S.1 S.2.1 dX11_actWants_56 rfl (lv_at hl 2 rfl) ?_
          refine lv_sipush (v := (-1000 : Int32)) S.1 S.2.1 dX11_actWants_57 (by decide) ?_
          refine lv_sipush (v := (1000 : Int32)) S.1 S.2.1 dX11_actWants_60 (by decide) ?_
          obtain ⟨v2, hq, hv⟩ := zz_bd hv
          refine zz_S [.int (a2), .int ((-1000 : Int32)), .int ((1000 : Int32))] S K Z (c_X11_inside a2 (-1000 : Int32) (1000 : Int32) hq) ⟨rfl, rfl⟩ gm_X11_inside gs_X11_inside gl_X11_100 ⟨by decide, by decide⟩ rfl hl.1 rfl (Nat.le_of_ble_eq_true rfl) dX11_actWants_63 ⟨Nat.zero_le _, Nat.zero_le _⟩ (fun H locs Z => ?_)
          show W _ _ _ _ _ _ _ _ _ _ _ _ 0 0 _ (F0 m 66 ls [.int (v2)])
          refine lv_if_eq (tgt := 73) S.1 S.2.1 dX11_actWants_66 (by decide) (fun hc => ?_) (fun hc => ?_)
          · replace hv := (if_pos hc).symm.trans hv
            refine lv_iconst (v := (0 : Int32)) S.1 S.2.1 dX11_actWants_73 (by decide) ?_
            replace hk := zz_fin hv hk
            obtain rfl := hR0 _ hk
            exact zz_zret S Z hret (by decide) hlk dX11_actWants_74 (Nat.le_refl _) (Nat.le_refl _)
          · replace hv := (if_neg hc).symm.trans hv
            refine lv_iconst (v := (1 : Int32)) S.1 S.2.1 dX11_actWants_69 (by decide) ?_
            refine lv_goto (tgt := 74) S.1 S.2.1 dX11_actWants_70 (by decide) ?_
            replace hk := zz_fin hv hk
            obtain rfl := hR0 _ hk
            exact zz_zret S Z hret (by decide) hlk dX11_actWants_74 (Nat.le_refl _) (Nat.le_refl _)
      · replace hv := (if_neg hc1).symm.trans hv
        by_cases hc2 : a0 = (2 : Int32)
        · replace hv := (if_pos hc2).symm.trans hv
          refine lv_tableIn (tgt := 75) S.1 S.2.1 dX11_actWants_1 (by rw [hc2]; decide) (by rw [hc2]; decide) (by rw [hc2]; rfl) (by decide) ?_
          refine lv_iload_n S.1 S.2.1 dX11_actWants_75 rfl (lv_at hl 1 rfl) ?_
          refine lv_iconst (v := (0 : Int32)) S.1 S.2.1 dX11_actWants_76 (by decide) ?_
          refine lv_bipush (v := (7 : Int32)) S.1 S.2.1 dX11_actWants_77 (by decide) ?_
          obtain ⟨v3, hq, hv⟩ := zz_bd hv
          refine zz_S [.int (a1), .int ((0 : Int32)), .int ((7 : Int32))] S K Z (c_X11_inside a1 (0 : Int32) (7 : Int32) hq) ⟨rfl, rfl⟩ gm_X11_inside gs_X11_inside gl_X11_100 ⟨by decide, by decide⟩ rfl hl.1 rfl (Nat.le_of_ble_eq_true rfl) dX11_actWants_79 ⟨Nat.zero_le _, Nat.zero_le _⟩ (fun H locs Z => ?_)
          show W _ _ _ _ _ _ _ _ _ _ _ _ 0 0 _ (F0 m 82 ls [.int (v3)])
          refine lv_if_eq (tgt := 99) S.1 S.2.1 dX11_actWants_82 (by decide) (fun hc => ?_) (fun hc => ?_)
          · replace hv := (if_pos hc).symm.trans hv
            refine lv_iconst (v := (0 : Int32)) S.1 S.2.1 dX11_actWants_99 (by decide) ?_
            replace hk := zz_fin hv hk
            obtain rfl := hR0 _ hk
            exact zz_zret S Z hret (by decide) hlk dX11_actWants_100 (Nat.le_refl _) (Nat.le_refl _)
          · replace hv := (if_neg hc).symm.trans hv
            refine lv_iload_n S.1 S.2.1 dX11_actWants_85 rfl (lv_at hl 2 rfl) ?_
            refine lv_iconst (v := (0 : Int32)) S.1 S.2.1 dX11_actWants_86 (by decide) ?_
            refine lv_bipush (v := (7 : Int32)) S.1 S.2.1 dX11_actWants_87 (by decide) ?_
            obtain ⟨v4, hq, hv⟩ := zz_bd hv
            refine zz_S [.int (a2), .int ((0 : Int32)), .int ((7 : Int32))] S K Z (c_X11_inside a2 (0 : Int32) (7 : Int32) hq) ⟨rfl, rfl⟩ gm_X11_inside gs_X11_inside gl_X11_100 ⟨by decide, by decide⟩ rfl hl.1 rfl (Nat.le_of_ble_eq_true rfl) dX11_actWants_89 ⟨Nat.zero_le _, Nat.zero_le _⟩ (fun H locs Z => ?_)
            show W _ _ _ _ _ _ _ _ _ _ _ _ 0 0 _ (F0 m 92 ls [.int (v4)])
            refine lv_if_eq (tgt := 99) S.1 S.2.1 dX11_actWants_92 (by decide) (fun hc => ?_) (fun hc => ?_)
            · replace hv := (if_pos hc).symm.trans hv
              refine lv_iconst (v := (0 : Int32)) S.1 S.2.1 dX11_actWants_99 (by decide) ?_
              replace hk := zz_fin hv hk
              obtain rfl := hR0 _ hk
              exact zz_zret S Z hret (by decide) hlk dX11_actWants_100 (Nat.le_refl _) (Nat.le_refl _)
            · replace hv := (if_neg hc).symm.trans hv
              refine lv_iconst (v := (1 : Int32)) S.1 S.2.1 dX11_actWants_95 (by decide) ?_
              refine lv_goto (tgt := 100) S.1 S.2.1 dX11_actWants_96 (by decide) ?_
              replace hk := zz_fin hv hk
              obtain rfl := hR0 _ hk
              exact zz_zret S Z hret (by decide) hlk dX11_actWants_100 (Nat.le_refl _) (Nat.le_refl _)
        · replace hv := (if_neg hc2).symm.trans hv
          by_cases hc3 : a0 = (3 : Int32)
          · replace hv := (if_pos hc3).symm.trans hv
            refine lv_tableIn (tgt := 101) S.1 S.2.1 dX11_actWants_1 (by rw [hc3]; decide) (by rw [hc3]; decide) (by rw [hc3]; rfl) (by decide) ?_
            refine lv_iload_n S.1 S.2.1 dX11_actWants_101 rfl (lv_at hl 1 rfl) ?_
            refine lv_iconst (v := (0 : Int32)) S.1 S.2.1 dX11_actWants_102 (by decide) ?_
            refine lv_iconst (v := (3 : Int32)) S.1 S.2.1 dX11_actWants_103 (by decide) ?_
            obtain ⟨v5, hq, hv⟩ := zz_bd hv
            refine zz_S [.int (a1), .int ((0 : Int32)), .int ((3 : Int32))] S K Z (c_X11_inside a1 (0 : Int32) (3 : Int32) hq) ⟨rfl, rfl⟩ gm_X11_inside gs_X11_inside gl_X11_100 ⟨by decide, by decide⟩ rfl hl.1 rfl (Nat.le_of_ble_eq_true rfl) dX11_actWants_104 ⟨Nat.zero_le _, Nat.zero_le _⟩ (fun H locs Z => ?_)
            show W _ _ _ _ _ _ _ _ _ _ _ _ 0 0 _ (F0 m 107 ls [.int (v5)])
            refine lv_if_eq (tgt := 124) S.1 S.2.1 dX11_actWants_107 (by decide) (fun hc => ?_) (fun hc => ?_)
            · replace hv := (if_pos hc).symm.trans hv
              refine lv_iconst (v := (0 : Int32)) S.1 S.2.1 dX11_actWants_124 (by decide) ?_
              replace hk := zz_fin hv hk
              obtain rfl := hR0 _ hk
              exact zz_zret S Z hret (by decide) hlk dX11_actWants_125 (Nat.le_refl _) (Nat.le_refl _)
            · replace hv := (if_neg hc).symm.trans hv
              refine lv_iload_n S.1 S.2.1 dX11_actWants_110 rfl (lv_at hl 2 rfl) ?_
              refine lv_iconst (v := (0 : Int32)) S.1 S.2.1 dX11_actWants_111 (by decide) ?_
              refine lv_bipush (v := (7 : Int32)) S.1 S.2.1 dX11_actWants_112 (by decide) ?_
              obtain ⟨v6, hq, hv⟩ := zz_bd hv
              refine zz_S [.int (a2), .int ((0 : Int32)), .int ((7 : Int32))] S K Z (c_X11_inside a2 (0 : Int32) (7 : Int32) hq) ⟨rfl, rfl⟩ gm_X11_inside gs_X11_inside gl_X11_100 ⟨by decide, by decide⟩ rfl hl.1 rfl (Nat.le_of_ble_eq_true rfl) dX11_actWants_114 ⟨Nat.zero_le _, Nat.zero_le _⟩ (fun H locs Z => ?_)
              show W _ _ _ _ _ _ _ _ _ _ _ _ 0 0 _ (F0 m 117 ls [.int (v6)])
              refine lv_if_eq (tgt := 124) S.1 S.2.1 dX11_actWants_117 (by decide) (fun hc => ?_) (fun hc => ?_)
              · replace hv := (if_pos hc).symm.trans hv
                refine lv_iconst (v := (0 : Int32)) S.1 S.2.1 dX11_actWants_124 (by decide) ?_
                replace hk := zz_fin hv hk
                obtain rfl := hR0 _ hk
                exact zz_zret S Z hret (by decide) hlk dX11_actWants_125 (Nat.le_refl _) (Nat.le_refl _)
              · replace hv := (if_neg hc).symm.trans hv
                refine lv_iconst (v := (1 : Int32)) S.1 S.2.1 dX11_actWants_120 (by decide) ?_
                refine lv_goto (tgt := 125) S.1 S.2.1 dX11_actWants_121 (by decide) ?_
                replace hk := zz_fin hv hk
                obtain rfl := hR0 _ hk
                exact zz_zret S Z hret (by decide) hlk dX11_actWants_125 (Nat.le_refl _) (Nat.le_refl _)
          · replace hv := (if_neg hc3).symm.trans hv
            by_cases hc4 : a0 = (4 : Int32)
            · replace hv := (if_pos hc4).symm.trans hv
              refine lv_tableIn (tgt := 126) S.1 S.2.1 dX11_actWants_1 (by rw [hc4]; decide) (by rw [hc4]; decide) (by rw [hc4]; rfl) (by decide) ?_
              refine lv_iload_n S.1 S.2.1 dX11_actWants_126 rfl (lv_at hl 1 rfl) ?_
              refine lv_iconst (v := (0 : Int32)) S.1 S.2.1 dX11_actWants_127 (by decide) ?_
              refine lv_iconst (v := (3 : Int32)) S.1 S.2.1 dX11_actWants_128 (by decide) ?_
              obtain ⟨v7, hq, hv⟩ := zz_bd hv
              refine zz_S [.int (a1), .int ((0 : Int32)), .int ((3 : Int32))] S K Z (c_X11_inside a1 (0 : Int32) (3 : Int32) hq) ⟨rfl, rfl⟩ gm_X11_inside gs_X11_inside gl_X11_100 ⟨by decide, by decide⟩ rfl hl.1 rfl (Nat.le_of_ble_eq_true rfl) dX11_actWants_129 ⟨Nat.zero_le _, Nat.zero_le _⟩ (fun H locs Z => ?_)
              show W _ _ _ _ _ _ _ _ _ _ _ _ 0 0 _ (F0 m 132 ls [.int (v7)])
              obtain ⟨hok, hv⟩ := zz_ok_s hv
              replace hk := zz_fin hv hk
              obtain rfl := hR0 _ hk
              exact zz_zret S Z hret hok hlk dX11_actWants_132 (Nat.le_refl _) (Nat.le_refl _)
            · replace hv := (if_neg hc4).symm.trans hv
              by_cases hc5 : a0 = (5 : Int32)
              · replace hv := (if_pos hc5).symm.trans hv
                refine lv_tableIn (tgt := 133) S.1 S.2.1 dX11_actWants_1 (by rw [hc5]; decide) (by rw [hc5]; decide) (by rw [hc5]; rfl) (by decide) ?_
                refine lv_iload_n S.1 S.2.1 dX11_actWants_133 rfl (lv_at hl 1 rfl) ?_
                refine lv_iconst (v := (0 : Int32)) S.1 S.2.1 dX11_actWants_134 (by decide) ?_
                refine lv_bipush (v := (7 : Int32)) S.1 S.2.1 dX11_actWants_135 (by decide) ?_
                obtain ⟨v8, hq, hv⟩ := zz_bd hv
                refine zz_S [.int (a1), .int ((0 : Int32)), .int ((7 : Int32))] S K Z (c_X11_inside a1 (0 : Int32) (7 : Int32) hq) ⟨rfl, rfl⟩ gm_X11_inside gs_X11_inside gl_X11_100 ⟨by decide, by decide⟩ rfl hl.1 rfl (Nat.le_of_ble_eq_true rfl) dX11_actWants_137 ⟨Nat.zero_le _, Nat.zero_le _⟩ (fun H locs Z => ?_)
                show W _ _ _ _ _ _ _ _ _ _ _ _ 0 0 _ (F0 m 140 ls [.int (v8)])
                refine lv_if_eq (tgt := 157) S.1 S.2.1 dX11_actWants_140 (by decide) (fun hc => ?_) (fun hc => ?_)
                · replace hv := (if_pos hc).symm.trans hv
                  refine lv_iconst (v := (0 : Int32)) S.1 S.2.1 dX11_actWants_157 (by decide) ?_
                  replace hk := zz_fin hv hk
                  obtain rfl := hR0 _ hk
                  exact zz_zret S Z hret (by decide) hlk dX11_actWants_158 (Nat.le_refl _) (Nat.le_refl _)
                · replace hv := (if_neg hc).symm.trans hv
                  refine lv_iload_n S.1 S.2.1 dX11_actWants_143 rfl (lv_at hl 2 rfl) ?_
                  refine lv_iconst (v := (1 : Int32)) S.1 S.2.1 dX11_actWants_144 (by decide) ?_
                  refine lv_bipush (v := (100 : Int32)) S.1 S.2.1 dX11_actWants_145 (by decide) ?_
                  obtain ⟨v9, hq, hv⟩ := zz_bd hv
                  refine zz_S [.int (a2), .int ((1 : Int32)), .int ((100 : Int32))] S K Z (c_X11_inside a2 (1 : Int32) (100 : Int32) hq) ⟨rfl, rfl⟩ gm_X11_inside gs_X11_inside gl_X11_100 ⟨by decide, by decide⟩ rfl hl.1 rfl (Nat.le_of_ble_eq_true rfl) dX11_actWants_147 ⟨Nat.zero_le _, Nat.zero_le _⟩ (fun H locs Z => ?_)
                  show W _ _ _ _ _ _ _ _ _ _ _ _ 0 0 _ (F0 m 150 ls [.int (v9)])
                  refine lv_if_eq (tgt := 157) S.1 S.2.1 dX11_actWants_150 (by decide) (fun hc => ?_) (fun hc => ?_)
                  · replace hv := (if_pos hc).symm.trans hv
                    refine lv_iconst (v := (0 : Int32)) S.1 S.2.1 dX11_actWants_157 (by decide) ?_
                    replace hk := zz_fin hv hk
                    obtain rfl := hR0 _ hk
                    exact zz_zret S Z hret (by decide) hlk dX11_actWants_158 (Nat.le_refl _) (Nat.le_refl _)
                  · replace hv := (if_neg hc).symm.trans hv
                    refine lv_iconst (v := (1 : Int32)) S.1 S.2.1 dX11_actWants_153 (by decide) ?_
                    refine lv_goto (tgt := 158) S.1 S.2.1 dX11_actWants_154 (by decide) ?_
                    replace hk := zz_fin hv hk
                    obtain rfl := hR0 _ hk
                    exact zz_zret S Z hret (by decide) hlk dX11_actWants_158 (Nat.le_refl _) (Nat.le_refl _)
              · replace hv := (if_neg hc5).symm.trans hv
                by_cases hc6 : a0 = (6 : Int32)
                · replace hv := (if_pos hc6).symm.trans hv
                  refine lv_tableIn (tgt := 159) S.1 S.2.1 dX11_actWants_1 (by rw [hc6]; decide) (by rw [hc6]; decide) (by rw [hc6]; rfl) (by decide) ?_
                  refine lv_iload_n S.1 S.2.1 dX11_actWants_159 rfl (lv_at hl 1 rfl) ?_
                  refine lv_iconst (v := (1 : Int32)) S.1 S.2.1 dX11_actWants_160 (by decide) ?_
                  refine lv_bipush (v := (9 : Int32)) S.1 S.2.1 dX11_actWants_161 (by decide) ?_
                  obtain ⟨v10, hq, hv⟩ := zz_bd hv
                  refine zz_S [.int (a1), .int ((1 : Int32)), .int ((9 : Int32))] S K Z (c_X11_inside a1 (1 : Int32) (9 : Int32) hq) ⟨rfl, rfl⟩ gm_X11_inside gs_X11_inside gl_X11_100 ⟨by decide, by decide⟩ rfl hl.1 rfl (Nat.le_of_ble_eq_true rfl) dX11_actWants_163 ⟨Nat.zero_le _, Nat.zero_le _⟩ (fun H locs Z => ?_)
                  show W _ _ _ _ _ _ _ _ _ _ _ _ 0 0 _ (F0 m 166 ls [.int (v10)])
                  obtain ⟨hok, hv⟩ := zz_ok_s hv
                  replace hk := zz_fin hv hk
                  obtain rfl := hR0 _ hk
                  exact zz_zret S Z hret hok hlk dX11_actWants_166 (Nat.le_refl _) (Nat.le_refl _)
                · replace hv := (if_neg hc6).symm.trans hv
                  refine lv_tableOut (tgt := 167) S.1 S.2.1 dX11_actWants_1 (zz_sw_out (fun k h1 h2 => by
                    have h3 : k = 0 ∨ k = 1 ∨ k = 2 ∨ k = 3 ∨ k = 4 ∨ k = 5 ∨ k = 6 := by omega
                    rcases h3 with rfl | rfl | rfl | rfl | rfl | rfl | rfl
                    · exact hc0
                    · exact hc1
                    · exact hc2
                    · exact hc3
                    · exact hc4
                    · exact hc5
                    · exact hc6)) (by decide) ?_
                  refine lv_iconst (v := (0 : Int32)) S.1 S.2.1 dX11_actWants_167 (by decide) ?_
                  replace hk := zz_fin hv hk
                  obtain rfl := hR0 _ hk
                  exact zz_zret S Z hret (by decide) hlk dX11_actWants_168 (Nat.le_refl _) (Nat.le_refl _)
  rw [hH, hlo] at key
  exact key

noncomputable def f_X10_nextRule (h : ZH) (a0 : Nat) : Option (Option Nat × ZH) :=
  (zg_I h a0 8 4).bind fun v1 => if v1 < 0 then (some ((none, h))) else ((zg_I h a0 8 4).bind fun v2 => (zg_R h a0 8 2).bind fun v3 => (zl_N h v3 7).bind fun v4 => if v2 < v4 then ((zg_I h a0 8 4).bind fun v5 => (zp_V h a0 8 4 (.int (v5 + (1 : Int32)))).bind fun h6 => (zg_R h6 a0 8 2).bind fun v7 => (zg_I h6 a0 8 4).bind fun v8 => (zl_R h6 v7 7 (v8 - (1 : Int32))).bind fun v9 => some ((some v9, h6))) else (some ((none, h))))
abbrev rm_X10_nextRule : Room := { frames := 0, cells := 0, slots := 0, locals := 0 }
set_option maxRecDepth 100000 in
set_option maxHeartbeats 4000000 in
theorem c_X10_nextRule {l : Launch} {D : va_G} {dA : Nat → ClassId} {A : Nat → Prop} {h : ZH} {n : Nat} (a0 : Nat) {r : Option Nat} {hx : ZH} (hf : f_X10_nextRule h a0 = some (r, hx)) : Met l yX10_nextRule (zz_ws yX10_nextRule cX10_nextRule 1 (some (.object "ScriptTests$Rule"))) rm_X10_nextRule (zz_P D dA A h n [.ref (a0)]) (zz_Q D dA A (some (va_rf r)) hx n) 0 0 A := by
  refine zz_met (by decide) (Nat.le_of_ble_eq_true rfl) ?_
  intro p e s m args below meth c ls S K hret hlk hnm hl Z
  replace hl : lv_has ls 1 [(0, .ref (a0))] := hl
  obtain ⟨K0, hR0, hk⟩ : ∃ K0 : (Option Nat × ZH) → Prop, (∀ x, K0 x → x = (r, hx)) ∧ K0 (r, hx) := ⟨fun x => x = (r, hx), fun _ h => h, rfl⟩
  have hv := hf
  unfold f_X10_nextRule at hv
  clear hf
  obtain ⟨x, hxx⟩ : ∃ x, x = (r, hx) := ⟨_, rfl⟩
  rw [← hxx] at hv hk
  have ⟨H, hH⟩ : ∃ H, H = s.heap := ⟨_, rfl⟩
  have ⟨locs, hlo⟩ : ∃ q : List Loc, q = [] := ⟨_, rfl⟩
  have Z : zz_B D dA A h n s.heap H locs := by rw [hH, hlo]; exact Z
  have key : zz_W p l e rm_X10_nextRule s m args below meth c D dA A (some (va_rf r)) hx n 0 0 H locs 0 0 0 ls [] := by
    clear hH hlo hxx
    refine lv_aload_n S.1 S.2.1 dX10_nextRule_0 rfl (lv_at hl 0 rfl) ?_
    refine zz_gI S K Z hv zc_8 (by decide) gf_X10_41 dX10_nextRule_1 (fun v1 hv => ?_)
    refine lv_if_lt (tgt := 19) S.1 S.2.1 dX10_nextRule_4 (by decide) (fun hc => ?_) (fun hc => ?_)
    · replace hv := (if_pos hc).symm.trans hv
      refine lv_null S.1 S.2.1 dX10_nextRule_19 ?_
      replace hk := zz_fin hv hk
      obtain ⟨rfl, rfl⟩ := Prod.mk.inj (hR0 _ hk)
      exact zz_aret S Z hret (Or.inl ⟨_, rfl⟩) (by first | exact Or.inl rfl | exact Or.inr ⟨_, rfl⟩) hlk dX10_nextRule_20 (Nat.le_refl _) (Nat.le_refl _)
    · replace hv := (if_neg hc).symm.trans hv
      refine lv_aload_n S.1 S.2.1 dX10_nextRule_7 rfl (lv_at hl 0 rfl) ?_
      refine zz_gI S K Z hv zc_8 (by decide) gf_X10_41 dX10_nextRule_8 (fun v2 hv => ?_)
      refine lv_aload_n S.1 S.2.1 dX10_nextRule_11 rfl (lv_at hl 0 rfl) ?_
      refine zz_gR S K Z hv zc_8 (by decide) gf_X10_25 dX10_nextRule_12 (fun v3 hv => ?_)
      refine zz_alen S K Z hv rfl dX10_nextRule_15 (fun v4 hv => ?_)
      refine lv_icmp_lt (tgt := 21) S.1 S.2.1 dX10_nextRule_16 (by decide) (fun hc => ?_) (fun hc => ?_)
      · replace hv := (if_pos hc).symm.trans hv
        refine lv_aload_n S.1 S.2.1 dX10_nextRule_21 rfl (lv_at hl 0 rfl) ?_
        refine lv_dup S.1 S.2.1 dX10_nextRule_22 rfl ?_
        refine zz_gI S K Z hv zc_8 (by decide) gf_X10_41 dX10_nextRule_23 (fun v5 hv => ?_)
        refine lv_iconst (v := (1 : Int32)) S.1 S.2.1 dX10_nextRule_26 (by decide) ?_
        refine lv_iadd S.1 S.2.1 dX10_nextRule_27 ?_
        refine zz_put S K Z hv zc_8 (by decide) gf_X10_41 rfl rfl rfl dX10_nextRule_28 (fun h6 H locs hv Z => ?_)
        refine lv_aload_n S.1 S.2.1 dX10_nextRule_31 rfl (lv_at hl 0 rfl) ?_
        refine zz_gR S K Z hv zc_8 (by decide) gf_X10_25 dX10_nextRule_32 (fun v7 hv => ?_)
        refine lv_aload_n S.1 S.2.1 dX10_nextRule_35 rfl (lv_at hl 0 rfl) ?_
        refine zz_gI S K Z hv zc_8 (by decide) gf_X10_41 dX10_nextRule_36 (fun v8 hv => ?_)
        refine lv_iconst (v := (1 : Int32)) S.1 S.2.1 dX10_nextRule_39 (by decide) ?_
        refine lv_isub S.1 S.2.1 dX10_nextRule_40 ?_
        refine zz_aald S K Z hv rfl dX10_nextRule_41 (fun v9 hv => ?_)
        replace hk := zz_fin hv hk
        obtain ⟨rfl, rfl⟩ := Prod.mk.inj (hR0 _ hk)
        exact zz_aret S Z hret (Or.inl ⟨_, rfl⟩) (by first | exact Or.inl rfl | exact Or.inr ⟨_, rfl⟩) hlk dX10_nextRule_42 (Nat.le_refl _) (Nat.le_refl _)
      · replace hv := (if_neg hc).symm.trans hv
        refine lv_null S.1 S.2.1 dX10_nextRule_19 ?_
        replace hk := zz_fin hv hk
        obtain ⟨rfl, rfl⟩ := Prod.mk.inj (hR0 _ hk)
        exact zz_aret S Z hret (Or.inl ⟨_, rfl⟩) (by first | exact Or.inl rfl | exact Or.inr ⟨_, rfl⟩) hlk dX10_nextRule_20 (Nat.le_refl _) (Nat.le_refl _)
  rw [hH, hlo] at key
  exact key

noncomputable def f_X11_rule (h : ZH) (a0 : Nat) (a1 : Int32) (a2 : Int32) (a3 : Int32) (a4 : Int32) (a5 : Int32) (a6 : Int32) (a7 : Int32) (a8 : Int32) (a9 : Int32) : Option (Int32 × ZH) :=
  (zg_R h a0 9 1).bind fun v1 => (zg_R h v1 8 0).bind fun v2 => zz_isO h v2 1 <| (f_X1_has h v2 a2).bind fun v3 => if v3 = 0 then (some (((-2 : Int32), h))) else ((zg_R h a0 9 1).bind fun v4 => (zg_R h v4 8 1).bind fun v5 => zz_isO h v5 1 <| (f_X1_has h v5 a8).bind fun v6 => if v6 = 0 then (some (((-2 : Int32), h))) else ((f_X11_inside h a1 (-1 : Int32) (7 : Int32)).bind fun v7 => if v7 = 0 then (some (((-3 : Int32), h))) else ((f_X11_inside h a9 (-1 : Int32) (7 : Int32)).bind fun v8 => if v8 = 0 then (some (((-3 : Int32), h))) else ((f_X11_inside h a3 (-1 : Int32) (7 : Int32)).bind fun v9 => if v9 = 0 then (some (((-3 : Int32), h))) else ((f_X11_actWants h a5 a6 a7).bind fun v10 => if v10 = 0 then (some (((-3 : Int32), h))) else ((zg_R h a0 9 1).bind fun v11 => zz_isO h v11 8 <| (f_X10_nextRule h v11).bind fun (v12, h13) => zz_nr v12 (some (((-5 : Int32), h13))) (fun v14 => (zp_V h13 v14 4 0 (.int (a1))).bind fun h15 => (zp_V h15 v14 4 1 (.int (a2))).bind fun h16 => (zp_V h16 v14 4 2 (.int (a3))).bind fun h17 => (zp_V h17 v14 4 3 (.int (a4))).bind fun h18 => (zp_V h18 v14 4 4 (.int (a5))).bind fun h19 => (zp_V h19 v14 4 5 (.int (a6))).bind fun h20 => (zp_V h20 v14 4 6 (.int (a7))).bind fun h21 => (zp_V h21 v14 4 7 (.int (a8))).bind fun h22 => (zp_V h22 v14 4 8 (.int (a9))).bind fun h23 => (zg_R h23 a0 9 1).bind fun v24 => (zg_I h23 v24 8 4).bind fun v25 => some ((v25 - (1 : Int32), h23)))))))))
abbrev rm_X11_rule : Room := { frames := 2, cells := 0, slots := 0, locals := 44 }
set_option maxRecDepth 100000 in
set_option maxHeartbeats 4000000 in
theorem c_X11_rule {l : Launch} {D : va_G} {dA : Nat → ClassId} {A : Nat → Prop} {h : ZH} {n : Nat} (a0 : Nat) (a1 : Int32) (a2 : Int32) (a3 : Int32) (a4 : Int32) (a5 : Int32) (a6 : Int32) (a7 : Int32) (a8 : Int32) (a9 : Int32) {r : Int32} {hx : ZH} (hf : f_X11_rule h a0 a1 a2 a3 a4 a5 a6 a7 a8 a9 = some (r, hx)) : Met l yX11_rule (zz_ws yX11_rule cX11_rule 11 (some .int)) rm_X11_rule (zz_P D dA A h n [.ref (a0), .int (a1), .int (a2), .int (a3), .int (a4), .int (a5), .int (a6), .int (a7), .int (a8), .int (a9)]) (zz_Q D dA A (some (.int r)) hx n) 0 0 A := by
  refine zz_met (by decide) (Nat.le_of_ble_eq_true rfl) ?_
  intro p e s m args below meth c ls S K hret hlk hnm hl Z
  replace hl : lv_has ls 11 [(0, .ref (a0)), (1, .int (a1)), (2, .int (a2)), (3, .int (a3)), (4, .int (a4)), (5, .int (a5)), (6, .int (a6)), (7, .int (a7)), (8, .int (a8)), (9, .int (a9))] := hl
  obtain ⟨K0, hR0, hk⟩ : ∃ K0 : (Int32 × ZH) → Prop, (∀ x, K0 x → x = (r, hx)) ∧ K0 (r, hx) := ⟨fun x => x = (r, hx), fun _ h => h, rfl⟩
  have hv := hf
  unfold f_X11_rule at hv
  clear hf
  obtain ⟨x, hxx⟩ : ∃ x, x = (r, hx) := ⟨_, rfl⟩
  rw [← hxx] at hv hk
  have ⟨H, hH⟩ : ∃ H, H = s.heap := ⟨_, rfl⟩
  have ⟨locs, hlo⟩ : ∃ q : List Loc, q = [] := ⟨_, rfl⟩
  have Z : zz_B D dA A h n s.heap H locs := by rw [hH, hlo]; exact Z
  have key : zz_W p l e rm_X11_rule s m args below meth c D dA A (some (.int r)) hx n 0 0 H locs 0 0 0 ls [] := by
    clear hH hlo hxx
    refine lv_aload_n S.1 S.2.1 dX11_rule_0 rfl (lv_at hl 0 rfl) ?_
    refine zz_gR S K Z hv zc_9 (by decide) gf_X11_25 dX11_rule_1 (fun v1 hv => ?_)
    refine zz_gR S K Z hv zc_8 (by decide) gf_X11_74 dX11_rule_4 (fun v2 hv => ?_)
    refine lv_iload_n S.1 S.2.1 dX11_rule_7 rfl (lv_at hl 2 rfl) ?_
    obtain ⟨hci, hv⟩ := zz_isO_s hv
    obtain ⟨v3, hq, hv⟩ := zz_bd hv
    refine zz_V [.int (a2)] S K Z hci zc_1 rfl (c_X1_has v2 a2 hq) ⟨rfl, rfl⟩ gm_X1_has gmv_X1_has gl_X11_96 ⟨by decide, by decide⟩ rfl hl.1 rfl (Nat.le_of_ble_eq_true rfl) dX11_rule_8 ⟨Nat.zero_le _, Nat.zero_le _⟩ (fun H locs Z => ?_)
    show W _ _ _ _ _ _ _ _ _ _ _ _ 0 0 _ (F0 m 11 ls [.int (v3)])
    refine lv_if_eq (tgt := 29) S.1 S.2.1 dX11_rule_11 (by decide) (fun hc => ?_) (fun hc => ?_)
    · replace hv := (if_pos hc).symm.trans hv
      refine lv_bipush (v := (-2 : Int32)) S.1 S.2.1 dX11_rule_29 (by decide) ?_
      replace hk := zz_fin hv hk
      obtain ⟨rfl, rfl⟩ := Prod.mk.inj (hR0 _ hk)
      exact zz_iret S Z hret hlk dX11_rule_31 (Nat.le_refl _) (Nat.le_refl _)
    · replace hv := (if_neg hc).symm.trans hv
      refine lv_aload_n S.1 S.2.1 dX11_rule_14 rfl (lv_at hl 0 rfl) ?_
      refine zz_gR S K Z hv zc_9 (by decide) gf_X11_25 dX11_rule_15 (fun v4 hv => ?_)
      refine zz_gR S K Z hv zc_8 (by decide) gf_X11_93 dX11_rule_18 (fun v5 hv => ?_)
      refine lv_iload S.1 S.2.1 dX11_rule_21 (lv_at hl 8 rfl) ?_
      obtain ⟨hci, hv⟩ := zz_isO_s hv
      obtain ⟨v6, hq, hv⟩ := zz_bd hv
      refine zz_V [.int (a8)] S K Z hci zc_1 rfl (c_X1_has v5 a8 hq) ⟨rfl, rfl⟩ gm_X1_has gmv_X1_has gl_X11_96 ⟨by decide, by decide⟩ rfl hl.1 rfl (Nat.le_of_ble_eq_true rfl) dX11_rule_23 ⟨Nat.zero_le _, Nat.zero_le _⟩ (fun H locs Z => ?_)
      show W _ _ _ _ _ _ _ _ _ _ _ _ 0 0 _ (F0 m 26 ls [.int (v6)])
      refine lv_if_ne (tgt := 32) S.1 S.2.1 dX11_rule_26 (by decide) (fun hc => ?_) (fun hc => ?_)
      · replace hv := (if_neg hc).symm.trans hv
        refine lv_iload_n S.1 S.2.1 dX11_rule_32 rfl (lv_at hl 1 rfl) ?_
        refine lv_iconst (v := (-1 : Int32)) S.1 S.2.1 dX11_rule_33 (by decide) ?_
        refine lv_bipush (v := (7 : Int32)) S.1 S.2.1 dX11_rule_34 (by decide) ?_
        obtain ⟨v7, hq, hv⟩ := zz_bd hv
        refine zz_S [.int (a1), .int ((-1 : Int32)), .int ((7 : Int32))] S K Z (c_X11_inside a1 (-1 : Int32) (7 : Int32) hq) ⟨rfl, rfl⟩ gm_X11_inside gs_X11_inside gl_X11_100 ⟨by decide, by decide⟩ rfl hl.1 rfl (Nat.le_of_ble_eq_true rfl) dX11_rule_36 ⟨Nat.zero_le _, Nat.zero_le _⟩ (fun H locs Z => ?_)
        show W _ _ _ _ _ _ _ _ _ _ _ _ 0 0 _ (F0 m 39 ls [.int (v7)])
        refine lv_if_eq (tgt := 63) S.1 S.2.1 dX11_rule_39 (by decide) (fun hc => ?_) (fun hc => ?_)
        · replace hv := (if_pos hc).symm.trans hv
          refine lv_bipush (v := (-3 : Int32)) S.1 S.2.1 dX11_rule_63 (by decide) ?_
          replace hk := zz_fin hv hk
          obtain ⟨rfl, rfl⟩ := Prod.mk.inj (hR0 _ hk)
          exact zz_iret S Z hret hlk dX11_rule_65 (Nat.le_refl _) (Nat.le_refl _)
        · replace hv := (if_neg hc).symm.trans hv
          refine lv_iload S.1 S.2.1 dX11_rule_42 (lv_at hl 9 rfl) ?_
          refine lv_iconst (v := (-1 : Int32)) S.1 S.2.1 dX11_rule_44 (by decide) ?_
          refine lv_bipush (v := (7 : Int32)) S.1 S.2.1 dX11_rule_45 (by decide) ?_
          obtain ⟨v8, hq, hv⟩ := zz_bd hv
          refine zz_S [.int (a9), .int ((-1 : Int32)), .int ((7 : Int32))] S K Z (c_X11_inside a9 (-1 : Int32) (7 : Int32) hq) ⟨rfl, rfl⟩ gm_X11_inside gs_X11_inside gl_X11_100 ⟨by decide, by decide⟩ rfl hl.1 rfl (Nat.le_of_ble_eq_true rfl) dX11_rule_47 ⟨Nat.zero_le _, Nat.zero_le _⟩ (fun H locs Z => ?_)
          show W _ _ _ _ _ _ _ _ _ _ _ _ 0 0 _ (F0 m 50 ls [.int (v8)])
          refine lv_if_eq (tgt := 63) S.1 S.2.1 dX11_rule_50 (by decide) (fun hc => ?_) (fun hc => ?_)
          · replace hv := (if_pos hc).symm.trans hv
            refine lv_bipush (v := (-3 : Int32)) S.1 S.2.1 dX11_rule_63 (by decide) ?_
            replace hk := zz_fin hv hk
            obtain ⟨rfl, rfl⟩ := Prod.mk.inj (hR0 _ hk)
            exact zz_iret S Z hret hlk dX11_rule_65 (Nat.le_refl _) (Nat.le_refl _)
          · replace hv := (if_neg hc).symm.trans hv
            refine lv_iload_n S.1 S.2.1 dX11_rule_53 rfl (lv_at hl 3 rfl) ?_
            refine lv_iconst (v := (-1 : Int32)) S.1 S.2.1 dX11_rule_54 (by decide) ?_
            refine lv_bipush (v := (7 : Int32)) S.1 S.2.1 dX11_rule_55 (by decide) ?_
            obtain ⟨v9, hq, hv⟩ := zz_bd hv
            refine zz_S [.int (a3), .int ((-1 : Int32)), .int ((7 : Int32))] S K Z (c_X11_inside a3 (-1 : Int32) (7 : Int32) hq) ⟨rfl, rfl⟩ gm_X11_inside gs_X11_inside gl_X11_100 ⟨by decide, by decide⟩ rfl hl.1 rfl (Nat.le_of_ble_eq_true rfl) dX11_rule_57 ⟨Nat.zero_le _, Nat.zero_le _⟩ (fun H locs Z => ?_)
            show W _ _ _ _ _ _ _ _ _ _ _ _ 0 0 _ (F0 m 60 ls [.int (v9)])
            refine lv_if_ne (tgt := 66) S.1 S.2.1 dX11_rule_60 (by decide) (fun hc => ?_) (fun hc => ?_)
            · replace hv := (if_neg hc).symm.trans hv
              refine lv_iload S.1 S.2.1 dX11_rule_66 (lv_at hl 5 rfl) ?_
              refine lv_iload S.1 S.2.1 dX11_rule_68 (lv_at hl 6 rfl) ?_
              refine lv_iload S.1 S.2.1 dX11_rule_70 (lv_at hl 7 rfl) ?_
              obtain ⟨v10, hq, hv⟩ := zz_bd hv
              refine zz_S [.int (a5), .int (a6), .int (a7)] S K Z (c_X11_actWants a5 a6 a7 hq) ⟨rfl, rfl⟩ gm_X11_actWants gs_X11_actWants gl_X11_104 ⟨by decide, by decide⟩ rfl hl.1 rfl (Nat.le_of_ble_eq_true rfl) dX11_rule_72 ⟨Nat.zero_le _, Nat.zero_le _⟩ (fun H locs Z => ?_)
              show W _ _ _ _ _ _ _ _ _ _ _ _ 0 0 _ (F0 m 75 ls [.int (v10)])
              refine lv_if_ne (tgt := 81) S.1 S.2.1 dX11_rule_75 (by decide) (fun hc => ?_) (fun hc => ?_)
              · replace hv := (if_neg hc).symm.trans hv
                refine lv_aload_n S.1 S.2.1 dX11_rule_81 rfl (lv_at hl 0 rfl) ?_
                refine zz_gR S K Z hv zc_9 (by decide) gf_X11_25 dX11_rule_82 (fun v11 hv => ?_)
                obtain ⟨hci, hv⟩ := zz_isO_s hv
                obtain ⟨⟨v12, h13⟩, hq, hv⟩ := zz_bd hv
                refine zz_V [] S K Z hci zc_8 rfl (c_X10_nextRule v11 hq) ⟨rfl, rfl⟩ gm_X10_nextRule gmv_X10_nextRule gl_X11_107 ⟨by decide, by decide⟩ rfl hl.1 rfl (Nat.le_of_ble_eq_true rfl) dX11_rule_85 ⟨Nat.zero_le _, Nat.zero_le _⟩ (fun H locs Z => ?_)
                rcases v12 with _ | v14
                · show W _ _ _ _ _ _ _ _ _ _ _ _ _ _ _ (F0 m 88 ls (.null :: []))
                  refine lv_astoreN (lv' := [(10, .null), (0, .ref (a0)), (1, .int (a1)), (2, .int (a2)), (3, .int (a3)), (4, .int (a4)), (5, .int (a5)), (6, .int (a6)), (7, .int (a7)), (8, .int (a8)), (9, .int (a9))]) S.1 S.2.1 dX11_rule_88 hl (by decide) rfl (fun ls hl => ?_)
                  refine lv_aloadN S.1 S.2.1 dX11_rule_90 (lv_at hl 0 rfl) ?_
                  refine lv_ifnonnullN S.1 S.2.1 dX11_rule_92 ?_
                  refine lv_bipush (v := (-5 : Int32)) S.1 S.2.1 dX11_rule_95 (by decide) ?_
                  replace hk := zz_fin hv hk
                  obtain ⟨rfl, rfl⟩ := Prod.mk.inj (hR0 _ hk)
                  exact zz_iret S Z hret hlk dX11_rule_97 (Nat.le_refl _) (Nat.le_refl _)
                · show W _ _ _ _ _ _ _ _ _ _ _ _ _ _ _ (F0 m 88 ls (.ref (v14) :: []))
                  refine lv_astore (lv' := [(10, .ref (v14)), (0, .ref (a0)), (1, .int (a1)), (2, .int (a2)), (3, .int (a3)), (4, .int (a4)), (5, .int (a5)), (6, .int (a6)), (7, .int (a7)), (8, .int (a8)), (9, .int (a9))]) S.1 S.2.1 dX11_rule_88 hl (by decide) rfl (fun ls hl => ?_)
                  refine lv_aload S.1 S.2.1 dX11_rule_90 (lv_at hl 0 rfl) ?_
                  refine lv_ifnonnull (tgt := 98) S.1 S.2.1 dX11_rule_92 (by decide) ?_
                  refine lv_aload S.1 S.2.1 dX11_rule_98 (lv_at hl 0 rfl) ?_
                  refine lv_iload_n S.1 S.2.1 dX11_rule_100 rfl (lv_at hl 2 rfl) ?_
                  refine zz_put S K Z hv zc_4 (by decide) gf_X11_111 rfl rfl rfl dX11_rule_101 (fun h15 H locs hv Z => ?_)
                  refine lv_aload S.1 S.2.1 dX11_rule_104 (lv_at hl 0 rfl) ?_
                  refine lv_iload_n S.1 S.2.1 dX11_rule_106 rfl (lv_at hl 3 rfl) ?_
                  refine zz_put S K Z hv zc_4 (by decide) gf_X11_116 rfl rfl rfl dX11_rule_107 (fun h16 H locs hv Z => ?_)
                  refine lv_aload S.1 S.2.1 dX11_rule_110 (lv_at hl 0 rfl) ?_
                  refine lv_iload_n S.1 S.2.1 dX11_rule_112 rfl (lv_at hl 4 rfl) ?_
                  refine zz_put S K Z hv zc_4 (by decide) gf_X11_119 rfl rfl rfl dX11_rule_113 (fun h17 H locs hv Z => ?_)
                  refine lv_aload S.1 S.2.1 dX11_rule_116 (lv_at hl 0 rfl) ?_
                  refine lv_iload S.1 S.2.1 dX11_rule_118 (lv_at hl 5 rfl) ?_
                  refine zz_put S K Z hv zc_4 (by decide) gf_X11_122 rfl rfl rfl dX11_rule_120 (fun h18 H locs hv Z => ?_)
                  refine lv_aload S.1 S.2.1 dX11_rule_123 (lv_at hl 0 rfl) ?_
                  refine lv_iload S.1 S.2.1 dX11_rule_125 (lv_at hl 6 rfl) ?_
                  refine zz_put S K Z hv zc_4 (by decide) gf_X11_125 rfl rfl rfl dX11_rule_127 (fun h19 H locs hv Z => ?_)
                  refine lv_aload S.1 S.2.1 dX11_rule_130 (lv_at hl 0 rfl) ?_
                  refine lv_iload S.1 S.2.1 dX11_rule_132 (lv_at hl 7 rfl) ?_
                  refine zz_put S K Z hv zc_4 (by decide) gf_X11_128 rfl rfl rfl dX11_rule_134 (fun h20 H locs hv Z => ?_)
                  refine lv_aload S.1 S.2.1 dX11_rule_137 (lv_at hl 0 rfl) ?_
                  refine lv_iload S.1 S.2.1 dX11_rule_139 (lv_at hl 8 rfl) ?_
                  refine zz_put S K Z hv zc_4 (by decide) gf_X11_131 rfl rfl rfl dX11_rule_141 (fun h21 H locs hv Z => ?_)
                  refine lv_aload S.1 S.2.1 dX11_rule_144 (lv_at hl 0 rfl) ?_
                  refine lv_iload S.1 S.2.1 dX11_rule_146 (lv_at hl 9 rfl) ?_
                  refine zz_put S K Z hv zc_4 (by decide) gf_X11_134 rfl rfl rfl dX11_rule_148 (fun h22 H locs hv Z => ?_)
                  refine lv_aload S.1 S.2.1 dX11_rule_151 (lv_at hl 0 rfl) ?_
                  refine lv_iload S.1 S.2.1 dX11_rule_153 (lv_at hl 10 rfl) ?_
                  refine zz_put S K Z hv zc_4 (by decide) gf_X11_137 rfl rfl rfl dX11_rule_155 (fun h23 H locs hv Z => ?_)
                  refine lv_aload_n S.1 S.2.1 dX11_rule_158 rfl (lv_at hl 1 rfl) ?_
                  refine zz_gR S K Z hv zc_9 (by decide) gf_X11_25 dX11_rule_159 (fun v24 hv => ?_)
                  refine zz_gI S K Z hv zc_8 (by decide) gf_X11_140 dX11_rule_162 (fun v25 hv => ?_)
                  refine lv_iconst (v := (1 : Int32)) S.1 S.2.1 dX11_rule_165 (by decide) ?_
                  refine lv_isub S.1 S.2.1 dX11_rule_166 ?_
                  replace hk := zz_fin hv hk
                  obtain ⟨rfl, rfl⟩ := Prod.mk.inj (hR0 _ hk)
                  exact zz_iret S Z hret hlk dX11_rule_167 (Nat.le_refl _) (Nat.le_refl _)
              · replace hv := (if_pos hc).symm.trans hv
                refine lv_bipush (v := (-3 : Int32)) S.1 S.2.1 dX11_rule_78 (by decide) ?_
                replace hk := zz_fin hv hk
                obtain ⟨rfl, rfl⟩ := Prod.mk.inj (hR0 _ hk)
                exact zz_iret S Z hret hlk dX11_rule_80 (Nat.le_refl _) (Nat.le_refl _)
            · replace hv := (if_pos hc).symm.trans hv
              refine lv_bipush (v := (-3 : Int32)) S.1 S.2.1 dX11_rule_63 (by decide) ?_
              replace hk := zz_fin hv hk
              obtain ⟨rfl, rfl⟩ := Prod.mk.inj (hR0 _ hk)
              exact zz_iret S Z hret hlk dX11_rule_65 (Nat.le_refl _) (Nat.le_refl _)
      · replace hv := (if_pos hc).symm.trans hv
        refine lv_bipush (v := (-2 : Int32)) S.1 S.2.1 dX11_rule_29 (by decide) ?_
        replace hk := zz_fin hv hk
        obtain ⟨rfl, rfl⟩ := Prod.mk.inj (hR0 _ hk)
        exact zz_iret S Z hret hlk dX11_rule_31 (Nat.le_refl _) (Nat.le_refl _)
  rw [hH, hlo] at key
  exact key

noncomputable def f_X3_take_L38 (h : ZH) (a0 : Nat) (a1 : Int32) (a2 : Int32) (a3 : Int32) (x4_10 : Int32) (h11 : ZH)  : Option ((Int32 × ZH) ⊕ (ZH)) :=
  (zg_I h11 a0 2 2).bind fun v12 => if v12 ≤ x4_10 then ((some (h11)).map Sum.inr) else ((zg_R h11 a0 2 0).bind fun v13 => (zl_N h11 v13 1).bind fun v14 => if v14 ≤ x4_10 then ((some (h11)).map Sum.inr) else ((zg_R h11 a0 2 0).bind fun v15 => (zs_I h11 v15 1 x4_10 (a3 + x4_10)).bind fun h16 => some (.inl (x4_10 + (1 : Int32), h16))))
noncomputable def f_X3_take_J32 (h : ZH) (a0 : Nat) (a1 : Int32) (a2 : Int32) (a3 : Int32) (s6 : Int32) (s7 : Nat) (h8 : ZH) : Option (ZH) :=
  (zp_V h8 s7 2 2 (.int (s6))).bind fun h9 => zz_loop (fun st : (Int32 × ZH) => f_X3_take_L38 h a0 a1 a2 a3 (st.1) (st.2)) ((0 : Int32), h9)
noncomputable def f_X3_take (h : ZH) (a0 : Nat) (a1 : Int32) (a2 : Int32) (a3 : Int32) : Option (ZH) :=
  (zp_V h a0 2 1 (.int (a1))).bind fun h1 => if 0 ≤ a2 then ((zg_R h1 a0 2 0).bind fun v2 => (zl_N h1 v2 1).bind fun v3 => if v3 ≤ a2 then ((zg_R h1 a0 2 0).bind fun v4 => (zl_N h1 v4 1).bind fun v5 => f_X3_take_J32 h a0 a1 a2 a3 v5 a0 h1) else (f_X3_take_J32 h a0 a1 a2 a3 a2 a0 h1)) else (f_X3_take_J32 h a0 a1 a2 a3 (0 : Int32) a0 h1)
abbrev rm_X3_take : Room := { frames := 0, cells := 0, slots := 0, locals := 0 }
set_option maxRecDepth 100000 in
set_option maxHeartbeats 4000000 in
theorem c_X3_take {l : Launch} {D : va_G} {dA : Nat → ClassId} {A : Nat → Prop} {h : ZH} {n : Nat} (a0 : Nat) (a1 : Int32) (a2 : Int32) (a3 : Int32) {hx : ZH} (hf : f_X3_take h a0 a1 a2 a3 = some hx) : Met l yX3_take (zz_ws yX3_take cX3_take 5 none) rm_X3_take (zz_P D dA A h n [.ref (a0), .int (a1), .int (a2), .int (a3)]) (zz_Q D dA A (none) hx n) 0 0 A := by
  refine zz_met (by decide) (Nat.le_of_ble_eq_true rfl) ?_
  intro p e s m args below meth c ls S K hret hlk hnm hl Z
  replace hl : lv_has ls 5 [(0, .ref (a0)), (1, .int (a1)), (2, .int (a2)), (3, .int (a3))] := hl
  obtain ⟨K0, hR0, hk⟩ : ∃ K0 : (ZH) → Prop, (∀ x, K0 x → x = hx) ∧ K0 hx := ⟨fun x => x = hx, fun _ h => h, rfl⟩
  have L38 : ∀ (st : (Int32 × ZH)) (x : (ZH)), zz_loop (fun st : (Int32 × ZH) => f_X3_take_L38 h a0 a1 a2 a3 (st.1) (st.2)) st = some x → K0 x → (fun st : (Int32 × ZH) => ∀ (H : Heap) (locs : List Loc) (ls : Array Slot), zz_B D dA A (st.2) n s.heap H locs → lv_has ls 5 [(0, .ref (a0)), (3, .int (a3)), (4, .int ((st.1)))] → zz_W p l e rm_X3_take s m args below meth c D dA A (none) hx n 0 0 H locs 0 0 38 ls []) st := by
    refine zz_loop_go (K := K0) ?_
    intro K1 hP1 hR1
    rintro ⟨x4_10, h11⟩ x hv hk H locs ls Z hl
    replace hv : f_X3_take_L38 h a0 a1 a2 a3 x4_10 h11 = some x := hv
    unfold f_X3_take_L38 at hv
    replace hl : lv_has ls 5 [(0, .ref (a0)), (3, .int (a3)), (4, .int (x4_10))] := hl
    replace Z : zz_B D dA A h11 n s.heap H locs := Z
    show zz_W p l e rm_X3_take s m args below meth c D dA A (none) hx n 0 0 H locs 0 0 38 ls []
    refine lv_iload S.1 S.2.1 dX3_take_38 (lv_at hl 2 rfl) ?_
    refine lv_aload_n S.1 S.2.1 dX3_take_40 rfl (lv_at hl 0 rfl) ?_
    refine zz_gI S K Z hv zc_2 (by decide) gf_X3_19 dX3_take_41 (fun v12 hv => ?_)
    refine lv_icmp_ge (tgt := 74) S.1 S.2.1 dX3_take_44 (by decide) (fun hc => ?_) (fun hc => ?_)
    · replace hv := (if_pos hc).symm.trans hv
      obtain ⟨_, hv, hk⟩ := zz_mapk hv hk
      replace hk := hR1 _ hk
      replace hk := zz_fin hv hk
      obtain rfl := hR0 _ hk
      exact zz_vret S Z hret hlk dX3_take_74 (Nat.le_refl _) (Nat.le_refl _)
    · replace hv := (if_neg hc).symm.trans hv
      refine lv_iload S.1 S.2.1 dX3_take_47 (lv_at hl 2 rfl) ?_
      refine lv_aload_n S.1 S.2.1 dX3_take_49 rfl (lv_at hl 0 rfl) ?_
      refine zz_gR S K Z hv zc_2 (by decide) gf_X3_9 dX3_take_50 (fun v13 hv => ?_)
      refine zz_alen S K Z hv rfl dX3_take_53 (fun v14 hv => ?_)
      refine lv_icmp_ge (tgt := 74) S.1 S.2.1 dX3_take_54 (by decide) (fun hc => ?_) (fun hc => ?_)
      · replace hv := (if_pos hc).symm.trans hv
        obtain ⟨_, hv, hk⟩ := zz_mapk hv hk
        replace hk := hR1 _ hk
        replace hk := zz_fin hv hk
        obtain rfl := hR0 _ hk
        exact zz_vret S Z hret hlk dX3_take_74 (Nat.le_refl _) (Nat.le_refl _)
      · replace hv := (if_neg hc).symm.trans hv
        refine lv_aload_n S.1 S.2.1 dX3_take_57 rfl (lv_at hl 0 rfl) ?_
        refine zz_gR S K Z hv zc_2 (by decide) gf_X3_9 dX3_take_58 (fun v15 hv => ?_)
        refine lv_iload S.1 S.2.1 dX3_take_61 (lv_at hl 2 rfl) ?_
        refine lv_iload_n S.1 S.2.1 dX3_take_63 rfl (lv_at hl 1 rfl) ?_
        refine lv_iload S.1 S.2.1 dX3_take_64 (lv_at hl 2 rfl) ?_
        refine lv_iadd S.1 S.2.1 dX3_take_66 ?_
        refine zz_iast S K Z hv dX3_take_67 (fun h16 H locs hv Z => ?_)
        refine lv_iinc (v := x4_10 + (1 : Int32)) (lv' := [(4, .int (x4_10 + (1 : Int32))), (0, .ref (a0)), (3, .int (a3))]) S.1 S.2.1 dX3_take_68 hl (k := 2) rfl rfl (by decide) rfl (fun ls hl => ?_)
        refine lv_goto (tgt := 38) S.1 S.2.1 dX3_take_71 (by decide) ?_
        replace hk := zz_fin hv hk
        exact hP1 _ hk H locs ls Z (lv_sub hl [1, 2, 0] rfl)
  have J32 : ∀ (s6 : Int32) (s7 : Nat) (h8 : ZH) (x : (ZH)), f_X3_take_J32 h a0 a1 a2 a3 s6 s7 h8 = some x → K0 x → ∀ (H : Heap) (locs : List Loc) (ls : Array Slot), zz_B D dA A h8 n s.heap H locs → lv_has ls 5 [(0, .ref (a0)), (3, .int (a3))] → zz_W p l e rm_X3_take s m args below meth c D dA A (none) hx n 0 0 H locs 0 0 32 ls [.int (s6), .ref (s7)] := by
    intro s6 s7 h8 x hv hk H locs ls Z hl
    unfold f_X3_take_J32 at hv
    refine zz_put S K Z hv zc_2 (by decide) gf_X3_19 rfl rfl rfl dX3_take_32 (fun h9 H locs hv Z => ?_)
    refine lv_iconst (v := (0 : Int32)) S.1 S.2.1 dX3_take_35 (by decide) ?_
    refine lv_istore (lv' := [(4, .int ((0 : Int32))), (0, .ref (a0)), (3, .int (a3))]) S.1 S.2.1 dX3_take_36 hl (by decide) rfl (fun ls hl => ?_)
    exact L38  ((0 : Int32), h9) _ hv hk H locs ls Z (lv_sub hl [1, 2, 0] rfl)
  have hv := hf
  unfold f_X3_take at hv
  clear hf
  obtain ⟨x, hxx⟩ : ∃ x, x = hx := ⟨_, rfl⟩
  rw [← hxx] at hv hk
  have ⟨H, hH⟩ : ∃ H, H = s.heap := ⟨_, rfl⟩
  have ⟨locs, hlo⟩ : ∃ q : List Loc, q = [] := ⟨_, rfl⟩
  have Z : zz_B D dA A h n s.heap H locs := by rw [hH, hlo]; exact Z
  have key : zz_W p l e rm_X3_take s m args below meth c D dA A (none) hx n 0 0 H locs 0 0 0 ls [] := by
    clear hH hlo hxx
    refine lv_aload_n S.1 S.2.1 dX3_take_0 rfl (lv_at hl 0 rfl) ?_
    refine lv_iload_n S.1 S.2.1 dX3_take_1 rfl (lv_at hl 1 rfl) ?_
    refine zz_put S K Z hv zc_2 (by decide) gf_X3_15 rfl rfl rfl dX3_take_2 (fun h1 H locs hv Z => ?_)
    refine lv_aload_n S.1 S.2.1 dX3_take_5 rfl (lv_at hl 0 rfl) ?_
    refine lv_iload_n S.1 S.2.1 dX3_take_6 rfl (lv_at hl 2 rfl) ?_
    refine lv_if_ge (tgt := 14) S.1 S.2.1 dX3_take_7 (by decide) (fun hc => ?_) (fun hc => ?_)
    · replace hv := (if_pos hc).symm.trans hv
      refine lv_iload_n S.1 S.2.1 dX3_take_14 rfl (lv_at hl 2 rfl) ?_
      refine lv_aload_n S.1 S.2.1 dX3_take_15 rfl (lv_at hl 0 rfl) ?_
      refine zz_gR S K Z hv zc_2 (by decide) gf_X3_9 dX3_take_16 (fun v2 hv => ?_)
      refine zz_alen S K Z hv rfl dX3_take_19 (fun v3 hv => ?_)
      refine lv_icmp_ge (tgt := 27) S.1 S.2.1 dX3_take_20 (by decide) (fun hc => ?_) (fun hc => ?_)
      · replace hv := (if_pos hc).symm.trans hv
        refine lv_aload_n S.1 S.2.1 dX3_take_27 rfl (lv_at hl 0 rfl) ?_
        refine zz_gR S K Z hv zc_2 (by decide) gf_X3_9 dX3_take_28 (fun v4 hv => ?_)
        refine zz_alen S K Z hv rfl dX3_take_31 (fun v5 hv => ?_)
        exact J32 v5 a0 h1 _ hv hk H locs ls Z (lv_sub hl [0, 3] rfl)
      · replace hv := (if_neg hc).symm.trans hv
        refine lv_iload_n S.1 S.2.1 dX3_take_23 rfl (lv_at hl 2 rfl) ?_
        refine lv_goto (tgt := 32) S.1 S.2.1 dX3_take_24 (by decide) ?_
        exact J32 a2 a0 h1 _ hv hk H locs ls Z (lv_sub hl [0, 3] rfl)
    · replace hv := (if_neg hc).symm.trans hv
      refine lv_iconst (v := (0 : Int32)) S.1 S.2.1 dX3_take_10 (by decide) ?_
      refine lv_goto (tgt := 32) S.1 S.2.1 dX3_take_11 (by decide) ?_
      exact J32 (0 : Int32) a0 h1 _ hv hk H locs ls Z (lv_sub hl [0, 3] rfl)
  rw [hH, hlo] at key
  exact key

noncomputable def f_X11_holder_J61 (h : ZH) (a0 : Nat) (a1 : Int32) (a2 : Int32) (a3 : Int32) (a4 : Int32) (s7 : Int32) (s8 : Int32) (s9 : Nat) (h10 : ZH) : Option (Int32 × ZH) :=
  zz_isO h10 s9 2 <| (f_X3_take h10 s9 s8 s7 a4).bind fun h11 => some (((1 : Int32), h11))
noncomputable def f_X11_holder_J41 (h : ZH) (a0 : Nat) (a1 : Int32) (a2 : Int32) (a3 : Int32) (a4 : Int32) (h3 : ZH) : Option (Int32 × ZH) :=
  (zg_R h3 a0 9 1).bind fun v4 => (zg_R h3 v4 8 3).bind fun v5 => (zl_R h3 v5 5 a1).bind fun v6 => if a2 = (2 : Int32) then (f_X11_holder_J61 h a0 a1 a2 a3 a4 a3 a2 v6 h3) else (f_X11_holder_J61 h a0 a1 a2 a3 a4 (1 : Int32) a2 v6 h3)
noncomputable def f_X11_holder (h : ZH) (a0 : Nat) (a1 : Int32) (a2 : Int32) (a3 : Int32) (a4 : Int32) : Option (Int32 × ZH) :=
  (f_X11_inside h a1 (0 : Int32) (3 : Int32)).bind fun v1 => if v1 = 0 then (some (((-2 : Int32), h))) else ((f_X11_inside h a2 (0 : Int32) (2 : Int32)).bind fun v2 => if v2 = 0 then (some (((-3 : Int32), h))) else (if a2 = (2 : Int32) then ((f_X11_inside h a3 (1 : Int32) (4 : Int32)).bind fun v12 => if v12 = 0 then (some (((-3 : Int32), h))) else (f_X11_holder_J41 h a0 a1 a2 a3 a4 h)) else (f_X11_holder_J41 h a0 a1 a2 a3 a4 h)))
abbrev rm_X11_holder : Room := { frames := 1, cells := 0, slots := 0, locals := 24 }
set_option maxRecDepth 100000 in
set_option maxHeartbeats 4000000 in
theorem c_X11_holder {l : Launch} {D : va_G} {dA : Nat → ClassId} {A : Nat → Prop} {h : ZH} {n : Nat} (a0 : Nat) (a1 : Int32) (a2 : Int32) (a3 : Int32) (a4 : Int32) {r : Int32} {hx : ZH} (hf : f_X11_holder h a0 a1 a2 a3 a4 = some (r, hx)) : Met l yX11_holder (zz_ws yX11_holder cX11_holder 5 (some .int)) rm_X11_holder (zz_P D dA A h n [.ref (a0), .int (a1), .int (a2), .int (a3), .int (a4)]) (zz_Q D dA A (some (.int r)) hx n) 0 0 A := by
  refine zz_met (by decide) (Nat.le_of_ble_eq_true rfl) ?_
  intro p e s m args below meth c ls S K hret hlk hnm hl Z
  replace hl : lv_has ls 5 [(0, .ref (a0)), (1, .int (a1)), (2, .int (a2)), (3, .int (a3)), (4, .int (a4))] := hl
  obtain ⟨K0, hR0, hk⟩ : ∃ K0 : (Int32 × ZH) → Prop, (∀ x, K0 x → x = (r, hx)) ∧ K0 (r, hx) := ⟨fun x => x = (r, hx), fun _ h => h, rfl⟩
  have J61 : ∀ (s7 : Int32) (s8 : Int32) (s9 : Nat) (h10 : ZH) (x : (Int32 × ZH)), f_X11_holder_J61 h a0 a1 a2 a3 a4 s7 s8 s9 h10 = some x → K0 x → ∀ (H : Heap) (locs : List Loc) (ls : Array Slot), zz_B D dA A h10 n s.heap H locs → lv_has ls 5 [(4, .int (a4))] → zz_W p l e rm_X11_holder s m args below meth c D dA A (some (.int r)) hx n 0 0 H locs 0 0 61 ls [.int (s7), .int (s8), .ref (s9)] := by
    intro s7 s8 s9 h10 x hv hk H locs ls Z hl
    unfold f_X11_holder_J61 at hv
    refine lv_iload S.1 S.2.1 dX11_holder_61 (lv_at hl 0 rfl) ?_
    obtain ⟨hci, hv⟩ := zz_isO_s hv
    obtain ⟨h11, hq, hv⟩ := zz_bd hv
    refine zz_V [.int (s8), .int (s7), .int (a4)] S K Z hci zc_2 rfl (c_X3_take s9 s8 s7 a4 hq) ⟨rfl, rfl⟩ gm_X3_take gmv_X3_take gl_X11_147 ⟨by decide, by decide⟩ rfl hl.1 rfl (Nat.le_of_ble_eq_true rfl) dX11_holder_63 ⟨Nat.zero_le _, Nat.zero_le _⟩ (fun H locs Z => ?_)
    show W _ _ _ _ _ _ _ _ _ _ _ _ 0 0 _ (F0 m 66 ls [])
    refine lv_iconst (v := (1 : Int32)) S.1 S.2.1 dX11_holder_66 (by decide) ?_
    replace hk := zz_fin hv hk
    obtain ⟨rfl, rfl⟩ := Prod.mk.inj (hR0 _ hk)
    exact zz_iret S Z hret hlk dX11_holder_67 (Nat.le_refl _) (Nat.le_refl _)
  have J41 : ∀ (h3 : ZH) (x : (Int32 × ZH)), f_X11_holder_J41 h a0 a1 a2 a3 a4 h3 = some x → K0 x → ∀ (H : Heap) (locs : List Loc) (ls : Array Slot), zz_B D dA A h3 n s.heap H locs → lv_has ls 5 [(0, .ref (a0)), (1, .int (a1)), (2, .int (a2)), (3, .int (a3)), (4, .int (a4))] → zz_W p l e rm_X11_holder s m args below meth c D dA A (some (.int r)) hx n 0 0 H locs 0 0 41 ls [] := by
    intro h3 x hv hk H locs ls Z hl
    unfold f_X11_holder_J41 at hv
    refine lv_aload_n S.1 S.2.1 dX11_holder_41 rfl (lv_at hl 0 rfl) ?_
    refine zz_gR S K Z hv zc_9 (by decide) gf_X11_25 dX11_holder_42 (fun v4 hv => ?_)
    refine zz_gR S K Z hv zc_8 (by decide) gf_X11_143 dX11_holder_45 (fun v5 hv => ?_)
    refine lv_iload_n S.1 S.2.1 dX11_holder_48 rfl (lv_at hl 1 rfl) ?_
    refine zz_aald S K Z hv rfl dX11_holder_49 (fun v6 hv => ?_)
    refine lv_iload_n S.1 S.2.1 dX11_holder_50 rfl (lv_at hl 2 rfl) ?_
    refine lv_iload_n S.1 S.2.1 dX11_holder_51 rfl (lv_at hl 2 rfl) ?_
    refine lv_iconst (v := (2 : Int32)) S.1 S.2.1 dX11_holder_52 (by decide) ?_
    refine lv_icmp_ne (tgt := 60) S.1 S.2.1 dX11_holder_53 (by decide) (fun hc => ?_) (fun hc => ?_)
    · replace hv := (if_neg hc).symm.trans hv
      refine lv_iconst (v := (1 : Int32)) S.1 S.2.1 dX11_holder_60 (by decide) ?_
      exact J61 (1 : Int32) a2 v6 h3 _ hv hk H locs ls Z (lv_sub hl [4] rfl)
    · replace hv := (if_pos hc).symm.trans hv
      refine lv_iload_n S.1 S.2.1 dX11_holder_56 rfl (lv_at hl 3 rfl) ?_
      refine lv_goto (tgt := 61) S.1 S.2.1 dX11_holder_57 (by decide) ?_
      exact J61 a3 a2 v6 h3 _ hv hk H locs ls Z (lv_sub hl [4] rfl)
  have hv := hf
  unfold f_X11_holder at hv
  clear hf
  obtain ⟨x, hxx⟩ : ∃ x, x = (r, hx) := ⟨_, rfl⟩
  rw [← hxx] at hv hk
  have ⟨H, hH⟩ : ∃ H, H = s.heap := ⟨_, rfl⟩
  have ⟨locs, hlo⟩ : ∃ q : List Loc, q = [] := ⟨_, rfl⟩
  have Z : zz_B D dA A h n s.heap H locs := by rw [hH, hlo]; exact Z
  have key : zz_W p l e rm_X11_holder s m args below meth c D dA A (some (.int r)) hx n 0 0 H locs 0 0 0 ls [] := by
    clear hH hlo hxx
    refine lv_iload_n S.1 S.2.1 dX11_holder_0 rfl (lv_at hl 1 rfl) ?_
    refine lv_iconst (v := (0 : Int32)) S.1 S.2.1 dX11_holder_1 (by decide) ?_
    refine lv_iconst (v := (3 : Int32)) S.1 S.2.1 dX11_holder_2 (by decide) ?_
    obtain ⟨v1, hq, hv⟩ := zz_bd hv
    refine zz_S [.int (a1), .int ((0 : Int32)), .int ((3 : Int32))] S K Z (c_X11_inside a1 (0 : Int32) (3 : Int32) hq) ⟨rfl, rfl⟩ gm_X11_inside gs_X11_inside gl_X11_100 ⟨by decide, by decide⟩ rfl hl.1 rfl (Nat.le_of_ble_eq_true rfl) dX11_holder_3 ⟨Nat.zero_le _, Nat.zero_le _⟩ (fun H locs Z => ?_)
    show W _ _ _ _ _ _ _ _ _ _ _ _ 0 0 _ (F0 m 6 ls [.int (v1)])
    refine lv_if_ne (tgt := 12) S.1 S.2.1 dX11_holder_6 (by decide) (fun hc => ?_) (fun hc => ?_)
    · replace hv := (if_neg hc).symm.trans hv
      refine lv_iload_n S.1 S.2.1 dX11_holder_12 rfl (lv_at hl 2 rfl) ?_
      refine lv_iconst (v := (0 : Int32)) S.1 S.2.1 dX11_holder_13 (by decide) ?_
      refine lv_iconst (v := (2 : Int32)) S.1 S.2.1 dX11_holder_14 (by decide) ?_
      obtain ⟨v2, hq, hv⟩ := zz_bd hv
      refine zz_S [.int (a2), .int ((0 : Int32)), .int ((2 : Int32))] S K Z (c_X11_inside a2 (0 : Int32) (2 : Int32) hq) ⟨rfl, rfl⟩ gm_X11_inside gs_X11_inside gl_X11_100 ⟨by decide, by decide⟩ rfl hl.1 rfl (Nat.le_of_ble_eq_true rfl) dX11_holder_15 ⟨Nat.zero_le _, Nat.zero_le _⟩ (fun H locs Z => ?_)
      show W _ _ _ _ _ _ _ _ _ _ _ _ 0 0 _ (F0 m 18 ls [.int (v2)])
      refine lv_if_ne (tgt := 24) S.1 S.2.1 dX11_holder_18 (by decide) (fun hc => ?_) (fun hc => ?_)
      · replace hv := (if_neg hc).symm.trans hv
        refine lv_iload_n S.1 S.2.1 dX11_holder_24 rfl (lv_at hl 2 rfl) ?_
        refine lv_iconst (v := (2 : Int32)) S.1 S.2.1 dX11_holder_25 (by decide) ?_
        refine lv_icmp_ne (tgt := 41) S.1 S.2.1 dX11_holder_26 (by decide) (fun hc => ?_) (fun hc => ?_)
        · replace hv := (if_neg hc).symm.trans hv
          exact J41 h _ hv hk H locs ls Z (lv_sub hl [0, 1, 2, 3, 4] rfl)
        · replace hv := (if_pos hc).symm.trans hv
          refine lv_iload_n S.1 S.2.1 dX11_holder_29 rfl (lv_at hl 3 rfl) ?_
          refine lv_iconst (v := (1 : Int32)) S.1 S.2.1 dX11_holder_30 (by decide) ?_
          refine lv_iconst (v := (4 : Int32)) S.1 S.2.1 dX11_holder_31 (by decide) ?_
          obtain ⟨v12, hq, hv⟩ := zz_bd hv
          refine zz_S [.int (a3), .int ((1 : Int32)), .int ((4 : Int32))] S K Z (c_X11_inside a3 (1 : Int32) (4 : Int32) hq) ⟨rfl, rfl⟩ gm_X11_inside gs_X11_inside gl_X11_100 ⟨by decide, by decide⟩ rfl hl.1 rfl (Nat.le_of_ble_eq_true rfl) dX11_holder_32 ⟨Nat.zero_le _, Nat.zero_le _⟩ (fun H locs Z => ?_)
          show W _ _ _ _ _ _ _ _ _ _ _ _ 0 0 _ (F0 m 35 ls [.int (v12)])
          refine lv_if_ne (tgt := 41) S.1 S.2.1 dX11_holder_35 (by decide) (fun hc => ?_) (fun hc => ?_)
          · replace hv := (if_neg hc).symm.trans hv
            exact J41 h _ hv hk H locs ls Z (lv_sub hl [0, 1, 2, 3, 4] rfl)
          · replace hv := (if_pos hc).symm.trans hv
            refine lv_bipush (v := (-3 : Int32)) S.1 S.2.1 dX11_holder_38 (by decide) ?_
            replace hk := zz_fin hv hk
            obtain ⟨rfl, rfl⟩ := Prod.mk.inj (hR0 _ hk)
            exact zz_iret S Z hret hlk dX11_holder_40 (Nat.le_refl _) (Nat.le_refl _)
      · replace hv := (if_pos hc).symm.trans hv
        refine lv_bipush (v := (-3 : Int32)) S.1 S.2.1 dX11_holder_21 (by decide) ?_
        replace hk := zz_fin hv hk
        obtain ⟨rfl, rfl⟩ := Prod.mk.inj (hR0 _ hk)
        exact zz_iret S Z hret hlk dX11_holder_23 (Nat.le_refl _) (Nat.le_refl _)
    · replace hv := (if_pos hc).symm.trans hv
      refine lv_bipush (v := (-2 : Int32)) S.1 S.2.1 dX11_holder_9 (by decide) ?_
      replace hk := zz_fin hv hk
      obtain ⟨rfl, rfl⟩ := Prod.mk.inj (hR0 _ hk)
      exact zz_iret S Z hret hlk dX11_holder_11 (Nat.le_refl _) (Nat.le_refl _)
  rw [hH, hlo] at key
  exact key

noncomputable def f_X11_seed (h : ZH) (a0 : Nat) (a1 : Int32) : Option (Int32 × ZH) :=
  (zg_R h a0 9 1).bind fun v1 => (zg_I h v1 8 5).bind fun v2 => (zg_R h a0 9 1).bind fun v3 => (zp_V h v3 8 5 (.int (a1))).bind fun h4 => some ((v2, h4))
abbrev rm_X11_seed : Room := { frames := 0, cells := 0, slots := 0, locals := 0 }
set_option maxRecDepth 100000 in
set_option maxHeartbeats 4000000 in
theorem c_X11_seed {l : Launch} {D : va_G} {dA : Nat → ClassId} {A : Nat → Prop} {h : ZH} {n : Nat} (a0 : Nat) (a1 : Int32) {r : Int32} {hx : ZH} (hf : f_X11_seed h a0 a1 = some (r, hx)) : Met l yX11_seed (zz_ws yX11_seed cX11_seed 3 (some .int)) rm_X11_seed (zz_P D dA A h n [.ref (a0), .int (a1)]) (zz_Q D dA A (some (.int r)) hx n) 0 0 A := by
  refine zz_met (by decide) (Nat.le_of_ble_eq_true rfl) ?_
  intro p e s m args below meth c ls S K hret hlk hnm hl Z
  replace hl : lv_has ls 3 [(0, .ref (a0)), (1, .int (a1))] := hl
  obtain ⟨K0, hR0, hk⟩ : ∃ K0 : (Int32 × ZH) → Prop, (∀ x, K0 x → x = (r, hx)) ∧ K0 (r, hx) := ⟨fun x => x = (r, hx), fun _ h => h, rfl⟩
  have hv := hf
  unfold f_X11_seed at hv
  clear hf
  obtain ⟨x, hxx⟩ : ∃ x, x = (r, hx) := ⟨_, rfl⟩
  rw [← hxx] at hv hk
  have ⟨H, hH⟩ : ∃ H, H = s.heap := ⟨_, rfl⟩
  have ⟨locs, hlo⟩ : ∃ q : List Loc, q = [] := ⟨_, rfl⟩
  have Z : zz_B D dA A h n s.heap H locs := by rw [hH, hlo]; exact Z
  have key : zz_W p l e rm_X11_seed s m args below meth c D dA A (some (.int r)) hx n 0 0 H locs 0 0 0 ls [] := by
    clear hH hlo hxx
    refine lv_aload_n S.1 S.2.1 dX11_seed_0 rfl (lv_at hl 0 rfl) ?_
    refine zz_gR S K Z hv zc_9 (by decide) gf_X11_25 dX11_seed_1 (fun v1 hv => ?_)
    refine zz_gI S K Z hv zc_8 (by decide) gf_X11_153 dX11_seed_4 (fun v2 hv => ?_)
    refine lv_istore_n (lv' := [(2, .int (v2)), (0, .ref (a0)), (1, .int (a1))]) S.1 S.2.1 dX11_seed_7 rfl hl (by decide) rfl (fun ls hl => ?_)
    refine lv_aload_n S.1 S.2.1 dX11_seed_8 rfl (lv_at hl 1 rfl) ?_
    refine zz_gR S K Z hv zc_9 (by decide) gf_X11_25 dX11_seed_9 (fun v3 hv => ?_)
    refine lv_iload_n S.1 S.2.1 dX11_seed_12 rfl (lv_at hl 2 rfl) ?_
    refine zz_put S K Z hv zc_8 (by decide) gf_X11_153 rfl rfl rfl dX11_seed_13 (fun h4 H locs hv Z => ?_)
    refine lv_iload_n S.1 S.2.1 dX11_seed_16 rfl (lv_at hl 0 rfl) ?_
    replace hk := zz_fin hv hk
    obtain ⟨rfl, rfl⟩ := Prod.mk.inj (hR0 _ hk)
    exact zz_iret S Z hret hlk dX11_seed_17 (Nat.le_refl _) (Nat.le_refl _)
  rw [hH, hlo] at key
  exact key

noncomputable def f_X2_isKind (h : ZH) (a0 : Int32) : Option (Int32) :=
  if a0 = (62 : Int32) then (some ((1 : Int32))) else (if a0 = (61 : Int32) then (some ((1 : Int32))) else (if a0 = (63 : Int32) then (some ((1 : Int32))) else (if a0 = (64 : Int32) then (some ((1 : Int32))) else (if a0 = (33 : Int32) then (some ((1 : Int32))) else (if a0 = (115 : Int32) then (some ((1 : Int32))) else (if a0 = (98 : Int32) then (some ((1 : Int32))) else (if a0 = (35 : Int32) then (some ((1 : Int32))) else (some ((0 : Int32))))))))))
abbrev rm_X2_isKind : Room := { frames := 0, cells := 0, slots := 0, locals := 0 }
set_option maxRecDepth 100000 in
set_option maxHeartbeats 4000000 in
theorem c_X2_isKind {l : Launch} {D : va_G} {dA : Nat → ClassId} {A : Nat → Prop} {h : ZH} {n : Nat} (a0 : Int32) {r : Int32} (hf : f_X2_isKind h a0 = some r) : Met l yX2_isKind (zz_ws yX2_isKind cX2_isKind 1 (some .boolean)) rm_X2_isKind (zz_P D dA A h n [.int (a0)]) (zz_Q D dA A (some (.int r)) h n) 0 0 A := by
  refine zz_met (by decide) (Nat.le_of_ble_eq_true rfl) ?_
  intro p e s m args below meth c ls S K hret hlk hnm hl Z
  replace hl : lv_has ls 1 [(0, .int (a0))] := hl
  obtain ⟨K0, hR0, hk⟩ : ∃ K0 : (Int32) → Prop, (∀ x, K0 x → x = r) ∧ K0 r := ⟨fun x => x = r, fun _ h => h, rfl⟩
  have hv := hf
  unfold f_X2_isKind at hv
  clear hf
  obtain ⟨x, hxx⟩ : ∃ x, x = r := ⟨_, rfl⟩
  rw [← hxx] at hv hk
  have ⟨H, hH⟩ : ∃ H, H = s.heap := ⟨_, rfl⟩
  have ⟨locs, hlo⟩ : ∃ q : List Loc, q = [] := ⟨_, rfl⟩
  have Z : zz_B D dA A h n s.heap H locs := by rw [hH, hlo]; exact Z
  have key : zz_W p l e rm_X2_isKind s m args below meth c D dA A (some (.int r)) h n 0 0 H locs 0 0 0 ls [] := by
    clear hH hlo hxx
    refine lv_iload_n S.1 S.2.1 dX2_isKind_0 rfl (lv_at hl 0 rfl) ?_
    refine lv_bipush (v := (62 : Int32)) S.1 S.2.1 dX2_isKind_1 (by decide) ?_
    refine lv_icmp_eq (tgt := 48) S.1 S.2.1 dX2_isKind_3 (by decide) (fun hc => ?_) (fun hc => ?_)
    · replace hv := (if_pos hc).symm.trans hv
      refine lv_iconst (v := (1 : Int32)) S.1 S.2.1 dX2_isKind_48 (by decide) ?_
      refine lv_goto (tgt := 53) S.1 S.2.1 dX2_isKind_49 (by decide) ?_
      replace hk := zz_fin hv hk
      obtain rfl := hR0 _ hk
      exact zz_zret S Z hret (by decide) hlk dX2_isKind_53 (Nat.le_refl _) (Nat.le_refl _)
    · replace hv := (if_neg hc).symm.trans hv
      refine lv_iload_n S.1 S.2.1 dX2_isKind_6 rfl (lv_at hl 0 rfl) ?_
      refine lv_bipush (v := (61 : Int32)) S.1 S.2.1 dX2_isKind_7 (by decide) ?_
      refine lv_icmp_eq (tgt := 48) S.1 S.2.1 dX2_isKind_9 (by decide) (fun hc => ?_) (fun hc => ?_)
      · replace hv := (if_pos hc).symm.trans hv
        refine lv_iconst (v := (1 : Int32)) S.1 S.2.1 dX2_isKind_48 (by decide) ?_
        refine lv_goto (tgt := 53) S.1 S.2.1 dX2_isKind_49 (by decide) ?_
        replace hk := zz_fin hv hk
        obtain rfl := hR0 _ hk
        exact zz_zret S Z hret (by decide) hlk dX2_isKind_53 (Nat.le_refl _) (Nat.le_refl _)
      · replace hv := (if_neg hc).symm.trans hv
        refine lv_iload_n S.1 S.2.1 dX2_isKind_12 rfl (lv_at hl 0 rfl) ?_
        refine lv_bipush (v := (63 : Int32)) S.1 S.2.1 dX2_isKind_13 (by decide) ?_
        refine lv_icmp_eq (tgt := 48) S.1 S.2.1 dX2_isKind_15 (by decide) (fun hc => ?_) (fun hc => ?_)
        · replace hv := (if_pos hc).symm.trans hv
          refine lv_iconst (v := (1 : Int32)) S.1 S.2.1 dX2_isKind_48 (by decide) ?_
          refine lv_goto (tgt := 53) S.1 S.2.1 dX2_isKind_49 (by decide) ?_
          replace hk := zz_fin hv hk
          obtain rfl := hR0 _ hk
          exact zz_zret S Z hret (by decide) hlk dX2_isKind_53 (Nat.le_refl _) (Nat.le_refl _)
        · replace hv := (if_neg hc).symm.trans hv
          refine lv_iload_n S.1 S.2.1 dX2_isKind_18 rfl (lv_at hl 0 rfl) ?_
          refine lv_bipush (v := (64 : Int32)) S.1 S.2.1 dX2_isKind_19 (by decide) ?_
          refine lv_icmp_eq (tgt := 48) S.1 S.2.1 dX2_isKind_21 (by decide) (fun hc => ?_) (fun hc => ?_)
          · replace hv := (if_pos hc).symm.trans hv
            refine lv_iconst (v := (1 : Int32)) S.1 S.2.1 dX2_isKind_48 (by decide) ?_
            refine lv_goto (tgt := 53) S.1 S.2.1 dX2_isKind_49 (by decide) ?_
            replace hk := zz_fin hv hk
            obtain rfl := hR0 _ hk
            exact zz_zret S Z hret (by decide) hlk dX2_isKind_53 (Nat.le_refl _) (Nat.le_refl _)
          · replace hv := (if_neg hc).symm.trans hv
            refine lv_iload_n S.1 S.2.1 dX2_isKind_24 rfl (lv_at hl 0 rfl) ?_
            refine lv_bipush (v := (33 : Int32)) S.1 S.2.1 dX2_isKind_25 (by decide) ?_
            refine lv_icmp_eq (tgt := 48) S.1 S.2.1 dX2_isKind_27 (by decide) (fun hc => ?_) (fun hc => ?_)
            · replace hv := (if_pos hc).symm.trans hv
              refine lv_iconst (v := (1 : Int32)) S.1 S.2.1 dX2_isKind_48 (by decide) ?_
              refine lv_goto (tgt := 53) S.1 S.2.1 dX2_isKind_49 (by decide) ?_
              replace hk := zz_fin hv hk
              obtain rfl := hR0 _ hk
              exact zz_zret S Z hret (by decide) hlk dX2_isKind_53 (Nat.le_refl _) (Nat.le_refl _)
            · replace hv := (if_neg hc).symm.trans hv
              refine lv_iload_n S.1 S.2.1 dX2_isKind_30 rfl (lv_at hl 0 rfl) ?_
              refine lv_bipush (v := (115 : Int32)) S.1 S.2.1 dX2_isKind_31 (by decide) ?_
              refine lv_icmp_eq (tgt := 48) S.1 S.2.1 dX2_isKind_33 (by decide) (fun hc => ?_) (fun hc => ?_)
              · replace hv := (if_pos hc).symm.trans hv
                refine lv_iconst (v := (1 : Int32)) S.1 S.2.1 dX2_isKind_48 (by decide) ?_
                refine lv_goto (tgt := 53) S.1 S.2.1 dX2_isKind_49 (by decide) ?_
                replace hk := zz_fin hv hk
                obtain rfl := hR0 _ hk
                exact zz_zret S Z hret (by decide) hlk dX2_isKind_53 (Nat.le_refl _) (Nat.le_refl _)
              · replace hv := (if_neg hc).symm.trans hv
                refine lv_iload_n S.1 S.2.1 dX2_isKind_36 rfl (lv_at hl 0 rfl) ?_
                refine lv_bipush (v := (98 : Int32)) S.1 S.2.1 dX2_isKind_37 (by decide) ?_
                refine lv_icmp_eq (tgt := 48) S.1 S.2.1 dX2_isKind_39 (by decide) (fun hc => ?_) (fun hc => ?_)
                · replace hv := (if_pos hc).symm.trans hv
                  refine lv_iconst (v := (1 : Int32)) S.1 S.2.1 dX2_isKind_48 (by decide) ?_
                  refine lv_goto (tgt := 53) S.1 S.2.1 dX2_isKind_49 (by decide) ?_
                  replace hk := zz_fin hv hk
                  obtain rfl := hR0 _ hk
                  exact zz_zret S Z hret (by decide) hlk dX2_isKind_53 (Nat.le_refl _) (Nat.le_refl _)
                · replace hv := (if_neg hc).symm.trans hv
                  refine lv_iload_n S.1 S.2.1 dX2_isKind_42 rfl (lv_at hl 0 rfl) ?_
                  refine lv_bipush (v := (35 : Int32)) S.1 S.2.1 dX2_isKind_43 (by decide) ?_
                  refine lv_icmp_ne (tgt := 52) S.1 S.2.1 dX2_isKind_45 (by decide) (fun hc => ?_) (fun hc => ?_)
                  · replace hv := (if_neg hc).symm.trans hv
                    refine lv_iconst (v := (0 : Int32)) S.1 S.2.1 dX2_isKind_52 (by decide) ?_
                    replace hk := zz_fin hv hk
                    obtain rfl := hR0 _ hk
                    exact zz_zret S Z hret (by decide) hlk dX2_isKind_53 (Nat.le_refl _) (Nat.le_refl _)
                  · replace hv := (if_pos hc).symm.trans hv
                    refine lv_iconst (v := (1 : Int32)) S.1 S.2.1 dX2_isKind_48 (by decide) ?_
                    refine lv_goto (tgt := 53) S.1 S.2.1 dX2_isKind_49 (by decide) ?_
                    replace hk := zz_fin hv hk
                    obtain rfl := hR0 _ hk
                    exact zz_zret S Z hret (by decide) hlk dX2_isKind_53 (Nat.le_refl _) (Nat.le_refl _)
  rw [hH, hlo] at key
  exact key

noncomputable def f_X2_endsLine (h : ZH) (a0 : Int32) : Option (Int32) :=
  if a0 = (10 : Int32) then (some ((1 : Int32))) else (if a0 = (-1 : Int32) then (some ((1 : Int32))) else (some ((0 : Int32))))
abbrev rm_X2_endsLine : Room := { frames := 0, cells := 0, slots := 0, locals := 0 }
set_option maxRecDepth 100000 in
set_option maxHeartbeats 4000000 in
theorem c_X2_endsLine {l : Launch} {D : va_G} {dA : Nat → ClassId} {A : Nat → Prop} {h : ZH} {n : Nat} (a0 : Int32) {r : Int32} (hf : f_X2_endsLine h a0 = some r) : Met l yX2_endsLine (zz_ws yX2_endsLine cX2_endsLine 1 (some .boolean)) rm_X2_endsLine (zz_P D dA A h n [.int (a0)]) (zz_Q D dA A (some (.int r)) h n) 0 0 A := by
  refine zz_met (by decide) (Nat.le_of_ble_eq_true rfl) ?_
  intro p e s m args below meth c ls S K hret hlk hnm hl Z
  replace hl : lv_has ls 1 [(0, .int (a0))] := hl
  obtain ⟨K0, hR0, hk⟩ : ∃ K0 : (Int32) → Prop, (∀ x, K0 x → x = r) ∧ K0 r := ⟨fun x => x = r, fun _ h => h, rfl⟩
  have hv := hf
  unfold f_X2_endsLine at hv
  clear hf
  obtain ⟨x, hxx⟩ : ∃ x, x = r := ⟨_, rfl⟩
  rw [← hxx] at hv hk
  have ⟨H, hH⟩ : ∃ H, H = s.heap := ⟨_, rfl⟩
  have ⟨locs, hlo⟩ : ∃ q : List Loc, q = [] := ⟨_, rfl⟩
  have Z : zz_B D dA A h n s.heap H locs := by rw [hH, hlo]; exact Z
  have key : zz_W p l e rm_X2_endsLine s m args below meth c D dA A (some (.int r)) h n 0 0 H locs 0 0 0 ls [] := by
    clear hH hlo hxx
    refine lv_iload_n S.1 S.2.1 dX2_endsLine_0 rfl (lv_at hl 0 rfl) ?_
    refine lv_bipush (v := (10 : Int32)) S.1 S.2.1 dX2_endsLine_1 (by decide) ?_
    refine lv_icmp_eq (tgt := 11) S.1 S.2.1 dX2_endsLine_3 (by decide) (fun hc => ?_) (fun hc => ?_)
    · replace hv := (if_pos hc).symm.trans hv
      refine lv_iconst (v := (1 : Int32)) S.1 S.2.1 dX2_endsLine_11 (by decide) ?_
      refine lv_goto (tgt := 16) S.1 S.2.1 dX2_endsLine_12 (by decide) ?_
      replace hk := zz_fin hv hk
      obtain rfl := hR0 _ hk
      exact zz_zret S Z hret (by decide) hlk dX2_endsLine_16 (Nat.le_refl _) (Nat.le_refl _)
    · replace hv := (if_neg hc).symm.trans hv
      refine lv_iload_n S.1 S.2.1 dX2_endsLine_6 rfl (lv_at hl 0 rfl) ?_
      refine lv_iconst (v := (-1 : Int32)) S.1 S.2.1 dX2_endsLine_7 (by decide) ?_
      refine lv_icmp_ne (tgt := 15) S.1 S.2.1 dX2_endsLine_8 (by decide) (fun hc => ?_) (fun hc => ?_)
      · replace hv := (if_neg hc).symm.trans hv
        refine lv_iconst (v := (0 : Int32)) S.1 S.2.1 dX2_endsLine_15 (by decide) ?_
        replace hk := zz_fin hv hk
        obtain rfl := hR0 _ hk
        exact zz_zret S Z hret (by decide) hlk dX2_endsLine_16 (Nat.le_refl _) (Nat.le_refl _)
      · replace hv := (if_pos hc).symm.trans hv
        refine lv_iconst (v := (1 : Int32)) S.1 S.2.1 dX2_endsLine_11 (by decide) ?_
        refine lv_goto (tgt := 16) S.1 S.2.1 dX2_endsLine_12 (by decide) ?_
        replace hk := zz_fin hv hk
        obtain rfl := hR0 _ hk
        exact zz_zret S Z hret (by decide) hlk dX2_endsLine_16 (Nat.le_refl _) (Nat.le_refl _)
  rw [hH, hlo] at key
  exact key

noncomputable def f_X2_words_L4 (h : ZH) (a0 : Nat) (a1 : Int32) (x2_1 : Int32) (x3_2 : Int32)  : Option ((Int32 × Int32) ⊕ (Int32)) :=
  if (600 : Int32) ≤ x3_2 then ((some (x2_1 ^^^ (-1 : Int32))).map Sum.inr) else ((f_X2_lettersEnd h a0 x2_1).bind fun v3 => if v3 < 0 then ((some (v3)).map Sum.inr) else (zz_isO h a0 0 <| (f_X0_at h a0 v3).bind fun v4 => (f_X2_endsLine h v4).bind fun v5 => if v5 = 0 then (zz_isO h a0 0 <| (f_X0_at h a0 v3).bind fun v6 => if v6 = (32 : Int32) then (zz_let (v3 + (1 : Int32)) fun v7 => some (.inl (v7, x3_2 + (1 : Int32)))) else ((some (v3 ^^^ (-1 : Int32))).map Sum.inr)) else ((some (v3)).map Sum.inr)))
noncomputable def f_X2_words (h : ZH) (a0 : Nat) (a1 : Int32) : Option (Int32) :=
  zz_loop (fun st : (Int32 × Int32) => f_X2_words_L4 h a0 a1 (st.1) (st.2)) (a1, (0 : Int32))
abbrev rm_X2_words : Room := { frames := 2, cells := 0, slots := 0, locals := 43 }
set_option maxRecDepth 100000 in
set_option maxHeartbeats 4000000 in
theorem c_X2_words {l : Launch} {D : va_G} {dA : Nat → ClassId} {A : Nat → Prop} {h : ZH} {n : Nat} (a0 : Nat) (a1 : Int32) {r : Int32} (hf : f_X2_words h a0 a1 = some r) : Met l yX2_words (zz_ws yX2_words cX2_words 5 (some .int)) rm_X2_words (zz_P D dA A h n [.ref (a0), .int (a1)]) (zz_Q D dA A (some (.int r)) h n) 0 0 A := by
  refine zz_met (by decide) (Nat.le_of_ble_eq_true rfl) ?_
  intro p e s m args below meth c ls S K hret hlk hnm hl Z
  replace hl : lv_has ls 5 [(0, .ref (a0)), (1, .int (a1))] := hl
  obtain ⟨K0, hR0, hk⟩ : ∃ K0 : (Int32) → Prop, (∀ x, K0 x → x = r) ∧ K0 r := ⟨fun x => x = r, fun _ h => h, rfl⟩
  have L4 : ∀ (st : (Int32 × Int32)) (x : (Int32)), zz_loop (fun st : (Int32 × Int32) => f_X2_words_L4 h a0 a1 (st.1) (st.2)) st = some x → K0 x → (fun st : (Int32 × Int32) => ∀ (H : Heap) (locs : List Loc) (ls : Array Slot), zz_B D dA A h n s.heap H locs → lv_has ls 5 [(0, .ref (a0)), (2, .int ((st.1))), (3, .int ((st.2)))] → zz_W p l e rm_X2_words s m args below meth c D dA A (some (.int r)) h n 0 0 H locs 0 0 4 ls []) st := by
    refine zz_loop_go (K := K0) ?_
    intro K1 hP1 hR1
    rintro ⟨x2_1, x3_2⟩ x hv hk H locs ls Z hl
    replace hv : f_X2_words_L4 h a0 a1 x2_1 x3_2 = some x := hv
    unfold f_X2_words_L4 at hv
    replace hl : lv_has ls 5 [(0, .ref (a0)), (2, .int (x2_1)), (3, .int (x3_2))] := hl
    replace Z : zz_B D dA A h n s.heap H locs := Z
    show zz_W p l e rm_X2_words s m args below meth c D dA A (some (.int r)) h n 0 0 H locs 0 0 4 ls []
    refine lv_iload_n S.1 S.2.1 dX2_words_4 rfl (lv_at hl 2 rfl) ?_
    refine lv_sipush (v := (600 : Int32)) S.1 S.2.1 dX2_words_5 (by decide) ?_
    refine lv_icmp_ge (tgt := 65) S.1 S.2.1 dX2_words_8 (by decide) (fun hc => ?_) (fun hc => ?_)
    · replace hv := (if_pos hc).symm.trans hv
      obtain ⟨_, hv, hk⟩ := zz_mapk hv hk
      replace hk := hR1 _ hk
      refine lv_iload_n S.1 S.2.1 dX2_words_65 rfl (lv_at hl 1 rfl) ?_
      refine lv_iconst (v := (-1 : Int32)) S.1 S.2.1 dX2_words_66 (by decide) ?_
      refine lv_ixor S.1 S.2.1 dX2_words_67 ?_
      replace hk := zz_fin hv hk
      obtain rfl := hR0 _ hk
      exact zz_iret S Z hret hlk dX2_words_68 (Nat.le_refl _) (Nat.le_refl _)
    · replace hv := (if_neg hc).symm.trans hv
      refine lv_aload_n S.1 S.2.1 dX2_words_11 rfl (lv_at hl 0 rfl) ?_
      refine lv_iload_n S.1 S.2.1 dX2_words_12 rfl (lv_at hl 1 rfl) ?_
      obtain ⟨v3, hq, hv⟩ := zz_bd hv
      refine zz_S [.ref (a0), .int (x2_1)] S K Z (c_X2_lettersEnd a0 x2_1 hq) ⟨rfl, rfl⟩ gm_X2_lettersEnd gs_X2_lettersEnd gl_X2_51 ⟨by decide, by decide⟩ rfl hl.1 rfl (Nat.le_of_ble_eq_true rfl) dX2_words_13 ⟨Nat.zero_le _, Nat.zero_le _⟩ (fun H locs Z => ?_)
      show W _ _ _ _ _ _ _ _ _ _ _ _ 0 0 _ (F0 m 16 ls [.int (v3)])
      refine lv_istore (lv' := [(4, .int (v3)), (0, .ref (a0)), (2, .int (x2_1)), (3, .int (x3_2))]) S.1 S.2.1 dX2_words_16 hl (by decide) rfl (fun ls hl => ?_)
      refine lv_iload S.1 S.2.1 dX2_words_18 (lv_at hl 0 rfl) ?_
      refine lv_if_lt (tgt := 35) S.1 S.2.1 dX2_words_20 (by decide) (fun hc => ?_) (fun hc => ?_)
      · replace hv := (if_pos hc).symm.trans hv
        obtain ⟨_, hv, hk⟩ := zz_mapk hv hk
        replace hk := hR1 _ hk
        refine lv_iload S.1 S.2.1 dX2_words_35 (lv_at hl 0 rfl) ?_
        replace hk := zz_fin hv hk
        obtain rfl := hR0 _ hk
        exact zz_iret S Z hret hlk dX2_words_37 (Nat.le_refl _) (Nat.le_refl _)
      · replace hv := (if_neg hc).symm.trans hv
        refine lv_aload_n S.1 S.2.1 dX2_words_23 rfl (lv_at hl 1 rfl) ?_
        refine lv_iload S.1 S.2.1 dX2_words_24 (lv_at hl 0 rfl) ?_
        obtain ⟨hci, hv⟩ := zz_isO_s hv
        obtain ⟨v4, hq, hv⟩ := zz_bd hv
        refine zz_V [.int (v3)] S K Z hci zc_0 rfl (c_X0_at a0 v3 hq) ⟨rfl, rfl⟩ gm_X0_at gmv_X0_at gl_X2_15 ⟨by decide, by decide⟩ rfl hl.1 rfl (Nat.le_of_ble_eq_true rfl) dX2_words_26 ⟨Nat.zero_le _, Nat.zero_le _⟩ (fun H locs Z => ?_)
        show W _ _ _ _ _ _ _ _ _ _ _ _ 0 0 _ (F0 m 29 ls [.int (v4)])
        obtain ⟨v5, hq, hv⟩ := zz_bd hv
        refine zz_S [.int (v4)] S K Z (c_X2_endsLine v4 hq) ⟨rfl, rfl⟩ gm_X2_endsLine gs_X2_endsLine gl_X2_54 ⟨by decide, by decide⟩ rfl hl.1 rfl (Nat.le_of_ble_eq_true rfl) dX2_words_29 ⟨Nat.zero_le _, Nat.zero_le _⟩ (fun H locs Z => ?_)
        show W _ _ _ _ _ _ _ _ _ _ _ _ 0 0 _ (F0 m 32 ls [.int (v5)])
        refine lv_if_eq (tgt := 38) S.1 S.2.1 dX2_words_32 (by decide) (fun hc => ?_) (fun hc => ?_)
        · replace hv := (if_pos hc).symm.trans hv
          refine lv_aload_n S.1 S.2.1 dX2_words_38 rfl (lv_at hl 1 rfl) ?_
          refine lv_iload S.1 S.2.1 dX2_words_39 (lv_at hl 0 rfl) ?_
          obtain ⟨hci, hv⟩ := zz_isO_s hv
          obtain ⟨v6, hq, hv⟩ := zz_bd hv
          refine zz_V [.int (v3)] S K Z hci zc_0 rfl (c_X0_at a0 v3 hq) ⟨rfl, rfl⟩ gm_X0_at gmv_X0_at gl_X2_15 ⟨by decide, by decide⟩ rfl hl.1 rfl (Nat.le_of_ble_eq_true rfl) dX2_words_41 ⟨Nat.zero_le _, Nat.zero_le _⟩ (fun H locs Z => ?_)
          show W _ _ _ _ _ _ _ _ _ _ _ _ 0 0 _ (F0 m 44 ls [.int (v6)])
          refine lv_bipush (v := (32 : Int32)) S.1 S.2.1 dX2_words_44 (by decide) ?_
          refine lv_icmp_eq (tgt := 54) S.1 S.2.1 dX2_words_46 (by decide) (fun hc => ?_) (fun hc => ?_)
          · replace hv := (if_pos hc).symm.trans hv
            refine lv_iload S.1 S.2.1 dX2_words_54 (lv_at hl 0 rfl) ?_
            refine lv_iconst (v := (1 : Int32)) S.1 S.2.1 dX2_words_56 (by decide) ?_
            refine lv_iadd S.1 S.2.1 dX2_words_57 ?_
            refine zz_lt hv (G := fun w => W _ _ _ _ _ _ _ _ _ _ _ _ _ _ _ (F0 _ _ _ (.int w :: _))) (fun v7 hv => ?_)
            refine lv_istore_n (lv' := [(2, .int (v7)), (4, .int (v3)), (0, .ref (a0)), (3, .int (x3_2))]) S.1 S.2.1 dX2_words_58 rfl hl (by decide) rfl (fun ls hl => ?_)
            refine lv_iinc (v := x3_2 + (1 : Int32)) (lv' := [(3, .int (x3_2 + (1 : Int32))), (2, .int (v7)), (4, .int (v3)), (0, .ref (a0))]) S.1 S.2.1 dX2_words_59 hl (k := 3) rfl rfl (by decide) rfl (fun ls hl => ?_)
            refine lv_goto (tgt := 4) S.1 S.2.1 dX2_words_62 (by decide) ?_
            replace hk := zz_fin hv hk
            exact hP1 _ hk H locs ls Z (lv_sub hl [3, 1, 0] rfl)
          · replace hv := (if_neg hc).symm.trans hv
            obtain ⟨_, hv, hk⟩ := zz_mapk hv hk
            replace hk := hR1 _ hk
            refine lv_iload S.1 S.2.1 dX2_words_49 (lv_at hl 0 rfl) ?_
            refine lv_iconst (v := (-1 : Int32)) S.1 S.2.1 dX2_words_51 (by decide) ?_
            refine lv_ixor S.1 S.2.1 dX2_words_52 ?_
            replace hk := zz_fin hv hk
            obtain rfl := hR0 _ hk
            exact zz_iret S Z hret hlk dX2_words_53 (Nat.le_refl _) (Nat.le_refl _)
        · replace hv := (if_neg hc).symm.trans hv
          obtain ⟨_, hv, hk⟩ := zz_mapk hv hk
          replace hk := hR1 _ hk
          refine lv_iload S.1 S.2.1 dX2_words_35 (lv_at hl 0 rfl) ?_
          replace hk := zz_fin hv hk
          obtain rfl := hR0 _ hk
          exact zz_iret S Z hret hlk dX2_words_37 (Nat.le_refl _) (Nat.le_refl _)
  have hv := hf
  unfold f_X2_words at hv
  clear hf
  obtain ⟨x, hxx⟩ : ∃ x, x = r := ⟨_, rfl⟩
  rw [← hxx] at hv hk
  have ⟨H, hH⟩ : ∃ H, H = s.heap := ⟨_, rfl⟩
  have ⟨locs, hlo⟩ : ∃ q : List Loc, q = [] := ⟨_, rfl⟩
  have Z : zz_B D dA A h n s.heap H locs := by rw [hH, hlo]; exact Z
  have key : zz_W p l e rm_X2_words s m args below meth c D dA A (some (.int r)) h n 0 0 H locs 0 0 0 ls [] := by
    clear hH hlo hxx
    refine lv_iload_n S.1 S.2.1 dX2_words_0 rfl (lv_at hl 1 rfl) ?_
    refine lv_istore_n (lv' := [(2, .int (a1)), (0, .ref (a0)), (1, .int (a1))]) S.1 S.2.1 dX2_words_1 rfl hl (by decide) rfl (fun ls hl => ?_)
    refine lv_iconst (v := (0 : Int32)) S.1 S.2.1 dX2_words_2 (by decide) ?_
    refine lv_istore_n (lv' := [(3, .int ((0 : Int32))), (2, .int (a1)), (0, .ref (a0)), (1, .int (a1))]) S.1 S.2.1 dX2_words_3 rfl hl (by decide) rfl (fun ls hl => ?_)
    exact L4  (a1, (0 : Int32)) _ hv hk H locs ls Z (lv_sub hl [2, 1, 0] rfl)
  rw [hH, hlo] at key
  exact key

noncomputable def f_X2_choice_J52 (h : ZH) (a0 : Nat) (a1 : Int32) (x2_4 : Int32) : Option (Int32) :=
  some (x2_4 ^^^ (-1 : Int32))
noncomputable def f_X2_choice_J37 (h : ZH) (a0 : Nat) (a1 : Int32) (x2_3 : Int32) : Option (Int32) :=
  if x2_3 = a1 then (f_X2_choice_J52 h a0 a1 x2_3) else (zz_isO h a0 0 <| (f_X0_at h a0 x2_3).bind fun v5 => if v5 = (93 : Int32) then (some (x2_3 + (1 : Int32))) else (f_X2_choice_J52 h a0 a1 x2_3))
noncomputable def f_X2_choice_L2 (h : ZH) (a0 : Nat) (a1 : Int32) (x2_1 : Int32)  : Option ((Int32) ⊕ (Int32)) :=
  (zg_I h a0 0 1).bind fun v2 => if v2 ≤ x2_1 then ((f_X2_choice_J37 h a0 a1 x2_1).map Sum.inr) else (zz_isO h a0 0 <| (f_X0_at h a0 x2_1).bind fun v6 => (f_X2_isSign h v6).bind fun v7 => if v7 = 0 then ((f_X2_choice_J37 h a0 a1 x2_1).map Sum.inr) else (zz_isO h a0 0 <| (f_X0_at h a0 x2_1).bind fun v8 => if v8 = (93 : Int32) then ((f_X2_choice_J37 h a0 a1 x2_1).map Sum.inr) else (some (.inl (x2_1 + (1 : Int32))))))
noncomputable def f_X2_choice (h : ZH) (a0 : Nat) (a1 : Int32) : Option (Int32) :=
  zz_loop (fun st : (Int32) => f_X2_choice_L2 h a0 a1 (st)) (a1)
abbrev rm_X2_choice : Room := { frames := 1, cells := 0, slots := 0, locals := 21 }
set_option maxRecDepth 100000 in
set_option maxHeartbeats 4000000 in
theorem c_X2_choice {l : Launch} {D : va_G} {dA : Nat → ClassId} {A : Nat → Prop} {h : ZH} {n : Nat} (a0 : Nat) (a1 : Int32) {r : Int32} (hf : f_X2_choice h a0 a1 = some r) : Met l yX2_choice (zz_ws yX2_choice cX2_choice 3 (some .int)) rm_X2_choice (zz_P D dA A h n [.ref (a0), .int (a1)]) (zz_Q D dA A (some (.int r)) h n) 0 0 A := by
  refine zz_met (by decide) (Nat.le_of_ble_eq_true rfl) ?_
  intro p e s m args below meth c ls S K hret hlk hnm hl Z
  replace hl : lv_has ls 3 [(0, .ref (a0)), (1, .int (a1))] := hl
  obtain ⟨K0, hR0, hk⟩ : ∃ K0 : (Int32) → Prop, (∀ x, K0 x → x = r) ∧ K0 r := ⟨fun x => x = r, fun _ h => h, rfl⟩
  have J52 : ∀ (x2_4 : Int32) (x : (Int32)), f_X2_choice_J52 h a0 a1 x2_4 = some x → K0 x → ∀ (H : Heap) (locs : List Loc) (ls : Array Slot), zz_B D dA A h n s.heap H locs → lv_has ls 3 [(2, .int (x2_4))] → zz_W p l e rm_X2_choice s m args below meth c D dA A (some (.int r)) h n 0 0 H locs 0 0 52 ls [] := by
    intro x2_4 x hv hk H locs ls Z hl
    unfold f_X2_choice_J52 at hv
    refine lv_iload_n S.1 S.2.1 dX2_choice_52 rfl (lv_at hl 0 rfl) ?_
    refine lv_iconst (v := (-1 : Int32)) S.1 S.2.1 dX2_choice_53 (by decide) ?_
    refine lv_ixor S.1 S.2.1 dX2_choice_54 ?_
    refine lv_goto (tgt := 61) S.1 S.2.1 dX2_choice_55 (by decide) ?_
    replace hk := zz_fin hv hk
    obtain rfl := hR0 _ hk
    exact zz_iret S Z hret hlk dX2_choice_61 (Nat.le_refl _) (Nat.le_refl _)
  have J37 : ∀ (x2_3 : Int32) (x : (Int32)), f_X2_choice_J37 h a0 a1 x2_3 = some x → K0 x → ∀ (H : Heap) (locs : List Loc) (ls : Array Slot), zz_B D dA A h n s.heap H locs → lv_has ls 3 [(0, .ref (a0)), (1, .int (a1)), (2, .int (x2_3))] → zz_W p l e rm_X2_choice s m args below meth c D dA A (some (.int r)) h n 0 0 H locs 0 0 37 ls [] := by
    intro x2_3 x hv hk H locs ls Z hl
    unfold f_X2_choice_J37 at hv
    refine lv_iload_n S.1 S.2.1 dX2_choice_37 rfl (lv_at hl 2 rfl) ?_
    refine lv_iload_n S.1 S.2.1 dX2_choice_38 rfl (lv_at hl 1 rfl) ?_
    refine lv_icmp_eq (tgt := 52) S.1 S.2.1 dX2_choice_39 (by decide) (fun hc => ?_) (fun hc => ?_)
    · replace hv := (if_pos hc).symm.trans hv
      exact J52 x2_3 _ hv hk H locs ls Z (lv_sub hl [2] rfl)
    · replace hv := (if_neg hc).symm.trans hv
      refine lv_aload_n S.1 S.2.1 dX2_choice_42 rfl (lv_at hl 0 rfl) ?_
      refine lv_iload_n S.1 S.2.1 dX2_choice_43 rfl (lv_at hl 2 rfl) ?_
      obtain ⟨hci, hv⟩ := zz_isO_s hv
      obtain ⟨v5, hq, hv⟩ := zz_bd hv
      refine zz_V [.int (x2_3)] S K Z hci zc_0 rfl (c_X0_at a0 x2_3 hq) ⟨rfl, rfl⟩ gm_X0_at gmv_X0_at gl_X2_15 ⟨by decide, by decide⟩ rfl hl.1 rfl (Nat.le_of_ble_eq_true rfl) dX2_choice_44 ⟨Nat.zero_le _, Nat.zero_le _⟩ (fun H locs Z => ?_)
      show W _ _ _ _ _ _ _ _ _ _ _ _ 0 0 _ (F0 m 47 ls [.int (v5)])
      refine lv_bipush (v := (93 : Int32)) S.1 S.2.1 dX2_choice_47 (by decide) ?_
      refine lv_icmp_eq (tgt := 58) S.1 S.2.1 dX2_choice_49 (by decide) (fun hc => ?_) (fun hc => ?_)
      · replace hv := (if_pos hc).symm.trans hv
        refine lv_iload_n S.1 S.2.1 dX2_choice_58 rfl (lv_at hl 2 rfl) ?_
        refine lv_iconst (v := (1 : Int32)) S.1 S.2.1 dX2_choice_59 (by decide) ?_
        refine lv_iadd S.1 S.2.1 dX2_choice_60 ?_
        replace hk := zz_fin hv hk
        obtain rfl := hR0 _ hk
        exact zz_iret S Z hret hlk dX2_choice_61 (Nat.le_refl _) (Nat.le_refl _)
      · replace hv := (if_neg hc).symm.trans hv
        exact J52 x2_3 _ hv hk H locs ls Z (lv_sub hl [2] rfl)
  have L2 : ∀ (st : (Int32)) (x : (Int32)), zz_loop (fun st : (Int32) => f_X2_choice_L2 h a0 a1 (st)) st = some x → K0 x → (fun st : (Int32) => ∀ (H : Heap) (locs : List Loc) (ls : Array Slot), zz_B D dA A h n s.heap H locs → lv_has ls 3 [(0, .ref (a0)), (1, .int (a1)), (2, .int ((st)))] → zz_W p l e rm_X2_choice s m args below meth c D dA A (some (.int r)) h n 0 0 H locs 0 0 2 ls []) st := by
    refine zz_loop_go (K := K0) ?_
    intro K1 hP1 hR1
    rintro x2_1 x hv hk H locs ls Z hl
    replace hv : f_X2_choice_L2 h a0 a1 x2_1 = some x := hv
    unfold f_X2_choice_L2 at hv
    replace hl : lv_has ls 3 [(0, .ref (a0)), (1, .int (a1)), (2, .int (x2_1))] := hl
    replace Z : zz_B D dA A h n s.heap H locs := Z
    show zz_W p l e rm_X2_choice s m args below meth c D dA A (some (.int r)) h n 0 0 H locs 0 0 2 ls []
    refine lv_iload_n S.1 S.2.1 dX2_choice_2 rfl (lv_at hl 2 rfl) ?_
    refine lv_aload_n S.1 S.2.1 dX2_choice_3 rfl (lv_at hl 0 rfl) ?_
    refine zz_gI S K Z hv zc_0 (by decide) gf_X2_9 dX2_choice_4 (fun v2 hv => ?_)
    refine lv_icmp_ge (tgt := 37) S.1 S.2.1 dX2_choice_7 (by decide) (fun hc => ?_) (fun hc => ?_)
    · replace hv := (if_pos hc).symm.trans hv
      obtain ⟨_, hv, hk⟩ := zz_mapk hv hk
      replace hk := hR1 _ hk
      exact J37 x2_1 _ hv hk H locs ls Z (lv_sub hl [0, 1, 2] rfl)
    · replace hv := (if_neg hc).symm.trans hv
      refine lv_aload_n S.1 S.2.1 dX2_choice_10 rfl (lv_at hl 0 rfl) ?_
      refine lv_iload_n S.1 S.2.1 dX2_choice_11 rfl (lv_at hl 2 rfl) ?_
      obtain ⟨hci, hv⟩ := zz_isO_s hv
      obtain ⟨v6, hq, hv⟩ := zz_bd hv
      refine zz_V [.int (x2_1)] S K Z hci zc_0 rfl (c_X0_at a0 x2_1 hq) ⟨rfl, rfl⟩ gm_X0_at gmv_X0_at gl_X2_15 ⟨by decide, by decide⟩ rfl hl.1 rfl (Nat.le_of_ble_eq_true rfl) dX2_choice_12 ⟨Nat.zero_le _, Nat.zero_le _⟩ (fun H locs Z => ?_)
      show W _ _ _ _ _ _ _ _ _ _ _ _ 0 0 _ (F0 m 15 ls [.int (v6)])
      obtain ⟨v7, hq, hv⟩ := zz_bd hv
      refine zz_S [.int (v6)] S K Z (c_X2_isSign v6 hq) ⟨rfl, rfl⟩ gm_X2_isSign gs_X2_isSign gl_X2_19 ⟨by decide, by decide⟩ rfl hl.1 rfl (Nat.le_of_ble_eq_true rfl) dX2_choice_15 ⟨Nat.zero_le _, Nat.zero_le _⟩ (fun H locs Z => ?_)
      show W _ _ _ _ _ _ _ _ _ _ _ _ 0 0 _ (F0 m 18 ls [.int (v7)])
      refine lv_if_eq (tgt := 37) S.1 S.2.1 dX2_choice_18 (by decide) (fun hc => ?_) (fun hc => ?_)
      · replace hv := (if_pos hc).symm.trans hv
        obtain ⟨_, hv, hk⟩ := zz_mapk hv hk
        replace hk := hR1 _ hk
        exact J37 x2_1 _ hv hk H locs ls Z (lv_sub hl [0, 1, 2] rfl)
      · replace hv := (if_neg hc).symm.trans hv
        refine lv_aload_n S.1 S.2.1 dX2_choice_21 rfl (lv_at hl 0 rfl) ?_
        refine lv_iload_n S.1 S.2.1 dX2_choice_22 rfl (lv_at hl 2 rfl) ?_
        obtain ⟨hci, hv⟩ := zz_isO_s hv
        obtain ⟨v8, hq, hv⟩ := zz_bd hv
        refine zz_V [.int (x2_1)] S K Z hci zc_0 rfl (c_X0_at a0 x2_1 hq) ⟨rfl, rfl⟩ gm_X0_at gmv_X0_at gl_X2_15 ⟨by decide, by decide⟩ rfl hl.1 rfl (Nat.le_of_ble_eq_true rfl) dX2_choice_23 ⟨Nat.zero_le _, Nat.zero_le _⟩ (fun H locs Z => ?_)
        show W _ _ _ _ _ _ _ _ _ _ _ _ 0 0 _ (F0 m 26 ls [.int (v8)])
        refine lv_bipush (v := (93 : Int32)) S.1 S.2.1 dX2_choice_26 (by decide) ?_
        refine lv_icmp_eq (tgt := 37) S.1 S.2.1 dX2_choice_28 (by decide) (fun hc => ?_) (fun hc => ?_)
        · replace hv := (if_pos hc).symm.trans hv
          obtain ⟨_, hv, hk⟩ := zz_mapk hv hk
          replace hk := hR1 _ hk
          exact J37 x2_1 _ hv hk H locs ls Z (lv_sub hl [0, 1, 2] rfl)
        · replace hv := (if_neg hc).symm.trans hv
          refine lv_iinc (v := x2_1 + (1 : Int32)) (lv' := [(2, .int (x2_1 + (1 : Int32))), (0, .ref (a0)), (1, .int (a1))]) S.1 S.2.1 dX2_choice_31 hl (k := 2) rfl rfl (by decide) rfl (fun ls hl => ?_)
          refine lv_goto (tgt := 2) S.1 S.2.1 dX2_choice_34 (by decide) ?_
          replace hk := zz_fin hv hk
          exact hP1 _ hk H locs ls Z (lv_sub hl [1, 2, 0] rfl)
  have hv := hf
  unfold f_X2_choice at hv
  clear hf
  obtain ⟨x, hxx⟩ : ∃ x, x = r := ⟨_, rfl⟩
  rw [← hxx] at hv hk
  have ⟨H, hH⟩ : ∃ H, H = s.heap := ⟨_, rfl⟩
  have ⟨locs, hlo⟩ : ∃ q : List Loc, q = [] := ⟨_, rfl⟩
  have Z : zz_B D dA A h n s.heap H locs := by rw [hH, hlo]; exact Z
  have key : zz_W p l e rm_X2_choice s m args below meth c D dA A (some (.int r)) h n 0 0 H locs 0 0 0 ls [] := by
    clear hH hlo hxx
    refine lv_iload_n S.1 S.2.1 dX2_choice_0 rfl (lv_at hl 1 rfl) ?_
    refine lv_istore_n (lv' := [(2, .int (a1)), (0, .ref (a0)), (1, .int (a1))]) S.1 S.2.1 dX2_choice_1 rfl hl (by decide) rfl (fun ls hl => ?_)
    exact L2  (a1) _ hv hk H locs ls Z (lv_sub hl [1, 2, 0] rfl)
  rw [hH, hlo] at key
  exact key

noncomputable def f_X2_patternPart (h : ZH) (a0 : Nat) (a1 : Int32) (a2 : Int32) : Option (Int32) :=
  (f_X2_isSign h a2).bind fun v1 => if v1 = 0 then (some (a1 ^^^ (-1 : Int32))) else (if a2 = (92 : Int32) then (zz_isO h a0 0 <| (f_X0_at h a0 (a1 + (1 : Int32))).bind fun v3 => (f_X2_isSign h v3).bind fun v4 => if v4 = 0 then (some ((a1 + (1 : Int32)) ^^^ (-1 : Int32))) else (some (a1 + (2 : Int32)))) else (if a2 = (91 : Int32) then ((f_X2_choice h a0 (a1 + (1 : Int32))).bind fun v2 => some (v2)) else (some (a1 + (1 : Int32)))))
abbrev rm_X2_patternPart : Room := { frames := 2, cells := 0, slots := 0, locals := 43 }
set_option maxRecDepth 100000 in
set_option maxHeartbeats 4000000 in
theorem c_X2_patternPart {l : Launch} {D : va_G} {dA : Nat → ClassId} {A : Nat → Prop} {h : ZH} {n : Nat} (a0 : Nat) (a1 : Int32) (a2 : Int32) {r : Int32} (hf : f_X2_patternPart h a0 a1 a2 = some r) : Met l yX2_patternPart (zz_ws yX2_patternPart cX2_patternPart 3 (some .int)) rm_X2_patternPart (zz_P D dA A h n [.ref (a0), .int (a1), .int (a2)]) (zz_Q D dA A (some (.int r)) h n) 0 0 A := by
  refine zz_met (by decide) (Nat.le_of_ble_eq_true rfl) ?_
  intro p e s m args below meth c ls S K hret hlk hnm hl Z
  replace hl : lv_has ls 3 [(0, .ref (a0)), (1, .int (a1)), (2, .int (a2))] := hl
  obtain ⟨K0, hR0, hk⟩ : ∃ K0 : (Int32) → Prop, (∀ x, K0 x → x = r) ∧ K0 r := ⟨fun x => x = r, fun _ h => h, rfl⟩
  have hv := hf
  unfold f_X2_patternPart at hv
  clear hf
  obtain ⟨x, hxx⟩ : ∃ x, x = r := ⟨_, rfl⟩
  rw [← hxx] at hv hk
  have ⟨H, hH⟩ : ∃ H, H = s.heap := ⟨_, rfl⟩
  have ⟨locs, hlo⟩ : ∃ q : List Loc, q = [] := ⟨_, rfl⟩
  have Z : zz_B D dA A h n s.heap H locs := by rw [hH, hlo]; exact Z
  have key : zz_W p l e rm_X2_patternPart s m args below meth c D dA A (some (.int r)) h n 0 0 H locs 0 0 0 ls [] := by
    clear hH hlo hxx
    refine lv_iload_n S.1 S.2.1 dX2_patternPart_0 rfl (lv_at hl 2 rfl) ?_
    obtain ⟨v1, hq, hv⟩ := zz_bd hv
    refine zz_S [.int (a2)] S K Z (c_X2_isSign a2 hq) ⟨rfl, rfl⟩ gm_X2_isSign gs_X2_isSign gl_X2_19 ⟨by decide, by decide⟩ rfl hl.1 rfl (Nat.le_of_ble_eq_true rfl) dX2_patternPart_1 ⟨Nat.zero_le _, Nat.zero_le _⟩ (fun H locs Z => ?_)
    show W _ _ _ _ _ _ _ _ _ _ _ _ 0 0 _ (F0 m 4 ls [.int (v1)])
    refine lv_if_ne (tgt := 11) S.1 S.2.1 dX2_patternPart_4 (by decide) (fun hc => ?_) (fun hc => ?_)
    · replace hv := (if_neg hc).symm.trans hv
      refine lv_iload_n S.1 S.2.1 dX2_patternPart_11 rfl (lv_at hl 2 rfl) ?_
      refine lv_bipush (v := (92 : Int32)) S.1 S.2.1 dX2_patternPart_12 (by decide) ?_
      refine lv_icmp_ne (tgt := 42) S.1 S.2.1 dX2_patternPart_14 (by decide) (fun hc => ?_) (fun hc => ?_)
      · replace hv := (if_neg hc).symm.trans hv
        refine lv_iload_n S.1 S.2.1 dX2_patternPart_42 rfl (lv_at hl 2 rfl) ?_
        refine lv_bipush (v := (91 : Int32)) S.1 S.2.1 dX2_patternPart_43 (by decide) ?_
        refine lv_icmp_ne (tgt := 58) S.1 S.2.1 dX2_patternPart_45 (by decide) (fun hc => ?_) (fun hc => ?_)
        · replace hv := (if_neg hc).symm.trans hv
          refine lv_iload_n S.1 S.2.1 dX2_patternPart_58 rfl (lv_at hl 1 rfl) ?_
          refine lv_iconst (v := (1 : Int32)) S.1 S.2.1 dX2_patternPart_59 (by decide) ?_
          refine lv_iadd S.1 S.2.1 dX2_patternPart_60 ?_
          replace hk := zz_fin hv hk
          obtain rfl := hR0 _ hk
          exact zz_iret S Z hret hlk dX2_patternPart_61 (Nat.le_refl _) (Nat.le_refl _)
        · replace hv := (if_pos hc).symm.trans hv
          refine lv_aload_n S.1 S.2.1 dX2_patternPart_48 rfl (lv_at hl 0 rfl) ?_
          refine lv_iload_n S.1 S.2.1 dX2_patternPart_49 rfl (lv_at hl 1 rfl) ?_
          refine lv_iconst (v := (1 : Int32)) S.1 S.2.1 dX2_patternPart_50 (by decide) ?_
          refine lv_iadd S.1 S.2.1 dX2_patternPart_51 ?_
          obtain ⟨v2, hq, hv⟩ := zz_bd hv
          refine zz_S [.ref (a0), .int (a1 + (1 : Int32))] S K Z (c_X2_choice a0 (a1 + (1 : Int32)) hq) ⟨rfl, rfl⟩ gm_X2_choice gs_X2_choice gl_X2_61 ⟨by decide, by decide⟩ rfl hl.1 rfl (Nat.le_of_ble_eq_true rfl) dX2_patternPart_52 ⟨Nat.zero_le _, Nat.zero_le _⟩ (fun H locs Z => ?_)
          show W _ _ _ _ _ _ _ _ _ _ _ _ 0 0 _ (F0 m 55 ls [.int (v2)])
          refine lv_goto (tgt := 61) S.1 S.2.1 dX2_patternPart_55 (by decide) ?_
          replace hk := zz_fin hv hk
          obtain rfl := hR0 _ hk
          exact zz_iret S Z hret hlk dX2_patternPart_61 (Nat.le_refl _) (Nat.le_refl _)
      · replace hv := (if_pos hc).symm.trans hv
        refine lv_aload_n S.1 S.2.1 dX2_patternPart_17 rfl (lv_at hl 0 rfl) ?_
        refine lv_iload_n S.1 S.2.1 dX2_patternPart_18 rfl (lv_at hl 1 rfl) ?_
        refine lv_iconst (v := (1 : Int32)) S.1 S.2.1 dX2_patternPart_19 (by decide) ?_
        refine lv_iadd S.1 S.2.1 dX2_patternPart_20 ?_
        obtain ⟨hci, hv⟩ := zz_isO_s hv
        obtain ⟨v3, hq, hv⟩ := zz_bd hv
        refine zz_V [.int (a1 + (1 : Int32))] S K Z hci zc_0 rfl (c_X0_at a0 (a1 + (1 : Int32)) hq) ⟨rfl, rfl⟩ gm_X0_at gmv_X0_at gl_X2_15 ⟨by decide, by decide⟩ rfl hl.1 rfl (Nat.le_of_ble_eq_true rfl) dX2_patternPart_21 ⟨Nat.zero_le _, Nat.zero_le _⟩ (fun H locs Z => ?_)
        show W _ _ _ _ _ _ _ _ _ _ _ _ 0 0 _ (F0 m 24 ls [.int (v3)])
        obtain ⟨v4, hq, hv⟩ := zz_bd hv
        refine zz_S [.int (v3)] S K Z (c_X2_isSign v3 hq) ⟨rfl, rfl⟩ gm_X2_isSign gs_X2_isSign gl_X2_19 ⟨by decide, by decide⟩ rfl hl.1 rfl (Nat.le_of_ble_eq_true rfl) dX2_patternPart_24 ⟨Nat.zero_le _, Nat.zero_le _⟩ (fun H locs Z => ?_)
        show W _ _ _ _ _ _ _ _ _ _ _ _ 0 0 _ (F0 m 27 ls [.int (v4)])
        refine lv_if_eq (tgt := 36) S.1 S.2.1 dX2_patternPart_27 (by decide) (fun hc => ?_) (fun hc => ?_)
        · replace hv := (if_pos hc).symm.trans hv
          refine lv_iload_n S.1 S.2.1 dX2_patternPart_36 rfl (lv_at hl 1 rfl) ?_
          refine lv_iconst (v := (1 : Int32)) S.1 S.2.1 dX2_patternPart_37 (by decide) ?_
          refine lv_iadd S.1 S.2.1 dX2_patternPart_38 ?_
          refine lv_iconst (v := (-1 : Int32)) S.1 S.2.1 dX2_patternPart_39 (by decide) ?_
          refine lv_ixor S.1 S.2.1 dX2_patternPart_40 ?_
          replace hk := zz_fin hv hk
          obtain rfl := hR0 _ hk
          exact zz_iret S Z hret hlk dX2_patternPart_41 (Nat.le_refl _) (Nat.le_refl _)
        · replace hv := (if_neg hc).symm.trans hv
          refine lv_iload_n S.1 S.2.1 dX2_patternPart_30 rfl (lv_at hl 1 rfl) ?_
          refine lv_iconst (v := (2 : Int32)) S.1 S.2.1 dX2_patternPart_31 (by decide) ?_
          refine lv_iadd S.1 S.2.1 dX2_patternPart_32 ?_
          refine lv_goto (tgt := 41) S.1 S.2.1 dX2_patternPart_33 (by decide) ?_
          replace hk := zz_fin hv hk
          obtain rfl := hR0 _ hk
          exact zz_iret S Z hret hlk dX2_patternPart_41 (Nat.le_refl _) (Nat.le_refl _)
    · replace hv := (if_pos hc).symm.trans hv
      refine lv_iload_n S.1 S.2.1 dX2_patternPart_7 rfl (lv_at hl 1 rfl) ?_
      refine lv_iconst (v := (-1 : Int32)) S.1 S.2.1 dX2_patternPart_8 (by decide) ?_
      refine lv_ixor S.1 S.2.1 dX2_patternPart_9 ?_
      replace hk := zz_fin hv hk
      obtain rfl := hR0 _ hk
      exact zz_iret S Z hret hlk dX2_patternPart_10 (Nat.le_refl _) (Nat.le_refl _)
  rw [hH, hlo] at key
  exact key

noncomputable def f_X2_pattern_J55 (h : ZH) (a0 : Nat) (a1 : Int32) (s6 : Int32) : Option ((Int32) ⊕ (Int32)) :=
  some (.inl (s6))
noncomputable def f_X2_pattern_L2 (h : ZH) (a0 : Nat) (a1 : Int32) (x2_1 : Int32)  : Option ((Int32) ⊕ (Int32)) :=
  (zg_I h a0 0 1).bind fun v2 => if v2 < x2_1 then ((some (x2_1 ^^^ (-1 : Int32))).map Sum.inr) else (zz_isO h a0 0 <| (f_X0_at h a0 x2_1).bind fun v3 => (f_X2_endsLine h v3).bind fun v4 => if v4 = 0 then ((f_X2_patternPart h a0 x2_1 v3).bind fun v5 => if 0 ≤ v5 then (if v5 ≤ x2_1 then (f_X2_pattern_J55 h a0 a1 (x2_1 + (1 : Int32))) else (f_X2_pattern_J55 h a0 a1 v5)) else ((some (v5)).map Sum.inr)) else ((some (x2_1)).map Sum.inr))
noncomputable def f_X2_pattern (h : ZH) (a0 : Nat) (a1 : Int32) : Option (Int32) :=
  zz_loop (fun st : (Int32) => f_X2_pattern_L2 h a0 a1 (st)) (a1)
abbrev rm_X2_pattern : Room := { frames := 3, cells := 0, slots := 0, locals := 65 }
set_option maxRecDepth 100000 in
set_option maxHeartbeats 4000000 in
theorem c_X2_pattern {l : Launch} {D : va_G} {dA : Nat → ClassId} {A : Nat → Prop} {h : ZH} {n : Nat} (a0 : Nat) (a1 : Int32) {r : Int32} (hf : f_X2_pattern h a0 a1 = some r) : Met l yX2_pattern (zz_ws yX2_pattern cX2_pattern 5 (some .int)) rm_X2_pattern (zz_P D dA A h n [.ref (a0), .int (a1)]) (zz_Q D dA A (some (.int r)) h n) 0 0 A := by
  refine zz_met (by decide) (Nat.le_of_ble_eq_true rfl) ?_
  intro p e s m args below meth c ls S K hret hlk hnm hl Z
  replace hl : lv_has ls 5 [(0, .ref (a0)), (1, .int (a1))] := hl
  obtain ⟨K0, hR0, hk⟩ : ∃ K0 : (Int32) → Prop, (∀ x, K0 x → x = r) ∧ K0 r := ⟨fun x => x = r, fun _ h => h, rfl⟩
  have L2 : ∀ (st : (Int32)) (x : (Int32)), zz_loop (fun st : (Int32) => f_X2_pattern_L2 h a0 a1 (st)) st = some x → K0 x → (fun st : (Int32) => ∀ (H : Heap) (locs : List Loc) (ls : Array Slot), zz_B D dA A h n s.heap H locs → lv_has ls 5 [(0, .ref (a0)), (2, .int ((st)))] → zz_W p l e rm_X2_pattern s m args below meth c D dA A (some (.int r)) h n 0 0 H locs 0 0 2 ls []) st := by
    refine zz_loop_go (K := K0) ?_
    intro K1 hP1 hR1
    have J55 : ∀ (s6 : Int32) (x : ((Int32) ⊕ (Int32))), f_X2_pattern_J55 h a0 a1 s6 = some x → K1 x → ∀ (H : Heap) (locs : List Loc) (ls : Array Slot), zz_B D dA A h n s.heap H locs → lv_has ls 5 [(0, .ref (a0))] → zz_W p l e rm_X2_pattern s m args below meth c D dA A (some (.int r)) h n 0 0 H locs 0 0 55 ls [.int (s6)] := by
      intro s6 x hv hk H locs ls Z hl
      unfold f_X2_pattern_J55 at hv
      refine lv_istore_n (lv' := [(2, .int (s6)), (0, .ref (a0))]) S.1 S.2.1 dX2_pattern_55 rfl hl (by decide) rfl (fun ls hl => ?_)
      refine lv_goto (tgt := 2) S.1 S.2.1 dX2_pattern_56 (by decide) ?_
      replace hk := zz_fin hv hk
      exact hP1 _ hk H locs ls Z (lv_sub hl [1, 0] rfl)
    rintro x2_1 x hv hk H locs ls Z hl
    replace hv : f_X2_pattern_L2 h a0 a1 x2_1 = some x := hv
    unfold f_X2_pattern_L2 at hv
    replace hl : lv_has ls 5 [(0, .ref (a0)), (2, .int (x2_1))] := hl
    replace Z : zz_B D dA A h n s.heap H locs := Z
    show zz_W p l e rm_X2_pattern s m args below meth c D dA A (some (.int r)) h n 0 0 H locs 0 0 2 ls []
    refine lv_iload_n S.1 S.2.1 dX2_pattern_2 rfl (lv_at hl 1 rfl) ?_
    refine lv_aload_n S.1 S.2.1 dX2_pattern_3 rfl (lv_at hl 0 rfl) ?_
    refine zz_gI S K Z hv zc_0 (by decide) gf_X2_9 dX2_pattern_4 (fun v2 hv => ?_)
    refine lv_icmp_gt (tgt := 59) S.1 S.2.1 dX2_pattern_7 (by decide) (fun hc => ?_) (fun hc => ?_)
    · replace hv := (if_pos hc).symm.trans hv
      obtain ⟨_, hv, hk⟩ := zz_mapk hv hk
      replace hk := hR1 _ hk
      refine lv_iload_n S.1 S.2.1 dX2_pattern_59 rfl (lv_at hl 1 rfl) ?_
      refine lv_iconst (v := (-1 : Int32)) S.1 S.2.1 dX2_pattern_60 (by decide) ?_
      refine lv_ixor S.1 S.2.1 dX2_pattern_61 ?_
      replace hk := zz_fin hv hk
      obtain rfl := hR0 _ hk
      exact zz_iret S Z hret hlk dX2_pattern_62 (Nat.le_refl _) (Nat.le_refl _)
    · replace hv := (if_neg hc).symm.trans hv
      refine lv_aload_n S.1 S.2.1 dX2_pattern_10 rfl (lv_at hl 0 rfl) ?_
      refine lv_iload_n S.1 S.2.1 dX2_pattern_11 rfl (lv_at hl 1 rfl) ?_
      obtain ⟨hci, hv⟩ := zz_isO_s hv
      obtain ⟨v3, hq, hv⟩ := zz_bd hv
      refine zz_V [.int (x2_1)] S K Z hci zc_0 rfl (c_X0_at a0 x2_1 hq) ⟨rfl, rfl⟩ gm_X0_at gmv_X0_at gl_X2_15 ⟨by decide, by decide⟩ rfl hl.1 rfl (Nat.le_of_ble_eq_true rfl) dX2_pattern_12 ⟨Nat.zero_le _, Nat.zero_le _⟩ (fun H locs Z => ?_)
      show W _ _ _ _ _ _ _ _ _ _ _ _ 0 0 _ (F0 m 15 ls [.int (v3)])
      refine lv_istore_n (lv' := [(3, .int (v3)), (0, .ref (a0)), (2, .int (x2_1))]) S.1 S.2.1 dX2_pattern_15 rfl hl (by decide) rfl (fun ls hl => ?_)
      refine lv_iload_n S.1 S.2.1 dX2_pattern_16 rfl (lv_at hl 0 rfl) ?_
      obtain ⟨v4, hq, hv⟩ := zz_bd hv
      refine zz_S [.int (v3)] S K Z (c_X2_endsLine v3 hq) ⟨rfl, rfl⟩ gm_X2_endsLine gs_X2_endsLine gl_X2_54 ⟨by decide, by decide⟩ rfl hl.1 rfl (Nat.le_of_ble_eq_true rfl) dX2_pattern_17 ⟨Nat.zero_le _, Nat.zero_le _⟩ (fun H locs Z => ?_)
      show W _ _ _ _ _ _ _ _ _ _ _ _ 0 0 _ (F0 m 20 ls [.int (v4)])
      refine lv_if_eq (tgt := 25) S.1 S.2.1 dX2_pattern_20 (by decide) (fun hc => ?_) (fun hc => ?_)
      · replace hv := (if_pos hc).symm.trans hv
        refine lv_aload_n S.1 S.2.1 dX2_pattern_25 rfl (lv_at hl 1 rfl) ?_
        refine lv_iload_n S.1 S.2.1 dX2_pattern_26 rfl (lv_at hl 2 rfl) ?_
        refine lv_iload_n S.1 S.2.1 dX2_pattern_27 rfl (lv_at hl 0 rfl) ?_
        obtain ⟨v5, hq, hv⟩ := zz_bd hv
        refine zz_S [.ref (a0), .int (x2_1), .int (v3)] S K Z (c_X2_patternPart a0 x2_1 v3 hq) ⟨rfl, rfl⟩ gm_X2_patternPart gs_X2_patternPart gl_X2_57 ⟨by decide, by decide⟩ rfl hl.1 rfl (Nat.le_of_ble_eq_true rfl) dX2_pattern_28 ⟨Nat.zero_le _, Nat.zero_le _⟩ (fun H locs Z => ?_)
        show W _ _ _ _ _ _ _ _ _ _ _ _ 0 0 _ (F0 m 31 ls [.int (v5)])
        refine lv_istore (lv' := [(4, .int (v5)), (3, .int (v3)), (0, .ref (a0)), (2, .int (x2_1))]) S.1 S.2.1 dX2_pattern_31 hl (by decide) rfl (fun ls hl => ?_)
        refine lv_iload S.1 S.2.1 dX2_pattern_33 (lv_at hl 0 rfl) ?_
        refine lv_if_ge (tgt := 41) S.1 S.2.1 dX2_pattern_35 (by decide) (fun hc => ?_) (fun hc => ?_)
        · replace hv := (if_pos hc).symm.trans hv
          refine lv_iload S.1 S.2.1 dX2_pattern_41 (lv_at hl 0 rfl) ?_
          refine lv_iload_n S.1 S.2.1 dX2_pattern_43 rfl (lv_at hl 3 rfl) ?_
          refine lv_icmp_le (tgt := 52) S.1 S.2.1 dX2_pattern_44 (by decide) (fun hc => ?_) (fun hc => ?_)
          · replace hv := (if_pos hc).symm.trans hv
            refine lv_iload_n S.1 S.2.1 dX2_pattern_52 rfl (lv_at hl 3 rfl) ?_
            refine lv_iconst (v := (1 : Int32)) S.1 S.2.1 dX2_pattern_53 (by decide) ?_
            refine lv_iadd S.1 S.2.1 dX2_pattern_54 ?_
            exact J55 (x2_1 + (1 : Int32)) _ hv hk H locs ls Z (lv_sub hl [2] rfl)
          · replace hv := (if_neg hc).symm.trans hv
            refine lv_iload S.1 S.2.1 dX2_pattern_47 (lv_at hl 0 rfl) ?_
            refine lv_goto (tgt := 55) S.1 S.2.1 dX2_pattern_49 (by decide) ?_
            exact J55 v5 _ hv hk H locs ls Z (lv_sub hl [2] rfl)
        · replace hv := (if_neg hc).symm.trans hv
          obtain ⟨_, hv, hk⟩ := zz_mapk hv hk
          replace hk := hR1 _ hk
          refine lv_iload S.1 S.2.1 dX2_pattern_38 (lv_at hl 0 rfl) ?_
          replace hk := zz_fin hv hk
          obtain rfl := hR0 _ hk
          exact zz_iret S Z hret hlk dX2_pattern_40 (Nat.le_refl _) (Nat.le_refl _)
      · replace hv := (if_neg hc).symm.trans hv
        obtain ⟨_, hv, hk⟩ := zz_mapk hv hk
        replace hk := hR1 _ hk
        refine lv_iload_n S.1 S.2.1 dX2_pattern_23 rfl (lv_at hl 2 rfl) ?_
        replace hk := zz_fin hv hk
        obtain rfl := hR0 _ hk
        exact zz_iret S Z hret hlk dX2_pattern_24 (Nat.le_refl _) (Nat.le_refl _)
  have hv := hf
  unfold f_X2_pattern at hv
  clear hf
  obtain ⟨x, hxx⟩ : ∃ x, x = r := ⟨_, rfl⟩
  rw [← hxx] at hv hk
  have ⟨H, hH⟩ : ∃ H, H = s.heap := ⟨_, rfl⟩
  have ⟨locs, hlo⟩ : ∃ q : List Loc, q = [] := ⟨_, rfl⟩
  have Z : zz_B D dA A h n s.heap H locs := by rw [hH, hlo]; exact Z
  have key : zz_W p l e rm_X2_pattern s m args below meth c D dA A (some (.int r)) h n 0 0 H locs 0 0 0 ls [] := by
    clear hH hlo hxx
    refine lv_iload_n S.1 S.2.1 dX2_pattern_0 rfl (lv_at hl 1 rfl) ?_
    refine lv_istore_n (lv' := [(2, .int (a1)), (0, .ref (a0)), (1, .int (a1))]) S.1 S.2.1 dX2_pattern_1 rfl hl (by decide) rfl (fun ls hl => ?_)
    exact L2  (a1) _ hv hk H locs ls Z (lv_sub hl [1, 0] rfl)
  rw [hH, hlo] at key
  exact key

noncomputable def f_X2_isDigit (h : ZH) (a0 : Int32) (a1 : Int32) (a2 : Int32) : Option (Int32) :=
  if a0 < a1 then (some ((0 : Int32))) else (if a2 < a0 then (some ((0 : Int32))) else (some ((1 : Int32))))
abbrev rm_X2_isDigit : Room := { frames := 0, cells := 0, slots := 0, locals := 0 }
set_option maxRecDepth 100000 in
set_option maxHeartbeats 4000000 in
theorem c_X2_isDigit {l : Launch} {D : va_G} {dA : Nat → ClassId} {A : Nat → Prop} {h : ZH} {n : Nat} (a0 : Int32) (a1 : Int32) (a2 : Int32) {r : Int32} (hf : f_X2_isDigit h a0 a1 a2 = some r) : Met l yX2_isDigit (zz_ws yX2_isDigit cX2_isDigit 3 (some .boolean)) rm_X2_isDigit (zz_P D dA A h n [.int (a0), .int (a1), .int (a2)]) (zz_Q D dA A (some (.int r)) h n) 0 0 A := by
  refine zz_met (by decide) (Nat.le_of_ble_eq_true rfl) ?_
  intro p e s m args below meth c ls S K hret hlk hnm hl Z
  replace hl : lv_has ls 3 [(0, .int (a0)), (1, .int (a1)), (2, .int (a2))] := hl
  obtain ⟨K0, hR0, hk⟩ : ∃ K0 : (Int32) → Prop, (∀ x, K0 x → x = r) ∧ K0 r := ⟨fun x => x = r, fun _ h => h, rfl⟩
  have hv := hf
  unfold f_X2_isDigit at hv
  clear hf
  obtain ⟨x, hxx⟩ : ∃ x, x = r := ⟨_, rfl⟩
  rw [← hxx] at hv hk
  have ⟨H, hH⟩ : ∃ H, H = s.heap := ⟨_, rfl⟩
  have ⟨locs, hlo⟩ : ∃ q : List Loc, q = [] := ⟨_, rfl⟩
  have Z : zz_B D dA A h n s.heap H locs := by rw [hH, hlo]; exact Z
  have key : zz_W p l e rm_X2_isDigit s m args below meth c D dA A (some (.int r)) h n 0 0 H locs 0 0 0 ls [] := by
    clear hH hlo hxx
    refine lv_iload_n S.1 S.2.1 dX2_isDigit_0 rfl (lv_at hl 0 rfl) ?_
    refine lv_iload_n S.1 S.2.1 dX2_isDigit_1 rfl (lv_at hl 1 rfl) ?_
    refine lv_icmp_lt (tgt := 14) S.1 S.2.1 dX2_isDigit_2 (by decide) (fun hc => ?_) (fun hc => ?_)
    · replace hv := (if_pos hc).symm.trans hv
      refine lv_iconst (v := (0 : Int32)) S.1 S.2.1 dX2_isDigit_14 (by decide) ?_
      replace hk := zz_fin hv hk
      obtain rfl := hR0 _ hk
      exact zz_zret S Z hret (by decide) hlk dX2_isDigit_15 (Nat.le_refl _) (Nat.le_refl _)
    · replace hv := (if_neg hc).symm.trans hv
      refine lv_iload_n S.1 S.2.1 dX2_isDigit_5 rfl (lv_at hl 0 rfl) ?_
      refine lv_iload_n S.1 S.2.1 dX2_isDigit_6 rfl (lv_at hl 2 rfl) ?_
      refine lv_icmp_gt (tgt := 14) S.1 S.2.1 dX2_isDigit_7 (by decide) (fun hc => ?_) (fun hc => ?_)
      · replace hv := (if_pos hc).symm.trans hv
        refine lv_iconst (v := (0 : Int32)) S.1 S.2.1 dX2_isDigit_14 (by decide) ?_
        replace hk := zz_fin hv hk
        obtain rfl := hR0 _ hk
        exact zz_zret S Z hret (by decide) hlk dX2_isDigit_15 (Nat.le_refl _) (Nat.le_refl _)
      · replace hv := (if_neg hc).symm.trans hv
        refine lv_iconst (v := (1 : Int32)) S.1 S.2.1 dX2_isDigit_10 (by decide) ?_
        refine lv_goto (tgt := 15) S.1 S.2.1 dX2_isDigit_11 (by decide) ?_
        replace hk := zz_fin hv hk
        obtain rfl := hR0 _ hk
        exact zz_zret S Z hret (by decide) hlk dX2_isDigit_15 (Nat.le_refl _) (Nat.le_refl _)
  rw [hH, hlo] at key
  exact key

noncomputable def f_X2_flagAndNumber_J116 (h : ZH) (a0 : Nat) (a1 : Int32) (x4_11 : Int32) : Option (Int32) :=
  some (x4_11 ^^^ (-1 : Int32))
noncomputable def f_X2_flagAndNumber_J90 (h : ZH) (a0 : Nat) (a1 : Int32) (x2_8 : Int32) (x3_9 : Int32) : Option (Int32) :=
  zz_let (x2_8 + x3_9) fun v10 => if x3_9 ≤ 0 then (f_X2_flagAndNumber_J116 h a0 a1 v10) else (zz_isO h a0 0 <| (f_X0_at h a0 v10).bind fun v12 => (f_X2_endsLine h v12).bind fun v13 => if v13 = 0 then (f_X2_flagAndNumber_J116 h a0 a1 v10) else (some (v10)))
noncomputable def f_X2_flagAndNumber_L61 (h : ZH) (a0 : Nat) (a1 : Int32) (y2_7 : Int32) (x3_6 : Int32)  : Option ((Int32) ⊕ (Int32)) :=
  if (6 : Int32) ≤ x3_6 then ((f_X2_flagAndNumber_J90 h a0 a1 y2_7 x3_6).map Sum.inr) else (zz_isO h a0 0 <| (f_X0_at h a0 (y2_7 + x3_6)).bind fun v14 => (f_X2_isDigit h v14 (48 : Int32) (57 : Int32)).bind fun v15 => if v15 = 0 then ((f_X2_flagAndNumber_J90 h a0 a1 y2_7 x3_6).map Sum.inr) else (some (.inl (x3_6 + (1 : Int32)))))
noncomputable def f_X2_flagAndNumber_J58 (h : ZH) (a0 : Nat) (a1 : Int32) (s5 : Int32) : Option (Int32) :=
  zz_loop (fun st : (Int32) => f_X2_flagAndNumber_L61 h a0 a1 s5 (st)) ((0 : Int32))
noncomputable def f_X2_flagAndNumber (h : ZH) (a0 : Nat) (a1 : Int32) : Option (Int32) :=
  zz_isO h a0 0 <| (f_X0_at h a0 a1).bind fun v1 => (f_X2_isDigit h v1 (48 : Int32) (55 : Int32)).bind fun v2 => if v2 = 0 then (some (a1 ^^^ (-1 : Int32))) else (zz_isO h a0 0 <| (f_X0_at h a0 (a1 + (1 : Int32))).bind fun v3 => if v3 = (32 : Int32) then (zz_isO h a0 0 <| (f_X0_at h a0 (a1 + (2 : Int32))).bind fun v4 => if v4 = (45 : Int32) then (f_X2_flagAndNumber_J58 h a0 a1 (a1 + (3 : Int32))) else (f_X2_flagAndNumber_J58 h a0 a1 (a1 + (2 : Int32)))) else (some ((a1 + (1 : Int32)) ^^^ (-1 : Int32))))
abbrev rm_X2_flagAndNumber : Room := { frames := 1, cells := 0, slots := 0, locals := 22 }
set_option maxRecDepth 100000 in
set_option maxHeartbeats 4000000 in
theorem c_X2_flagAndNumber {l : Launch} {D : va_G} {dA : Nat → ClassId} {A : Nat → Prop} {h : ZH} {n : Nat} (a0 : Nat) (a1 : Int32) {r : Int32} (hf : f_X2_flagAndNumber h a0 a1 = some r) : Met l yX2_flagAndNumber (zz_ws yX2_flagAndNumber cX2_flagAndNumber 5 (some .int)) rm_X2_flagAndNumber (zz_P D dA A h n [.ref (a0), .int (a1)]) (zz_Q D dA A (some (.int r)) h n) 0 0 A := by
  refine zz_met (by decide) (Nat.le_of_ble_eq_true rfl) ?_
  intro p e s m args below meth c ls S K hret hlk hnm hl Z
  replace hl : lv_has ls 5 [(0, .ref (a0)), (1, .int (a1))] := hl
  obtain ⟨K0, hR0, hk⟩ : ∃ K0 : (Int32) → Prop, (∀ x, K0 x → x = r) ∧ K0 r := ⟨fun x => x = r, fun _ h => h, rfl⟩
  have J116 : ∀ (x4_11 : Int32) (x : (Int32)), f_X2_flagAndNumber_J116 h a0 a1 x4_11 = some x → K0 x → ∀ (H : Heap) (locs : List Loc) (ls : Array Slot), zz_B D dA A h n s.heap H locs → lv_has ls 5 [(4, .int (x4_11))] → zz_W p l e rm_X2_flagAndNumber s m args below meth c D dA A (some (.int r)) h n 0 0 H locs 0 0 116 ls [] := by
    intro x4_11 x hv hk H locs ls Z hl
    unfold f_X2_flagAndNumber_J116 at hv
    refine lv_iload S.1 S.2.1 dX2_flagAndNumber_116 (lv_at hl 0 rfl) ?_
    refine lv_iconst (v := (-1 : Int32)) S.1 S.2.1 dX2_flagAndNumber_118 (by decide) ?_
    refine lv_ixor S.1 S.2.1 dX2_flagAndNumber_119 ?_
    replace hk := zz_fin hv hk
    obtain rfl := hR0 _ hk
    exact zz_iret S Z hret hlk dX2_flagAndNumber_120 (Nat.le_refl _) (Nat.le_refl _)
  have J90 : ∀ (x2_8 : Int32) (x3_9 : Int32) (x : (Int32)), f_X2_flagAndNumber_J90 h a0 a1 x2_8 x3_9 = some x → K0 x → ∀ (H : Heap) (locs : List Loc) (ls : Array Slot), zz_B D dA A h n s.heap H locs → lv_has ls 5 [(0, .ref (a0)), (2, .int (x2_8)), (3, .int (x3_9))] → zz_W p l e rm_X2_flagAndNumber s m args below meth c D dA A (some (.int r)) h n 0 0 H locs 0 0 90 ls [] := by
    intro x2_8 x3_9 x hv hk H locs ls Z hl
    unfold f_X2_flagAndNumber_J90 at hv
    refine lv_iload_n S.1 S.2.1 dX2_flagAndNumber_90 rfl (lv_at hl 1 rfl) ?_
    refine lv_iload_n S.1 S.2.1 dX2_flagAndNumber_91 rfl (lv_at hl 2 rfl) ?_
    refine lv_iadd S.1 S.2.1 dX2_flagAndNumber_92 ?_
    refine zz_lt hv (G := fun w => W _ _ _ _ _ _ _ _ _ _ _ _ _ _ _ (F0 _ _ _ (.int w :: _))) (fun v10 hv => ?_)
    refine lv_istore (lv' := [(4, .int (v10)), (0, .ref (a0)), (2, .int (x2_8)), (3, .int (x3_9))]) S.1 S.2.1 dX2_flagAndNumber_93 hl (by decide) rfl (fun ls hl => ?_)
    refine lv_iload_n S.1 S.2.1 dX2_flagAndNumber_95 rfl (lv_at hl 3 rfl) ?_
    refine lv_if_le (tgt := 116) S.1 S.2.1 dX2_flagAndNumber_96 (by decide) (fun hc => ?_) (fun hc => ?_)
    · replace hv := (if_pos hc).symm.trans hv
      exact J116 v10 _ hv hk H locs ls Z (lv_sub hl [0] rfl)
    · replace hv := (if_neg hc).symm.trans hv
      refine lv_aload_n S.1 S.2.1 dX2_flagAndNumber_99 rfl (lv_at hl 1 rfl) ?_
      refine lv_iload S.1 S.2.1 dX2_flagAndNumber_100 (lv_at hl 0 rfl) ?_
      obtain ⟨hci, hv⟩ := zz_isO_s hv
      obtain ⟨v12, hq, hv⟩ := zz_bd hv
      refine zz_V [.int (v10)] S K Z hci zc_0 rfl (c_X0_at a0 v10 hq) ⟨rfl, rfl⟩ gm_X0_at gmv_X0_at gl_X2_15 ⟨by decide, by decide⟩ rfl hl.1 rfl (Nat.le_of_ble_eq_true rfl) dX2_flagAndNumber_102 ⟨Nat.zero_le _, Nat.zero_le _⟩ (fun H locs Z => ?_)
      show W _ _ _ _ _ _ _ _ _ _ _ _ 0 0 _ (F0 m 105 ls [.int (v12)])
      obtain ⟨v13, hq, hv⟩ := zz_bd hv
      refine zz_S [.int (v12)] S K Z (c_X2_endsLine v12 hq) ⟨rfl, rfl⟩ gm_X2_endsLine gs_X2_endsLine gl_X2_54 ⟨by decide, by decide⟩ rfl hl.1 rfl (Nat.le_of_ble_eq_true rfl) dX2_flagAndNumber_105 ⟨Nat.zero_le _, Nat.zero_le _⟩ (fun H locs Z => ?_)
      show W _ _ _ _ _ _ _ _ _ _ _ _ 0 0 _ (F0 m 108 ls [.int (v13)])
      refine lv_if_eq (tgt := 116) S.1 S.2.1 dX2_flagAndNumber_108 (by decide) (fun hc => ?_) (fun hc => ?_)
      · replace hv := (if_pos hc).symm.trans hv
        exact J116 v10 _ hv hk H locs ls Z (lv_sub hl [0] rfl)
      · replace hv := (if_neg hc).symm.trans hv
        refine lv_iload S.1 S.2.1 dX2_flagAndNumber_111 (lv_at hl 0 rfl) ?_
        refine lv_goto (tgt := 120) S.1 S.2.1 dX2_flagAndNumber_113 (by decide) ?_
        replace hk := zz_fin hv hk
        obtain rfl := hR0 _ hk
        exact zz_iret S Z hret hlk dX2_flagAndNumber_120 (Nat.le_refl _) (Nat.le_refl _)
  have L61 : ∀ (y2_7 : Int32) (st : (Int32)) (x : (Int32)), zz_loop (fun st : (Int32) => f_X2_flagAndNumber_L61 h a0 a1 y2_7 (st)) st = some x → K0 x → (fun st : (Int32) => ∀ (H : Heap) (locs : List Loc) (ls : Array Slot), zz_B D dA A h n s.heap H locs → lv_has ls 5 [(0, .ref (a0)), (2, .int (y2_7)), (3, .int ((st)))] → zz_W p l e rm_X2_flagAndNumber s m args below meth c D dA A (some (.int r)) h n 0 0 H locs 0 0 61 ls []) st := by
    intro y2_7
    refine zz_loop_go (K := K0) ?_
    intro K1 hP1 hR1
    rintro x3_6 x hv hk H locs ls Z hl
    replace hv : f_X2_flagAndNumber_L61 h a0 a1 y2_7 x3_6 = some x := hv
    unfold f_X2_flagAndNumber_L61 at hv
    replace hl : lv_has ls 5 [(0, .ref (a0)), (2, .int (y2_7)), (3, .int (x3_6))] := hl
    replace Z : zz_B D dA A h n s.heap H locs := Z
    show zz_W p l e rm_X2_flagAndNumber s m args below meth c D dA A (some (.int r)) h n 0 0 H locs 0 0 61 ls []
    refine lv_iload_n S.1 S.2.1 dX2_flagAndNumber_61 rfl (lv_at hl 2 rfl) ?_
    refine lv_bipush (v := (6 : Int32)) S.1 S.2.1 dX2_flagAndNumber_62 (by decide) ?_
    refine lv_icmp_ge (tgt := 90) S.1 S.2.1 dX2_flagAndNumber_64 (by decide) (fun hc => ?_) (fun hc => ?_)
    · replace hv := (if_pos hc).symm.trans hv
      obtain ⟨_, hv, hk⟩ := zz_mapk hv hk
      replace hk := hR1 _ hk
      exact J90 y2_7 x3_6 _ hv hk H locs ls Z (lv_sub hl [0, 1, 2] rfl)
    · replace hv := (if_neg hc).symm.trans hv
      refine lv_aload_n S.1 S.2.1 dX2_flagAndNumber_67 rfl (lv_at hl 0 rfl) ?_
      refine lv_iload_n S.1 S.2.1 dX2_flagAndNumber_68 rfl (lv_at hl 1 rfl) ?_
      refine lv_iload_n S.1 S.2.1 dX2_flagAndNumber_69 rfl (lv_at hl 2 rfl) ?_
      refine lv_iadd S.1 S.2.1 dX2_flagAndNumber_70 ?_
      obtain ⟨hci, hv⟩ := zz_isO_s hv
      obtain ⟨v14, hq, hv⟩ := zz_bd hv
      refine zz_V [.int (y2_7 + x3_6)] S K Z hci zc_0 rfl (c_X0_at a0 (y2_7 + x3_6) hq) ⟨rfl, rfl⟩ gm_X0_at gmv_X0_at gl_X2_15 ⟨by decide, by decide⟩ rfl hl.1 rfl (Nat.le_of_ble_eq_true rfl) dX2_flagAndNumber_71 ⟨Nat.zero_le _, Nat.zero_le _⟩ (fun H locs Z => ?_)
      show W _ _ _ _ _ _ _ _ _ _ _ _ 0 0 _ (F0 m 74 ls [.int (v14)])
      refine lv_bipush (v := (48 : Int32)) S.1 S.2.1 dX2_flagAndNumber_74 (by decide) ?_
      refine lv_bipush (v := (57 : Int32)) S.1 S.2.1 dX2_flagAndNumber_76 (by decide) ?_
      obtain ⟨v15, hq, hv⟩ := zz_bd hv
      refine zz_S [.int (v14), .int ((48 : Int32)), .int ((57 : Int32))] S K Z (c_X2_isDigit v14 (48 : Int32) (57 : Int32) hq) ⟨rfl, rfl⟩ gm_X2_isDigit gs_X2_isDigit gl_X2_64 ⟨by decide, by decide⟩ rfl hl.1 rfl (Nat.le_of_ble_eq_true rfl) dX2_flagAndNumber_78 ⟨Nat.zero_le _, Nat.zero_le _⟩ (fun H locs Z => ?_)
      show W _ _ _ _ _ _ _ _ _ _ _ _ 0 0 _ (F0 m 81 ls [.int (v15)])
      refine lv_if_eq (tgt := 90) S.1 S.2.1 dX2_flagAndNumber_81 (by decide) (fun hc => ?_) (fun hc => ?_)
      · replace hv := (if_pos hc).symm.trans hv
        obtain ⟨_, hv, hk⟩ := zz_mapk hv hk
        replace hk := hR1 _ hk
        exact J90 y2_7 x3_6 _ hv hk H locs ls Z (lv_sub hl [0, 1, 2] rfl)
      · replace hv := (if_neg hc).symm.trans hv
        refine lv_iinc (v := x3_6 + (1 : Int32)) (lv' := [(3, .int (x3_6 + (1 : Int32))), (0, .ref (a0)), (2, .int (y2_7))]) S.1 S.2.1 dX2_flagAndNumber_84 hl (k := 2) rfl rfl (by decide) rfl (fun ls hl => ?_)
        refine lv_goto (tgt := 61) S.1 S.2.1 dX2_flagAndNumber_87 (by decide) ?_
        replace hk := zz_fin hv hk
        exact hP1 _ hk H locs ls Z (lv_sub hl [1, 2, 0] rfl)
  have J58 : ∀ (s5 : Int32) (x : (Int32)), f_X2_flagAndNumber_J58 h a0 a1 s5 = some x → K0 x → ∀ (H : Heap) (locs : List Loc) (ls : Array Slot), zz_B D dA A h n s.heap H locs → lv_has ls 5 [(0, .ref (a0))] → zz_W p l e rm_X2_flagAndNumber s m args below meth c D dA A (some (.int r)) h n 0 0 H locs 0 0 58 ls [.int (s5)] := by
    intro s5 x hv hk H locs ls Z hl
    unfold f_X2_flagAndNumber_J58 at hv
    refine lv_istore_n (lv' := [(2, .int (s5)), (0, .ref (a0))]) S.1 S.2.1 dX2_flagAndNumber_58 rfl hl (by decide) rfl (fun ls hl => ?_)
    refine lv_iconst (v := (0 : Int32)) S.1 S.2.1 dX2_flagAndNumber_59 (by decide) ?_
    refine lv_istore_n (lv' := [(3, .int ((0 : Int32))), (2, .int (s5)), (0, .ref (a0))]) S.1 S.2.1 dX2_flagAndNumber_60 rfl hl (by decide) rfl (fun ls hl => ?_)
    exact L61 s5 ((0 : Int32)) _ hv hk H locs ls Z (lv_sub hl [2, 1, 0] rfl)
  have hv := hf
  unfold f_X2_flagAndNumber at hv
  clear hf
  obtain ⟨x, hxx⟩ : ∃ x, x = r := ⟨_, rfl⟩
  rw [← hxx] at hv hk
  have ⟨H, hH⟩ : ∃ H, H = s.heap := ⟨_, rfl⟩
  have ⟨locs, hlo⟩ : ∃ q : List Loc, q = [] := ⟨_, rfl⟩
  have Z : zz_B D dA A h n s.heap H locs := by rw [hH, hlo]; exact Z
  have key : zz_W p l e rm_X2_flagAndNumber s m args below meth c D dA A (some (.int r)) h n 0 0 H locs 0 0 0 ls [] := by
    clear hH hlo hxx
    refine lv_aload_n S.1 S.2.1 dX2_flagAndNumber_0 rfl (lv_at hl 0 rfl) ?_
    refine lv_iload_n S.1 S.2.1 dX2_flagAndNumber_1 rfl (lv_at hl 1 rfl) ?_
    obtain ⟨hci, hv⟩ := zz_isO_s hv
    obtain ⟨v1, hq, hv⟩ := zz_bd hv
    refine zz_V [.int (a1)] S K Z hci zc_0 rfl (c_X0_at a0 a1 hq) ⟨rfl, rfl⟩ gm_X0_at gmv_X0_at gl_X2_15 ⟨by decide, by decide⟩ rfl hl.1 rfl (Nat.le_of_ble_eq_true rfl) dX2_flagAndNumber_2 ⟨Nat.zero_le _, Nat.zero_le _⟩ (fun H locs Z => ?_)
    show W _ _ _ _ _ _ _ _ _ _ _ _ 0 0 _ (F0 m 5 ls [.int (v1)])
    refine lv_bipush (v := (48 : Int32)) S.1 S.2.1 dX2_flagAndNumber_5 (by decide) ?_
    refine lv_bipush (v := (55 : Int32)) S.1 S.2.1 dX2_flagAndNumber_7 (by decide) ?_
    obtain ⟨v2, hq, hv⟩ := zz_bd hv
    refine zz_S [.int (v1), .int ((48 : Int32)), .int ((55 : Int32))] S K Z (c_X2_isDigit v1 (48 : Int32) (55 : Int32) hq) ⟨rfl, rfl⟩ gm_X2_isDigit gs_X2_isDigit gl_X2_64 ⟨by decide, by decide⟩ rfl hl.1 rfl (Nat.le_of_ble_eq_true rfl) dX2_flagAndNumber_9 ⟨Nat.zero_le _, Nat.zero_le _⟩ (fun H locs Z => ?_)
    show W _ _ _ _ _ _ _ _ _ _ _ _ 0 0 _ (F0 m 12 ls [.int (v2)])
    refine lv_if_ne (tgt := 19) S.1 S.2.1 dX2_flagAndNumber_12 (by decide) (fun hc => ?_) (fun hc => ?_)
    · replace hv := (if_neg hc).symm.trans hv
      refine lv_aload_n S.1 S.2.1 dX2_flagAndNumber_19 rfl (lv_at hl 0 rfl) ?_
      refine lv_iload_n S.1 S.2.1 dX2_flagAndNumber_20 rfl (lv_at hl 1 rfl) ?_
      refine lv_iconst (v := (1 : Int32)) S.1 S.2.1 dX2_flagAndNumber_21 (by decide) ?_
      refine lv_iadd S.1 S.2.1 dX2_flagAndNumber_22 ?_
      obtain ⟨hci, hv⟩ := zz_isO_s hv
      obtain ⟨v3, hq, hv⟩ := zz_bd hv
      refine zz_V [.int (a1 + (1 : Int32))] S K Z hci zc_0 rfl (c_X0_at a0 (a1 + (1 : Int32)) hq) ⟨rfl, rfl⟩ gm_X0_at gmv_X0_at gl_X2_15 ⟨by decide, by decide⟩ rfl hl.1 rfl (Nat.le_of_ble_eq_true rfl) dX2_flagAndNumber_23 ⟨Nat.zero_le _, Nat.zero_le _⟩ (fun H locs Z => ?_)
      show W _ _ _ _ _ _ _ _ _ _ _ _ 0 0 _ (F0 m 26 ls [.int (v3)])
      refine lv_bipush (v := (32 : Int32)) S.1 S.2.1 dX2_flagAndNumber_26 (by decide) ?_
      refine lv_icmp_eq (tgt := 37) S.1 S.2.1 dX2_flagAndNumber_28 (by decide) (fun hc => ?_) (fun hc => ?_)
      · replace hv := (if_pos hc).symm.trans hv
        refine lv_aload_n S.1 S.2.1 dX2_flagAndNumber_37 rfl (lv_at hl 0 rfl) ?_
        refine lv_iload_n S.1 S.2.1 dX2_flagAndNumber_38 rfl (lv_at hl 1 rfl) ?_
        refine lv_iconst (v := (2 : Int32)) S.1 S.2.1 dX2_flagAndNumber_39 (by decide) ?_
        refine lv_iadd S.1 S.2.1 dX2_flagAndNumber_40 ?_
        obtain ⟨hci, hv⟩ := zz_isO_s hv
        obtain ⟨v4, hq, hv⟩ := zz_bd hv
        refine zz_V [.int (a1 + (2 : Int32))] S K Z hci zc_0 rfl (c_X0_at a0 (a1 + (2 : Int32)) hq) ⟨rfl, rfl⟩ gm_X0_at gmv_X0_at gl_X2_15 ⟨by decide, by decide⟩ rfl hl.1 rfl (Nat.le_of_ble_eq_true rfl) dX2_flagAndNumber_41 ⟨Nat.zero_le _, Nat.zero_le _⟩ (fun H locs Z => ?_)
        show W _ _ _ _ _ _ _ _ _ _ _ _ 0 0 _ (F0 m 44 ls [.int (v4)])
        refine lv_bipush (v := (45 : Int32)) S.1 S.2.1 dX2_flagAndNumber_44 (by decide) ?_
        refine lv_icmp_ne (tgt := 55) S.1 S.2.1 dX2_flagAndNumber_46 (by decide) (fun hc => ?_) (fun hc => ?_)
        · replace hv := (if_neg hc).symm.trans hv
          refine lv_iload_n S.1 S.2.1 dX2_flagAndNumber_55 rfl (lv_at hl 1 rfl) ?_
          refine lv_iconst (v := (2 : Int32)) S.1 S.2.1 dX2_flagAndNumber_56 (by decide) ?_
          refine lv_iadd S.1 S.2.1 dX2_flagAndNumber_57 ?_
          exact J58 (a1 + (2 : Int32)) _ hv hk H locs ls Z (lv_sub hl [0] rfl)
        · replace hv := (if_pos hc).symm.trans hv
          refine lv_iload_n S.1 S.2.1 dX2_flagAndNumber_49 rfl (lv_at hl 1 rfl) ?_
          refine lv_iconst (v := (3 : Int32)) S.1 S.2.1 dX2_flagAndNumber_50 (by decide) ?_
          refine lv_iadd S.1 S.2.1 dX2_flagAndNumber_51 ?_
          refine lv_goto (tgt := 58) S.1 S.2.1 dX2_flagAndNumber_52 (by decide) ?_
          exact J58 (a1 + (3 : Int32)) _ hv hk H locs ls Z (lv_sub hl [0] rfl)
      · replace hv := (if_neg hc).symm.trans hv
        refine lv_iload_n S.1 S.2.1 dX2_flagAndNumber_31 rfl (lv_at hl 1 rfl) ?_
        refine lv_iconst (v := (1 : Int32)) S.1 S.2.1 dX2_flagAndNumber_32 (by decide) ?_
        refine lv_iadd S.1 S.2.1 dX2_flagAndNumber_33 ?_
        refine lv_iconst (v := (-1 : Int32)) S.1 S.2.1 dX2_flagAndNumber_34 (by decide) ?_
        refine lv_ixor S.1 S.2.1 dX2_flagAndNumber_35 ?_
        replace hk := zz_fin hv hk
        obtain rfl := hR0 _ hk
        exact zz_iret S Z hret hlk dX2_flagAndNumber_36 (Nat.le_refl _) (Nat.le_refl _)
    · replace hv := (if_pos hc).symm.trans hv
      refine lv_iload_n S.1 S.2.1 dX2_flagAndNumber_15 rfl (lv_at hl 1 rfl) ?_
      refine lv_iconst (v := (-1 : Int32)) S.1 S.2.1 dX2_flagAndNumber_16 (by decide) ?_
      refine lv_ixor S.1 S.2.1 dX2_flagAndNumber_17 ?_
      replace hk := zz_fin hv hk
      obtain rfl := hR0 _ hk
      exact zz_iret S Z hret hlk dX2_flagAndNumber_18 (Nat.le_refl _) (Nat.le_refl _)
  rw [hH, hlo] at key
  exact key

noncomputable def f_X2_onlyDigit (h : ZH) (a0 : Nat) (a1 : Int32) (a2 : Int32) (a3 : Int32) : Option (Int32) :=
  zz_isO h a0 0 <| (f_X0_at h a0 a1).bind fun v1 => (f_X2_isDigit h v1 a2 a3).bind fun v2 => if v2 = 0 then (some (a1 ^^^ (-1 : Int32))) else (zz_isO h a0 0 <| (f_X0_at h a0 (a1 + (1 : Int32))).bind fun v3 => (f_X2_endsLine h v3).bind fun v4 => if v4 = 0 then (some ((a1 + (1 : Int32)) ^^^ (-1 : Int32))) else (some (a1 + (1 : Int32))))
abbrev rm_X2_onlyDigit : Room := { frames := 1, cells := 0, slots := 0, locals := 22 }
set_option maxRecDepth 100000 in
set_option maxHeartbeats 4000000 in
theorem c_X2_onlyDigit {l : Launch} {D : va_G} {dA : Nat → ClassId} {A : Nat → Prop} {h : ZH} {n : Nat} (a0 : Nat) (a1 : Int32) (a2 : Int32) (a3 : Int32) {r : Int32} (hf : f_X2_onlyDigit h a0 a1 a2 a3 = some r) : Met l yX2_onlyDigit (zz_ws yX2_onlyDigit cX2_onlyDigit 4 (some .int)) rm_X2_onlyDigit (zz_P D dA A h n [.ref (a0), .int (a1), .int (a2), .int (a3)]) (zz_Q D dA A (some (.int r)) h n) 0 0 A := by
  refine zz_met (by decide) (Nat.le_of_ble_eq_true rfl) ?_
  intro p e s m args below meth c ls S K hret hlk hnm hl Z
  replace hl : lv_has ls 4 [(0, .ref (a0)), (1, .int (a1)), (2, .int (a2)), (3, .int (a3))] := hl
  obtain ⟨K0, hR0, hk⟩ : ∃ K0 : (Int32) → Prop, (∀ x, K0 x → x = r) ∧ K0 r := ⟨fun x => x = r, fun _ h => h, rfl⟩
  have hv := hf
  unfold f_X2_onlyDigit at hv
  clear hf
  obtain ⟨x, hxx⟩ : ∃ x, x = r := ⟨_, rfl⟩
  rw [← hxx] at hv hk
  have ⟨H, hH⟩ : ∃ H, H = s.heap := ⟨_, rfl⟩
  have ⟨locs, hlo⟩ : ∃ q : List Loc, q = [] := ⟨_, rfl⟩
  have Z : zz_B D dA A h n s.heap H locs := by rw [hH, hlo]; exact Z
  have key : zz_W p l e rm_X2_onlyDigit s m args below meth c D dA A (some (.int r)) h n 0 0 H locs 0 0 0 ls [] := by
    clear hH hlo hxx
    refine lv_aload_n S.1 S.2.1 dX2_onlyDigit_0 rfl (lv_at hl 0 rfl) ?_
    refine lv_iload_n S.1 S.2.1 dX2_onlyDigit_1 rfl (lv_at hl 1 rfl) ?_
    obtain ⟨hci, hv⟩ := zz_isO_s hv
    obtain ⟨v1, hq, hv⟩ := zz_bd hv
    refine zz_V [.int (a1)] S K Z hci zc_0 rfl (c_X0_at a0 a1 hq) ⟨rfl, rfl⟩ gm_X0_at gmv_X0_at gl_X2_15 ⟨by decide, by decide⟩ rfl hl.1 rfl (Nat.le_of_ble_eq_true rfl) dX2_onlyDigit_2 ⟨Nat.zero_le _, Nat.zero_le _⟩ (fun H locs Z => ?_)
    show W _ _ _ _ _ _ _ _ _ _ _ _ 0 0 _ (F0 m 5 ls [.int (v1)])
    refine lv_iload_n S.1 S.2.1 dX2_onlyDigit_5 rfl (lv_at hl 2 rfl) ?_
    refine lv_iload_n S.1 S.2.1 dX2_onlyDigit_6 rfl (lv_at hl 3 rfl) ?_
    obtain ⟨v2, hq, hv⟩ := zz_bd hv
    refine zz_S [.int (v1), .int (a2), .int (a3)] S K Z (c_X2_isDigit v1 a2 a3 hq) ⟨rfl, rfl⟩ gm_X2_isDigit gs_X2_isDigit gl_X2_64 ⟨by decide, by decide⟩ rfl hl.1 rfl (Nat.le_of_ble_eq_true rfl) dX2_onlyDigit_7 ⟨Nat.zero_le _, Nat.zero_le _⟩ (fun H locs Z => ?_)
    show W _ _ _ _ _ _ _ _ _ _ _ _ 0 0 _ (F0 m 10 ls [.int (v2)])
    refine lv_if_ne (tgt := 17) S.1 S.2.1 dX2_onlyDigit_10 (by decide) (fun hc => ?_) (fun hc => ?_)
    · replace hv := (if_neg hc).symm.trans hv
      refine lv_aload_n S.1 S.2.1 dX2_onlyDigit_17 rfl (lv_at hl 0 rfl) ?_
      refine lv_iload_n S.1 S.2.1 dX2_onlyDigit_18 rfl (lv_at hl 1 rfl) ?_
      refine lv_iconst (v := (1 : Int32)) S.1 S.2.1 dX2_onlyDigit_19 (by decide) ?_
      refine lv_iadd S.1 S.2.1 dX2_onlyDigit_20 ?_
      obtain ⟨hci, hv⟩ := zz_isO_s hv
      obtain ⟨v3, hq, hv⟩ := zz_bd hv
      refine zz_V [.int (a1 + (1 : Int32))] S K Z hci zc_0 rfl (c_X0_at a0 (a1 + (1 : Int32)) hq) ⟨rfl, rfl⟩ gm_X0_at gmv_X0_at gl_X2_15 ⟨by decide, by decide⟩ rfl hl.1 rfl (Nat.le_of_ble_eq_true rfl) dX2_onlyDigit_21 ⟨Nat.zero_le _, Nat.zero_le _⟩ (fun H locs Z => ?_)
      show W _ _ _ _ _ _ _ _ _ _ _ _ 0 0 _ (F0 m 24 ls [.int (v3)])
      obtain ⟨v4, hq, hv⟩ := zz_bd hv
      refine zz_S [.int (v3)] S K Z (c_X2_endsLine v3 hq) ⟨rfl, rfl⟩ gm_X2_endsLine gs_X2_endsLine gl_X2_54 ⟨by decide, by decide⟩ rfl hl.1 rfl (Nat.le_of_ble_eq_true rfl) dX2_onlyDigit_24 ⟨Nat.zero_le _, Nat.zero_le _⟩ (fun H locs Z => ?_)
      show W _ _ _ _ _ _ _ _ _ _ _ _ 0 0 _ (F0 m 27 ls [.int (v4)])
      refine lv_if_eq (tgt := 36) S.1 S.2.1 dX2_onlyDigit_27 (by decide) (fun hc => ?_) (fun hc => ?_)
      · replace hv := (if_pos hc).symm.trans hv
        refine lv_iload_n S.1 S.2.1 dX2_onlyDigit_36 rfl (lv_at hl 1 rfl) ?_
        refine lv_iconst (v := (1 : Int32)) S.1 S.2.1 dX2_onlyDigit_37 (by decide) ?_
        refine lv_iadd S.1 S.2.1 dX2_onlyDigit_38 ?_
        refine lv_iconst (v := (-1 : Int32)) S.1 S.2.1 dX2_onlyDigit_39 (by decide) ?_
        refine lv_ixor S.1 S.2.1 dX2_onlyDigit_40 ?_
        replace hk := zz_fin hv hk
        obtain rfl := hR0 _ hk
        exact zz_iret S Z hret hlk dX2_onlyDigit_41 (Nat.le_refl _) (Nat.le_refl _)
      · replace hv := (if_neg hc).symm.trans hv
        refine lv_iload_n S.1 S.2.1 dX2_onlyDigit_30 rfl (lv_at hl 1 rfl) ?_
        refine lv_iconst (v := (1 : Int32)) S.1 S.2.1 dX2_onlyDigit_31 (by decide) ?_
        refine lv_iadd S.1 S.2.1 dX2_onlyDigit_32 ?_
        refine lv_goto (tgt := 41) S.1 S.2.1 dX2_onlyDigit_33 (by decide) ?_
        replace hk := zz_fin hv hk
        obtain rfl := hR0 _ hk
        exact zz_iret S Z hret hlk dX2_onlyDigit_41 (Nat.le_refl _) (Nat.le_refl _)
    · replace hv := (if_pos hc).symm.trans hv
      refine lv_iload_n S.1 S.2.1 dX2_onlyDigit_13 rfl (lv_at hl 1 rfl) ?_
      refine lv_iconst (v := (-1 : Int32)) S.1 S.2.1 dX2_onlyDigit_14 (by decide) ?_
      refine lv_ixor S.1 S.2.1 dX2_onlyDigit_15 ?_
      replace hk := zz_fin hv hk
      obtain rfl := hR0 _ hk
      exact zz_iret S Z hret hlk dX2_onlyDigit_16 (Nat.le_refl _) (Nat.le_refl _)
  rw [hH, hlo] at key
  exact key

noncomputable def f_X2_lineEnd_L2 (h : ZH) (a0 : Nat) (a1 : Int32) (x2_1 : Int32)  : Option ((Int32) ⊕ (Int32)) :=
  (zg_I h a0 0 1).bind fun v2 => if v2 ≤ x2_1 then ((some (x2_1)).map Sum.inr) else (zz_isO h a0 0 <| (f_X0_at h a0 x2_1).bind fun v3 => if v3 = (10 : Int32) then ((some (x2_1)).map Sum.inr) else (some (.inl (x2_1 + (1 : Int32)))))
noncomputable def f_X2_lineEnd (h : ZH) (a0 : Nat) (a1 : Int32) : Option (Int32) :=
  zz_loop (fun st : (Int32) => f_X2_lineEnd_L2 h a0 a1 (st)) (a1)
abbrev rm_X2_lineEnd : Room := { frames := 1, cells := 0, slots := 0, locals := 21 }
set_option maxRecDepth 100000 in
set_option maxHeartbeats 4000000 in
theorem c_X2_lineEnd {l : Launch} {D : va_G} {dA : Nat → ClassId} {A : Nat → Prop} {h : ZH} {n : Nat} (a0 : Nat) (a1 : Int32) {r : Int32} (hf : f_X2_lineEnd h a0 a1 = some r) : Met l yX2_lineEnd (zz_ws yX2_lineEnd cX2_lineEnd 3 (some .int)) rm_X2_lineEnd (zz_P D dA A h n [.ref (a0), .int (a1)]) (zz_Q D dA A (some (.int r)) h n) 0 0 A := by
  refine zz_met (by decide) (Nat.le_of_ble_eq_true rfl) ?_
  intro p e s m args below meth c ls S K hret hlk hnm hl Z
  replace hl : lv_has ls 3 [(0, .ref (a0)), (1, .int (a1))] := hl
  obtain ⟨K0, hR0, hk⟩ : ∃ K0 : (Int32) → Prop, (∀ x, K0 x → x = r) ∧ K0 r := ⟨fun x => x = r, fun _ h => h, rfl⟩
  have L2 : ∀ (st : (Int32)) (x : (Int32)), zz_loop (fun st : (Int32) => f_X2_lineEnd_L2 h a0 a1 (st)) st = some x → K0 x → (fun st : (Int32) => ∀ (H : Heap) (locs : List Loc) (ls : Array Slot), zz_B D dA A h n s.heap H locs → lv_has ls 3 [(0, .ref (a0)), (2, .int ((st)))] → zz_W p l e rm_X2_lineEnd s m args below meth c D dA A (some (.int r)) h n 0 0 H locs 0 0 2 ls []) st := by
    refine zz_loop_go (K := K0) ?_
    intro K1 hP1 hR1
    rintro x2_1 x hv hk H locs ls Z hl
    replace hv : f_X2_lineEnd_L2 h a0 a1 x2_1 = some x := hv
    unfold f_X2_lineEnd_L2 at hv
    replace hl : lv_has ls 3 [(0, .ref (a0)), (2, .int (x2_1))] := hl
    replace Z : zz_B D dA A h n s.heap H locs := Z
    show zz_W p l e rm_X2_lineEnd s m args below meth c D dA A (some (.int r)) h n 0 0 H locs 0 0 2 ls []
    refine lv_iload_n S.1 S.2.1 dX2_lineEnd_2 rfl (lv_at hl 1 rfl) ?_
    refine lv_aload_n S.1 S.2.1 dX2_lineEnd_3 rfl (lv_at hl 0 rfl) ?_
    refine zz_gI S K Z hv zc_0 (by decide) gf_X2_9 dX2_lineEnd_4 (fun v2 hv => ?_)
    refine lv_icmp_ge (tgt := 26) S.1 S.2.1 dX2_lineEnd_7 (by decide) (fun hc => ?_) (fun hc => ?_)
    · replace hv := (if_pos hc).symm.trans hv
      obtain ⟨_, hv, hk⟩ := zz_mapk hv hk
      replace hk := hR1 _ hk
      refine lv_iload_n S.1 S.2.1 dX2_lineEnd_26 rfl (lv_at hl 1 rfl) ?_
      replace hk := zz_fin hv hk
      obtain rfl := hR0 _ hk
      exact zz_iret S Z hret hlk dX2_lineEnd_27 (Nat.le_refl _) (Nat.le_refl _)
    · replace hv := (if_neg hc).symm.trans hv
      refine lv_aload_n S.1 S.2.1 dX2_lineEnd_10 rfl (lv_at hl 0 rfl) ?_
      refine lv_iload_n S.1 S.2.1 dX2_lineEnd_11 rfl (lv_at hl 1 rfl) ?_
      obtain ⟨hci, hv⟩ := zz_isO_s hv
      obtain ⟨v3, hq, hv⟩ := zz_bd hv
      refine zz_V [.int (x2_1)] S K Z hci zc_0 rfl (c_X0_at a0 x2_1 hq) ⟨rfl, rfl⟩ gm_X0_at gmv_X0_at gl_X2_15 ⟨by decide, by decide⟩ rfl hl.1 rfl (Nat.le_of_ble_eq_true rfl) dX2_lineEnd_12 ⟨Nat.zero_le _, Nat.zero_le _⟩ (fun H locs Z => ?_)
      show W _ _ _ _ _ _ _ _ _ _ _ _ 0 0 _ (F0 m 15 ls [.int (v3)])
      refine lv_bipush (v := (10 : Int32)) S.1 S.2.1 dX2_lineEnd_15 (by decide) ?_
      refine lv_icmp_eq (tgt := 26) S.1 S.2.1 dX2_lineEnd_17 (by decide) (fun hc => ?_) (fun hc => ?_)
      · replace hv := (if_pos hc).symm.trans hv
        obtain ⟨_, hv, hk⟩ := zz_mapk hv hk
        replace hk := hR1 _ hk
        refine lv_iload_n S.1 S.2.1 dX2_lineEnd_26 rfl (lv_at hl 1 rfl) ?_
        replace hk := zz_fin hv hk
        obtain rfl := hR0 _ hk
        exact zz_iret S Z hret hlk dX2_lineEnd_27 (Nat.le_refl _) (Nat.le_refl _)
      · replace hv := (if_neg hc).symm.trans hv
        refine lv_iinc (v := x2_1 + (1 : Int32)) (lv' := [(2, .int (x2_1 + (1 : Int32))), (0, .ref (a0))]) S.1 S.2.1 dX2_lineEnd_20 hl (k := 1) rfl rfl (by decide) rfl (fun ls hl => ?_)
        refine lv_goto (tgt := 2) S.1 S.2.1 dX2_lineEnd_23 (by decide) ?_
        replace hk := zz_fin hv hk
        exact hP1 _ hk H locs ls Z (lv_sub hl [1, 0] rfl)
  have hv := hf
  unfold f_X2_lineEnd at hv
  clear hf
  obtain ⟨x, hxx⟩ : ∃ x, x = r := ⟨_, rfl⟩
  rw [← hxx] at hv hk
  have ⟨H, hH⟩ : ∃ H, H = s.heap := ⟨_, rfl⟩
  have ⟨locs, hlo⟩ : ∃ q : List Loc, q = [] := ⟨_, rfl⟩
  have Z : zz_B D dA A h n s.heap H locs := by rw [hH, hlo]; exact Z
  have key : zz_W p l e rm_X2_lineEnd s m args below meth c D dA A (some (.int r)) h n 0 0 H locs 0 0 0 ls [] := by
    clear hH hlo hxx
    refine lv_iload_n S.1 S.2.1 dX2_lineEnd_0 rfl (lv_at hl 1 rfl) ?_
    refine lv_istore_n (lv' := [(2, .int (a1)), (0, .ref (a0)), (1, .int (a1))]) S.1 S.2.1 dX2_lineEnd_1 rfl hl (by decide) rfl (fun ls hl => ?_)
    exact L2  (a1) _ hv hk H locs ls Z (lv_sub hl [1, 0] rfl)
  rw [hH, hlo] at key
  exact key

noncomputable def f_X2_scriptLine (h : ZH) (a0 : Nat) (a1 : Int32) : Option (Int32) :=
  zz_isO h a0 0 <| (f_X0_at h a0 a1).bind fun v1 => (f_X2_isKind h v1).bind fun v2 => if v2 = 0 then (some (a1 ^^^ (-1 : Int32))) else (zz_isO h a0 0 <| (f_X0_at h a0 (a1 + (1 : Int32))).bind fun v3 => if v3 = (32 : Int32) then (zz_let (a1 + (2 : Int32)) fun v4 => if v1 = (33 : Int32) then ((f_X2_onlyDigit h a0 v4 (49 : Int32) (57 : Int32)).bind fun v5 => some (v5)) else (if v1 = (61 : Int32) then ((f_X2_pattern h a0 v4).bind fun v6 => some (v6)) else (if v1 = (62 : Int32) then ((f_X2_words h a0 v4).bind fun v7 => some (v7)) else (if v1 = (63 : Int32) then ((f_X2_flagAndNumber h a0 v4).bind fun v8 => some (v8)) else (if v1 = (64 : Int32) then ((f_X2_onlyDigit h a0 v4 (48 : Int32) (55 : Int32)).bind fun v9 => some (v9)) else (if v1 = (98 : Int32) then ((f_X2_onlyDigit h a0 v4 (48 : Int32) (51 : Int32)).bind fun v10 => some (v10)) else (if v1 = (115 : Int32) then ((f_X2_onlyDigit h a0 v4 (48 : Int32) (51 : Int32)).bind fun v11 => some (v11)) else ((f_X2_lineEnd h a0 v4).bind fun v12 => some (v12))))))))) else (some ((a1 + (1 : Int32)) ^^^ (-1 : Int32))))
abbrev rm_X2_scriptLine : Room := { frames := 4, cells := 0, slots := 0, locals := 89 }
set_option maxRecDepth 100000 in
set_option maxHeartbeats 4000000 in
theorem c_X2_scriptLine {l : Launch} {D : va_G} {dA : Nat → ClassId} {A : Nat → Prop} {h : ZH} {n : Nat} (a0 : Nat) (a1 : Int32) {r : Int32} (hf : f_X2_scriptLine h a0 a1 = some r) : Met l yX2_scriptLine (zz_ws yX2_scriptLine cX2_scriptLine 4 (some .int)) rm_X2_scriptLine (zz_P D dA A h n [.ref (a0), .int (a1)]) (zz_Q D dA A (some (.int r)) h n) 0 0 A := by
  refine zz_met (by decide) (Nat.le_of_ble_eq_true rfl) ?_
  intro p e s m args below meth c ls S K hret hlk hnm hl Z
  replace hl : lv_has ls 4 [(0, .ref (a0)), (1, .int (a1))] := hl
  obtain ⟨K0, hR0, hk⟩ : ∃ K0 : (Int32) → Prop, (∀ x, K0 x → x = r) ∧ K0 r := ⟨fun x => x = r, fun _ h => h, rfl⟩
  have hv := hf
  unfold f_X2_scriptLine at hv
  clear hf
  obtain ⟨x, hxx⟩ : ∃ x, x = r := ⟨_, rfl⟩
  rw [← hxx] at hv hk
  have ⟨H, hH⟩ : ∃ H, H = s.heap := ⟨_, rfl⟩
  have ⟨locs, hlo⟩ : ∃ q : List Loc, q = [] := ⟨_, rfl⟩
  have Z : zz_B D dA A h n s.heap H locs := by rw [hH, hlo]; exact Z
  have key : zz_W p l e rm_X2_scriptLine s m args below meth c D dA A (some (.int r)) h n 0 0 H locs 0 0 0 ls [] := by
    clear hH hlo hxx
    refine lv_aload_n S.1 S.2.1 dX2_scriptLine_0 rfl (lv_at hl 0 rfl) ?_
    refine lv_iload_n S.1 S.2.1 dX2_scriptLine_1 rfl (lv_at hl 1 rfl) ?_
    obtain ⟨hci, hv⟩ := zz_isO_s hv
    obtain ⟨v1, hq, hv⟩ := zz_bd hv
    refine zz_V [.int (a1)] S K Z hci zc_0 rfl (c_X0_at a0 a1 hq) ⟨rfl, rfl⟩ gm_X0_at gmv_X0_at gl_X2_15 ⟨by decide, by decide⟩ rfl hl.1 rfl (Nat.le_of_ble_eq_true rfl) dX2_scriptLine_2 ⟨Nat.zero_le _, Nat.zero_le _⟩ (fun H locs Z => ?_)
    show W _ _ _ _ _ _ _ _ _ _ _ _ 0 0 _ (F0 m 5 ls [.int (v1)])
    refine lv_istore_n (lv' := [(2, .int (v1)), (0, .ref (a0)), (1, .int (a1))]) S.1 S.2.1 dX2_scriptLine_5 rfl hl (by decide) rfl (fun ls hl => ?_)
    refine lv_iload_n S.1 S.2.1 dX2_scriptLine_6 rfl (lv_at hl 0 rfl) ?_
    obtain ⟨v2, hq, hv⟩ := zz_bd hv
    refine zz_S [.int (v1)] S K Z (c_X2_isKind v1 hq) ⟨rfl, rfl⟩ gm_X2_isKind gs_X2_isKind gl_X2_32 ⟨by decide, by decide⟩ rfl hl.1 rfl (Nat.le_of_ble_eq_true rfl) dX2_scriptLine_7 ⟨Nat.zero_le _, Nat.zero_le _⟩ (fun H locs Z => ?_)
    show W _ _ _ _ _ _ _ _ _ _ _ _ 0 0 _ (F0 m 10 ls [.int (v2)])
    refine lv_if_ne (tgt := 17) S.1 S.2.1 dX2_scriptLine_10 (by decide) (fun hc => ?_) (fun hc => ?_)
    · replace hv := (if_neg hc).symm.trans hv
      refine lv_aload_n S.1 S.2.1 dX2_scriptLine_17 rfl (lv_at hl 1 rfl) ?_
      refine lv_iload_n S.1 S.2.1 dX2_scriptLine_18 rfl (lv_at hl 2 rfl) ?_
      refine lv_iconst (v := (1 : Int32)) S.1 S.2.1 dX2_scriptLine_19 (by decide) ?_
      refine lv_iadd S.1 S.2.1 dX2_scriptLine_20 ?_
      obtain ⟨hci, hv⟩ := zz_isO_s hv
      obtain ⟨v3, hq, hv⟩ := zz_bd hv
      refine zz_V [.int (a1 + (1 : Int32))] S K Z hci zc_0 rfl (c_X0_at a0 (a1 + (1 : Int32)) hq) ⟨rfl, rfl⟩ gm_X0_at gmv_X0_at gl_X2_15 ⟨by decide, by decide⟩ rfl hl.1 rfl (Nat.le_of_ble_eq_true rfl) dX2_scriptLine_21 ⟨Nat.zero_le _, Nat.zero_le _⟩ (fun H locs Z => ?_)
      show W _ _ _ _ _ _ _ _ _ _ _ _ 0 0 _ (F0 m 24 ls [.int (v3)])
      refine lv_bipush (v := (32 : Int32)) S.1 S.2.1 dX2_scriptLine_24 (by decide) ?_
      refine lv_icmp_eq (tgt := 35) S.1 S.2.1 dX2_scriptLine_26 (by decide) (fun hc => ?_) (fun hc => ?_)
      · replace hv := (if_pos hc).symm.trans hv
        refine lv_iload_n S.1 S.2.1 dX2_scriptLine_35 rfl (lv_at hl 2 rfl) ?_
        refine lv_iconst (v := (2 : Int32)) S.1 S.2.1 dX2_scriptLine_36 (by decide) ?_
        refine lv_iadd S.1 S.2.1 dX2_scriptLine_37 ?_
        refine zz_lt hv (G := fun w => W _ _ _ _ _ _ _ _ _ _ _ _ _ _ _ (F0 _ _ _ (.int w :: _))) (fun v4 hv => ?_)
        refine lv_istore_n (lv' := [(3, .int (v4)), (2, .int (v1)), (0, .ref (a0)), (1, .int (a1))]) S.1 S.2.1 dX2_scriptLine_38 rfl hl (by decide) rfl (fun ls hl => ?_)
        refine lv_iload_n S.1 S.2.1 dX2_scriptLine_39 rfl (lv_at hl 1 rfl) ?_
        by_cases hc33 : v1 = (33 : Int32)
        · replace hv := (if_pos hc33).symm.trans hv
          refine lv_lookup (tgt := 136) S.1 S.2.1 dX2_scriptLine_40 (by decide) (by rw [hc33] <;> rfl) (by decide) ?_
          refine lv_aload_n S.1 S.2.1 dX2_scriptLine_136 rfl (lv_at hl 2 rfl) ?_
          refine lv_iload_n S.1 S.2.1 dX2_scriptLine_137 rfl (lv_at hl 0 rfl) ?_
          refine lv_bipush (v := (49 : Int32)) S.1 S.2.1 dX2_scriptLine_138 (by decide) ?_
          refine lv_bipush (v := (57 : Int32)) S.1 S.2.1 dX2_scriptLine_140 (by decide) ?_
          obtain ⟨v5, hq, hv⟩ := zz_bd hv
          refine zz_S [.ref (a0), .int (v4), .int ((49 : Int32)), .int ((57 : Int32))] S K Z (c_X2_onlyDigit a0 v4 (49 : Int32) (57 : Int32) hq) ⟨rfl, rfl⟩ gm_X2_onlyDigit gs_X2_onlyDigit gl_X2_44 ⟨by decide, by decide⟩ rfl hl.1 rfl (Nat.le_of_ble_eq_true rfl) dX2_scriptLine_142 ⟨Nat.zero_le _, Nat.zero_le _⟩ (fun H locs Z => ?_)
          show W _ _ _ _ _ _ _ _ _ _ _ _ 0 0 _ (F0 m 145 ls [.int (v5)])
          replace hk := zz_fin hv hk
          obtain rfl := hR0 _ hk
          exact zz_iret S Z hret hlk dX2_scriptLine_145 (Nat.le_refl _) (Nat.le_refl _)
        · replace hv := (if_neg hc33).symm.trans hv
          by_cases hc61 : v1 = (61 : Int32)
          · replace hv := (if_pos hc61).symm.trans hv
            refine lv_lookup (tgt := 114) S.1 S.2.1 dX2_scriptLine_40 (by decide) (by rw [hc61] <;> rfl) (by decide) ?_
            refine lv_aload_n S.1 S.2.1 dX2_scriptLine_114 rfl (lv_at hl 2 rfl) ?_
            refine lv_iload_n S.1 S.2.1 dX2_scriptLine_115 rfl (lv_at hl 0 rfl) ?_
            obtain ⟨v6, hq, hv⟩ := zz_bd hv
            refine zz_S [.ref (a0), .int (v4)] S K Z (c_X2_pattern a0 v4 hq) ⟨rfl, rfl⟩ gm_X2_pattern gs_X2_pattern gl_X2_38 ⟨by decide, by decide⟩ rfl hl.1 rfl (Nat.le_of_ble_eq_true rfl) dX2_scriptLine_116 ⟨Nat.zero_le _, Nat.zero_le _⟩ (fun H locs Z => ?_)
            show W _ _ _ _ _ _ _ _ _ _ _ _ 0 0 _ (F0 m 119 ls [.int (v6)])
            replace hk := zz_fin hv hk
            obtain rfl := hR0 _ hk
            exact zz_iret S Z hret hlk dX2_scriptLine_119 (Nat.le_refl _) (Nat.le_refl _)
          · replace hv := (if_neg hc61).symm.trans hv
            by_cases hc62 : v1 = (62 : Int32)
            · replace hv := (if_pos hc62).symm.trans hv
              refine lv_lookup (tgt := 108) S.1 S.2.1 dX2_scriptLine_40 (by decide) (by rw [hc62] <;> rfl) (by decide) ?_
              refine lv_aload_n S.1 S.2.1 dX2_scriptLine_108 rfl (lv_at hl 2 rfl) ?_
              refine lv_iload_n S.1 S.2.1 dX2_scriptLine_109 rfl (lv_at hl 0 rfl) ?_
              obtain ⟨v7, hq, hv⟩ := zz_bd hv
              refine zz_S [.ref (a0), .int (v4)] S K Z (c_X2_words a0 v4 hq) ⟨rfl, rfl⟩ gm_X2_words gs_X2_words gl_X2_35 ⟨by decide, by decide⟩ rfl hl.1 rfl (Nat.le_of_ble_eq_true rfl) dX2_scriptLine_110 ⟨Nat.zero_le _, Nat.zero_le _⟩ (fun H locs Z => ?_)
              show W _ _ _ _ _ _ _ _ _ _ _ _ 0 0 _ (F0 m 113 ls [.int (v7)])
              replace hk := zz_fin hv hk
              obtain rfl := hR0 _ hk
              exact zz_iret S Z hret hlk dX2_scriptLine_113 (Nat.le_refl _) (Nat.le_refl _)
            · replace hv := (if_neg hc62).symm.trans hv
              by_cases hc63 : v1 = (63 : Int32)
              · replace hv := (if_pos hc63).symm.trans hv
                refine lv_lookup (tgt := 120) S.1 S.2.1 dX2_scriptLine_40 (by decide) (by rw [hc63] <;> rfl) (by decide) ?_
                refine lv_aload_n S.1 S.2.1 dX2_scriptLine_120 rfl (lv_at hl 2 rfl) ?_
                refine lv_iload_n S.1 S.2.1 dX2_scriptLine_121 rfl (lv_at hl 0 rfl) ?_
                obtain ⟨v8, hq, hv⟩ := zz_bd hv
                refine zz_S [.ref (a0), .int (v4)] S K Z (c_X2_flagAndNumber a0 v4 hq) ⟨rfl, rfl⟩ gm_X2_flagAndNumber gs_X2_flagAndNumber gl_X2_41 ⟨by decide, by decide⟩ rfl hl.1 rfl (Nat.le_of_ble_eq_true rfl) dX2_scriptLine_122 ⟨Nat.zero_le _, Nat.zero_le _⟩ (fun H locs Z => ?_)
                show W _ _ _ _ _ _ _ _ _ _ _ _ 0 0 _ (F0 m 125 ls [.int (v8)])
                replace hk := zz_fin hv hk
                obtain rfl := hR0 _ hk
                exact zz_iret S Z hret hlk dX2_scriptLine_125 (Nat.le_refl _) (Nat.le_refl _)
              · replace hv := (if_neg hc63).symm.trans hv
                by_cases hc64 : v1 = (64 : Int32)
                · replace hv := (if_pos hc64).symm.trans hv
                  refine lv_lookup (tgt := 126) S.1 S.2.1 dX2_scriptLine_40 (by decide) (by rw [hc64] <;> rfl) (by decide) ?_
                  refine lv_aload_n S.1 S.2.1 dX2_scriptLine_126 rfl (lv_at hl 2 rfl) ?_
                  refine lv_iload_n S.1 S.2.1 dX2_scriptLine_127 rfl (lv_at hl 0 rfl) ?_
                  refine lv_bipush (v := (48 : Int32)) S.1 S.2.1 dX2_scriptLine_128 (by decide) ?_
                  refine lv_bipush (v := (55 : Int32)) S.1 S.2.1 dX2_scriptLine_130 (by decide) ?_
                  obtain ⟨v9, hq, hv⟩ := zz_bd hv
                  refine zz_S [.ref (a0), .int (v4), .int ((48 : Int32)), .int ((55 : Int32))] S K Z (c_X2_onlyDigit a0 v4 (48 : Int32) (55 : Int32) hq) ⟨rfl, rfl⟩ gm_X2_onlyDigit gs_X2_onlyDigit gl_X2_44 ⟨by decide, by decide⟩ rfl hl.1 rfl (Nat.le_of_ble_eq_true rfl) dX2_scriptLine_132 ⟨Nat.zero_le _, Nat.zero_le _⟩ (fun H locs Z => ?_)
                  show W _ _ _ _ _ _ _ _ _ _ _ _ 0 0 _ (F0 m 135 ls [.int (v9)])
                  replace hk := zz_fin hv hk
                  obtain rfl := hR0 _ hk
                  exact zz_iret S Z hret hlk dX2_scriptLine_135 (Nat.le_refl _) (Nat.le_refl _)
                · replace hv := (if_neg hc64).symm.trans hv
                  by_cases hc98 : v1 = (98 : Int32)
                  · replace hv := (if_pos hc98).symm.trans hv
                    refine lv_lookup (tgt := 156) S.1 S.2.1 dX2_scriptLine_40 (by decide) (by rw [hc98] <;> rfl) (by decide) ?_
                    refine lv_aload_n S.1 S.2.1 dX2_scriptLine_156 rfl (lv_at hl 2 rfl) ?_
                    refine lv_iload_n S.1 S.2.1 dX2_scriptLine_157 rfl (lv_at hl 0 rfl) ?_
                    refine lv_bipush (v := (48 : Int32)) S.1 S.2.1 dX2_scriptLine_158 (by decide) ?_
                    refine lv_bipush (v := (51 : Int32)) S.1 S.2.1 dX2_scriptLine_160 (by decide) ?_
                    obtain ⟨v10, hq, hv⟩ := zz_bd hv
                    refine zz_S [.ref (a0), .int (v4), .int ((48 : Int32)), .int ((51 : Int32))] S K Z (c_X2_onlyDigit a0 v4 (48 : Int32) (51 : Int32) hq) ⟨rfl, rfl⟩ gm_X2_onlyDigit gs_X2_onlyDigit gl_X2_44 ⟨by decide, by decide⟩ rfl hl.1 rfl (Nat.le_of_ble_eq_true rfl) dX2_scriptLine_162 ⟨Nat.zero_le _, Nat.zero_le _⟩ (fun H locs Z => ?_)
                    show W _ _ _ _ _ _ _ _ _ _ _ _ 0 0 _ (F0 m 165 ls [.int (v10)])
                    replace hk := zz_fin hv hk
                    obtain rfl := hR0 _ hk
                    exact zz_iret S Z hret hlk dX2_scriptLine_165 (Nat.le_refl _) (Nat.le_refl _)
                  · replace hv := (if_neg hc98).symm.trans hv
                    by_cases hc115 : v1 = (115 : Int32)
                    · replace hv := (if_pos hc115).symm.trans hv
                      refine lv_lookup (tgt := 146) S.1 S.2.1 dX2_scriptLine_40 (by decide) (by rw [hc115] <;> rfl) (by decide) ?_
                      refine lv_aload_n S.1 S.2.1 dX2_scriptLine_146 rfl (lv_at hl 2 rfl) ?_
                      refine lv_iload_n S.1 S.2.1 dX2_scriptLine_147 rfl (lv_at hl 0 rfl) ?_
                      refine lv_bipush (v := (48 : Int32)) S.1 S.2.1 dX2_scriptLine_148 (by decide) ?_
                      refine lv_bipush (v := (51 : Int32)) S.1 S.2.1 dX2_scriptLine_150 (by decide) ?_
                      obtain ⟨v11, hq, hv⟩ := zz_bd hv
                      refine zz_S [.ref (a0), .int (v4), .int ((48 : Int32)), .int ((51 : Int32))] S K Z (c_X2_onlyDigit a0 v4 (48 : Int32) (51 : Int32) hq) ⟨rfl, rfl⟩ gm_X2_onlyDigit gs_X2_onlyDigit gl_X2_44 ⟨by decide, by decide⟩ rfl hl.1 rfl (Nat.le_of_ble_eq_true rfl) dX2_scriptLine_152 ⟨Nat.zero_le _, Nat.zero_le _⟩ (fun H locs Z => ?_)
                      show W _ _ _ _ _ _ _ _ _ _ _ _ 0 0 _ (F0 m 155 ls [.int (v11)])
                      replace hk := zz_fin hv hk
                      obtain rfl := hR0 _ hk
                      exact zz_iret S Z hret hlk dX2_scriptLine_155 (Nat.le_refl _) (Nat.le_refl _)
                    · replace hv := (if_neg hc115).symm.trans hv
                      refine lv_lookup (tgt := 166) S.1 S.2.1 dX2_scriptLine_40 (by decide) ((lv_osw hc33 (by decide)).trans ((lv_osw hc61 (by decide)).trans ((lv_osw hc62 (by decide)).trans ((lv_osw hc63 (by decide)).trans ((lv_osw hc64 (by decide)).trans ((lv_osw hc98 (by decide)).trans ((lv_osw hc115 (by decide)).trans (Op.lookupswitch.offset_nil _ _)))))))) (by decide) ?_
                      refine lv_aload_n S.1 S.2.1 dX2_scriptLine_166 rfl (lv_at hl 2 rfl) ?_
                      refine lv_iload_n S.1 S.2.1 dX2_scriptLine_167 rfl (lv_at hl 0 rfl) ?_
                      obtain ⟨v12, hq, hv⟩ := zz_bd hv
                      refine zz_S [.ref (a0), .int (v4)] S K Z (c_X2_lineEnd a0 v4 hq) ⟨rfl, rfl⟩ gm_X2_lineEnd gs_X2_lineEnd gl_X2_48 ⟨by decide, by decide⟩ rfl hl.1 rfl (Nat.le_of_ble_eq_true rfl) dX2_scriptLine_168 ⟨Nat.zero_le _, Nat.zero_le _⟩ (fun H locs Z => ?_)
                      show W _ _ _ _ _ _ _ _ _ _ _ _ 0 0 _ (F0 m 171 ls [.int (v12)])
                      replace hk := zz_fin hv hk
                      obtain rfl := hR0 _ hk
                      exact zz_iret S Z hret hlk dX2_scriptLine_171 (Nat.le_refl _) (Nat.le_refl _)
      · replace hv := (if_neg hc).symm.trans hv
        refine lv_iload_n S.1 S.2.1 dX2_scriptLine_29 rfl (lv_at hl 2 rfl) ?_
        refine lv_iconst (v := (1 : Int32)) S.1 S.2.1 dX2_scriptLine_30 (by decide) ?_
        refine lv_iadd S.1 S.2.1 dX2_scriptLine_31 ?_
        refine lv_iconst (v := (-1 : Int32)) S.1 S.2.1 dX2_scriptLine_32 (by decide) ?_
        refine lv_ixor S.1 S.2.1 dX2_scriptLine_33 ?_
        replace hk := zz_fin hv hk
        obtain rfl := hR0 _ hk
        exact zz_iret S Z hret hlk dX2_scriptLine_34 (Nat.le_refl _) (Nat.le_refl _)
    · replace hv := (if_pos hc).symm.trans hv
      refine lv_iload_n S.1 S.2.1 dX2_scriptLine_13 rfl (lv_at hl 2 rfl) ?_
      refine lv_iconst (v := (-1 : Int32)) S.1 S.2.1 dX2_scriptLine_14 (by decide) ?_
      refine lv_ixor S.1 S.2.1 dX2_scriptLine_15 ?_
      replace hk := zz_fin hv hk
      obtain rfl := hR0 _ hk
      exact zz_iret S Z hret hlk dX2_scriptLine_16 (Nat.le_refl _) (Nat.le_refl _)
  rw [hH, hlo] at key
  exact key
