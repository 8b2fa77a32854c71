noncomputable def f_X12_wrongPattern_J104 (h : ZH) (a0 : Nat) (a1 : Int32) (x2_9 : Int32) (s10 : Int32) : Option ((Int32 × Int32) ⊕ (Int32)) :=
  some (.inl (x2_9 + (1 : Int32), s10))
noncomputable def f_X12_wrongPattern_J43 (h : ZH) (a0 : Nat) (a1 : Int32) (x2_6 : Int32) (x3_7 : Int32) (x4_8 : Int32) : Option ((Int32 × Int32) ⊕ (Int32)) :=
  if x3_7 = (3 : Int32) then (f_X12_wrongPattern_J104 h a0 a1 x2_6 (0 : Int32)) else (if x3_7 = (1 : Int32) then (f_X12_wrongPattern_J104 h a0 a1 x2_6 (2 : Int32)) else (if x3_7 = (2 : Int32) then (if x4_8 = (93 : Int32) then (f_X12_wrongPattern_J104 h a0 a1 x2_6 (0 : Int32)) else (f_X12_wrongPattern_J104 h a0 a1 x2_6 (2 : Int32))) else (if x4_8 = (91 : Int32) then (f_X12_wrongPattern_J104 h a0 a1 x2_6 (1 : Int32)) else (if x4_8 = (92 : Int32) then (f_X12_wrongPattern_J104 h a0 a1 x2_6 (3 : Int32)) else (f_X12_wrongPattern_J104 h a0 a1 x2_6 (0 : Int32))))))
noncomputable def f_X12_wrongPattern_L4 (h : ZH) (a0 : Nat) (a1 : Int32) (x2_1 : Int32) (x3_2 : Int32)  : Option ((Int32 × Int32) ⊕ (Int32)) :=
  zz_isO h a0 10 <| (f_X12_byteAt h a0 x2_1).bind fun v3 => if v3 = (10 : Int32) then ((if x3_2 = 0 then (some ((-1 : Int32))) else (some (x2_1))).map Sum.inr) else (zz_isO h a0 10 <| (f_X12_byteAt h a0 x2_1).bind fun v4 => (f_X12_isSign h v4).bind fun v5 => if v5 = 0 then ((some (x2_1)).map Sum.inr) else (if x3_2 = (1 : Int32) then (if v4 = (93 : Int32) then ((some (x2_1)).map Sum.inr) else (f_X12_wrongPattern_J43 h a0 a1 x2_1 x3_2 v4)) else (f_X12_wrongPattern_J43 h a0 a1 x2_1 x3_2 v4)))
noncomputable def f_X12_wrongPattern (h : ZH) (a0 : Nat) (a1 : Int32) : Option (Int32) :=
  zz_loop (fun st : (Int32 × Int32) => f_X12_wrongPattern_L4 h a0 a1 (st.1) (st.2)) (a1, (0 : Int32))
abbrev rm_X12_wrongPattern : Room := { frames := 2, cells := 0, slots := 0, locals := 45 }
set_option maxRecDepth 100000 in
set_option maxHeartbeats 4000000 in
theorem c_X12_wrongPattern {l : Launch} {D : va_G} {dA : Nat → ClassId} {A : Nat → Prop} {h : ZH} {n : Nat} (a0 : Nat) (a1 : Int32) {r : Int32} (hf : f_X12_wrongPattern h a0 a1 = some r) : Met l yX12_wrongPattern (zz_ws yX12_wrongPattern cX12_wrongPattern 5 (some .int)) rm_X12_wrongPattern (zz_P D dA A h n [.ref (a0), .int (a1)]) (zz_Q D dA A (some (.int r)) h n) 0 0 A := by
  refine zz_met (by decide) (Nat.le_of_ble_eq_true rfl) ?_
  intro p e s m args below meth c ls S K hret hlk hnm hl Z
  replace hl : lv_has ls 5 [(0, .ref (a0)), (1, .int (a1))] := hl
  obtain ⟨K0, hR0, hk⟩ : ∃ K0 : (Int32) → Prop, (∀ x, K0 x → x = r) ∧ K0 r := ⟨fun x => x = r, fun _ h => h, rfl⟩
  have L4 : ∀ (st : (Int32 × Int32)) (x : (Int32)), zz_loop (fun st : (Int32 × Int32) => f_X12_wrongPattern_L4 h a0 a1 (st.1) (st.2)) st = some x → K0 x → (fun st : (Int32 × Int32) => ∀ (H : Heap) (locs : List Loc) (ls : Array Slot), zz_B D dA A h n s.heap H locs → lv_has ls 5 [(0, .ref (a0)), (2, .int ((st.1))), (3, .int ((st.2)))] → zz_W p l e rm_X12_wrongPattern s m args below meth c D dA A (some (.int r)) h n 0 0 H locs 0 0 4 ls []) st := by
    refine zz_loop_go (K := K0) ?_
    intro K1 hP1 hR1
    have J104 : ∀ (x2_9 : Int32) (s10 : Int32) (x : ((Int32 × Int32) ⊕ (Int32))), f_X12_wrongPattern_J104 h a0 a1 x2_9 s10 = some x → K1 x → ∀ (H : Heap) (locs : List Loc) (ls : Array Slot), zz_B D dA A h n s.heap H locs → lv_has ls 5 [(0, .ref (a0)), (2, .int (x2_9))] → zz_W p l e rm_X12_wrongPattern s m args below meth c D dA A (some (.int r)) h n 0 0 H locs 0 0 104 ls [.int (s10)] := by
      intro x2_9 s10 x hv hk H locs ls Z hl
      unfold f_X12_wrongPattern_J104 at hv
      refine lv_istore_n (lv' := [(3, .int (s10)), (0, .ref (a0)), (2, .int (x2_9))]) S.1 S.2.1 dX12_wrongPattern_104 rfl hl (by decide) rfl (fun ls hl => ?_)
      refine lv_iinc (v := x2_9 + (1 : Int32)) (lv' := [(2, .int (x2_9 + (1 : Int32))), (3, .int (s10)), (0, .ref (a0))]) S.1 S.2.1 dX12_wrongPattern_105 hl (k := 2) rfl rfl (by decide) rfl (fun ls hl => ?_)
      refine lv_goto (tgt := 4) S.1 S.2.1 dX12_wrongPattern_108 (by decide) ?_
      replace hk := zz_fin hv hk
      exact hP1 _ hk H locs ls Z (lv_sub hl [2, 0, 1] rfl)
    have J43 : ∀ (x2_6 : Int32) (x3_7 : Int32) (x4_8 : Int32) (x : ((Int32 × Int32) ⊕ (Int32))), f_X12_wrongPattern_J43 h a0 a1 x2_6 x3_7 x4_8 = some x → K1 x → ∀ (H : Heap) (locs : List Loc) (ls : Array Slot), zz_B D dA A h n s.heap H locs → lv_has ls 5 [(0, .ref (a0)), (2, .int (x2_6)), (3, .int (x3_7)), (4, .int (x4_8))] → zz_W p l e rm_X12_wrongPattern s m args below meth c D dA A (some (.int r)) h n 0 0 H locs 0 0 43 ls [] := by
      intro x2_6 x3_7 x4_8 x hv hk H locs ls Z hl
      unfold f_X12_wrongPattern_J43 at hv
      refine lv_iload_n S.1 S.2.1 dX12_wrongPattern_43 rfl (lv_at hl 2 rfl) ?_
      refine lv_iconst (v := (3 : Int32)) S.1 S.2.1 dX12_wrongPattern_44 (by decide) ?_
      refine lv_icmp_ne (tgt := 52) S.1 S.2.1 dX12_wrongPattern_45 (by decide) (fun hc => ?_) (fun hc => ?_)
      · replace hv := (if_neg hc).symm.trans hv
        refine lv_iload_n S.1 S.2.1 dX12_wrongPattern_52 rfl (lv_at hl 2 rfl) ?_
        refine lv_iconst (v := (1 : Int32)) S.1 S.2.1 dX12_wrongPattern_53 (by decide) ?_
        refine lv_icmp_ne (tgt := 61) S.1 S.2.1 dX12_wrongPattern_54 (by decide) (fun hc => ?_) (fun hc => ?_)
        · replace hv := (if_neg hc).symm.trans hv
          refine lv_iload_n S.1 S.2.1 dX12_wrongPattern_61 rfl (lv_at hl 2 rfl) ?_
          refine lv_iconst (v := (2 : Int32)) S.1 S.2.1 dX12_wrongPattern_62 (by decide) ?_
          refine lv_icmp_ne (tgt := 81) S.1 S.2.1 dX12_wrongPattern_63 (by decide) (fun hc => ?_) (fun hc => ?_)
          · replace hv := (if_neg hc).symm.trans hv
            refine lv_iload S.1 S.2.1 dX12_wrongPattern_81 (lv_at hl 3 rfl) ?_
            refine lv_bipush (v := (91 : Int32)) S.1 S.2.1 dX12_wrongPattern_83 (by decide) ?_
            refine lv_icmp_ne (tgt := 92) S.1 S.2.1 dX12_wrongPattern_85 (by decide) (fun hc => ?_) (fun hc => ?_)
            · replace hv := (if_neg hc).symm.trans hv
              refine lv_iload S.1 S.2.1 dX12_wrongPattern_92 (lv_at hl 3 rfl) ?_
              refine lv_bipush (v := (92 : Int32)) S.1 S.2.1 dX12_wrongPattern_94 (by decide) ?_
              refine lv_icmp_ne (tgt := 103) S.1 S.2.1 dX12_wrongPattern_96 (by decide) (fun hc => ?_) (fun hc => ?_)
              · replace hv := (if_neg hc).symm.trans hv
                refine lv_iconst (v := (0 : Int32)) S.1 S.2.1 dX12_wrongPattern_103 (by decide) ?_
                exact J104 x2_6 (0 : Int32) _ hv hk H locs ls Z (lv_sub hl [0, 1] rfl)
              · replace hv := (if_pos hc).symm.trans hv
                refine lv_iconst (v := (3 : Int32)) S.1 S.2.1 dX12_wrongPattern_99 (by decide) ?_
                refine lv_goto (tgt := 104) S.1 S.2.1 dX12_wrongPattern_100 (by decide) ?_
                exact J104 x2_6 (3 : Int32) _ hv hk H locs ls Z (lv_sub hl [0, 1] rfl)
            · replace hv := (if_pos hc).symm.trans hv
              refine lv_iconst (v := (1 : Int32)) S.1 S.2.1 dX12_wrongPattern_88 (by decide) ?_
              refine lv_goto (tgt := 104) S.1 S.2.1 dX12_wrongPattern_89 (by decide) ?_
              exact J104 x2_6 (1 : Int32) _ hv hk H locs ls Z (lv_sub hl [0, 1] rfl)
          · replace hv := (if_pos hc).symm.trans hv
            refine lv_iload S.1 S.2.1 dX12_wrongPattern_66 (lv_at hl 3 rfl) ?_
            refine lv_bipush (v := (93 : Int32)) S.1 S.2.1 dX12_wrongPattern_68 (by decide) ?_
            refine lv_icmp_ne (tgt := 77) S.1 S.2.1 dX12_wrongPattern_70 (by decide) (fun hc => ?_) (fun hc => ?_)
            · replace hv := (if_neg hc).symm.trans hv
              refine lv_iconst (v := (2 : Int32)) S.1 S.2.1 dX12_wrongPattern_77 (by decide) ?_
              refine lv_goto (tgt := 104) S.1 S.2.1 dX12_wrongPattern_78 (by decide) ?_
              exact J104 x2_6 (2 : Int32) _ hv hk H locs ls Z (lv_sub hl [0, 1] rfl)
            · replace hv := (if_pos hc).symm.trans hv
              refine lv_iconst (v := (0 : Int32)) S.1 S.2.1 dX12_wrongPattern_73 (by decide) ?_
              refine lv_goto (tgt := 104) S.1 S.2.1 dX12_wrongPattern_74 (by decide) ?_
              exact J104 x2_6 (0 : Int32) _ hv hk H locs ls Z (lv_sub hl [0, 1] rfl)
        · replace hv := (if_pos hc).symm.trans hv
          refine lv_iconst (v := (2 : Int32)) S.1 S.2.1 dX12_wrongPattern_57 (by decide) ?_
          refine lv_goto (tgt := 104) S.1 S.2.1 dX12_wrongPattern_58 (by decide) ?_
          exact J104 x2_6 (2 : Int32) _ hv hk H locs ls Z (lv_sub hl [0, 1] rfl)
      · replace hv := (if_pos hc).symm.trans hv
        refine lv_iconst (v := (0 : Int32)) S.1 S.2.1 dX12_wrongPattern_48 (by decide) ?_
        refine lv_goto (tgt := 104) S.1 S.2.1 dX12_wrongPattern_49 (by decide) ?_
        exact J104 x2_6 (0 : Int32) _ hv hk H locs ls Z (lv_sub hl [0, 1] rfl)
    rintro ⟨x2_1, x3_2⟩ x hv hk H locs ls Z hl
    replace hv : f_X12_wrongPattern_L4 h a0 a1 x2_1 x3_2 = some x := hv
    unfold f_X12_wrongPattern_L4 at hv
    replace hl : lv_has ls 5 [(0, .ref (a0)), (2, .int (x2_1)), (3, .int (x3_2))] := hl
    replace Z : zz_B D dA A h n s.heap H locs := Z
    show zz_W p l e rm_X12_wrongPattern s m args below meth c D dA A (some (.int r)) h n 0 0 H locs 0 0 4 ls []
    refine lv_aload_n S.1 S.2.1 dX12_wrongPattern_4 rfl (lv_at hl 0 rfl) ?_
    refine lv_iload_n S.1 S.2.1 dX12_wrongPattern_5 rfl (lv_at hl 1 rfl) ?_
    obtain ⟨hci, hv⟩ := zz_isO_s hv
    obtain ⟨v3, hq, hv⟩ := zz_bd hv
    refine zz_V [.int (x2_1)] S K Z hci zc_10 rfl (c_X12_byteAt a0 x2_1 hq) ⟨rfl, rfl⟩ gm_X12_byteAt gmv_X12_byteAt gl_X12_184 ⟨by decide, by decide⟩ rfl hl.1 rfl (Nat.le_of_ble_eq_true rfl) dX12_wrongPattern_6 ⟨Nat.zero_le _, Nat.zero_le _⟩ (fun H locs Z => ?_)
    show W _ _ _ _ _ _ _ _ _ _ _ _ 0 0 _ (F0 m 9 ls [.int (v3)])
    refine lv_bipush (v := (10 : Int32)) S.1 S.2.1 dX12_wrongPattern_9 (by decide) ?_
    refine lv_icmp_eq (tgt := 111) S.1 S.2.1 dX12_wrongPattern_11 (by decide) (fun hc => ?_) (fun hc => ?_)
    · replace hv := (if_pos hc).symm.trans hv
      obtain ⟨_, hv, hk⟩ := zz_mapk hv hk
      replace hk := hR1 _ hk
      refine lv_iload_n S.1 S.2.1 dX12_wrongPattern_111 rfl (lv_at hl 2 rfl) ?_
      refine lv_if_ne (tgt := 119) S.1 S.2.1 dX12_wrongPattern_112 (by decide) (fun hc => ?_) (fun hc => ?_)
      · replace hv := (if_neg hc).symm.trans hv
        refine lv_iload_n S.1 S.2.1 dX12_wrongPattern_119 rfl (lv_at hl 1 rfl) ?_
        replace hk := zz_fin hv hk
        obtain rfl := hR0 _ hk
        exact zz_iret S Z hret hlk dX12_wrongPattern_120 (Nat.le_refl _) (Nat.le_refl _)
      · replace hv := (if_pos hc).symm.trans hv
        refine lv_iconst (v := (-1 : Int32)) S.1 S.2.1 dX12_wrongPattern_115 (by decide) ?_
        refine lv_goto (tgt := 120) S.1 S.2.1 dX12_wrongPattern_116 (by decide) ?_
        replace hk := zz_fin hv hk
        obtain rfl := hR0 _ hk
        exact zz_iret S Z hret hlk dX12_wrongPattern_120 (Nat.le_refl _) (Nat.le_refl _)
    · replace hv := (if_neg hc).symm.trans hv
      refine lv_aload_n S.1 S.2.1 dX12_wrongPattern_14 rfl (lv_at hl 0 rfl) ?_
      refine lv_iload_n S.1 S.2.1 dX12_wrongPattern_15 rfl (lv_at hl 1 rfl) ?_
      obtain ⟨hci, hv⟩ := zz_isO_s hv
      obtain ⟨v4, hq, hv⟩ := zz_bd hv
      refine zz_V [.int (x2_1)] S K Z hci zc_10 rfl (c_X12_byteAt a0 x2_1 hq) ⟨rfl, rfl⟩ gm_X12_byteAt gmv_X12_byteAt gl_X12_184 ⟨by decide, by decide⟩ rfl hl.1 rfl (Nat.le_of_ble_eq_true rfl) dX12_wrongPattern_16 ⟨Nat.zero_le _, Nat.zero_le _⟩ (fun H locs Z => ?_)
      show W _ _ _ _ _ _ _ _ _ _ _ _ 0 0 _ (F0 m 19 ls [.int (v4)])
      refine lv_istore (lv' := [(4, .int (v4)), (0, .ref (a0)), (2, .int (x2_1)), (3, .int (x3_2))]) S.1 S.2.1 dX12_wrongPattern_19 hl (by decide) rfl (fun ls hl => ?_)
      refine lv_iload S.1 S.2.1 dX12_wrongPattern_21 (lv_at hl 0 rfl) ?_
      obtain ⟨v5, hq, hv⟩ := zz_bd hv
      refine zz_S [.int (v4)] S K Z (c_X12_isSign v4 hq) ⟨rfl, rfl⟩ gm_X12_isSign gs_X12_isSign gl_X12_135 ⟨by decide, by decide⟩ rfl hl.1 rfl (Nat.le_of_ble_eq_true rfl) dX12_wrongPattern_23 ⟨Nat.zero_le _, Nat.zero_le _⟩ (fun H locs Z => ?_)
      show W _ _ _ _ _ _ _ _ _ _ _ _ 0 0 _ (F0 m 26 ls [.int (v5)])
      refine lv_if_eq (tgt := 41) S.1 S.2.1 dX12_wrongPattern_26 (by decide) (fun hc => ?_) (fun hc => ?_)
      · replace hv := (if_pos hc).symm.trans hv
        obtain ⟨_, hv, hk⟩ := zz_mapk hv hk
        replace hk := hR1 _ hk
        refine lv_iload_n S.1 S.2.1 dX12_wrongPattern_41 rfl (lv_at hl 2 rfl) ?_
        replace hk := zz_fin hv hk
        obtain rfl := hR0 _ hk
        exact zz_iret S Z hret hlk dX12_wrongPattern_42 (Nat.le_refl _) (Nat.le_refl _)
      · replace hv := (if_neg hc).symm.trans hv
        refine lv_iload_n S.1 S.2.1 dX12_wrongPattern_29 rfl (lv_at hl 3 rfl) ?_
        refine lv_iconst (v := (1 : Int32)) S.1 S.2.1 dX12_wrongPattern_30 (by decide) ?_
        refine lv_icmp_ne (tgt := 43) S.1 S.2.1 dX12_wrongPattern_31 (by decide) (fun hc => ?_) (fun hc => ?_)
        · replace hv := (if_neg hc).symm.trans hv
          exact J43 x2_1 x3_2 v4 _ hv hk H locs ls Z (lv_sub hl [1, 2, 3, 0] rfl)
        · replace hv := (if_pos hc).symm.trans hv
          refine lv_iload S.1 S.2.1 dX12_wrongPattern_34 (lv_at hl 0 rfl) ?_
          refine lv_bipush (v := (93 : Int32)) S.1 S.2.1 dX12_wrongPattern_36 (by decide) ?_
          refine lv_icmp_ne (tgt := 43) S.1 S.2.1 dX12_wrongPattern_38 (by decide) (fun hc => ?_) (fun hc => ?_)
          · replace hv := (if_neg hc).symm.trans hv
            exact J43 x2_1 x3_2 v4 _ hv hk H locs ls Z (lv_sub hl [1, 2, 3, 0] rfl)
          · replace hv := (if_pos hc).symm.trans hv
            obtain ⟨_, hv, hk⟩ := zz_mapk hv hk
            replace hk := hR1 _ hk
            refine lv_iload_n S.1 S.2.1 dX12_wrongPattern_41 rfl (lv_at hl 2 rfl) ?_
            replace hk := zz_fin hv hk
            obtain rfl := hR0 _ hk
            exact zz_iret S Z hret hlk dX12_wrongPattern_42 (Nat.le_refl _) (Nat.le_refl _)
  have hv := hf
  unfold f_X12_wrongPattern at hv
  clear hf
  obtain ⟨x, hxx⟩ : ∃ x, x = r := ⟨_, rfl⟩
  rw [← hxx] at hv hk
  have ⟨H, hH⟩ : ∃ H, H = s.heap := ⟨_, rfl⟩
  have ⟨locs, hlo⟩ : ∃ q : List Loc, q = [] := ⟨_, rfl⟩
  have Z : zz_B D dA A h n s.heap H locs := by rw [hH, hlo]; exact Z
  have key : zz_W p l e rm_X12_wrongPattern s m args below meth c D dA A (some (.int r)) h n 0 0 H locs 0 0 0 ls [] := by
    clear hH hlo hxx
    refine lv_iload_n S.1 S.2.1 dX12_wrongPattern_0 rfl (lv_at hl 1 rfl) ?_
    refine lv_istore_n (lv' := [(2, .int (a1)), (0, .ref (a0)), (1, .int (a1))]) S.1 S.2.1 dX12_wrongPattern_1 rfl hl (by decide) rfl (fun ls hl => ?_)
    refine lv_iconst (v := (0 : Int32)) S.1 S.2.1 dX12_wrongPattern_2 (by decide) ?_
    refine lv_istore_n (lv' := [(3, .int ((0 : Int32))), (2, .int (a1)), (0, .ref (a0)), (1, .int (a1))]) S.1 S.2.1 dX12_wrongPattern_3 rfl hl (by decide) rfl (fun ls hl => ?_)
    exact L4  (a1, (0 : Int32)) _ hv hk H locs ls Z (lv_sub hl [2, 1, 0] rfl)
  rw [hH, hlo] at key
  exact key

noncomputable def f_X12_wrongFlag_J93 (h : ZH) (a0 : Nat) (a1 : Int32) (x2_13 : Int32) (x3_14 : Int32) : Option (Int32) :=
  if x3_14 ≤ 0 then (some (x2_13)) else (zz_isO h a0 10 <| (f_X12_byteAt h a0 x2_13).bind fun v15 => if v15 = (10 : Int32) then (some ((-1 : Int32))) else (some (x2_13)))
noncomputable def f_X12_wrongFlag_L60 (h : ZH) (a0 : Nat) (a1 : Int32) (x2_9 : Int32) (x3_10 : Int32)  : Option ((Int32 × Int32) ⊕ (Int32)) :=
  zz_isO h a0 10 <| (f_X12_byteAt h a0 x2_9).bind fun v11 => (f_X12_in h (v11.toInt64) (48 : Int64) (57 : Int64)).bind fun v12 => if v12 = 0 then ((f_X12_wrongFlag_J93 h a0 a1 x2_9 x3_10).map Sum.inr) else (if (6 : Int32) ≤ x3_10 then ((f_X12_wrongFlag_J93 h a0 a1 x2_9 x3_10).map Sum.inr) else (some (.inl (x2_9 + (1 : Int32), x3_10 + (1 : Int32)))))
noncomputable def f_X12_wrongFlag_J56 (h : ZH) (a0 : Nat) (a1 : Int32) (s6 : Int32) (s7 : Int32) : Option (Int32) :=
  zz_let (s7 + s6) fun v8 => zz_loop (fun st : (Int32 × Int32) => f_X12_wrongFlag_L60 h a0 a1 (st.1) (st.2)) (v8, (0 : Int32))
noncomputable def f_X12_wrongFlag (h : ZH) (a0 : Nat) (a1 : Int32) : Option (Int32) :=
  zz_isO h a0 10 <| (f_X12_byteAt h a0 a1).bind fun v1 => (f_X12_in h (v1.toInt64) (48 : Int64) (55 : Int64)).bind fun v2 => if v2 = 0 then (some (a1)) else (zz_isO h a0 10 <| (f_X12_byteAt h a0 (a1 + (1 : Int32))).bind fun v3 => if v3 = (32 : Int32) then (zz_let (a1 + (2 : Int32)) fun v4 => zz_isO h a0 10 <| (f_X12_byteAt h a0 v4).bind fun v5 => if v5 = (45 : Int32) then (f_X12_wrongFlag_J56 h a0 a1 (1 : Int32) v4) else (f_X12_wrongFlag_J56 h a0 a1 (0 : Int32) v4)) else (some (a1 + (1 : Int32))))
abbrev rm_X12_wrongFlag : Room := { frames := 1, cells := 0, slots := 0, locals := 25 }
set_option maxRecDepth 100000 in
set_option maxHeartbeats 4000000 in
theorem c_X12_wrongFlag {l : Launch} {D : va_G} {dA : Nat → ClassId} {A : Nat → Prop} {h : ZH} {n : Nat} (a0 : Nat) (a1 : Int32) {r : Int32} (hf : f_X12_wrongFlag h a0 a1 = some r) : Met l yX12_wrongFlag (zz_ws yX12_wrongFlag cX12_wrongFlag 4 (some .int)) rm_X12_wrongFlag (zz_P D dA A h n [.ref (a0), .int (a1)]) (zz_Q D dA A (some (.int r)) h n) 0 0 A := by
  refine zz_met (by decide) (Nat.le_of_ble_eq_true rfl) ?_
  intro p e s m args below meth c ls S K hret hlk hnm hl Z
  replace hl : lv_has ls 4 [(0, .ref (a0)), (1, .int (a1))] := hl
  obtain ⟨K0, hR0, hk⟩ : ∃ K0 : (Int32) → Prop, (∀ x, K0 x → x = r) ∧ K0 r := ⟨fun x => x = r, fun _ h => h, rfl⟩
  have J93 : ∀ (x2_13 : Int32) (x3_14 : Int32) (x : (Int32)), f_X12_wrongFlag_J93 h a0 a1 x2_13 x3_14 = some x → K0 x → ∀ (H : Heap) (locs : List Loc) (ls : Array Slot), zz_B D dA A h n s.heap H locs → lv_has ls 4 [(0, .ref (a0)), (2, .int (x2_13)), (3, .int (x3_14))] → zz_W p l e rm_X12_wrongFlag s m args below meth c D dA A (some (.int r)) h n 0 0 H locs 0 0 93 ls [] := by
    intro x2_13 x3_14 x hv hk H locs ls Z hl
    unfold f_X12_wrongFlag_J93 at hv
    refine lv_iload_n S.1 S.2.1 dX12_wrongFlag_93 rfl (lv_at hl 2 rfl) ?_
    refine lv_if_le (tgt := 111) S.1 S.2.1 dX12_wrongFlag_94 (by decide) (fun hc => ?_) (fun hc => ?_)
    · replace hv := (if_pos hc).symm.trans hv
      refine lv_iload_n S.1 S.2.1 dX12_wrongFlag_111 rfl (lv_at hl 1 rfl) ?_
      replace hk := zz_fin hv hk
      obtain rfl := hR0 _ hk
      exact zz_iret S Z hret hlk dX12_wrongFlag_112 (Nat.le_refl _) (Nat.le_refl _)
    · replace hv := (if_neg hc).symm.trans hv
      refine lv_aload_n S.1 S.2.1 dX12_wrongFlag_97 rfl (lv_at hl 0 rfl) ?_
      refine lv_iload_n S.1 S.2.1 dX12_wrongFlag_98 rfl (lv_at hl 1 rfl) ?_
      obtain ⟨hci, hv⟩ := zz_isO_s hv
      obtain ⟨v15, hq, hv⟩ := zz_bd hv
      refine zz_V [.int (x2_13)] S K Z hci zc_10 rfl (c_X12_byteAt a0 x2_13 hq) ⟨rfl, rfl⟩ gm_X12_byteAt gmv_X12_byteAt gl_X12_184 ⟨by decide, by decide⟩ rfl hl.1 rfl (Nat.le_of_ble_eq_true rfl) dX12_wrongFlag_99 ⟨Nat.zero_le _, Nat.zero_le _⟩ (fun H locs Z => ?_)
      show W _ _ _ _ _ _ _ _ _ _ _ _ 0 0 _ (F0 m 102 ls [.int (v15)])
      refine lv_bipush (v := (10 : Int32)) S.1 S.2.1 dX12_wrongFlag_102 (by decide) ?_
      refine lv_icmp_ne (tgt := 111) S.1 S.2.1 dX12_wrongFlag_104 (by decide) (fun hc => ?_) (fun hc => ?_)
      · replace hv := (if_neg hc).symm.trans hv
        refine lv_iload_n S.1 S.2.1 dX12_wrongFlag_111 rfl (lv_at hl 1 rfl) ?_
        replace hk := zz_fin hv hk
        obtain rfl := hR0 _ hk
        exact zz_iret S Z hret hlk dX12_wrongFlag_112 (Nat.le_refl _) (Nat.le_refl _)
      · replace hv := (if_pos hc).symm.trans hv
        refine lv_iconst (v := (-1 : Int32)) S.1 S.2.1 dX12_wrongFlag_107 (by decide) ?_
        refine lv_goto (tgt := 112) S.1 S.2.1 dX12_wrongFlag_108 (by decide) ?_
        replace hk := zz_fin hv hk
        obtain rfl := hR0 _ hk
        exact zz_iret S Z hret hlk dX12_wrongFlag_112 (Nat.le_refl _) (Nat.le_refl _)
  have L60 : ∀ (st : (Int32 × Int32)) (x : (Int32)), zz_loop (fun st : (Int32 × Int32) => f_X12_wrongFlag_L60 h a0 a1 (st.1) (st.2)) st = some x → K0 x → (fun st : (Int32 × Int32) => ∀ (H : Heap) (locs : List Loc) (ls : Array Slot), zz_B D dA A h n s.heap H locs → lv_has ls 4 [(0, .ref (a0)), (2, .int ((st.1))), (3, .int ((st.2)))] → zz_W p l e rm_X12_wrongFlag s m args below meth c D dA A (some (.int r)) h n 0 0 H locs 0 0 60 ls []) st := by
    refine zz_loop_go (K := K0) ?_
    intro K1 hP1 hR1
    rintro ⟨x2_9, x3_10⟩ x hv hk H locs ls Z hl
    replace hv : f_X12_wrongFlag_L60 h a0 a1 x2_9 x3_10 = some x := hv
    unfold f_X12_wrongFlag_L60 at hv
    replace hl : lv_has ls 4 [(0, .ref (a0)), (2, .int (x2_9)), (3, .int (x3_10))] := hl
    replace Z : zz_B D dA A h n s.heap H locs := Z
    show zz_W p l e rm_X12_wrongFlag s m args below meth c D dA A (some (.int r)) h n 0 0 H locs 0 0 60 ls []
    refine lv_aload_n S.1 S.2.1 dX12_wrongFlag_60 rfl (lv_at hl 0 rfl) ?_
    refine lv_iload_n S.1 S.2.1 dX12_wrongFlag_61 rfl (lv_at hl 1 rfl) ?_
    obtain ⟨hci, hv⟩ := zz_isO_s hv
    obtain ⟨v11, hq, hv⟩ := zz_bd hv
    refine zz_V [.int (x2_9)] S K Z hci zc_10 rfl (c_X12_byteAt a0 x2_9 hq) ⟨rfl, rfl⟩ gm_X12_byteAt gmv_X12_byteAt gl_X12_184 ⟨by decide, by decide⟩ rfl hl.1 rfl (Nat.le_of_ble_eq_true rfl) dX12_wrongFlag_62 ⟨Nat.zero_le _, Nat.zero_le _⟩ (fun H locs Z => ?_)
    show W _ _ _ _ _ _ _ _ _ _ _ _ 0 0 _ (F0 m 65 ls [.int (v11)])
    refine lv_i2l S.1 S.2.1 dX12_wrongFlag_65 rfl ?_
    refine lv_ldc2 (v := (48 : Int64)) S.1 S.2.1 S.2.2.2.1 (S.2.2.2.2 _ gk_X12_187) dX12_wrongFlag_66 ?_
    refine lv_ldc2 (v := (57 : Int64)) S.1 S.2.1 S.2.2.2.1 (S.2.2.2.2 _ gk_X12_191) dX12_wrongFlag_69 ?_
    obtain ⟨v12, hq, hv⟩ := zz_bd hv
    refine zz_S [.long (v11.toInt64), .long ((48 : Int64)), .long ((57 : Int64))] S K Z (c_X12_in (v11.toInt64) (48 : Int64) (57 : Int64) hq) ⟨rfl, rfl⟩ gm_X12_in gs_X12_in gl_X12_105 ⟨by decide, by decide⟩ rfl hl.1 rfl (Nat.le_of_ble_eq_true rfl) dX12_wrongFlag_72 ⟨Nat.zero_le _, Nat.zero_le _⟩ (fun H locs Z => ?_)
    show W _ _ _ _ _ _ _ _ _ _ _ _ 0 0 _ (F0 m 75 ls [.int (v12)])
    refine lv_if_eq (tgt := 93) S.1 S.2.1 dX12_wrongFlag_75 (by decide) (fun hc => ?_) (fun hc => ?_)
    · replace hv := (if_pos hc).symm.trans hv
      obtain ⟨_, hv, hk⟩ := zz_mapk hv hk
      replace hk := hR1 _ hk
      exact J93 x2_9 x3_10 _ hv hk H locs ls Z (lv_sub hl [0, 1, 2] rfl)
    · replace hv := (if_neg hc).symm.trans hv
      refine lv_iload_n S.1 S.2.1 dX12_wrongFlag_78 rfl (lv_at hl 2 rfl) ?_
      refine lv_bipush (v := (6 : Int32)) S.1 S.2.1 dX12_wrongFlag_79 (by decide) ?_
      refine lv_icmp_ge (tgt := 93) S.1 S.2.1 dX12_wrongFlag_81 (by decide) (fun hc => ?_) (fun hc => ?_)
      · replace hv := (if_pos hc).symm.trans hv
        obtain ⟨_, hv, hk⟩ := zz_mapk hv hk
        replace hk := hR1 _ hk
        exact J93 x2_9 x3_10 _ hv hk H locs ls Z (lv_sub hl [0, 1, 2] rfl)
      · replace hv := (if_neg hc).symm.trans hv
        refine lv_iinc (v := x3_10 + (1 : Int32)) (lv' := [(3, .int (x3_10 + (1 : Int32))), (0, .ref (a0)), (2, .int (x2_9))]) S.1 S.2.1 dX12_wrongFlag_84 hl (k := 2) rfl rfl (by decide) rfl (fun ls hl => ?_)
        refine lv_iinc (v := x2_9 + (1 : Int32)) (lv' := [(2, .int (x2_9 + (1 : Int32))), (3, .int (x3_10 + (1 : Int32))), (0, .ref (a0))]) S.1 S.2.1 dX12_wrongFlag_87 hl (k := 2) rfl rfl (by decide) rfl (fun ls hl => ?_)
        refine lv_goto (tgt := 60) S.1 S.2.1 dX12_wrongFlag_90 (by decide) ?_
        replace hk := zz_fin hv hk
        exact hP1 _ hk H locs ls Z (lv_sub hl [2, 0, 1] rfl)
  have J56 : ∀ (s6 : Int32) (s7 : Int32) (x : (Int32)), f_X12_wrongFlag_J56 h a0 a1 s6 s7 = some x → K0 x → ∀ (H : Heap) (locs : List Loc) (ls : Array Slot), zz_B D dA A h n s.heap H locs → lv_has ls 4 [(0, .ref (a0))] → zz_W p l e rm_X12_wrongFlag s m args below meth c D dA A (some (.int r)) h n 0 0 H locs 0 0 56 ls [.int (s6), .int (s7)] := by
    intro s6 s7 x hv hk H locs ls Z hl
    unfold f_X12_wrongFlag_J56 at hv
    refine lv_iadd S.1 S.2.1 dX12_wrongFlag_56 ?_
    refine zz_lt hv (G := fun w => W _ _ _ _ _ _ _ _ _ _ _ _ _ _ _ (F0 _ _ _ (.int w :: _))) (fun v8 hv => ?_)
    refine lv_istore_n (lv' := [(2, .int (v8)), (0, .ref (a0))]) S.1 S.2.1 dX12_wrongFlag_57 rfl hl (by decide) rfl (fun ls hl => ?_)
    refine lv_iconst (v := (0 : Int32)) S.1 S.2.1 dX12_wrongFlag_58 (by decide) ?_
    refine lv_istore_n (lv' := [(3, .int ((0 : Int32))), (2, .int (v8)), (0, .ref (a0))]) S.1 S.2.1 dX12_wrongFlag_59 rfl hl (by decide) rfl (fun ls hl => ?_)
    exact L60  (v8, (0 : Int32)) _ hv hk H locs ls Z (lv_sub hl [2, 1, 0] rfl)
  have hv := hf
  unfold f_X12_wrongFlag at hv
  clear hf
  obtain ⟨x, hxx⟩ : ∃ x, x = r := ⟨_, rfl⟩
  rw [← hxx] at hv hk
  have ⟨H, hH⟩ : ∃ H, H = s.heap := ⟨_, rfl⟩
  have ⟨locs, hlo⟩ : ∃ q : List Loc, q = [] := ⟨_, rfl⟩
  have Z : zz_B D dA A h n s.heap H locs := by rw [hH, hlo]; exact Z
  have key : zz_W p l e rm_X12_wrongFlag s m args below meth c D dA A (some (.int r)) h n 0 0 H locs 0 0 0 ls [] := by
    clear hH hlo hxx
    refine lv_aload_n S.1 S.2.1 dX12_wrongFlag_0 rfl (lv_at hl 0 rfl) ?_
    refine lv_iload_n S.1 S.2.1 dX12_wrongFlag_1 rfl (lv_at hl 1 rfl) ?_
    obtain ⟨hci, hv⟩ := zz_isO_s hv
    obtain ⟨v1, hq, hv⟩ := zz_bd hv
    refine zz_V [.int (a1)] S K Z hci zc_10 rfl (c_X12_byteAt a0 a1 hq) ⟨rfl, rfl⟩ gm_X12_byteAt gmv_X12_byteAt gl_X12_184 ⟨by decide, by decide⟩ rfl hl.1 rfl (Nat.le_of_ble_eq_true rfl) dX12_wrongFlag_2 ⟨Nat.zero_le _, Nat.zero_le _⟩ (fun H locs Z => ?_)
    show W _ _ _ _ _ _ _ _ _ _ _ _ 0 0 _ (F0 m 5 ls [.int (v1)])
    refine lv_i2l S.1 S.2.1 dX12_wrongFlag_5 rfl ?_
    refine lv_ldc2 (v := (48 : Int64)) S.1 S.2.1 S.2.2.2.1 (S.2.2.2.2 _ gk_X12_187) dX12_wrongFlag_6 ?_
    refine lv_ldc2 (v := (55 : Int64)) S.1 S.2.1 S.2.2.2.1 (S.2.2.2.2 _ gk_X12_189) dX12_wrongFlag_9 ?_
    obtain ⟨v2, hq, hv⟩ := zz_bd hv
    refine zz_S [.long (v1.toInt64), .long ((48 : Int64)), .long ((55 : Int64))] S K Z (c_X12_in (v1.toInt64) (48 : Int64) (55 : Int64) hq) ⟨rfl, rfl⟩ gm_X12_in gs_X12_in gl_X12_105 ⟨by decide, by decide⟩ rfl hl.1 rfl (Nat.le_of_ble_eq_true rfl) dX12_wrongFlag_12 ⟨Nat.zero_le _, Nat.zero_le _⟩ (fun H locs Z => ?_)
    show W _ _ _ _ _ _ _ _ _ _ _ _ 0 0 _ (F0 m 15 ls [.int (v2)])
    refine lv_if_ne (tgt := 20) S.1 S.2.1 dX12_wrongFlag_15 (by decide) (fun hc => ?_) (fun hc => ?_)
    · replace hv := (if_neg hc).symm.trans hv
      refine lv_aload_n S.1 S.2.1 dX12_wrongFlag_20 rfl (lv_at hl 0 rfl) ?_
      refine lv_iload_n S.1 S.2.1 dX12_wrongFlag_21 rfl (lv_at hl 1 rfl) ?_
      refine lv_iconst (v := (1 : Int32)) S.1 S.2.1 dX12_wrongFlag_22 (by decide) ?_
      refine lv_iadd S.1 S.2.1 dX12_wrongFlag_23 ?_
      obtain ⟨hci, hv⟩ := zz_isO_s hv
      obtain ⟨v3, hq, hv⟩ := zz_bd hv
      refine zz_V [.int (a1 + (1 : Int32))] S K Z hci zc_10 rfl (c_X12_byteAt a0 (a1 + (1 : Int32)) hq) ⟨rfl, rfl⟩ gm_X12_byteAt gmv_X12_byteAt gl_X12_184 ⟨by decide, by decide⟩ rfl hl.1 rfl (Nat.le_of_ble_eq_true rfl) dX12_wrongFlag_24 ⟨Nat.zero_le _, Nat.zero_le _⟩ (fun H locs Z => ?_)
      show W _ _ _ _ _ _ _ _ _ _ _ _ 0 0 _ (F0 m 27 ls [.int (v3)])
      refine lv_bipush (v := (32 : Int32)) S.1 S.2.1 dX12_wrongFlag_27 (by decide) ?_
      refine lv_icmp_eq (tgt := 36) S.1 S.2.1 dX12_wrongFlag_29 (by decide) (fun hc => ?_) (fun hc => ?_)
      · replace hv := (if_pos hc).symm.trans hv
        refine lv_iload_n S.1 S.2.1 dX12_wrongFlag_36 rfl (lv_at hl 1 rfl) ?_
        refine lv_iconst (v := (2 : Int32)) S.1 S.2.1 dX12_wrongFlag_37 (by decide) ?_
        refine lv_iadd S.1 S.2.1 dX12_wrongFlag_38 ?_
        refine zz_lt hv (G := fun w => W _ _ _ _ _ _ _ _ _ _ _ _ _ _ _ (F0 _ _ _ (.int w :: _))) (fun v4 hv => ?_)
        refine lv_istore_n (lv' := [(2, .int (v4)), (0, .ref (a0)), (1, .int (a1))]) S.1 S.2.1 dX12_wrongFlag_39 rfl hl (by decide) rfl (fun ls hl => ?_)
        refine lv_iload_n S.1 S.2.1 dX12_wrongFlag_40 rfl (lv_at hl 0 rfl) ?_
        refine lv_aload_n S.1 S.2.1 dX12_wrongFlag_41 rfl (lv_at hl 1 rfl) ?_
        refine lv_iload_n S.1 S.2.1 dX12_wrongFlag_42 rfl (lv_at hl 0 rfl) ?_
        obtain ⟨hci, hv⟩ := zz_isO_s hv
        obtain ⟨v5, hq, hv⟩ := zz_bd hv
        refine zz_V [.int (v4)] S K Z hci zc_10 rfl (c_X12_byteAt a0 v4 hq) ⟨rfl, rfl⟩ gm_X12_byteAt gmv_X12_byteAt gl_X12_184 ⟨by decide, by decide⟩ rfl hl.1 rfl (Nat.le_of_ble_eq_true rfl) dX12_wrongFlag_43 ⟨Nat.zero_le _, Nat.zero_le _⟩ (fun H locs Z => ?_)
        show W _ _ _ _ _ _ _ _ _ _ _ _ 0 0 _ (F0 m 46 ls [.int (v5), .int (v4)])
        refine lv_bipush (v := (45 : Int32)) S.1 S.2.1 dX12_wrongFlag_46 (by decide) ?_
        refine lv_icmp_ne (tgt := 55) S.1 S.2.1 dX12_wrongFlag_48 (by decide) (fun hc => ?_) (fun hc => ?_)
        · replace hv := (if_neg hc).symm.trans hv
          refine lv_iconst (v := (0 : Int32)) S.1 S.2.1 dX12_wrongFlag_55 (by decide) ?_
          exact J56 (0 : Int32) v4 _ hv hk H locs ls Z (lv_sub hl [1] rfl)
        · replace hv := (if_pos hc).symm.trans hv
          refine lv_iconst (v := (1 : Int32)) S.1 S.2.1 dX12_wrongFlag_51 (by decide) ?_
          refine lv_goto (tgt := 56) S.1 S.2.1 dX12_wrongFlag_52 (by decide) ?_
          exact J56 (1 : Int32) v4 _ hv hk H locs ls Z (lv_sub hl [1] rfl)
      · replace hv := (if_neg hc).symm.trans hv
        refine lv_iload_n S.1 S.2.1 dX12_wrongFlag_32 rfl (lv_at hl 1 rfl) ?_
        refine lv_iconst (v := (1 : Int32)) S.1 S.2.1 dX12_wrongFlag_33 (by decide) ?_
        refine lv_iadd S.1 S.2.1 dX12_wrongFlag_34 ?_
        replace hk := zz_fin hv hk
        obtain rfl := hR0 _ hk
        exact zz_iret S Z hret hlk dX12_wrongFlag_35 (Nat.le_refl _) (Nat.le_refl _)
    · replace hv := (if_pos hc).symm.trans hv
      refine lv_iload_n S.1 S.2.1 dX12_wrongFlag_18 rfl (lv_at hl 1 rfl) ?_
      replace hk := zz_fin hv hk
      obtain rfl := hR0 _ hk
      exact zz_iret S Z hret hlk dX12_wrongFlag_19 (Nat.le_refl _) (Nat.le_refl _)
  rw [hH, hlo] at key
  exact key

noncomputable def f_X12_wrongDigit (h : ZH) (a0 : Nat) (a1 : Int32) (a2 : Int32) (a3 : Int32) : Option (Int32) :=
  zz_isO h a0 10 <| (f_X12_byteAt h a0 a1).bind fun v1 => (f_X12_in h (v1.toInt64) (a2.toInt64) (a3.toInt64)).bind fun v2 => if v2 = 0 then (some (a1)) else (zz_isO h a0 10 <| (f_X12_byteAt h a0 (a1 + (1 : Int32))).bind fun v3 => if v3 = (10 : Int32) then (some ((-1 : Int32))) else (some (a1 + (1 : Int32))))
abbrev rm_X12_wrongDigit : Room := { frames := 1, cells := 0, slots := 0, locals := 25 }
set_option maxRecDepth 100000 in
set_option maxHeartbeats 4000000 in
theorem c_X12_wrongDigit {l : Launch} {D : va_G} {dA : Nat → ClassId} {A : Nat → Prop} {h : ZH} {n : Nat} (a0 : Nat) (a1 : Int32) (a2 : Int32) (a3 : Int32) {r : Int32} (hf : f_X12_wrongDigit h a0 a1 a2 a3 = some r) : Met l yX12_wrongDigit (zz_ws yX12_wrongDigit cX12_wrongDigit 4 (some .int)) rm_X12_wrongDigit (zz_P D dA A h n [.ref (a0), .int (a1), .int (a2), .int (a3)]) (zz_Q D dA A (some (.int r)) h n) 0 0 A := by
  refine zz_met (by decide) (Nat.le_of_ble_eq_true rfl) ?_
  intro p e s m args below meth c ls S K hret hlk hnm hl Z
  replace hl : lv_has ls 4 [(0, .ref (a0)), (1, .int (a1)), (2, .int (a2)), (3, .int (a3))] := hl
  obtain ⟨K0, hR0, hk⟩ : ∃ K0 : (Int32) → Prop, (∀ x, K0 x → x = r) ∧ K0 r := ⟨fun x => x = r, fun _ h => h, rfl⟩
  have hv := hf
  unfold f_X12_wrongDigit at hv
  clear hf
  obtain ⟨x, hxx⟩ : ∃ x, x = r := ⟨_, rfl⟩
  rw [← hxx] at hv hk
  have ⟨H, hH⟩ : ∃ H, H = s.heap := ⟨_, rfl⟩
  have ⟨locs, hlo⟩ : ∃ q : List Loc, q = [] := ⟨_, rfl⟩
  have Z : zz_B D dA A h n s.heap H locs := by rw [hH, hlo]; exact Z
  have key : zz_W p l e rm_X12_wrongDigit s m args below meth c D dA A (some (.int r)) h n 0 0 H locs 0 0 0 ls [] := by
    clear hH hlo hxx
    refine lv_aload_n S.1 S.2.1 dX12_wrongDigit_0 rfl (lv_at hl 0 rfl) ?_
    refine lv_iload_n S.1 S.2.1 dX12_wrongDigit_1 rfl (lv_at hl 1 rfl) ?_
    obtain ⟨hci, hv⟩ := zz_isO_s hv
    obtain ⟨v1, hq, hv⟩ := zz_bd hv
    refine zz_V [.int (a1)] S K Z hci zc_10 rfl (c_X12_byteAt a0 a1 hq) ⟨rfl, rfl⟩ gm_X12_byteAt gmv_X12_byteAt gl_X12_184 ⟨by decide, by decide⟩ rfl hl.1 rfl (Nat.le_of_ble_eq_true rfl) dX12_wrongDigit_2 ⟨Nat.zero_le _, Nat.zero_le _⟩ (fun H locs Z => ?_)
    show W _ _ _ _ _ _ _ _ _ _ _ _ 0 0 _ (F0 m 5 ls [.int (v1)])
    refine lv_i2l S.1 S.2.1 dX12_wrongDigit_5 rfl ?_
    refine lv_iload_n S.1 S.2.1 dX12_wrongDigit_6 rfl (lv_at hl 2 rfl) ?_
    refine lv_i2l S.1 S.2.1 dX12_wrongDigit_7 rfl ?_
    refine lv_iload_n S.1 S.2.1 dX12_wrongDigit_8 rfl (lv_at hl 3 rfl) ?_
    refine lv_i2l S.1 S.2.1 dX12_wrongDigit_9 rfl ?_
    obtain ⟨v2, hq, hv⟩ := zz_bd hv
    refine zz_S [.long (v1.toInt64), .long (a2.toInt64), .long (a3.toInt64)] S K Z (c_X12_in (v1.toInt64) (a2.toInt64) (a3.toInt64) hq) ⟨rfl, rfl⟩ gm_X12_in gs_X12_in gl_X12_105 ⟨by decide, by decide⟩ rfl hl.1 rfl (Nat.le_of_ble_eq_true rfl) dX12_wrongDigit_10 ⟨Nat.zero_le _, Nat.zero_le _⟩ (fun H locs Z => ?_)
    show W _ _ _ _ _ _ _ _ _ _ _ _ 0 0 _ (F0 m 13 ls [.int (v2)])
    refine lv_if_ne (tgt := 20) S.1 S.2.1 dX12_wrongDigit_13 (by decide) (fun hc => ?_) (fun hc => ?_)
    · replace hv := (if_neg hc).symm.trans hv
      refine lv_aload_n S.1 S.2.1 dX12_wrongDigit_20 rfl (lv_at hl 0 rfl) ?_
      refine lv_iload_n S.1 S.2.1 dX12_wrongDigit_21 rfl (lv_at hl 1 rfl) ?_
      refine lv_iconst (v := (1 : Int32)) S.1 S.2.1 dX12_wrongDigit_22 (by decide) ?_
      refine lv_iadd S.1 S.2.1 dX12_wrongDigit_23 ?_
      obtain ⟨hci, hv⟩ := zz_isO_s hv
      obtain ⟨v3, hq, hv⟩ := zz_bd hv
      refine zz_V [.int (a1 + (1 : Int32))] S K Z hci zc_10 rfl (c_X12_byteAt a0 (a1 + (1 : Int32)) hq) ⟨rfl, rfl⟩ gm_X12_byteAt gmv_X12_byteAt gl_X12_184 ⟨by decide, by decide⟩ rfl hl.1 rfl (Nat.le_of_ble_eq_true rfl) dX12_wrongDigit_24 ⟨Nat.zero_le _, Nat.zero_le _⟩ (fun H locs Z => ?_)
      show W _ _ _ _ _ _ _ _ _ _ _ _ 0 0 _ (F0 m 27 ls [.int (v3)])
      refine lv_bipush (v := (10 : Int32)) S.1 S.2.1 dX12_wrongDigit_27 (by decide) ?_
      refine lv_icmp_eq (tgt := 38) S.1 S.2.1 dX12_wrongDigit_29 (by decide) (fun hc => ?_) (fun hc => ?_)
      · replace hv := (if_pos hc).symm.trans hv
        refine lv_iconst (v := (-1 : Int32)) S.1 S.2.1 dX12_wrongDigit_38 (by decide) ?_
        replace hk := zz_fin hv hk
        obtain rfl := hR0 _ hk
        exact zz_iret S Z hret hlk dX12_wrongDigit_39 (Nat.le_refl _) (Nat.le_refl _)
      · replace hv := (if_neg hc).symm.trans hv
        refine lv_iload_n S.1 S.2.1 dX12_wrongDigit_32 rfl (lv_at hl 1 rfl) ?_
        refine lv_iconst (v := (1 : Int32)) S.1 S.2.1 dX12_wrongDigit_33 (by decide) ?_
        refine lv_iadd S.1 S.2.1 dX12_wrongDigit_34 ?_
        refine lv_goto (tgt := 39) S.1 S.2.1 dX12_wrongDigit_35 (by decide) ?_
        replace hk := zz_fin hv hk
        obtain rfl := hR0 _ hk
        exact zz_iret S Z hret hlk dX12_wrongDigit_39 (Nat.le_refl _) (Nat.le_refl _)
    · replace hv := (if_pos hc).symm.trans hv
      refine lv_iload_n S.1 S.2.1 dX12_wrongDigit_16 rfl (lv_at hl 1 rfl) ?_
      refine lv_goto (tgt := 39) S.1 S.2.1 dX12_wrongDigit_17 (by decide) ?_
      replace hk := zz_fin hv hk
      obtain rfl := hR0 _ hk
      exact zz_iret S Z hret hlk dX12_wrongDigit_39 (Nat.le_refl _) (Nat.le_refl _)
  rw [hH, hlo] at key
  exact key

noncomputable def f_X12_wrongLine_J56 (h : ZH) (a0 : Nat) (a1 : Int32) (x2_2 : Int32) : Option (Int32) :=
  zz_isO h a0 10 <| (f_X12_byteAt h a0 (a1 + (1 : Int32))).bind fun v3 => if v3 = (32 : Int32) then (if x2_2 = (33 : Int32) then (zz_isO h a0 10 <| (f_X12_wrongDigit h a0 (a1 + (2 : Int32)) (49 : Int32) (57 : Int32)).bind fun v4 => some (v4)) else (if x2_2 = (35 : Int32) then (some ((-1 : Int32))) else (if x2_2 = (61 : Int32) then (zz_isO h a0 10 <| (f_X12_wrongPattern h a0 (a1 + (2 : Int32))).bind fun v5 => some (v5)) else (if x2_2 = (62 : Int32) then (zz_isO h a0 10 <| (f_X12_wrongWords h a0 (a1 + (2 : Int32)) (0 : Int32)).bind fun v6 => some (v6)) else (if x2_2 = (63 : Int32) then (zz_isO h a0 10 <| (f_X12_wrongFlag h a0 (a1 + (2 : Int32))).bind fun v7 => some (v7)) else (if x2_2 = (64 : Int32) then (zz_isO h a0 10 <| (f_X12_wrongDigit h a0 (a1 + (2 : Int32)) (48 : Int32) (55 : Int32)).bind fun v8 => some (v8)) else (zz_isO h a0 10 <| (f_X12_wrongDigit h a0 (a1 + (2 : Int32)) (48 : Int32) (51 : Int32)).bind fun v9 => some (v9)))))))) else (some (a1 + (1 : Int32)))
noncomputable def f_X12_wrongLine (h : ZH) (a0 : Nat) (a1 : Int32) : Option (Int32) :=
  zz_isO h a0 10 <| (f_X12_byteAt h a0 a1).bind fun v1 => if v1 = (62 : Int32) then (f_X12_wrongLine_J56 h a0 a1 v1) else (if v1 = (61 : Int32) then (f_X12_wrongLine_J56 h a0 a1 v1) else (if v1 = (63 : Int32) then (f_X12_wrongLine_J56 h a0 a1 v1) else (if v1 = (64 : Int32) then (f_X12_wrongLine_J56 h a0 a1 v1) else (if v1 = (33 : Int32) then (f_X12_wrongLine_J56 h a0 a1 v1) else (if v1 = (115 : Int32) then (f_X12_wrongLine_J56 h a0 a1 v1) else (if v1 = (98 : Int32) then (f_X12_wrongLine_J56 h a0 a1 v1) else (if v1 = (35 : Int32) then (f_X12_wrongLine_J56 h a0 a1 v1) else (some (a1)))))))))
abbrev rm_X12_wrongLine : Room := { frames := 3, cells := 0, slots := 0, locals := 71 }
set_option maxRecDepth 100000 in
set_option maxHeartbeats 4000000 in
theorem c_X12_wrongLine {l : Launch} {D : va_G} {dA : Nat → ClassId} {A : Nat → Prop} {h : ZH} {n : Nat} (a0 : Nat) (a1 : Int32) {r : Int32} (hf : f_X12_wrongLine h a0 a1 = some r) : Met l yX12_wrongLine (zz_ws yX12_wrongLine cX12_wrongLine 3 (some .int)) rm_X12_wrongLine (zz_P D dA A h n [.ref (a0), .int (a1)]) (zz_Q D dA A (some (.int r)) h n) 0 0 A := by
  refine zz_met (by decide) (Nat.le_of_ble_eq_true rfl) ?_
  intro p e s m args below meth c ls S K hret hlk hnm hl Z
  replace hl : lv_has ls 3 [(0, .ref (a0)), (1, .int (a1))] := hl
  obtain ⟨K0, hR0, hk⟩ : ∃ K0 : (Int32) → Prop, (∀ x, K0 x → x = r) ∧ K0 r := ⟨fun x => x = r, fun _ h => h, rfl⟩
  have J56 : ∀ (x2_2 : Int32) (x : (Int32)), f_X12_wrongLine_J56 h a0 a1 x2_2 = some x → K0 x → ∀ (H : Heap) (locs : List Loc) (ls : Array Slot), zz_B D dA A h n s.heap H locs → lv_has ls 3 [(0, .ref (a0)), (1, .int (a1)), (2, .int (x2_2))] → zz_W p l e rm_X12_wrongLine s m args below meth c D dA A (some (.int r)) h n 0 0 H locs 0 0 56 ls [] := by
    intro x2_2 x hv hk H locs ls Z hl
    unfold f_X12_wrongLine_J56 at hv
    refine lv_aload_n S.1 S.2.1 dX12_wrongLine_56 rfl (lv_at hl 0 rfl) ?_
    refine lv_iload_n S.1 S.2.1 dX12_wrongLine_57 rfl (lv_at hl 1 rfl) ?_
    refine lv_iconst (v := (1 : Int32)) S.1 S.2.1 dX12_wrongLine_58 (by decide) ?_
    refine lv_iadd S.1 S.2.1 dX12_wrongLine_59 ?_
    obtain ⟨hci, hv⟩ := zz_isO_s hv
    obtain ⟨v3, hq, hv⟩ := zz_bd hv
    refine zz_V [.int (a1 + (1 : Int32))] S K Z hci zc_10 rfl (c_X12_byteAt a0 (a1 + (1 : Int32)) hq) ⟨rfl, rfl⟩ gm_X12_byteAt gmv_X12_byteAt gl_X12_184 ⟨by decide, by decide⟩ rfl hl.1 rfl (Nat.le_of_ble_eq_true rfl) dX12_wrongLine_60 ⟨Nat.zero_le _, Nat.zero_le _⟩ (fun H locs Z => ?_)
    show W _ _ _ _ _ _ _ _ _ _ _ _ 0 0 _ (F0 m 63 ls [.int (v3)])
    refine lv_bipush (v := (32 : Int32)) S.1 S.2.1 dX12_wrongLine_63 (by decide) ?_
    refine lv_icmp_eq (tgt := 72) S.1 S.2.1 dX12_wrongLine_65 (by decide) (fun hc => ?_) (fun hc => ?_)
    · replace hv := (if_pos hc).symm.trans hv
      refine lv_iload_n S.1 S.2.1 dX12_wrongLine_72 rfl (lv_at hl 2 rfl) ?_
      by_cases hc33 : x2_2 = (33 : Int32)
      · replace hv := (if_pos hc33).symm.trans hv
        refine lv_lookup (tgt := 169) S.1 S.2.1 dX12_wrongLine_73 (by decide) (by rw [hc33] <;> rfl) (by decide) ?_
        refine lv_aload_n S.1 S.2.1 dX12_wrongLine_169 rfl (lv_at hl 0 rfl) ?_
        refine lv_iload_n S.1 S.2.1 dX12_wrongLine_170 rfl (lv_at hl 1 rfl) ?_
        refine lv_iconst (v := (2 : Int32)) S.1 S.2.1 dX12_wrongLine_171 (by decide) ?_
        refine lv_iadd S.1 S.2.1 dX12_wrongLine_172 ?_
        refine lv_bipush (v := (49 : Int32)) S.1 S.2.1 dX12_wrongLine_173 (by decide) ?_
        refine lv_bipush (v := (57 : Int32)) S.1 S.2.1 dX12_wrongLine_175 (by decide) ?_
        obtain ⟨hci, hv⟩ := zz_isO_s hv
        obtain ⟨v4, hq, hv⟩ := zz_bd hv
        refine zz_V [.int (a1 + (2 : Int32)), .int ((49 : Int32)), .int ((57 : Int32))] S K Z hci zc_10 rfl (c_X12_wrongDigit a0 (a1 + (2 : Int32)) (49 : Int32) (57 : Int32) hq) ⟨rfl, rfl⟩ gm_X12_wrongDigit gmv_X12_wrongDigit gl_X12_203 ⟨by decide, by decide⟩ rfl hl.1 rfl (Nat.le_of_ble_eq_true rfl) dX12_wrongLine_177 ⟨Nat.zero_le _, Nat.zero_le _⟩ (fun H locs Z => ?_)
        show W _ _ _ _ _ _ _ _ _ _ _ _ 0 0 _ (F0 m 180 ls [.int (v4)])
        replace hk := zz_fin hv hk
        obtain rfl := hR0 _ hk
        exact zz_iret S Z hret hlk dX12_wrongLine_180 (Nat.le_refl _) (Nat.le_refl _)
      · replace hv := (if_neg hc33).symm.trans hv
        by_cases hc35 : x2_2 = (35 : Int32)
        · replace hv := (if_pos hc35).symm.trans hv
          refine lv_lookup (tgt := 181) S.1 S.2.1 dX12_wrongLine_73 (by decide) (by rw [hc35] <;> rfl) (by decide) ?_
          refine lv_iconst (v := (-1 : Int32)) S.1 S.2.1 dX12_wrongLine_181 (by decide) ?_
          replace hk := zz_fin hv hk
          obtain rfl := hR0 _ hk
          exact zz_iret S Z hret hlk dX12_wrongLine_182 (Nat.le_refl _) (Nat.le_refl _)
        · replace hv := (if_neg hc35).symm.trans hv
          by_cases hc61 : x2_2 = (61 : Int32)
          · replace hv := (if_pos hc61).symm.trans hv
            refine lv_lookup (tgt := 141) S.1 S.2.1 dX12_wrongLine_73 (by decide) (by rw [hc61] <;> rfl) (by decide) ?_
            refine lv_aload_n S.1 S.2.1 dX12_wrongLine_141 rfl (lv_at hl 0 rfl) ?_
            refine lv_iload_n S.1 S.2.1 dX12_wrongLine_142 rfl (lv_at hl 1 rfl) ?_
            refine lv_iconst (v := (2 : Int32)) S.1 S.2.1 dX12_wrongLine_143 (by decide) ?_
            refine lv_iadd S.1 S.2.1 dX12_wrongLine_144 ?_
            obtain ⟨hci, hv⟩ := zz_isO_s hv
            obtain ⟨v5, hq, hv⟩ := zz_bd hv
            refine zz_V [.int (a1 + (2 : Int32))] S K Z hci zc_10 rfl (c_X12_wrongPattern a0 (a1 + (2 : Int32)) hq) ⟨rfl, rfl⟩ gm_X12_wrongPattern gmv_X12_wrongPattern gl_X12_197 ⟨by decide, by decide⟩ rfl hl.1 rfl (Nat.le_of_ble_eq_true rfl) dX12_wrongLine_145 ⟨Nat.zero_le _, Nat.zero_le _⟩ (fun H locs Z => ?_)
            show W _ _ _ _ _ _ _ _ _ _ _ _ 0 0 _ (F0 m 148 ls [.int (v5)])
            replace hk := zz_fin hv hk
            obtain rfl := hR0 _ hk
            exact zz_iret S Z hret hlk dX12_wrongLine_148 (Nat.le_refl _) (Nat.le_refl _)
          · replace hv := (if_neg hc61).symm.trans hv
            by_cases hc62 : x2_2 = (62 : Int32)
            · replace hv := (if_pos hc62).symm.trans hv
              refine lv_lookup (tgt := 132) S.1 S.2.1 dX12_wrongLine_73 (by decide) (by rw [hc62] <;> rfl) (by decide) ?_
              refine lv_aload_n S.1 S.2.1 dX12_wrongLine_132 rfl (lv_at hl 0 rfl) ?_
              refine lv_iload_n S.1 S.2.1 dX12_wrongLine_133 rfl (lv_at hl 1 rfl) ?_
              refine lv_iconst (v := (2 : Int32)) S.1 S.2.1 dX12_wrongLine_134 (by decide) ?_
              refine lv_iadd S.1 S.2.1 dX12_wrongLine_135 ?_
              refine lv_iconst (v := (0 : Int32)) S.1 S.2.1 dX12_wrongLine_136 (by decide) ?_
              obtain ⟨hci, hv⟩ := zz_isO_s hv
              obtain ⟨v6, hq, hv⟩ := zz_bd hv
              refine zz_V [.int (a1 + (2 : Int32)), .int ((0 : Int32))] S K Z hci zc_10 rfl (c_X12_wrongWords a0 (a1 + (2 : Int32)) (0 : Int32) hq) ⟨rfl, rfl⟩ gm_X12_wrongWords gmv_X12_wrongWords gl_X12_193 ⟨by decide, by decide⟩ rfl hl.1 rfl (Nat.le_of_ble_eq_true rfl) dX12_wrongLine_137 ⟨Nat.zero_le _, Nat.zero_le _⟩ (fun H locs Z => ?_)
              show W _ _ _ _ _ _ _ _ _ _ _ _ 0 0 _ (F0 m 140 ls [.int (v6)])
              replace hk := zz_fin hv hk
              obtain rfl := hR0 _ hk
              exact zz_iret S Z hret hlk dX12_wrongLine_140 (Nat.le_refl _) (Nat.le_refl _)
            · replace hv := (if_neg hc62).symm.trans hv
              by_cases hc63 : x2_2 = (63 : Int32)
              · replace hv := (if_pos hc63).symm.trans hv
                refine lv_lookup (tgt := 149) S.1 S.2.1 dX12_wrongLine_73 (by decide) (by rw [hc63] <;> rfl) (by decide) ?_
                refine lv_aload_n S.1 S.2.1 dX12_wrongLine_149 rfl (lv_at hl 0 rfl) ?_
                refine lv_iload_n S.1 S.2.1 dX12_wrongLine_150 rfl (lv_at hl 1 rfl) ?_
                refine lv_iconst (v := (2 : Int32)) S.1 S.2.1 dX12_wrongLine_151 (by decide) ?_
                refine lv_iadd S.1 S.2.1 dX12_wrongLine_152 ?_
                obtain ⟨hci, hv⟩ := zz_isO_s hv
                obtain ⟨v7, hq, hv⟩ := zz_bd hv
                refine zz_V [.int (a1 + (2 : Int32))] S K Z hci zc_10 rfl (c_X12_wrongFlag a0 (a1 + (2 : Int32)) hq) ⟨rfl, rfl⟩ gm_X12_wrongFlag gmv_X12_wrongFlag gl_X12_200 ⟨by decide, by decide⟩ rfl hl.1 rfl (Nat.le_of_ble_eq_true rfl) dX12_wrongLine_153 ⟨Nat.zero_le _, Nat.zero_le _⟩ (fun H locs Z => ?_)
                show W _ _ _ _ _ _ _ _ _ _ _ _ 0 0 _ (F0 m 156 ls [.int (v7)])
                replace hk := zz_fin hv hk
                obtain rfl := hR0 _ hk
                exact zz_iret S Z hret hlk dX12_wrongLine_156 (Nat.le_refl _) (Nat.le_refl _)
              · replace hv := (if_neg hc63).symm.trans hv
                by_cases hc64 : x2_2 = (64 : Int32)
                · replace hv := (if_pos hc64).symm.trans hv
                  refine lv_lookup (tgt := 157) S.1 S.2.1 dX12_wrongLine_73 (by decide) (by rw [hc64] <;> rfl) (by decide) ?_
                  refine lv_aload_n S.1 S.2.1 dX12_wrongLine_157 rfl (lv_at hl 0 rfl) ?_
                  refine lv_iload_n S.1 S.2.1 dX12_wrongLine_158 rfl (lv_at hl 1 rfl) ?_
                  refine lv_iconst (v := (2 : Int32)) S.1 S.2.1 dX12_wrongLine_159 (by decide) ?_
                  refine lv_iadd S.1 S.2.1 dX12_wrongLine_160 ?_
                  refine lv_bipush (v := (48 : Int32)) S.1 S.2.1 dX12_wrongLine_161 (by decide) ?_
                  refine lv_bipush (v := (55 : Int32)) S.1 S.2.1 dX12_wrongLine_163 (by decide) ?_
                  obtain ⟨hci, hv⟩ := zz_isO_s hv
                  obtain ⟨v8, hq, hv⟩ := zz_bd hv
                  refine zz_V [.int (a1 + (2 : Int32)), .int ((48 : Int32)), .int ((55 : Int32))] S K Z hci zc_10 rfl (c_X12_wrongDigit a0 (a1 + (2 : Int32)) (48 : Int32) (55 : Int32) hq) ⟨rfl, rfl⟩ gm_X12_wrongDigit gmv_X12_wrongDigit gl_X12_203 ⟨by decide, by decide⟩ rfl hl.1 rfl (Nat.le_of_ble_eq_true rfl) dX12_wrongLine_165 ⟨Nat.zero_le _, Nat.zero_le _⟩ (fun H locs Z => ?_)
                  show W _ _ _ _ _ _ _ _ _ _ _ _ 0 0 _ (F0 m 168 ls [.int (v8)])
                  replace hk := zz_fin hv hk
                  obtain rfl := hR0 _ hk
                  exact zz_iret S Z hret hlk dX12_wrongLine_168 (Nat.le_refl _) (Nat.le_refl _)
                · replace hv := (if_neg hc64).symm.trans hv
                  refine lv_lookup (tgt := 183) S.1 S.2.1 dX12_wrongLine_73 (by decide) ((lv_osw hc33 (by decide)).trans ((lv_osw hc35 (by decide)).trans ((lv_osw hc61 (by decide)).trans ((lv_osw hc62 (by decide)).trans ((lv_osw hc63 (by decide)).trans ((lv_osw hc64 (by decide)).trans (Op.lookupswitch.offset_nil _ _))))))) (by decide) ?_
                  refine lv_aload_n S.1 S.2.1 dX12_wrongLine_183 rfl (lv_at hl 0 rfl) ?_
                  refine lv_iload_n S.1 S.2.1 dX12_wrongLine_184 rfl (lv_at hl 1 rfl) ?_
                  refine lv_iconst (v := (2 : Int32)) S.1 S.2.1 dX12_wrongLine_185 (by decide) ?_
                  refine lv_iadd S.1 S.2.1 dX12_wrongLine_186 ?_
                  refine lv_bipush (v := (48 : Int32)) S.1 S.2.1 dX12_wrongLine_187 (by decide) ?_
                  refine lv_bipush (v := (51 : Int32)) S.1 S.2.1 dX12_wrongLine_189 (by decide) ?_
                  obtain ⟨hci, hv⟩ := zz_isO_s hv
                  obtain ⟨v9, hq, hv⟩ := zz_bd hv
                  refine zz_V [.int (a1 + (2 : Int32)), .int ((48 : Int32)), .int ((51 : Int32))] S K Z hci zc_10 rfl (c_X12_wrongDigit a0 (a1 + (2 : Int32)) (48 : Int32) (51 : Int32) hq) ⟨rfl, rfl⟩ gm_X12_wrongDigit gmv_X12_wrongDigit gl_X12_203 ⟨by decide, by decide⟩ rfl hl.1 rfl (Nat.le_of_ble_eq_true rfl) dX12_wrongLine_191 ⟨Nat.zero_le _, Nat.zero_le _⟩ (fun H locs Z => ?_)
                  show W _ _ _ _ _ _ _ _ _ _ _ _ 0 0 _ (F0 m 194 ls [.int (v9)])
                  replace hk := zz_fin hv hk
                  obtain rfl := hR0 _ hk
                  exact zz_iret S Z hret hlk dX12_wrongLine_194 (Nat.le_refl _) (Nat.le_refl _)
    · replace hv := (if_neg hc).symm.trans hv
      refine lv_iload_n S.1 S.2.1 dX12_wrongLine_68 rfl (lv_at hl 1 rfl) ?_
      refine lv_iconst (v := (1 : Int32)) S.1 S.2.1 dX12_wrongLine_69 (by decide) ?_
      refine lv_iadd S.1 S.2.1 dX12_wrongLine_70 ?_
      replace hk := zz_fin hv hk
      obtain rfl := hR0 _ hk
      exact zz_iret S Z hret hlk dX12_wrongLine_71 (Nat.le_refl _) (Nat.le_refl _)
  have hv := hf
  unfold f_X12_wrongLine at hv
  clear hf
  obtain ⟨x, hxx⟩ : ∃ x, x = r := ⟨_, rfl⟩
  rw [← hxx] at hv hk
  have ⟨H, hH⟩ : ∃ H, H = s.heap := ⟨_, rfl⟩
  have ⟨locs, hlo⟩ : ∃ q : List Loc, q = [] := ⟨_, rfl⟩
  have Z : zz_B D dA A h n s.heap H locs := by rw [hH, hlo]; exact Z
  have key : zz_W p l e rm_X12_wrongLine s m args below meth c D dA A (some (.int r)) h n 0 0 H locs 0 0 0 ls [] := by
    clear hH hlo hxx
    refine lv_aload_n S.1 S.2.1 dX12_wrongLine_0 rfl (lv_at hl 0 rfl) ?_
    refine lv_iload_n S.1 S.2.1 dX12_wrongLine_1 rfl (lv_at hl 1 rfl) ?_
    obtain ⟨hci, hv⟩ := zz_isO_s hv
    obtain ⟨v1, hq, hv⟩ := zz_bd hv
    refine zz_V [.int (a1)] S K Z hci zc_10 rfl (c_X12_byteAt a0 a1 hq) ⟨rfl, rfl⟩ gm_X12_byteAt gmv_X12_byteAt gl_X12_184 ⟨by decide, by decide⟩ rfl hl.1 rfl (Nat.le_of_ble_eq_true rfl) dX12_wrongLine_2 ⟨Nat.zero_le _, Nat.zero_le _⟩ (fun H locs Z => ?_)
    show W _ _ _ _ _ _ _ _ _ _ _ _ 0 0 _ (F0 m 5 ls [.int (v1)])
    refine lv_istore_n (lv' := [(2, .int (v1)), (0, .ref (a0)), (1, .int (a1))]) S.1 S.2.1 dX12_wrongLine_5 rfl hl (by decide) rfl (fun ls hl => ?_)
    refine lv_iload_n S.1 S.2.1 dX12_wrongLine_6 rfl (lv_at hl 0 rfl) ?_
    refine lv_bipush (v := (62 : Int32)) S.1 S.2.1 dX12_wrongLine_7 (by decide) ?_
    refine lv_icmp_eq (tgt := 56) S.1 S.2.1 dX12_wrongLine_9 (by decide) (fun hc => ?_) (fun hc => ?_)
    · replace hv := (if_pos hc).symm.trans hv
      exact J56 v1 _ hv hk H locs ls Z (lv_sub hl [1, 2, 0] rfl)
    · replace hv := (if_neg hc).symm.trans hv
      refine lv_iload_n S.1 S.2.1 dX12_wrongLine_12 rfl (lv_at hl 0 rfl) ?_
      refine lv_bipush (v := (61 : Int32)) S.1 S.2.1 dX12_wrongLine_13 (by decide) ?_
      refine lv_icmp_eq (tgt := 56) S.1 S.2.1 dX12_wrongLine_15 (by decide) (fun hc => ?_) (fun hc => ?_)
      · replace hv := (if_pos hc).symm.trans hv
        exact J56 v1 _ hv hk H locs ls Z (lv_sub hl [1, 2, 0] rfl)
      · replace hv := (if_neg hc).symm.trans hv
        refine lv_iload_n S.1 S.2.1 dX12_wrongLine_18 rfl (lv_at hl 0 rfl) ?_
        refine lv_bipush (v := (63 : Int32)) S.1 S.2.1 dX12_wrongLine_19 (by decide) ?_
        refine lv_icmp_eq (tgt := 56) S.1 S.2.1 dX12_wrongLine_21 (by decide) (fun hc => ?_) (fun hc => ?_)
        · replace hv := (if_pos hc).symm.trans hv
          exact J56 v1 _ hv hk H locs ls Z (lv_sub hl [1, 2, 0] rfl)
        · replace hv := (if_neg hc).symm.trans hv
          refine lv_iload_n S.1 S.2.1 dX12_wrongLine_24 rfl (lv_at hl 0 rfl) ?_
          refine lv_bipush (v := (64 : Int32)) S.1 S.2.1 dX12_wrongLine_25 (by decide) ?_
          refine lv_icmp_eq (tgt := 56) S.1 S.2.1 dX12_wrongLine_27 (by decide) (fun hc => ?_) (fun hc => ?_)
          · replace hv := (if_pos hc).symm.trans hv
            exact J56 v1 _ hv hk H locs ls Z (lv_sub hl [1, 2, 0] rfl)
          · replace hv := (if_neg hc).symm.trans hv
            refine lv_iload_n S.1 S.2.1 dX12_wrongLine_30 rfl (lv_at hl 0 rfl) ?_
            refine lv_bipush (v := (33 : Int32)) S.1 S.2.1 dX12_wrongLine_31 (by decide) ?_
            refine lv_icmp_eq (tgt := 56) S.1 S.2.1 dX12_wrongLine_33 (by decide) (fun hc => ?_) (fun hc => ?_)
            · replace hv := (if_pos hc).symm.trans hv
              exact J56 v1 _ hv hk H locs ls Z (lv_sub hl [1, 2, 0] rfl)
            · replace hv := (if_neg hc).symm.trans hv
              refine lv_iload_n S.1 S.2.1 dX12_wrongLine_36 rfl (lv_at hl 0 rfl) ?_
              refine lv_bipush (v := (115 : Int32)) S.1 S.2.1 dX12_wrongLine_37 (by decide) ?_
              refine lv_icmp_eq (tgt := 56) S.1 S.2.1 dX12_wrongLine_39 (by decide) (fun hc => ?_) (fun hc => ?_)
              · replace hv := (if_pos hc).symm.trans hv
                exact J56 v1 _ hv hk H locs ls Z (lv_sub hl [1, 2, 0] rfl)
              · replace hv := (if_neg hc).symm.trans hv
                refine lv_iload_n S.1 S.2.1 dX12_wrongLine_42 rfl (lv_at hl 0 rfl) ?_
                refine lv_bipush (v := (98 : Int32)) S.1 S.2.1 dX12_wrongLine_43 (by decide) ?_
                refine lv_icmp_eq (tgt := 56) S.1 S.2.1 dX12_wrongLine_45 (by decide) (fun hc => ?_) (fun hc => ?_)
                · replace hv := (if_pos hc).symm.trans hv
                  exact J56 v1 _ hv hk H locs ls Z (lv_sub hl [1, 2, 0] rfl)
                · replace hv := (if_neg hc).symm.trans hv
                  refine lv_iload_n S.1 S.2.1 dX12_wrongLine_48 rfl (lv_at hl 0 rfl) ?_
                  refine lv_bipush (v := (35 : Int32)) S.1 S.2.1 dX12_wrongLine_49 (by decide) ?_
                  refine lv_icmp_eq (tgt := 56) S.1 S.2.1 dX12_wrongLine_51 (by decide) (fun hc => ?_) (fun hc => ?_)
                  · replace hv := (if_pos hc).symm.trans hv
                    exact J56 v1 _ hv hk H locs ls Z (lv_sub hl [1, 2, 0] rfl)
                  · replace hv := (if_neg hc).symm.trans hv
                    refine lv_iload_n S.1 S.2.1 dX12_wrongLine_54 rfl (lv_at hl 2 rfl) ?_
                    replace hk := zz_fin hv hk
                    obtain rfl := hR0 _ hk
                    exact zz_iret S Z hret hlk dX12_wrongLine_55 (Nat.le_refl _) (Nat.le_refl _)
  rw [hH, hlo] at key
  exact key

noncomputable def f_X12_script_L119 (h : ZH) (a0 : Nat) (y4_13 : Int32) (x5_12 : Int32) (h14 : ZH)  : Option ((Int32 × ZH) ⊕ (Int32 × ZH)) :=
  if y4_13 ≤ x5_12 then (((zg_R h14 a0 10 32).bind fun v15 => (zg_I h14 a0 10 30).bind fun v16 => (zs_I h14 v15 1 v16 y4_13).bind fun h17 => (zg_I h17 a0 10 30).bind fun v18 => (zp_V h17 a0 10 30 (.int (v18 + (1 : Int32)))).bind fun h19 => (zg_I h19 a0 10 30).bind fun v20 => some ((v20 - (1 : Int32), h19))).map Sum.inr) else ((zg_R h14 a0 10 31).bind fun v21 => (zg_I h14 a0 10 30).bind fun v22 => (zg_R h14 a0 10 1).bind fun v23 => (zl_I h14 v23 1 x5_12).bind fun v24 => (zs_I h14 v21 1 (((600 : Int32) * v22) + x5_12) v24).bind fun h25 => some (.inl (x5_12 + (1 : Int32), h25)))
noncomputable def f_X12_script_J84 (h : ZH) (a0 : Nat) (x1_7 : Int32) (h8 : ZH) : Option (Int32 × ZH) :=
  (zg_I h8 a0 10 2).bind fun v9 => (zp_V h8 a0 10 2 (.int ((0 : Int32)))).bind fun h10 => (zg_I h10 a0 10 30).bind fun v11 => if v11 = (10 : Int32) then (some (((-5 : Int32), h10))) else (if x1_7 < 0 then (zz_loop (fun st : (Int32 × ZH) => f_X12_script_L119 h a0 v9 (st.1) (st.2)) ((0 : Int32), h10)) else (some (((-10 : Int32) - x1_7, h10))))
noncomputable def f_X12_script_L53 (h : ZH) (a0 : Nat) (y1_33 : Int32) (y3_34 : Int32) (h5 : ZH) (x2_32 : Int32)  : Option ((Int32) ⊕ ((Int32 × Int32 × Int32) ⊕ (Int32 × ZH))) :=
  (zg_I h5 a0 10 2).bind fun v35 => if v35 ≤ x2_32 then ((some (.inl (y1_33, x2_32 + (1 : Int32), y3_34))).map Sum.inr) else ((zg_R h5 a0 10 1).bind fun v36 => (zl_I h5 v36 1 x2_32).bind fun v37 => if v37 = (10 : Int32) then ((some (.inl (y1_33, x2_32 + (1 : Int32), y3_34))).map Sum.inr) else (some (.inl (x2_32 + (1 : Int32)))))
noncomputable def f_X12_script_J52 (h : ZH) (a0 : Nat) (x2_29 : Int32) (x3_30 : Int32) (s31 : Int32) (h5 : ZH) : Option ((Int32 × Int32 × Int32) ⊕ (Int32 × ZH)) :=
  zz_loop (fun st : (Int32) => f_X12_script_L53 h a0 s31 x3_30 h5 (st)) (x2_29)
noncomputable def f_X12_script_L11 (h : ZH) (a0 : Nat) (h5 : ZH) (x1_2 : Int32) (x2_3 : Int32) (x3_4 : Int32)  : Option ((Int32 × Int32 × Int32) ⊕ (Int32 × ZH)) :=
  (zg_I h5 a0 10 2).bind fun v6 => if v6 ≤ x2_3 then ((f_X12_script_J84 h a0 x1_2 h5).map Sum.inr) else (if 0 ≤ x1_2 then ((f_X12_script_J84 h a0 x1_2 h5).map Sum.inr) else ((zg_R h5 a0 10 1).bind fun v26 => (zl_I h5 v26 1 x2_3).bind fun v27 => if v27 = (10 : Int32) then (some (.inl (x1_2, x2_3 + (1 : Int32), x3_4 + (1 : Int32)))) else (if (x3_4 + (1 : Int32)) ≤ (40 : Int32) then (zz_isO h5 a0 10 <| (f_X12_wrongLine h5 a0 x2_3).bind fun v28 => f_X12_script_J52 h a0 x2_3 (x3_4 + (1 : Int32)) v28 h5) else (f_X12_script_J52 h a0 x2_3 (x3_4 + (1 : Int32)) x2_3 h5))))
noncomputable def f_X12_script (h : ZH) (a0 : Nat) : Option (Int32 × ZH) :=
  (zp_V h a0 10 0 (.int ((0 : Int32)))).bind fun h1 => zz_loop (fun st : (Int32 × Int32 × Int32) => f_X12_script_L11 h a0 h1 (st.1) (st.2.1) (st.2.2)) ((-1 : Int32), (0 : Int32), (0 : Int32))
abbrev rm_X12_script : Room := { frames := 4, cells := 0, slots := 0, locals := 93 }
set_option maxRecDepth 100000 in
set_option maxHeartbeats 4000000 in
theorem c_X12_script {l : Launch} {D : va_G} {dA : Nat → ClassId} {A : Nat → Prop} {h : ZH} {n : Nat} (a0 : Nat) {r : Int32} {hx : ZH} (hf : f_X12_script h a0 = some (r, hx)) : Met l yX12_script (zz_ws yX12_script cX12_script 6 (some .int)) rm_X12_script (zz_P D dA A h n [.ref (a0)]) (zz_Q D dA A (some (.int r)) hx n) 0 0 A := by
  refine zz_met (by decide) (Nat.le_of_ble_eq_true rfl) ?_
  intro p e s m args below meth c ls S K hret hlk hnm hl Z
  replace hl : lv_has ls 6 [(0, .ref (a0))] := hl
  obtain ⟨K0, hR0, hk⟩ : ∃ K0 : (Int32 × ZH) → Prop, (∀ x, K0 x → x = (r, hx)) ∧ K0 (r, hx) := ⟨fun x => x = (r, hx), fun _ h => h, rfl⟩
  have L119 : ∀ (y4_13 : Int32) (st : (Int32 × ZH)) (x : (Int32 × ZH)), zz_loop (fun st : (Int32 × ZH) => f_X12_script_L119 h a0 y4_13 (st.1) (st.2)) st = some x → K0 x → (fun st : (Int32 × ZH) => ∀ (H : Heap) (locs : List Loc) (ls : Array Slot), zz_B D dA A (st.2) n s.heap H locs → lv_has ls 6 [(0, .ref (a0)), (4, .int (y4_13)), (5, .int ((st.1)))] → zz_W p l e rm_X12_script s m args below meth c D dA A (some (.int r)) hx n 0 0 H locs 0 0 119 ls []) st := by
    intro y4_13
    refine zz_loop_go (K := K0) ?_
    intro K1 hP1 hR1
    rintro ⟨x5_12, h14⟩ x hv hk H locs ls Z hl
    replace hv : f_X12_script_L119 h a0 y4_13 x5_12 h14 = some x := hv
    unfold f_X12_script_L119 at hv
    replace hl : lv_has ls 6 [(0, .ref (a0)), (4, .int (y4_13)), (5, .int (x5_12))] := hl
    replace Z : zz_B D dA A h14 n s.heap H locs := Z
    show zz_W p l e rm_X12_script s m args below meth c D dA A (some (.int r)) hx n 0 0 H locs 0 0 119 ls []
    refine lv_iload S.1 S.2.1 dX12_script_119 (lv_at hl 2 rfl) ?_
    refine lv_iload S.1 S.2.1 dX12_script_121 (lv_at hl 1 rfl) ?_
    refine lv_icmp_ge (tgt := 155) S.1 S.2.1 dX12_script_123 (by decide) (fun hc => ?_) (fun hc => ?_)
    · replace hv := (if_pos hc).symm.trans hv
      obtain ⟨_, hv, hk⟩ := zz_mapk hv hk
      replace hk := hR1 _ hk
      refine lv_aload_n S.1 S.2.1 dX12_script_155 rfl (lv_at hl 0 rfl) ?_
      refine zz_gR S K Z hv zc_10 (by decide) gf_X12_85 dX12_script_156 (fun v15 hv => ?_)
      refine lv_aload_n S.1 S.2.1 dX12_script_159 rfl (lv_at hl 0 rfl) ?_
      refine zz_gI S K Z hv zc_10 (by decide) gf_X12_210 dX12_script_160 (fun v16 hv => ?_)
      refine lv_iload S.1 S.2.1 dX12_script_163 (lv_at hl 1 rfl) ?_
      refine zz_iast S K Z hv dX12_script_165 (fun h17 H locs hv Z => ?_)
      refine lv_aload_n S.1 S.2.1 dX12_script_166 rfl (lv_at hl 0 rfl) ?_
      refine lv_dup S.1 S.2.1 dX12_script_167 rfl ?_
      refine zz_gI S K Z hv zc_10 (by decide) gf_X12_210 dX12_script_168 (fun v18 hv => ?_)
      refine lv_iconst (v := (1 : Int32)) S.1 S.2.1 dX12_script_171 (by decide) ?_
      refine lv_iadd S.1 S.2.1 dX12_script_172 ?_
      refine zz_put S K Z hv zc_10 (by decide) gf_X12_210 rfl rfl rfl dX12_script_173 (fun h19 H locs hv Z => ?_)
      refine lv_aload_n S.1 S.2.1 dX12_script_176 rfl (lv_at hl 0 rfl) ?_
      refine zz_gI S K Z hv zc_10 (by decide) gf_X12_210 dX12_script_177 (fun v20 hv => ?_)
      refine lv_iconst (v := (1 : Int32)) S.1 S.2.1 dX12_script_180 (by decide) ?_
      refine lv_isub S.1 S.2.1 dX12_script_181 ?_
      replace hk := zz_fin hv hk
      obtain ⟨rfl, rfl⟩ := Prod.mk.inj (hR0 _ hk)
      exact zz_iret S Z hret hlk dX12_script_182 (Nat.le_refl _) (Nat.le_refl _)
    · replace hv := (if_neg hc).symm.trans hv
      refine lv_aload_n S.1 S.2.1 dX12_script_126 rfl (lv_at hl 0 rfl) ?_
      refine zz_gR S K Z hv zc_10 (by decide) gf_X12_82 dX12_script_127 (fun v21 hv => ?_)
      refine lv_sipush (v := (600 : Int32)) S.1 S.2.1 dX12_script_130 (by decide) ?_
      refine lv_aload_n S.1 S.2.1 dX12_script_133 rfl (lv_at hl 0 rfl) ?_
      refine zz_gI S K Z hv zc_10 (by decide) gf_X12_210 dX12_script_134 (fun v22 hv => ?_)
      refine lv_imul S.1 S.2.1 dX12_script_137 ?_
      refine lv_iload S.1 S.2.1 dX12_script_138 (lv_at hl 2 rfl) ?_
      refine lv_iadd S.1 S.2.1 dX12_script_140 ?_
      refine lv_aload_n S.1 S.2.1 dX12_script_141 rfl (lv_at hl 0 rfl) ?_
      refine zz_gR S K Z hv zc_10 (by decide) gf_X12_13 dX12_script_142 (fun v23 hv => ?_)
      refine lv_iload S.1 S.2.1 dX12_script_145 (lv_at hl 2 rfl) ?_
      refine zz_iald S K Z hv dX12_script_147 (fun v24 hv => ?_)
      refine zz_iast S K Z hv dX12_script_148 (fun h25 H locs hv Z => ?_)
      refine lv_iinc (v := x5_12 + (1 : Int32)) (lv' := [(5, .int (x5_12 + (1 : Int32))), (0, .ref (a0)), (4, .int (y4_13))]) S.1 S.2.1 dX12_script_149 hl (k := 2) rfl rfl (by decide) rfl (fun ls hl => ?_)
      refine lv_goto (tgt := 119) S.1 S.2.1 dX12_script_152 (by decide) ?_
      replace hk := zz_fin hv hk
      exact hP1 _ hk H locs ls Z (lv_sub hl [1, 2, 0] rfl)
  have J84 : ∀ (x1_7 : Int32) (h8 : ZH) (x : (Int32 × ZH)), f_X12_script_J84 h a0 x1_7 h8 = some x → K0 x → ∀ (H : Heap) (locs : List Loc) (ls : Array Slot), zz_B D dA A h8 n s.heap H locs → lv_has ls 6 [(0, .ref (a0)), (1, .int (x1_7))] → zz_W p l e rm_X12_script s m args below meth c D dA A (some (.int r)) hx n 0 0 H locs 0 0 84 ls [] := by
    intro x1_7 h8 x hv hk H locs ls Z hl
    unfold f_X12_script_J84 at hv
    refine lv_aload_n S.1 S.2.1 dX12_script_84 rfl (lv_at hl 0 rfl) ?_
    refine zz_gI S K Z hv zc_10 (by decide) gf_X12_109 dX12_script_85 (fun v9 hv => ?_)
    refine lv_istore (lv' := [(4, .int (v9)), (0, .ref (a0)), (1, .int (x1_7))]) S.1 S.2.1 dX12_script_88 hl (by decide) rfl (fun ls hl => ?_)
    refine lv_aload_n S.1 S.2.1 dX12_script_90 rfl (lv_at hl 1 rfl) ?_
    refine lv_iconst (v := (0 : Int32)) S.1 S.2.1 dX12_script_91 (by decide) ?_
    refine zz_put S K Z hv zc_10 (by decide) gf_X12_109 rfl rfl rfl dX12_script_92 (fun h10 H locs hv Z => ?_)
    refine lv_aload_n S.1 S.2.1 dX12_script_95 rfl (lv_at hl 1 rfl) ?_
    refine zz_gI S K Z hv zc_10 (by decide) gf_X12_210 dX12_script_96 (fun v11 hv => ?_)
    refine lv_bipush (v := (10 : Int32)) S.1 S.2.1 dX12_script_99 (by decide) ?_
    refine lv_icmp_ne (tgt := 107) S.1 S.2.1 dX12_script_101 (by decide) (fun hc => ?_) (fun hc => ?_)
    · replace hv := (if_neg hc).symm.trans hv
      refine lv_iload_n S.1 S.2.1 dX12_script_107 rfl (lv_at hl 2 rfl) ?_
      refine lv_if_lt (tgt := 116) S.1 S.2.1 dX12_script_108 (by decide) (fun hc => ?_) (fun hc => ?_)
      · replace hv := (if_pos hc).symm.trans hv
        refine lv_iconst (v := (0 : Int32)) S.1 S.2.1 dX12_script_116 (by decide) ?_
        refine lv_istore (lv' := [(5, .int ((0 : Int32))), (4, .int (v9)), (0, .ref (a0)), (1, .int (x1_7))]) S.1 S.2.1 dX12_script_117 hl (by decide) rfl (fun ls hl => ?_)
        exact L119 v9 ((0 : Int32), h10) _ hv hk H locs ls Z (lv_sub hl [2, 1, 0] rfl)
      · replace hv := (if_neg hc).symm.trans hv
        refine lv_bipush (v := (-10 : Int32)) S.1 S.2.1 dX12_script_111 (by decide) ?_
        refine lv_iload_n S.1 S.2.1 dX12_script_113 rfl (lv_at hl 2 rfl) ?_
        refine lv_isub S.1 S.2.1 dX12_script_114 ?_
        replace hk := zz_fin hv hk
        obtain ⟨rfl, rfl⟩ := Prod.mk.inj (hR0 _ hk)
        exact zz_iret S Z hret hlk dX12_script_115 (Nat.le_refl _) (Nat.le_refl _)
    · replace hv := (if_pos hc).symm.trans hv
      refine lv_bipush (v := (-5 : Int32)) S.1 S.2.1 dX12_script_104 (by decide) ?_
      replace hk := zz_fin hv hk
      obtain ⟨rfl, rfl⟩ := Prod.mk.inj (hR0 _ hk)
      exact zz_iret S Z hret hlk dX12_script_106 (Nat.le_refl _) (Nat.le_refl _)
  have L11 : ∀ (h5 : ZH) (st : (Int32 × Int32 × Int32)) (x : (Int32 × ZH)), zz_loop (fun st : (Int32 × Int32 × Int32) => f_X12_script_L11 h a0 h5 (st.1) (st.2.1) (st.2.2)) st = some x → K0 x → (fun st : (Int32 × Int32 × Int32) => ∀ (H : Heap) (locs : List Loc) (ls : Array Slot), zz_B D dA A h5 n s.heap H locs → lv_has ls 6 [(0, .ref (a0)), (1, .int ((st.1))), (2, .int ((st.2.1))), (3, .int ((st.2.2)))] → zz_W p l e rm_X12_script s m args below meth c D dA A (some (.int r)) hx n 0 0 H locs 0 0 11 ls []) st := by
    intro h5
    refine zz_loop_go (K := K0) ?_
    intro K1 hP1 hR1
    have L53 : ∀ (y1_33 : Int32) (y3_34 : Int32) (st : (Int32)) (x : ((Int32 × Int32 × Int32) ⊕ (Int32 × ZH))), zz_loop (fun st : (Int32) => f_X12_script_L53 h a0 y1_33 y3_34 h5 (st)) st = some x → K1 x → (fun st : (Int32) => ∀ (H : Heap) (locs : List Loc) (ls : Array Slot), zz_B D dA A h5 n s.heap H locs → lv_has ls 6 [(0, .ref (a0)), (1, .int (y1_33)), (2, .int ((st))), (3, .int (y3_34))] → zz_W p l e rm_X12_script s m args below meth c D dA A (some (.int r)) hx n 0 0 H locs 0 0 53 ls []) st := by
      intro y1_33 y3_34
      refine zz_loop_go (K := K1) ?_
      intro K2 hP2 hR2
      rintro x2_32 x hv hk H locs ls Z hl
      replace hv : f_X12_script_L53 h a0 y1_33 y3_34 h5 x2_32 = some x := hv
      unfold f_X12_script_L53 at hv
      replace hl : lv_has ls 6 [(0, .ref (a0)), (1, .int (y1_33)), (2, .int (x2_32)), (3, .int (y3_34))] := hl
      replace Z : zz_B D dA A h5 n s.heap H locs := Z
      show zz_W p l e rm_X12_script s m args below meth c D dA A (some (.int r)) hx n 0 0 H locs 0 0 53 ls []
      refine lv_iload_n S.1 S.2.1 dX12_script_53 rfl (lv_at hl 2 rfl) ?_
      refine lv_aload_n S.1 S.2.1 dX12_script_54 rfl (lv_at hl 0 rfl) ?_
      refine zz_gI S K Z hv zc_10 (by decide) gf_X12_109 dX12_script_55 (fun v35 hv => ?_)
      refine lv_icmp_ge (tgt := 78) S.1 S.2.1 dX12_script_58 (by decide) (fun hc => ?_) (fun hc => ?_)
      · replace hv := (if_pos hc).symm.trans hv
        obtain ⟨_, hv, hk⟩ := zz_mapk hv hk
        replace hk := hR2 _ hk
        refine lv_iinc (v := x2_32 + (1 : Int32)) (lv' := [(2, .int (x2_32 + (1 : Int32))), (0, .ref (a0)), (1, .int (y1_33)), (3, .int (y3_34))]) S.1 S.2.1 dX12_script_78 hl (k := 2) rfl rfl (by decide) rfl (fun ls hl => ?_)
        refine lv_goto (tgt := 11) S.1 S.2.1 dX12_script_81 (by decide) ?_
        replace hk := zz_fin hv hk
        exact hP1 _ hk H locs ls Z (lv_sub hl [1, 2, 0, 3] rfl)
      · replace hv := (if_neg hc).symm.trans hv
        refine lv_aload_n S.1 S.2.1 dX12_script_61 rfl (lv_at hl 0 rfl) ?_
        refine zz_gR S K Z hv zc_10 (by decide) gf_X12_13 dX12_script_62 (fun v36 hv => ?_)
        refine lv_iload_n S.1 S.2.1 dX12_script_65 rfl (lv_at hl 2 rfl) ?_
        refine zz_iald S K Z hv dX12_script_66 (fun v37 hv => ?_)
        refine lv_bipush (v := (10 : Int32)) S.1 S.2.1 dX12_script_67 (by decide) ?_
        refine lv_icmp_eq (tgt := 78) S.1 S.2.1 dX12_script_69 (by decide) (fun hc => ?_) (fun hc => ?_)
        · replace hv := (if_pos hc).symm.trans hv
          obtain ⟨_, hv, hk⟩ := zz_mapk hv hk
          replace hk := hR2 _ hk
          refine lv_iinc (v := x2_32 + (1 : Int32)) (lv' := [(2, .int (x2_32 + (1 : Int32))), (0, .ref (a0)), (1, .int (y1_33)), (3, .int (y3_34))]) S.1 S.2.1 dX12_script_78 hl (k := 2) rfl rfl (by decide) rfl (fun ls hl => ?_)
          refine lv_goto (tgt := 11) S.1 S.2.1 dX12_script_81 (by decide) ?_
          replace hk := zz_fin hv hk
          exact hP1 _ hk H locs ls Z (lv_sub hl [1, 2, 0, 3] rfl)
        · replace hv := (if_neg hc).symm.trans hv
          refine lv_iinc (v := x2_32 + (1 : Int32)) (lv' := [(2, .int (x2_32 + (1 : Int32))), (0, .ref (a0)), (1, .int (y1_33)), (3, .int (y3_34))]) S.1 S.2.1 dX12_script_72 hl (k := 2) rfl rfl (by decide) rfl (fun ls hl => ?_)
          refine lv_goto (tgt := 53) S.1 S.2.1 dX12_script_75 (by decide) ?_
          replace hk := zz_fin hv hk
          exact hP2 _ hk H locs ls Z (lv_sub hl [1, 2, 0, 3] rfl)
    have J52 : ∀ (x2_29 : Int32) (x3_30 : Int32) (s31 : Int32) (x : ((Int32 × Int32 × Int32) ⊕ (Int32 × ZH))), f_X12_script_J52 h a0 x2_29 x3_30 s31 h5 = some x → K1 x → ∀ (H : Heap) (locs : List Loc) (ls : Array Slot), zz_B D dA A h5 n s.heap H locs → lv_has ls 6 [(0, .ref (a0)), (2, .int (x2_29)), (3, .int (x3_30))] → zz_W p l e rm_X12_script s m args below meth c D dA A (some (.int r)) hx n 0 0 H locs 0 0 52 ls [.int (s31)] := by
      intro x2_29 x3_30 s31 x hv hk H locs ls Z hl
      unfold f_X12_script_J52 at hv
      refine lv_istore_n (lv' := [(1, .int (s31)), (0, .ref (a0)), (2, .int (x2_29)), (3, .int (x3_30))]) S.1 S.2.1 dX12_script_52 rfl hl (by decide) rfl (fun ls hl => ?_)
      exact L53 s31 x3_30 (x2_29) _ hv hk H locs ls Z (lv_sub hl [1, 0, 2, 3] rfl)
    rintro ⟨x1_2, x2_3, x3_4⟩ x hv hk H locs ls Z hl
    replace hv : f_X12_script_L11 h a0 h5 x1_2 x2_3 x3_4 = some x := hv
    unfold f_X12_script_L11 at hv
    replace hl : lv_has ls 6 [(0, .ref (a0)), (1, .int (x1_2)), (2, .int (x2_3)), (3, .int (x3_4))] := hl
    replace Z : zz_B D dA A h5 n s.heap H locs := Z
    show zz_W p l e rm_X12_script s m args below meth c D dA A (some (.int r)) hx n 0 0 H locs 0 0 11 ls []
    refine lv_iload_n S.1 S.2.1 dX12_script_11 rfl (lv_at hl 2 rfl) ?_
    refine lv_aload_n S.1 S.2.1 dX12_script_12 rfl (lv_at hl 0 rfl) ?_
    refine zz_gI S K Z hv zc_10 (by decide) gf_X12_109 dX12_script_13 (fun v6 hv => ?_)
    refine lv_icmp_ge (tgt := 84) S.1 S.2.1 dX12_script_16 (by decide) (fun hc => ?_) (fun hc => ?_)
    · replace hv := (if_pos hc).symm.trans hv
      obtain ⟨_, hv, hk⟩ := zz_mapk hv hk
      replace hk := hR1 _ hk
      exact J84 x1_2 h5 _ hv hk H locs ls Z (lv_sub hl [0, 1] rfl)
    · replace hv := (if_neg hc).symm.trans hv
      refine lv_iload_n S.1 S.2.1 dX12_script_19 rfl (lv_at hl 1 rfl) ?_
      refine lv_if_ge (tgt := 84) S.1 S.2.1 dX12_script_20 (by decide) (fun hc => ?_) (fun hc => ?_)
      · replace hv := (if_pos hc).symm.trans hv
        obtain ⟨_, hv, hk⟩ := zz_mapk hv hk
        replace hk := hR1 _ hk
        exact J84 x1_2 h5 _ hv hk H locs ls Z (lv_sub hl [0, 1] rfl)
      · replace hv := (if_neg hc).symm.trans hv
        refine lv_iinc (v := x3_4 + (1 : Int32)) (lv' := [(3, .int (x3_4 + (1 : Int32))), (0, .ref (a0)), (1, .int (x1_2)), (2, .int (x2_3))]) S.1 S.2.1 dX12_script_23 hl (k := 3) rfl rfl (by decide) rfl (fun ls hl => ?_)
        refine lv_aload_n S.1 S.2.1 dX12_script_26 rfl (lv_at hl 1 rfl) ?_
        refine zz_gR S K Z hv zc_10 (by decide) gf_X12_13 dX12_script_27 (fun v26 hv => ?_)
        refine lv_iload_n S.1 S.2.1 dX12_script_30 rfl (lv_at hl 3 rfl) ?_
        refine zz_iald S K Z hv dX12_script_31 (fun v27 hv => ?_)
        refine lv_bipush (v := (10 : Int32)) S.1 S.2.1 dX12_script_32 (by decide) ?_
        refine lv_icmp_eq (tgt := 78) S.1 S.2.1 dX12_script_34 (by decide) (fun hc => ?_) (fun hc => ?_)
        · replace hv := (if_pos hc).symm.trans hv
          refine lv_iinc (v := x2_3 + (1 : Int32)) (lv' := [(2, .int (x2_3 + (1 : Int32))), (3, .int (x3_4 + (1 : Int32))), (0, .ref (a0)), (1, .int (x1_2))]) S.1 S.2.1 dX12_script_78 hl (k := 3) rfl rfl (by decide) rfl (fun ls hl => ?_)
          refine lv_goto (tgt := 11) S.1 S.2.1 dX12_script_81 (by decide) ?_
          replace hk := zz_fin hv hk
          exact hP1 _ hk H locs ls Z (lv_sub hl [2, 3, 0, 1] rfl)
        · replace hv := (if_neg hc).symm.trans hv
          refine lv_iload_n S.1 S.2.1 dX12_script_37 rfl (lv_at hl 0 rfl) ?_
          refine lv_bipush (v := (40 : Int32)) S.1 S.2.1 dX12_script_38 (by decide) ?_
          refine lv_icmp_le (tgt := 47) S.1 S.2.1 dX12_script_40 (by decide) (fun hc => ?_) (fun hc => ?_)
          · replace hv := (if_pos hc).symm.trans hv
            refine lv_aload_n S.1 S.2.1 dX12_script_47 rfl (lv_at hl 1 rfl) ?_
            refine lv_iload_n S.1 S.2.1 dX12_script_48 rfl (lv_at hl 3 rfl) ?_
            obtain ⟨hci, hv⟩ := zz_isO_s hv
            obtain ⟨v28, hq, hv⟩ := zz_bd hv
            refine zz_V [.int (x2_3)] S K Z hci zc_10 rfl (c_X12_wrongLine a0 x2_3 hq) ⟨rfl, rfl⟩ gm_X12_wrongLine gmv_X12_wrongLine gl_X12_207 ⟨by decide, by decide⟩ rfl hl.1 rfl (Nat.le_of_ble_eq_true rfl) dX12_script_49 ⟨Nat.zero_le _, Nat.zero_le _⟩ (fun H locs Z => ?_)
            show W _ _ _ _ _ _ _ _ _ _ _ _ 0 0 _ (F0 m 52 ls [.int (v28)])
            exact J52 x2_3 (x3_4 + (1 : Int32)) v28 _ hv hk H locs ls Z (lv_sub hl [1, 3, 0] rfl)
          · replace hv := (if_neg hc).symm.trans hv
            refine lv_iload_n S.1 S.2.1 dX12_script_43 rfl (lv_at hl 3 rfl) ?_
            refine lv_goto (tgt := 52) S.1 S.2.1 dX12_script_44 (by decide) ?_
            exact J52 x2_3 (x3_4 + (1 : Int32)) x2_3 _ hv hk H locs ls Z (lv_sub hl [1, 3, 0] rfl)
  have hv := hf
  unfold f_X12_script at hv
  clear hf
  obtain ⟨x, hxx⟩ : ∃ x, x = (r, hx) := ⟨_, rfl⟩
  rw [← hxx] at hv hk
  have ⟨H, hH⟩ : ∃ H, H = s.heap := ⟨_, rfl⟩
  have ⟨locs, hlo⟩ : ∃ q : List Loc, q = [] := ⟨_, rfl⟩
  have Z : zz_B D dA A h n s.heap H locs := by rw [hH, hlo]; exact Z
  have key : zz_W p l e rm_X12_script s m args below meth c D dA A (some (.int r)) hx n 0 0 H locs 0 0 0 ls [] := by
    clear hH hlo hxx
    refine lv_aload_n S.1 S.2.1 dX12_script_0 rfl (lv_at hl 0 rfl) ?_
    refine lv_iconst (v := (0 : Int32)) S.1 S.2.1 dX12_script_1 (by decide) ?_
    refine zz_put S K Z hv zc_10 (by decide) gf_X12_1 rfl rfl rfl dX12_script_2 (fun h1 H locs hv Z => ?_)
    refine lv_iconst (v := (-1 : Int32)) S.1 S.2.1 dX12_script_5 (by decide) ?_
    refine lv_istore_n (lv' := [(1, .int ((-1 : Int32))), (0, .ref (a0))]) S.1 S.2.1 dX12_script_6 rfl hl (by decide) rfl (fun ls hl => ?_)
    refine lv_iconst (v := (0 : Int32)) S.1 S.2.1 dX12_script_7 (by decide) ?_
    refine lv_istore_n (lv' := [(2, .int ((0 : Int32))), (1, .int ((-1 : Int32))), (0, .ref (a0))]) S.1 S.2.1 dX12_script_8 rfl hl (by decide) rfl (fun ls hl => ?_)
    refine lv_iconst (v := (0 : Int32)) S.1 S.2.1 dX12_script_9 (by decide) ?_
    refine lv_istore_n (lv' := [(3, .int ((0 : Int32))), (2, .int ((0 : Int32))), (1, .int ((-1 : Int32))), (0, .ref (a0))]) S.1 S.2.1 dX12_script_10 rfl hl (by decide) rfl (fun ls hl => ?_)
    exact L11 h1 ((-1 : Int32), (0 : Int32), (0 : Int32)) _ hv hk H locs ls Z (lv_sub hl [3, 2, 1, 0] rfl)
  rw [hH, hlo] at key
  exact key

noncomputable def f_X12_signOf (h : ZH) (a0 : Nat) (a1 : Int32) (a2 : Int32) : Option (Int32) :=
  if 0 ≤ a1 then ((zg_R h a0 10 8).bind fun v1 => (zl_I h v1 1 (((20 : Int32) * a1) + a2)).bind fun v2 => some (v2)) else (some ((63 : Int32)))
abbrev rm_X12_signOf : Room := { frames := 0, cells := 0, slots := 0, locals := 0 }
set_option maxRecDepth 100000 in
set_option maxHeartbeats 4000000 in
theorem c_X12_signOf {l : Launch} {D : va_G} {dA : Nat → ClassId} {A : Nat → Prop} {h : ZH} {n : Nat} (a0 : Nat) (a1 : Int32) (a2 : Int32) {r : Int32} (hf : f_X12_signOf h a0 a1 a2 = some r) : Met l yX12_signOf (zz_ws yX12_signOf cX12_signOf 3 (some .int)) rm_X12_signOf (zz_P D dA A h n [.ref (a0), .int (a1), .int (a2)]) (zz_Q D dA A (some (.int r)) h n) 0 0 A := by
  refine zz_met (by decide) (Nat.le_of_ble_eq_true rfl) ?_
  intro p e s m args below meth c ls S K hret hlk hnm hl Z
  replace hl : lv_has ls 3 [(0, .ref (a0)), (1, .int (a1)), (2, .int (a2))] := hl
  obtain ⟨K0, hR0, hk⟩ : ∃ K0 : (Int32) → Prop, (∀ x, K0 x → x = r) ∧ K0 r := ⟨fun x => x = r, fun _ h => h, rfl⟩
  have hv := hf
  unfold f_X12_signOf at hv
  clear hf
  obtain ⟨x, hxx⟩ : ∃ x, x = r := ⟨_, rfl⟩
  rw [← hxx] at hv hk
  have ⟨H, hH⟩ : ∃ H, H = s.heap := ⟨_, rfl⟩
  have ⟨locs, hlo⟩ : ∃ q : List Loc, q = [] := ⟨_, rfl⟩
  have Z : zz_B D dA A h n s.heap H locs := by rw [hH, hlo]; exact Z
  have key : zz_W p l e rm_X12_signOf s m args below meth c D dA A (some (.int r)) h n 0 0 H locs 0 0 0 ls [] := by
    clear hH hlo hxx
    refine lv_iload_n S.1 S.2.1 dX12_signOf_0 rfl (lv_at hl 1 rfl) ?_
    refine lv_if_ge (tgt := 9) S.1 S.2.1 dX12_signOf_1 (by decide) (fun hc => ?_) (fun hc => ?_)
    · replace hv := (if_pos hc).symm.trans hv
      refine lv_aload_n S.1 S.2.1 dX12_signOf_9 rfl (lv_at hl 0 rfl) ?_
      refine zz_gR S K Z hv zc_10 (by decide) gf_X12_23 dX12_signOf_10 (fun v1 hv => ?_)
      refine lv_bipush (v := (20 : Int32)) S.1 S.2.1 dX12_signOf_13 (by decide) ?_
      refine lv_iload_n S.1 S.2.1 dX12_signOf_15 rfl (lv_at hl 1 rfl) ?_
      refine lv_imul S.1 S.2.1 dX12_signOf_16 ?_
      refine lv_iload_n S.1 S.2.1 dX12_signOf_17 rfl (lv_at hl 2 rfl) ?_
      refine lv_iadd S.1 S.2.1 dX12_signOf_18 ?_
      refine zz_iald S K Z hv dX12_signOf_19 (fun v2 hv => ?_)
      replace hk := zz_fin hv hk
      obtain rfl := hR0 _ hk
      exact zz_iret S Z hret hlk dX12_signOf_20 (Nat.le_refl _) (Nat.le_refl _)
    · replace hv := (if_neg hc).symm.trans hv
      refine lv_bipush (v := (63 : Int32)) S.1 S.2.1 dX12_signOf_4 (by decide) ?_
      refine lv_goto (tgt := 20) S.1 S.2.1 dX12_signOf_6 (by decide) ?_
      replace hk := zz_fin hv hk
      obtain rfl := hR0 _ hk
      exact zz_iret S Z hret hlk dX12_signOf_20 (Nat.le_refl _) (Nat.le_refl _)
  rw [hH, hlo] at key
  exact key

noncomputable def f_X12_signsOf (h : ZH) (a0 : Nat) (a1 : Int32) : Option (Int32) :=
  if 0 ≤ a1 then ((zg_R h a0 10 9).bind fun v1 => (zl_I h v1 1 a1).bind fun v2 => some (v2)) else (some ((1 : Int32)))
abbrev rm_X12_signsOf : Room := { frames := 0, cells := 0, slots := 0, locals := 0 }
set_option maxRecDepth 100000 in
set_option maxHeartbeats 4000000 in
theorem c_X12_signsOf {l : Launch} {D : va_G} {dA : Nat → ClassId} {A : Nat → Prop} {h : ZH} {n : Nat} (a0 : Nat) (a1 : Int32) {r : Int32} (hf : f_X12_signsOf h a0 a1 = some r) : Met l yX12_signsOf (zz_ws yX12_signsOf cX12_signsOf 2 (some .int)) rm_X12_signsOf (zz_P D dA A h n [.ref (a0), .int (a1)]) (zz_Q D dA A (some (.int r)) h n) 0 0 A := by
  refine zz_met (by decide) (Nat.le_of_ble_eq_true rfl) ?_
  intro p e s m args below meth c ls S K hret hlk hnm hl Z
  replace hl : lv_has ls 2 [(0, .ref (a0)), (1, .int (a1))] := hl
  obtain ⟨K0, hR0, hk⟩ : ∃ K0 : (Int32) → Prop, (∀ x, K0 x → x = r) ∧ K0 r := ⟨fun x => x = r, fun _ h => h, rfl⟩
  have hv := hf
  unfold f_X12_signsOf at hv
  clear hf
  obtain ⟨x, hxx⟩ : ∃ x, x = r := ⟨_, rfl⟩
  rw [← hxx] at hv hk
  have ⟨H, hH⟩ : ∃ H, H = s.heap := ⟨_, rfl⟩
  have ⟨locs, hlo⟩ : ∃ q : List Loc, q = [] := ⟨_, rfl⟩
  have Z : zz_B D dA A h n s.heap H locs := by rw [hH, hlo]; exact Z
  have key : zz_W p l e rm_X12_signsOf s m args below meth c D dA A (some (.int r)) h n 0 0 H locs 0 0 0 ls [] := by
    clear hH hlo hxx
    refine lv_iload_n S.1 S.2.1 dX12_signsOf_0 rfl (lv_at hl 1 rfl) ?_
    refine lv_if_ge (tgt := 8) S.1 S.2.1 dX12_signsOf_1 (by decide) (fun hc => ?_) (fun hc => ?_)
    · replace hv := (if_pos hc).symm.trans hv
      refine lv_aload_n S.1 S.2.1 dX12_signsOf_8 rfl (lv_at hl 0 rfl) ?_
      refine zz_gR S K Z hv zc_10 (by decide) gf_X12_26 dX12_signsOf_9 (fun v1 hv => ?_)
      refine lv_iload_n S.1 S.2.1 dX12_signsOf_12 rfl (lv_at hl 1 rfl) ?_
      refine zz_iald S K Z hv dX12_signsOf_13 (fun v2 hv => ?_)
      replace hk := zz_fin hv hk
      obtain rfl := hR0 _ hk
      exact zz_iret S Z hret hlk dX12_signsOf_14 (Nat.le_refl _) (Nat.le_refl _)
    · replace hv := (if_neg hc).symm.trans hv
      refine lv_iconst (v := (1 : Int32)) S.1 S.2.1 dX12_signsOf_4 (by decide) ?_
      refine lv_goto (tgt := 14) S.1 S.2.1 dX12_signsOf_5 (by decide) ?_
      replace hk := zz_fin hv hk
      obtain rfl := hR0 _ hk
      exact zz_iret S Z hret hlk dX12_signsOf_14 (Nat.le_refl _) (Nat.le_refl _)
  rw [hH, hlo] at key
  exact key

noncomputable def f_X12_matches_J285 (h : ZH) (a0 : Nat) (a1 : Int32) (a2 : Int32) (a3 : Int32) (y4_4 : Int32) (y5_14 : Int32) (y6_15 : Int32) (y7_16 : Int32) (y8_17 : Int32) (x10_38 : Int32) (s39 : Int32) (s40 : Int32) : Option ((Int32 × Int32) ⊕ ((Int32 × Int32) ⊕ (Int32))) :=
  zz_let (s40 ||| s39) fun v41 => some (.inl (v41, x10_38 + (1 : Int32)))
noncomputable def f_X12_matches_J268 (h : ZH) (a0 : Nat) (a1 : Int32) (a2 : Int32) (a3 : Int32) (y4_4 : Int32) (y5_14 : Int32) (y6_15 : Int32) (y7_16 : Int32) (y8_17 : Int32) (x9_35 : Int32) (x10_36 : Int32) (x13_37 : Int32) : Option ((Int32 × Int32) ⊕ ((Int32 × Int32) ⊕ (Int32))) :=
  if x13_37 = 0 then (f_X12_matches_J285 h a0 a1 a2 a3 y4_4 y5_14 y6_15 y7_16 y8_17 x10_36 (0 : Int32) x9_35) else (f_X12_matches_J285 h a0 a1 a2 a3 y4_4 y5_14 y6_15 y7_16 y8_17 x10_36 ((1 : Int32) <<< ((x10_36 + (1 : Int32)) &&& 31)) x9_35)
noncomputable def f_X12_matches_J260 (h : ZH) (a0 : Nat) (a1 : Int32) (a2 : Int32) (a3 : Int32) (y4_4 : Int32) (y5_14 : Int32) (y6_15 : Int32) (y7_16 : Int32) (y8_17 : Int32) (y9_32 : Int32) (y10_33 : Int32) (y12_34 : Int32) (x14_43 : Int32) (s44 : Int32) : Option ((Int32 × Int32) ⊕ ((Int32 × Int32) ⊕ ((Int32 × Int32) ⊕ (Int32)))) :=
  some (.inl (s44, x14_43 + (1 : Int32)))
noncomputable def f_X12_matches_J255 (h : ZH) (a0 : Nat) (a1 : Int32) (a2 : Int32) (a3 : Int32) (y4_4 : Int32) (y5_14 : Int32) (y6_15 : Int32) (y7_16 : Int32) (y8_17 : Int32) (y9_32 : Int32) (y10_33 : Int32) (y12_34 : Int32) (x14_42 : Int32) : Option ((Int32 × Int32) ⊕ ((Int32 × Int32) ⊕ ((Int32 × Int32) ⊕ (Int32)))) :=
  f_X12_matches_J260 h a0 a1 a2 a3 y4_4 y5_14 y6_15 y7_16 y8_17 y9_32 y10_33 y12_34 x14_42 (1 : Int32)
noncomputable def f_X12_matches_L222 (h : ZH) (a0 : Nat) (a1 : Int32) (a2 : Int32) (a3 : Int32) (y4_4 : Int32) (y5_14 : Int32) (y6_15 : Int32) (y7_16 : Int32) (y8_17 : Int32) (y9_32 : Int32) (y10_33 : Int32) (y12_34 : Int32) (x13_30 : Int32) (x14_31 : Int32)  : Option ((Int32 × Int32) ⊕ ((Int32 × Int32) ⊕ ((Int32 × Int32) ⊕ (Int32)))) :=
  if y7_16 = (91 : Int32) then (if (y8_17 - (1 : Int32)) ≤ x14_31 then ((f_X12_matches_J268 h a0 a1 a2 a3 y4_4 y5_14 y6_15 y7_16 y8_17 y9_32 y10_33 x13_30).map Sum.inr) else (if x13_30 = 0 then ((zg_R h a0 10 31).bind fun v45 => (zl_I h v45 1 x14_31).bind fun v46 => if v46 = y12_34 then (f_X12_matches_J255 h a0 a1 a2 a3 y4_4 y5_14 y6_15 y7_16 y8_17 y9_32 y10_33 y12_34 x14_31) else (f_X12_matches_J260 h a0 a1 a2 a3 y4_4 y5_14 y6_15 y7_16 y8_17 y9_32 y10_33 y12_34 x14_31 (0 : Int32))) else (f_X12_matches_J255 h a0 a1 a2 a3 y4_4 y5_14 y6_15 y7_16 y8_17 y9_32 y10_33 y12_34 x14_31))) else ((f_X12_matches_J268 h a0 a1 a2 a3 y4_4 y5_14 y6_15 y7_16 y8_17 y9_32 y10_33 x13_30).map Sum.inr)
noncomputable def f_X12_matches_J214 (h : ZH) (a0 : Nat) (a1 : Int32) (a2 : Int32) (a3 : Int32) (y4_4 : Int32) (y5_14 : Int32) (y6_15 : Int32) (y7_16 : Int32) (y8_17 : Int32) (x9_25 : Int32) (x10_26 : Int32) (x12_27 : Int32) (s28 : Int32) : Option ((Int32 × Int32) ⊕ ((Int32 × Int32) ⊕ (Int32))) :=
  zz_let (y6_15 + (1 : Int32)) fun v29 => zz_loop (fun st : (Int32 × Int32) => f_X12_matches_L222 h a0 a1 a2 a3 y4_4 y5_14 y6_15 y7_16 y8_17 x9_25 x10_26 x12_27 (st.1) (st.2)) (s28, v29)
noncomputable def f_X12_matches_J209 (h : ZH) (a0 : Nat) (a1 : Int32) (a2 : Int32) (a3 : Int32) (y4_4 : Int32) (y5_14 : Int32) (y6_15 : Int32) (y7_16 : Int32) (y8_17 : Int32) (x9_22 : Int32) (x10_23 : Int32) (x12_24 : Int32) : Option ((Int32 × Int32) ⊕ ((Int32 × Int32) ⊕ (Int32))) :=
  f_X12_matches_J214 h a0 a1 a2 a3 y4_4 y5_14 y6_15 y7_16 y8_17 x9_22 x10_23 x12_24 (1 : Int32)
noncomputable def f_X12_matches_J213 (h : ZH) (a0 : Nat) (a1 : Int32) (a2 : Int32) (a3 : Int32) (y4_4 : Int32) (y5_14 : Int32) (y6_15 : Int32) (y7_16 : Int32) (y8_17 : Int32) (x9_50 : Int32) (x10_51 : Int32) (x12_52 : Int32) : Option ((Int32 × Int32) ⊕ ((Int32 × Int32) ⊕ (Int32))) :=
  f_X12_matches_J214 h a0 a1 a2 a3 y4_4 y5_14 y6_15 y7_16 y8_17 x9_50 x10_51 x12_52 (0 : Int32)
noncomputable def f_X12_matches_J188 (h : ZH) (a0 : Nat) (a1 : Int32) (a2 : Int32) (a3 : Int32) (y4_4 : Int32) (y5_14 : Int32) (y6_15 : Int32) (y7_16 : Int32) (y8_17 : Int32) (x9_47 : Int32) (x10_48 : Int32) (x12_49 : Int32) : Option ((Int32 × Int32) ⊕ ((Int32 × Int32) ⊕ (Int32))) :=
  if y7_16 = (92 : Int32) then (f_X12_matches_J213 h a0 a1 a2 a3 y4_4 y5_14 y6_15 y7_16 y8_17 x9_47 x10_48 x12_49) else (if y7_16 = (91 : Int32) then (f_X12_matches_J213 h a0 a1 a2 a3 y4_4 y5_14 y6_15 y7_16 y8_17 x9_47 x10_48 x12_49) else (if y7_16 = x12_49 then (f_X12_matches_J209 h a0 a1 a2 a3 y4_4 y5_14 y6_15 y7_16 y8_17 x9_47 x10_48 x12_49) else (f_X12_matches_J213 h a0 a1 a2 a3 y4_4 y5_14 y6_15 y7_16 y8_17 x9_47 x10_48 x12_49)))
noncomputable def f_X12_matches_J133 (h : ZH) (a0 : Nat) (a1 : Int32) (a2 : Int32) (a3 : Int32) (y4_4 : Int32) (y5_14 : Int32) (y6_15 : Int32) (y7_16 : Int32) (y8_17 : Int32) (x10_57 : Int32) (s58 : Int32) (s59 : Int32) : Option ((Int32 × Int32) ⊕ ((Int32 × Int32) ⊕ (Int32))) :=
  zz_let (s59 ||| s58) fun v60 => some (.inl (v60, x10_57 + (1 : Int32)))
noncomputable def f_X12_matches_J125 (h : ZH) (a0 : Nat) (a1 : Int32) (a2 : Int32) (a3 : Int32) (y4_4 : Int32) (y5_14 : Int32) (y6_15 : Int32) (y7_16 : Int32) (y8_17 : Int32) (x10_55 : Int32) (s56 : Int32) : Option ((Int32 × Int32) ⊕ ((Int32 × Int32) ⊕ (Int32))) :=
  f_X12_matches_J133 h a0 a1 a2 a3 y4_4 y5_14 y6_15 y7_16 y8_17 x10_55 ((1 : Int32) <<< (x10_55 &&& 31)) s56
noncomputable def f_X12_matches_J104 (h : ZH) (a0 : Nat) (a1 : Int32) (a2 : Int32) (a3 : Int32) (y4_4 : Int32) (y5_14 : Int32) (y6_15 : Int32) (y7_16 : Int32) (y8_17 : Int32) (x9_18 : Int32) (x10_19 : Int32) (s20 : Int32) : Option ((Int32 × Int32) ⊕ ((Int32 × Int32) ⊕ (Int32))) :=
  if y7_16 = (42 : Int32) then (if s20 = 0 then (if x9_18 = 0 then (f_X12_matches_J133 h a0 a1 a2 a3 y4_4 y5_14 y6_15 y7_16 y8_17 x10_19 (0 : Int32) x9_18) else (f_X12_matches_J125 h a0 a1 a2 a3 y4_4 y5_14 y6_15 y7_16 y8_17 x10_19 x9_18)) else (f_X12_matches_J125 h a0 a1 a2 a3 y4_4 y5_14 y6_15 y7_16 y8_17 x10_19 x9_18)) else (if s20 = 0 then (some (.inl (x9_18, x10_19 + (1 : Int32)))) else (if y4_4 ≤ x10_19 then (some (.inl (x9_18, x10_19 + (1 : Int32)))) else (zz_isO h a0 10 <| (f_X12_signOf h a0 a3 x10_19).bind fun v21 => if y7_16 = (46 : Int32) then (f_X12_matches_J209 h a0 a1 a2 a3 y4_4 y5_14 y6_15 y7_16 y8_17 x9_18 x10_19 v21) else (if y7_16 = (92 : Int32) then ((zg_R h a0 10 31).bind fun v53 => (zl_I h v53 1 (y6_15 + (1 : Int32))).bind fun v54 => if v54 = v21 then (f_X12_matches_J209 h a0 a1 a2 a3 y4_4 y5_14 y6_15 y7_16 y8_17 x9_18 x10_19 v21) else (f_X12_matches_J188 h a0 a1 a2 a3 y4_4 y5_14 y6_15 y7_16 y8_17 x9_18 x10_19 v21)) else (f_X12_matches_J188 h a0 a1 a2 a3 y4_4 y5_14 y6_15 y7_16 y8_17 x9_18 x10_19 v21)))))
noncomputable def f_X12_matches_L81 (h : ZH) (a0 : Nat) (a1 : Int32) (a2 : Int32) (a3 : Int32) (y4_4 : Int32) (y5_14 : Int32) (y6_15 : Int32) (y7_16 : Int32) (y8_17 : Int32) (x9_12 : Int32) (x10_13 : Int32)  : Option ((Int32 × Int32) ⊕ ((Int32 × Int32) ⊕ (Int32))) :=
  if y4_4 < x10_13 then ((some (.inl (x9_12, y8_17))).map Sum.inr) else (if ((y5_14 >>> (x10_13 &&& 31)) &&& (1 : Int32)) = (1 : Int32) then (f_X12_matches_J104 h a0 a1 a2 a3 y4_4 y5_14 y6_15 y7_16 y8_17 x9_12 x10_13 (1 : Int32)) else (f_X12_matches_J104 h a0 a1 a2 a3 y4_4 y5_14 y6_15 y7_16 y8_17 x9_12 x10_13 (0 : Int32)))
noncomputable def f_X12_matches_J75 (h : ZH) (a0 : Nat) (a1 : Int32) (a2 : Int32) (a3 : Int32) (y4_4 : Int32) (x5_8 : Int32) (x6_9 : Int32) (x7_10 : Int32) (x8_11 : Int32) : Option ((Int32 × Int32) ⊕ (Int32)) :=
  zz_loop (fun st : (Int32 × Int32) => f_X12_matches_L81 h a0 a1 a2 a3 y4_4 x5_8 x6_9 x7_10 x8_11 (st.1) (st.2)) ((0 : Int32), (0 : Int32))
noncomputable def f_X12_matches_L41 (h : ZH) (a0 : Nat) (a1 : Int32) (a2 : Int32) (a3 : Int32) (y4_4 : Int32) (y5_62 : Int32) (y6_63 : Int32) (y7_64 : Int32) (x8_61 : Int32)  : Option ((Int32) ⊕ ((Int32 × Int32) ⊕ (Int32))) :=
  (zg_R h a0 10 31).bind fun v65 => (zl_I h v65 1 x8_61).bind fun v66 => if v66 = (93 : Int32) then ((f_X12_matches_J75 h a0 a1 a2 a3 y4_4 y5_62 y6_63 y7_64 (x8_61 + (1 : Int32))).map Sum.inr) else (some (.inl (x8_61 + (1 : Int32))))
noncomputable def f_X12_matches_L13 (h : ZH) (a0 : Nat) (a1 : Int32) (a2 : Int32) (a3 : Int32) (y4_4 : Int32) (x5_2 : Int32) (x6_3 : Int32)  : Option ((Int32 × Int32) ⊕ (Int32)) :=
  if a2 ≤ x6_3 then ((if ((x5_2 >>> (y4_4 &&& 31)) &&& (1 : Int32)) = (1 : Int32) then (some ((1 : Int32))) else (some ((0 : Int32)))).map Sum.inr) else ((zg_R h a0 10 31).bind fun v5 => (zl_I h v5 1 x6_3).bind fun v6 => zz_let (x6_3 + (1 : Int32)) fun v7 => if v6 = (91 : Int32) then (zz_loop (fun st : (Int32) => f_X12_matches_L41 h a0 a1 a2 a3 y4_4 x5_2 x6_3 v6 (st)) (v7)) else (if v6 = (92 : Int32) then (f_X12_matches_J75 h a0 a1 a2 a3 y4_4 x5_2 x6_3 v6 (v7 + (1 : Int32))) else (f_X12_matches_J75 h a0 a1 a2 a3 y4_4 x5_2 x6_3 v6 v7)))
noncomputable def f_X12_matches (h : ZH) (a0 : Nat) (a1 : Int32) (a2 : Int32) (a3 : Int32) : Option (Int32) :=
  zz_isO h a0 10 <| (f_X12_signsOf h a0 a3).bind fun v1 => zz_loop (fun st : (Int32 × Int32) => f_X12_matches_L13 h a0 a1 a2 a3 v1 (st.1) (st.2)) ((1 : Int32), a1)
abbrev rm_X12_matches : Room := { frames := 1, cells := 0, slots := 0, locals := 22 }
set_option maxRecDepth 100000 in
set_option maxHeartbeats 4000000 in
theorem c_X12_matches {l : Launch} {D : va_G} {dA : Nat → ClassId} {A : Nat → Prop} {h : ZH} {n : Nat} (a0 : Nat) (a1 : Int32) (a2 : Int32) (a3 : Int32) {r : Int32} (hf : f_X12_matches h a0 a1 a2 a3 = some r) : Met l yX12_matches (zz_ws yX12_matches cX12_matches 15 (some .boolean)) rm_X12_matches (zz_P D dA A h n [.ref (a0), .int (a1), .int (a2), .int (a3)]) (zz_Q D dA A (some (.int r)) h n) 0 0 A := by
  refine zz_met (by decide) (Nat.le_of_ble_eq_true rfl) ?_
  intro p e s m args below meth c ls S K hret hlk hnm hl Z
  replace hl : lv_has ls 15 [(0, .ref (a0)), (1, .int (a1)), (2, .int (a2)), (3, .int (a3))] := hl
  obtain ⟨K0, hR0, hk⟩ : ∃ K0 : (Int32) → Prop, (∀ x, K0 x → x = r) ∧ K0 r := ⟨fun x => x = r, fun _ h => h, rfl⟩
  have L13 : ∀ (y4_4 : Int32) (st : (Int32 × Int32)) (x : (Int32)), zz_loop (fun st : (Int32 × Int32) => f_X12_matches_L13 h a0 a1 a2 a3 y4_4 (st.1) (st.2)) st = some x → K0 x → (fun st : (Int32 × Int32) => ∀ (H : Heap) (locs : List Loc) (ls : Array Slot), zz_B D dA A h n s.heap H locs → lv_has ls 15 [(0, .ref (a0)), (2, .int (a2)), (3, .int (a3)), (4, .int (y4_4)), (5, .int ((st.1))), (6, .int ((st.2)))] → zz_W p l e rm_X12_matches s m args below meth c D dA A (some (.int r)) h n 0 0 H locs 0 0 13 ls []) st := by
    intro y4_4
    refine zz_loop_go (K := K0) ?_
    intro K1 hP1 hR1
    have L81 : ∀ (y5_14 : Int32) (y6_15 : Int32) (y7_16 : Int32) (y8_17 : Int32) (st : (Int32 × Int32)) (x : ((Int32 × Int32) ⊕ (Int32))), zz_loop (fun st : (Int32 × Int32) => f_X12_matches_L81 h a0 a1 a2 a3 y4_4 y5_14 y6_15 y7_16 y8_17 (st.1) (st.2)) st = some x → K1 x → (fun st : (Int32 × Int32) => ∀ (H : Heap) (locs : List Loc) (ls : Array Slot), zz_B D dA A h n s.heap H locs → lv_has ls 15 [(0, .ref (a0)), (2, .int (a2)), (3, .int (a3)), (4, .int (y4_4)), (5, .int (y5_14)), (6, .int (y6_15)), (7, .int (y7_16)), (8, .int (y8_17)), (9, .int ((st.1))), (10, .int ((st.2)))] → zz_W p l e rm_X12_matches s m args below meth c D dA A (some (.int r)) h n 0 0 H locs 0 0 81 ls []) st := by
      intro y5_14 y6_15 y7_16 y8_17
      refine zz_loop_go (K := K1) ?_
      intro K2 hP2 hR2
      have J285 : ∀ (x10_38 : Int32) (s39 : Int32) (s40 : Int32) (x : ((Int32 × Int32) ⊕ ((Int32 × Int32) ⊕ (Int32)))), f_X12_matches_J285 h a0 a1 a2 a3 y4_4 y5_14 y6_15 y7_16 y8_17 x10_38 s39 s40 = some x → K2 x → ∀ (H : Heap) (locs : List Loc) (ls : Array Slot), zz_B D dA A h n s.heap H locs → lv_has ls 15 [(0, .ref (a0)), (2, .int (a2)), (3, .int (a3)), (4, .int (y4_4)), (5, .int (y5_14)), (6, .int (y6_15)), (7, .int (y7_16)), (8, .int (y8_17)), (10, .int (x10_38))] → zz_W p l e rm_X12_matches s m args below meth c D dA A (some (.int r)) h n 0 0 H locs 0 0 285 ls [.int (s39), .int (s40)] := by
        intro x10_38 s39 s40 x hv hk H locs ls Z hl
        unfold f_X12_matches_J285 at hv
        refine lv_ior S.1 S.2.1 dX12_matches_285 ?_
        refine zz_lt hv (G := fun w => W _ _ _ _ _ _ _ _ _ _ _ _ _ _ _ (F0 _ _ _ (.int w :: _))) (fun v41 hv => ?_)
        refine lv_istore (lv' := [(9, .int (v41)), (0, .ref (a0)), (2, .int (a2)), (3, .int (a3)), (4, .int (y4_4)), (5, .int (y5_14)), (6, .int (y6_15)), (7, .int (y7_16)), (8, .int (y8_17)), (10, .int (x10_38))]) S.1 S.2.1 dX12_matches_286 hl (by decide) rfl (fun ls hl => ?_)
        refine lv_iinc (v := x10_38 + (1 : Int32)) (lv' := [(10, .int (x10_38 + (1 : Int32))), (9, .int (v41)), (0, .ref (a0)), (2, .int (a2)), (3, .int (a3)), (4, .int (y4_4)), (5, .int (y5_14)), (6, .int (y6_15)), (7, .int (y7_16)), (8, .int (y8_17))]) S.1 S.2.1 dX12_matches_288 hl (k := 9) rfl rfl (by decide) rfl (fun ls hl => ?_)
        refine lv_goto (tgt := 81) S.1 S.2.1 dX12_matches_291 (by decide) ?_
        replace hk := zz_fin hv hk
        exact hP2 _ hk H locs ls Z (lv_sub hl [2, 3, 4, 5, 6, 7, 8, 9, 1, 0] rfl)
      have J268 : ∀ (x9_35 : Int32) (x10_36 : Int32) (x13_37 : Int32) (x : ((Int32 × Int32) ⊕ ((Int32 × Int32) ⊕ (Int32)))), f_X12_matches_J268 h a0 a1 a2 a3 y4_4 y5_14 y6_15 y7_16 y8_17 x9_35 x10_36 x13_37 = some x → K2 x → ∀ (H : Heap) (locs : List Loc) (ls : Array Slot), zz_B D dA A h n s.heap H locs → lv_has ls 15 [(0, .ref (a0)), (2, .int (a2)), (3, .int (a3)), (4, .int (y4_4)), (5, .int (y5_14)), (6, .int (y6_15)), (7, .int (y7_16)), (8, .int (y8_17)), (9, .int (x9_35)), (10, .int (x10_36)), (13, .int (x13_37))] → zz_W p l e rm_X12_matches s m args below meth c D dA A (some (.int r)) h n 0 0 H locs 0 0 268 ls [] := by
        intro x9_35 x10_36 x13_37 x hv hk H locs ls Z hl
        unfold f_X12_matches_J268 at hv
        refine lv_iload S.1 S.2.1 dX12_matches_268 (lv_at hl 8 rfl) ?_
        refine lv_iload S.1 S.2.1 dX12_matches_270 (lv_at hl 10 rfl) ?_
        refine lv_if_eq (tgt := 284) S.1 S.2.1 dX12_matches_272 (by decide) (fun hc => ?_) (fun hc => ?_)
        · replace hv := (if_pos hc).symm.trans hv
          refine lv_iconst (v := (0 : Int32)) S.1 S.2.1 dX12_matches_284 (by decide) ?_
          exact J285 x10_36 (0 : Int32) x9_35 _ hv hk H locs ls Z (lv_sub hl [0, 1, 2, 3, 4, 5, 6, 7, 9] rfl)
        · replace hv := (if_neg hc).symm.trans hv
          refine lv_iconst (v := (1 : Int32)) S.1 S.2.1 dX12_matches_275 (by decide) ?_
          refine lv_iload S.1 S.2.1 dX12_matches_276 (lv_at hl 9 rfl) ?_
          refine lv_iconst (v := (1 : Int32)) S.1 S.2.1 dX12_matches_278 (by decide) ?_
          refine lv_iadd S.1 S.2.1 dX12_matches_279 ?_
          refine lv_ishl S.1 S.2.1 dX12_matches_280 ?_
          refine lv_goto (tgt := 285) S.1 S.2.1 dX12_matches_281 (by decide) ?_
          exact J285 x10_36 ((1 : Int32) <<< ((x10_36 + (1 : Int32)) &&& 31)) x9_35 _ hv hk H locs ls Z (lv_sub hl [0, 1, 2, 3, 4, 5, 6, 7, 9] rfl)
      have L222 : ∀ (y9_32 : Int32) (y10_33 : Int32) (y12_34 : Int32) (st : (Int32 × Int32)) (x : ((Int32 × Int32) ⊕ ((Int32 × Int32) ⊕ (Int32)))), zz_loop (fun st : (Int32 × Int32) => f_X12_matches_L222 h a0 a1 a2 a3 y4_4 y5_14 y6_15 y7_16 y8_17 y9_32 y10_33 y12_34 (st.1) (st.2)) st = some x → K2 x → (fun st : (Int32 × Int32) => ∀ (H : Heap) (locs : List Loc) (ls : Array Slot), zz_B D dA A h n s.heap H locs → lv_has ls 15 [(0, .ref (a0)), (2, .int (a2)), (3, .int (a3)), (4, .int (y4_4)), (5, .int (y5_14)), (6, .int (y6_15)), (7, .int (y7_16)), (8, .int (y8_17)), (9, .int (y9_32)), (10, .int (y10_33)), (12, .int (y12_34)), (13, .int ((st.1))), (14, .int ((st.2)))] → zz_W p l e rm_X12_matches s m args below meth c D dA A (some (.int r)) h n 0 0 H locs 0 0 222 ls []) st := by
        intro y9_32 y10_33 y12_34
        refine zz_loop_go (K := K2) ?_
        intro K3 hP3 hR3
        have J260 : ∀ (x14_43 : Int32) (s44 : Int32) (x : ((Int32 × Int32) ⊕ ((Int32 × Int32) ⊕ ((Int32 × Int32) ⊕ (Int32))))), f_X12_matches_J260 h a0 a1 a2 a3 y4_4 y5_14 y6_15 y7_16 y8_17 y9_32 y10_33 y12_34 x14_43 s44 = some x → K3 x → ∀ (H : Heap) (locs : List Loc) (ls : Array Slot), zz_B D dA A h n s.heap H locs → lv_has ls 15 [(0, .ref (a0)), (2, .int (a2)), (3, .int (a3)), (4, .int (y4_4)), (5, .int (y5_14)), (6, .int (y6_15)), (7, .int (y7_16)), (8, .int (y8_17)), (9, .int (y9_32)), (10, .int (y10_33)), (12, .int (y12_34)), (14, .int (x14_43))] → zz_W p l e rm_X12_matches s m args below meth c D dA A (some (.int r)) h n 0 0 H locs 0 0 260 ls [.int (s44)] := by
          intro x14_43 s44 x hv hk H locs ls Z hl
          unfold f_X12_matches_J260 at hv
          refine lv_istore (lv' := [(13, .int (s44)), (0, .ref (a0)), (2, .int (a2)), (3, .int (a3)), (4, .int (y4_4)), (5, .int (y5_14)), (6, .int (y6_15)), (7, .int (y7_16)), (8, .int (y8_17)), (9, .int (y9_32)), (10, .int (y10_33)), (12, .int (y12_34)), (14, .int (x14_43))]) S.1 S.2.1 dX12_matches_260 hl (by decide) rfl (fun ls hl => ?_)
          refine lv_iinc (v := x14_43 + (1 : Int32)) (lv' := [(14, .int (x14_43 + (1 : Int32))), (13, .int (s44)), (0, .ref (a0)), (2, .int (a2)), (3, .int (a3)), (4, .int (y4_4)), (5, .int (y5_14)), (6, .int (y6_15)), (7, .int (y7_16)), (8, .int (y8_17)), (9, .int (y9_32)), (10, .int (y10_33)), (12, .int (y12_34))]) S.1 S.2.1 dX12_matches_262 hl (k := 12) rfl rfl (by decide) rfl (fun ls hl => ?_)
          refine lv_goto (tgt := 222) S.1 S.2.1 dX12_matches_265 (by decide) ?_
          replace hk := zz_fin hv hk
          exact hP3 _ hk H locs ls Z (lv_sub hl [2, 3, 4, 5, 6, 7, 8, 9, 10, 11, 12, 1, 0] rfl)
        have J255 : ∀ (x14_42 : Int32) (x : ((Int32 × Int32) ⊕ ((Int32 × Int32) ⊕ ((Int32 × Int32) ⊕ (Int32))))), f_X12_matches_J255 h a0 a1 a2 a3 y4_4 y5_14 y6_15 y7_16 y8_17 y9_32 y10_33 y12_34 x14_42 = some x → K3 x → ∀ (H : Heap) (locs : List Loc) (ls : Array Slot), zz_B D dA A h n s.heap H locs → lv_has ls 15 [(0, .ref (a0)), (2, .int (a2)), (3, .int (a3)), (4, .int (y4_4)), (5, .int (y5_14)), (6, .int (y6_15)), (7, .int (y7_16)), (8, .int (y8_17)), (9, .int (y9_32)), (10, .int (y10_33)), (12, .int (y12_34)), (14, .int (x14_42))] → zz_W p l e rm_X12_matches s m args below meth c D dA A (some (.int r)) h n 0 0 H locs 0 0 255 ls [] := by
          intro x14_42 x hv hk H locs ls Z hl
          unfold f_X12_matches_J255 at hv
          refine lv_iconst (v := (1 : Int32)) S.1 S.2.1 dX12_matches_255 (by decide) ?_
          refine lv_goto (tgt := 260) S.1 S.2.1 dX12_matches_256 (by decide) ?_
          exact J260 x14_42 (1 : Int32) _ hv hk H locs ls Z (lv_sub hl [0, 1, 2, 3, 4, 5, 6, 7, 8, 9, 10, 11] rfl)
        rintro ⟨x13_30, x14_31⟩ x hv hk H locs ls Z hl
        replace hv : f_X12_matches_L222 h a0 a1 a2 a3 y4_4 y5_14 y6_15 y7_16 y8_17 y9_32 y10_33 y12_34 x13_30 x14_31 = some x := hv
        unfold f_X12_matches_L222 at hv
        replace hl : lv_has ls 15 [(0, .ref (a0)), (2, .int (a2)), (3, .int (a3)), (4, .int (y4_4)), (5, .int (y5_14)), (6, .int (y6_15)), (7, .int (y7_16)), (8, .int (y8_17)), (9, .int (y9_32)), (10, .int (y10_33)), (12, .int (y12_34)), (13, .int (x13_30)), (14, .int (x14_31))] := hl
        replace Z : zz_B D dA A h n s.heap H locs := Z
        show zz_W p l e rm_X12_matches s m args below meth c D dA A (some (.int r)) h n 0 0 H locs 0 0 222 ls []
        refine lv_iload S.1 S.2.1 dX12_matches_222 (lv_at hl 6 rfl) ?_
        refine lv_bipush (v := (91 : Int32)) S.1 S.2.1 dX12_matches_224 (by decide) ?_
        refine lv_icmp_ne (tgt := 268) S.1 S.2.1 dX12_matches_226 (by decide) (fun hc => ?_) (fun hc => ?_)
        · replace hv := (if_neg hc).symm.trans hv
          obtain ⟨_, hv, hk⟩ := zz_mapk hv hk
          replace hk := hR3 _ hk
          exact J268 y9_32 y10_33 x13_30 _ hv hk H locs ls Z (lv_sub hl [0, 1, 2, 3, 4, 5, 6, 7, 8, 9, 11] rfl)
        · replace hv := (if_pos hc).symm.trans hv
          refine lv_iload S.1 S.2.1 dX12_matches_229 (lv_at hl 12 rfl) ?_
          refine lv_iload S.1 S.2.1 dX12_matches_231 (lv_at hl 7 rfl) ?_
          refine lv_iconst (v := (1 : Int32)) S.1 S.2.1 dX12_matches_233 (by decide) ?_
          refine lv_isub S.1 S.2.1 dX12_matches_234 ?_
          refine lv_icmp_ge (tgt := 268) S.1 S.2.1 dX12_matches_235 (by decide) (fun hc => ?_) (fun hc => ?_)
          · replace hv := (if_pos hc).symm.trans hv
            obtain ⟨_, hv, hk⟩ := zz_mapk hv hk
            replace hk := hR3 _ hk
            exact J268 y9_32 y10_33 x13_30 _ hv hk H locs ls Z (lv_sub hl [0, 1, 2, 3, 4, 5, 6, 7, 8, 9, 11] rfl)
          · replace hv := (if_neg hc).symm.trans hv
            refine lv_iload S.1 S.2.1 dX12_matches_238 (lv_at hl 11 rfl) ?_
            refine lv_if_ne (tgt := 255) S.1 S.2.1 dX12_matches_240 (by decide) (fun hc => ?_) (fun hc => ?_)
            · replace hv := (if_neg hc).symm.trans hv
              exact J255 x14_31 _ hv hk H locs ls Z (lv_sub hl [0, 1, 2, 3, 4, 5, 6, 7, 8, 9, 10, 12] rfl)
            · replace hv := (if_pos hc).symm.trans hv
              refine lv_aload_n S.1 S.2.1 dX12_matches_243 rfl (lv_at hl 0 rfl) ?_
              refine zz_gR S K Z hv zc_10 (by decide) gf_X12_82 dX12_matches_244 (fun v45 hv => ?_)
              refine lv_iload S.1 S.2.1 dX12_matches_247 (lv_at hl 12 rfl) ?_
              refine zz_iald S K Z hv dX12_matches_249 (fun v46 hv => ?_)
              refine lv_iload S.1 S.2.1 dX12_matches_250 (lv_at hl 10 rfl) ?_
              refine lv_icmp_ne (tgt := 259) S.1 S.2.1 dX12_matches_252 (by decide) (fun hc => ?_) (fun hc => ?_)
              · replace hv := (if_neg hc).symm.trans hv
                refine lv_iconst (v := (0 : Int32)) S.1 S.2.1 dX12_matches_259 (by decide) ?_
                exact J260 x14_31 (0 : Int32) _ hv hk H locs ls Z (lv_sub hl [0, 1, 2, 3, 4, 5, 6, 7, 8, 9, 10, 12] rfl)
              · replace hv := (if_pos hc).symm.trans hv
                exact J255 x14_31 _ hv hk H locs ls Z (lv_sub hl [0, 1, 2, 3, 4, 5, 6, 7, 8, 9, 10, 12] rfl)
      have J214 : ∀ (x9_25 : Int32) (x10_26 : Int32) (x12_27 : Int32) (s28 : Int32) (x : ((Int32 × Int32) ⊕ ((Int32 × Int32) ⊕ (Int32)))), f_X12_matches_J214 h a0 a1 a2 a3 y4_4 y5_14 y6_15 y7_16 y8_17 x9_25 x10_26 x12_27 s28 = some x → K2 x → ∀ (H : Heap) (locs : List Loc) (ls : Array Slot), zz_B D dA A h n s.heap H locs → lv_has ls 15 [(0, .ref (a0)), (2, .int (a2)), (3, .int (a3)), (4, .int (y4_4)), (5, .int (y5_14)), (6, .int (y6_15)), (7, .int (y7_16)), (8, .int (y8_17)), (9, .int (x9_25)), (10, .int (x10_26)), (12, .int (x12_27))] → zz_W p l e rm_X12_matches s m args below meth c D dA A (some (.int r)) h n 0 0 H locs 0 0 214 ls [.int (s28)] := by
        intro x9_25 x10_26 x12_27 s28 x hv hk H locs ls Z hl
        unfold f_X12_matches_J214 at hv
        refine lv_istore (lv' := [(13, .int (s28)), (0, .ref (a0)), (2, .int (a2)), (3, .int (a3)), (4, .int (y4_4)), (5, .int (y5_14)), (6, .int (y6_15)), (7, .int (y7_16)), (8, .int (y8_17)), (9, .int (x9_25)), (10, .int (x10_26)), (12, .int (x12_27))]) S.1 S.2.1 dX12_matches_214 hl (by decide) rfl (fun ls hl => ?_)
        refine lv_iload S.1 S.2.1 dX12_matches_216 (lv_at hl 6 rfl) ?_
        refine lv_iconst (v := (1 : Int32)) S.1 S.2.1 dX12_matches_218 (by decide) ?_
        refine lv_iadd S.1 S.2.1 dX12_matches_219 ?_
        refine zz_lt hv (G := fun w => W _ _ _ _ _ _ _ _ _ _ _ _ _ _ _ (F0 _ _ _ (.int w :: _))) (fun v29 hv => ?_)
        refine lv_istore (lv' := [(14, .int (v29)), (13, .int (s28)), (0, .ref (a0)), (2, .int (a2)), (3, .int (a3)), (4, .int (y4_4)), (5, .int (y5_14)), (6, .int (y6_15)), (7, .int (y7_16)), (8, .int (y8_17)), (9, .int (x9_25)), (10, .int (x10_26)), (12, .int (x12_27))]) S.1 S.2.1 dX12_matches_220 hl (by decide) rfl (fun ls hl => ?_)
        exact L222 x9_25 x10_26 x12_27 (s28, v29) _ hv hk H locs ls Z (lv_sub hl [2, 3, 4, 5, 6, 7, 8, 9, 10, 11, 12, 1, 0] rfl)
      have J209 : ∀ (x9_22 : Int32) (x10_23 : Int32) (x12_24 : Int32) (x : ((Int32 × Int32) ⊕ ((Int32 × Int32) ⊕ (Int32)))), f_X12_matches_J209 h a0 a1 a2 a3 y4_4 y5_14 y6_15 y7_16 y8_17 x9_22 x10_23 x12_24 = some x → K2 x → ∀ (H : Heap) (locs : List Loc) (ls : Array Slot), zz_B D dA A h n s.heap H locs → lv_has ls 15 [(0, .ref (a0)), (2, .int (a2)), (3, .int (a3)), (4, .int (y4_4)), (5, .int (y5_14)), (6, .int (y6_15)), (7, .int (y7_16)), (8, .int (y8_17)), (9, .int (x9_22)), (10, .int (x10_23)), (12, .int (x12_24))] → zz_W p l e rm_X12_matches s m args below meth c D dA A (some (.int r)) h n 0 0 H locs 0 0 209 ls [] := by
        intro x9_22 x10_23 x12_24 x hv hk H locs ls Z hl
        unfold f_X12_matches_J209 at hv
        refine lv_iconst (v := (1 : Int32)) S.1 S.2.1 dX12_matches_209 (by decide) ?_
        refine lv_goto (tgt := 214) S.1 S.2.1 dX12_matches_210 (by decide) ?_
        exact J214 x9_22 x10_23 x12_24 (1 : Int32) _ hv hk H locs ls Z (lv_sub hl [0, 1, 2, 3, 4, 5, 6, 7, 8, 9, 10] rfl)
      have J213 : ∀ (x9_50 : Int32) (x10_51 : Int32) (x12_52 : Int32) (x : ((Int32 × Int32) ⊕ ((Int32 × Int32) ⊕ (Int32)))), f_X12_matches_J213 h a0 a1 a2 a3 y4_4 y5_14 y6_15 y7_16 y8_17 x9_50 x10_51 x12_52 = some x → K2 x → ∀ (H : Heap) (locs : List Loc) (ls : Array Slot), zz_B D dA A h n s.heap H locs → lv_has ls 15 [(0, .ref (a0)), (2, .int (a2)), (3, .int (a3)), (4, .int (y4_4)), (5, .int (y5_14)), (6, .int (y6_15)), (7, .int (y7_16)), (8, .int (y8_17)), (9, .int (x9_50)), (10, .int (x10_51)), (12, .int (x12_52))] → zz_W p l e rm_X12_matches s m args below meth c D dA A (some (.int r)) h n 0 0 H locs 0 0 213 ls [] := by
        intro x9_50 x10_51 x12_52 x hv hk H locs ls Z hl
        unfold f_X12_matches_J213 at hv
        refine lv_iconst (v := (0 : Int32)) S.1 S.2.1 dX12_matches_213 (by decide) ?_
        exact J214 x9_50 x10_51 x12_52 (0 : Int32) _ hv hk H locs ls Z (lv_sub hl [0, 1, 2, 3, 4, 5, 6, 7, 8, 9, 10] rfl)
      have J188 : ∀ (x9_47 : Int32) (x10_48 : Int32) (x12_49 : Int32) (x : ((Int32 × Int32) ⊕ ((Int32 × Int32) ⊕ (Int32)))), f_X12_matches_J188 h a0 a1 a2 a3 y4_4 y5_14 y6_15 y7_16 y8_17 x9_47 x10_48 x12_49 = some x → K2 x → ∀ (H : Heap) (locs : List Loc) (ls : Array Slot), zz_B D dA A h n s.heap H locs → lv_has ls 15 [(0, .ref (a0)), (2, .int (a2)), (3, .int (a3)), (4, .int (y4_4)), (5, .int (y5_14)), (6, .int (y6_15)), (7, .int (y7_16)), (8, .int (y8_17)), (9, .int (x9_47)), (10, .int (x10_48)), (12, .int (x12_49))] → zz_W p l e rm_X12_matches s m args below meth c D dA A (some (.int r)) h n 0 0 H locs 0 0 188 ls [] := by
        intro x9_47 x10_48 x12_49 x hv hk H locs ls Z hl
        unfold f_X12_matches_J188 at hv
        refine lv_iload S.1 S.2.1 dX12_matches_188 (lv_at hl 6 rfl) ?_
        refine lv_bipush (v := (92 : Int32)) S.1 S.2.1 dX12_matches_190 (by decide) ?_
        refine lv_icmp_eq (tgt := 213) S.1 S.2.1 dX12_matches_192 (by decide) (fun hc => ?_) (fun hc => ?_)
        · replace hv := (if_pos hc).symm.trans hv
          exact J213 x9_47 x10_48 x12_49 _ hv hk H locs ls Z (lv_sub hl [0, 1, 2, 3, 4, 5, 6, 7, 8, 9, 10] rfl)
        · replace hv := (if_neg hc).symm.trans hv
          refine lv_iload S.1 S.2.1 dX12_matches_195 (lv_at hl 6 rfl) ?_
          refine lv_bipush (v := (91 : Int32)) S.1 S.2.1 dX12_matches_197 (by decide) ?_
          refine lv_icmp_eq (tgt := 213) S.1 S.2.1 dX12_matches_199 (by decide) (fun hc => ?_) (fun hc => ?_)
          · replace hv := (if_pos hc).symm.trans hv
            exact J213 x9_47 x10_48 x12_49 _ hv hk H locs ls Z (lv_sub hl [0, 1, 2, 3, 4, 5, 6, 7, 8, 9, 10] rfl)
          · replace hv := (if_neg hc).symm.trans hv
            refine lv_iload S.1 S.2.1 dX12_matches_202 (lv_at hl 6 rfl) ?_
            refine lv_iload S.1 S.2.1 dX12_matches_204 (lv_at hl 10 rfl) ?_
            refine lv_icmp_ne (tgt := 213) S.1 S.2.1 dX12_matches_206 (by decide) (fun hc => ?_) (fun hc => ?_)
            · replace hv := (if_neg hc).symm.trans hv
              exact J213 x9_47 x10_48 x12_49 _ hv hk H locs ls Z (lv_sub hl [0, 1, 2, 3, 4, 5, 6, 7, 8, 9, 10] rfl)
            · replace hv := (if_pos hc).symm.trans hv
              exact J209 x9_47 x10_48 x12_49 _ hv hk H locs ls Z (lv_sub hl [0, 1, 2, 3, 4, 5, 6, 7, 8, 9, 10] rfl)
      have J133 : ∀ (x10_57 : Int32) (s58 : Int32) (s59 : Int32) (x : ((Int32 × Int32) ⊕ ((Int32 × Int32) ⊕ (Int32)))), f_X12_matches_J133 h a0 a1 a2 a3 y4_4 y5_14 y6_15 y7_16 y8_17 x10_57 s58 s59 = some x → K2 x → ∀ (H : Heap) (locs : List Loc) (ls : Array Slot), zz_B D dA A h n s.heap H locs → lv_has ls 15 [(0, .ref (a0)), (2, .int (a2)), (3, .int (a3)), (4, .int (y4_4)), (5, .int (y5_14)), (6, .int (y6_15)), (7, .int (y7_16)), (8, .int (y8_17)), (10, .int (x10_57))] → zz_W p l e rm_X12_matches s m args below meth c D dA A (some (.int r)) h n 0 0 H locs 0 0 133 ls [.int (s58), .int (s59)] := by
        intro x10_57 s58 s59 x hv hk H locs ls Z hl
        unfold f_X12_matches_J133 at hv
        refine lv_ior S.1 S.2.1 dX12_matches_133 ?_
        refine zz_lt hv (G := fun w => W _ _ _ _ _ _ _ _ _ _ _ _ _ _ _ (F0 _ _ _ (.int w :: _))) (fun v60 hv => ?_)
        refine lv_istore (lv' := [(9, .int (v60)), (0, .ref (a0)), (2, .int (a2)), (3, .int (a3)), (4, .int (y4_4)), (5, .int (y5_14)), (6, .int (y6_15)), (7, .int (y7_16)), (8, .int (y8_17)), (10, .int (x10_57))]) S.1 S.2.1 dX12_matches_134 hl (by decide) rfl (fun ls hl => ?_)
        refine lv_goto (tgt := 288) S.1 S.2.1 dX12_matches_136 (by decide) ?_
        refine lv_iinc (v := x10_57 + (1 : Int32)) (lv' := [(10, .int (x10_57 + (1 : Int32))), (9, .int (v60)), (0, .ref (a0)), (2, .int (a2)), (3, .int (a3)), (4, .int (y4_4)), (5, .int (y5_14)), (6, .int (y6_15)), (7, .int (y7_16)), (8, .int (y8_17))]) S.1 S.2.1 dX12_matches_288 hl (k := 9) rfl rfl (by decide) rfl (fun ls hl => ?_)
        refine lv_goto (tgt := 81) S.1 S.2.1 dX12_matches_291 (by decide) ?_
        replace hk := zz_fin hv hk
        exact hP2 _ hk H locs ls Z (lv_sub hl [2, 3, 4, 5, 6, 7, 8, 9, 1, 0] rfl)
      have J125 : ∀ (x10_55 : Int32) (s56 : Int32) (x : ((Int32 × Int32) ⊕ ((Int32 × Int32) ⊕ (Int32)))), f_X12_matches_J125 h a0 a1 a2 a3 y4_4 y5_14 y6_15 y7_16 y8_17 x10_55 s56 = some x → K2 x → ∀ (H : Heap) (locs : List Loc) (ls : Array Slot), zz_B D dA A h n s.heap H locs → lv_has ls 15 [(0, .ref (a0)), (2, .int (a2)), (3, .int (a3)), (4, .int (y4_4)), (5, .int (y5_14)), (6, .int (y6_15)), (7, .int (y7_16)), (8, .int (y8_17)), (10, .int (x10_55))] → zz_W p l e rm_X12_matches s m args below meth c D dA A (some (.int r)) h n 0 0 H locs 0 0 125 ls [.int (s56)] := by
        intro x10_55 s56 x hv hk H locs ls Z hl
        unfold f_X12_matches_J125 at hv
        refine lv_iconst (v := (1 : Int32)) S.1 S.2.1 dX12_matches_125 (by decide) ?_
        refine lv_iload S.1 S.2.1 dX12_matches_126 (lv_at hl 8 rfl) ?_
        refine lv_ishl S.1 S.2.1 dX12_matches_128 ?_
        refine lv_goto (tgt := 133) S.1 S.2.1 dX12_matches_129 (by decide) ?_
        exact J133 x10_55 ((1 : Int32) <<< (x10_55 &&& 31)) s56 _ hv hk H locs ls Z (lv_sub hl [0, 1, 2, 3, 4, 5, 6, 7, 8] rfl)
      have J104 : ∀ (x9_18 : Int32) (x10_19 : Int32) (s20 : Int32) (x : ((Int32 × Int32) ⊕ ((Int32 × Int32) ⊕ (Int32)))), f_X12_matches_J104 h a0 a1 a2 a3 y4_4 y5_14 y6_15 y7_16 y8_17 x9_18 x10_19 s20 = some x → K2 x → ∀ (H : Heap) (locs : List Loc) (ls : Array Slot), zz_B D dA A h n s.heap H locs → lv_has ls 15 [(0, .ref (a0)), (2, .int (a2)), (3, .int (a3)), (4, .int (y4_4)), (5, .int (y5_14)), (6, .int (y6_15)), (7, .int (y7_16)), (8, .int (y8_17)), (9, .int (x9_18)), (10, .int (x10_19))] → zz_W p l e rm_X12_matches s m args below meth c D dA A (some (.int r)) h n 0 0 H locs 0 0 104 ls [.int (s20)] := by
        intro x9_18 x10_19 s20 x hv hk H locs ls Z hl
        unfold f_X12_matches_J104 at hv
        refine lv_istore (lv' := [(11, .int (s20)), (0, .ref (a0)), (2, .int (a2)), (3, .int (a3)), (4, .int (y4_4)), (5, .int (y5_14)), (6, .int (y6_15)), (7, .int (y7_16)), (8, .int (y8_17)), (9, .int (x9_18)), (10, .int (x10_19))]) S.1 S.2.1 dX12_matches_104 hl (by decide) rfl (fun ls hl => ?_)
        refine lv_iload S.1 S.2.1 dX12_matches_106 (lv_at hl 7 rfl) ?_
        refine lv_bipush (v := (42 : Int32)) S.1 S.2.1 dX12_matches_108 (by decide) ?_
        refine lv_icmp_ne (tgt := 139) S.1 S.2.1 dX12_matches_110 (by decide) (fun hc => ?_) (fun hc => ?_)
        · replace hv := (if_neg hc).symm.trans hv
          refine lv_iload S.1 S.2.1 dX12_matches_139 (lv_at hl 0 rfl) ?_
          refine lv_if_eq (tgt := 288) S.1 S.2.1 dX12_matches_141 (by decide) (fun hc => ?_) (fun hc => ?_)
          · replace hv := (if_pos hc).symm.trans hv
            refine lv_iinc (v := x10_19 + (1 : Int32)) (lv' := [(10, .int (x10_19 + (1 : Int32))), (11, .int (s20)), (0, .ref (a0)), (2, .int (a2)), (3, .int (a3)), (4, .int (y4_4)), (5, .int (y5_14)), (6, .int (y6_15)), (7, .int (y7_16)), (8, .int (y8_17)), (9, .int (x9_18))]) S.1 S.2.1 dX12_matches_288 hl (k := 10) rfl rfl (by decide) rfl (fun ls hl => ?_)
            refine lv_goto (tgt := 81) S.1 S.2.1 dX12_matches_291 (by decide) ?_
            replace hk := zz_fin hv hk
            exact hP2 _ hk H locs ls Z (lv_sub hl [2, 3, 4, 5, 6, 7, 8, 9, 10, 0] rfl)
          · replace hv := (if_neg hc).symm.trans hv
            refine lv_iload S.1 S.2.1 dX12_matches_144 (lv_at hl 10 rfl) ?_
            refine lv_iload S.1 S.2.1 dX12_matches_146 (lv_at hl 4 rfl) ?_
            refine lv_icmp_ge (tgt := 288) S.1 S.2.1 dX12_matches_148 (by decide) (fun hc => ?_) (fun hc => ?_)
            · replace hv := (if_pos hc).symm.trans hv
              refine lv_iinc (v := x10_19 + (1 : Int32)) (lv' := [(10, .int (x10_19 + (1 : Int32))), (11, .int (s20)), (0, .ref (a0)), (2, .int (a2)), (3, .int (a3)), (4, .int (y4_4)), (5, .int (y5_14)), (6, .int (y6_15)), (7, .int (y7_16)), (8, .int (y8_17)), (9, .int (x9_18))]) S.1 S.2.1 dX12_matches_288 hl (k := 10) rfl rfl (by decide) rfl (fun ls hl => ?_)
              refine lv_goto (tgt := 81) S.1 S.2.1 dX12_matches_291 (by decide) ?_
              replace hk := zz_fin hv hk
              exact hP2 _ hk H locs ls Z (lv_sub hl [2, 3, 4, 5, 6, 7, 8, 9, 10, 0] rfl)
            · replace hv := (if_neg hc).symm.trans hv
              refine lv_aload_n S.1 S.2.1 dX12_matches_151 rfl (lv_at hl 1 rfl) ?_
              refine lv_iload_n S.1 S.2.1 dX12_matches_152 rfl (lv_at hl 3 rfl) ?_
              refine lv_iload S.1 S.2.1 dX12_matches_153 (lv_at hl 10 rfl) ?_
              obtain ⟨hci, hv⟩ := zz_isO_s hv
              obtain ⟨v21, hq, hv⟩ := zz_bd hv
              refine zz_V [.int (a3), .int (x10_19)] S K Z hci zc_10 rfl (c_X12_signOf a0 a3 x10_19 hq) ⟨rfl, rfl⟩ gm_X12_signOf gmv_X12_signOf gl_X12_216 ⟨by decide, by decide⟩ rfl hl.1 rfl (Nat.le_of_ble_eq_true rfl) dX12_matches_155 ⟨Nat.zero_le _, Nat.zero_le _⟩ (fun H locs Z => ?_)
              show W _ _ _ _ _ _ _ _ _ _ _ _ 0 0 _ (F0 m 158 ls [.int (v21)])
              refine lv_istore (lv' := [(12, .int (v21)), (11, .int (s20)), (0, .ref (a0)), (2, .int (a2)), (3, .int (a3)), (4, .int (y4_4)), (5, .int (y5_14)), (6, .int (y6_15)), (7, .int (y7_16)), (8, .int (y8_17)), (9, .int (x9_18)), (10, .int (x10_19))]) S.1 S.2.1 dX12_matches_158 hl (by decide) rfl (fun ls hl => ?_)
              refine lv_iload S.1 S.2.1 dX12_matches_160 (lv_at hl 8 rfl) ?_
              refine lv_bipush (v := (46 : Int32)) S.1 S.2.1 dX12_matches_162 (by decide) ?_
              refine lv_icmp_eq (tgt := 209) S.1 S.2.1 dX12_matches_164 (by decide) (fun hc => ?_) (fun hc => ?_)
              · replace hv := (if_pos hc).symm.trans hv
                exact J209 x9_18 x10_19 v21 _ hv hk H locs ls Z (lv_sub hl [2, 3, 4, 5, 6, 7, 8, 9, 10, 11, 0] rfl)
              · replace hv := (if_neg hc).symm.trans hv
                refine lv_iload S.1 S.2.1 dX12_matches_167 (lv_at hl 8 rfl) ?_
                refine lv_bipush (v := (92 : Int32)) S.1 S.2.1 dX12_matches_169 (by decide) ?_
                refine lv_icmp_ne (tgt := 188) S.1 S.2.1 dX12_matches_171 (by decide) (fun hc => ?_) (fun hc => ?_)
                · replace hv := (if_neg hc).symm.trans hv
                  exact J188 x9_18 x10_19 v21 _ hv hk H locs ls Z (lv_sub hl [2, 3, 4, 5, 6, 7, 8, 9, 10, 11, 0] rfl)
                · replace hv := (if_pos hc).symm.trans hv
                  refine lv_aload_n S.1 S.2.1 dX12_matches_174 rfl (lv_at hl 2 rfl) ?_
                  refine zz_gR S K Z hv zc_10 (by decide) gf_X12_82 dX12_matches_175 (fun v53 hv => ?_)
                  refine lv_iload S.1 S.2.1 dX12_matches_178 (lv_at hl 7 rfl) ?_
                  refine lv_iconst (v := (1 : Int32)) S.1 S.2.1 dX12_matches_180 (by decide) ?_
                  refine lv_iadd S.1 S.2.1 dX12_matches_181 ?_
                  refine zz_iald S K Z hv dX12_matches_182 (fun v54 hv => ?_)
                  refine lv_iload S.1 S.2.1 dX12_matches_183 (lv_at hl 0 rfl) ?_
                  refine lv_icmp_eq (tgt := 209) S.1 S.2.1 dX12_matches_185 (by decide) (fun hc => ?_) (fun hc => ?_)
                  · replace hv := (if_pos hc).symm.trans hv
                    exact J209 x9_18 x10_19 v21 _ hv hk H locs ls Z (lv_sub hl [2, 3, 4, 5, 6, 7, 8, 9, 10, 11, 0] rfl)
                  · replace hv := (if_neg hc).symm.trans hv
                    exact J188 x9_18 x10_19 v21 _ hv hk H locs ls Z (lv_sub hl [2, 3, 4, 5, 6, 7, 8, 9, 10, 11, 0] rfl)
        · replace hv := (if_pos hc).symm.trans hv
          refine lv_iload S.1 S.2.1 dX12_matches_113 (lv_at hl 9 rfl) ?_
          refine lv_iload S.1 S.2.1 dX12_matches_115 (lv_at hl 0 rfl) ?_
          refine lv_if_ne (tgt := 125) S.1 S.2.1 dX12_matches_117 (by decide) (fun hc => ?_) (fun hc => ?_)
          · replace hv := (if_neg hc).symm.trans hv
            exact J125 x10_19 x9_18 _ hv hk H locs ls Z (lv_sub hl [1, 2, 3, 4, 5, 6, 7, 8, 10] rfl)
          · replace hv := (if_pos hc).symm.trans hv
            refine lv_iload S.1 S.2.1 dX12_matches_120 (lv_at hl 9 rfl) ?_
            refine lv_if_eq (tgt := 132) S.1 S.2.1 dX12_matches_122 (by decide) (fun hc => ?_) (fun hc => ?_)
            · replace hv := (if_pos hc).symm.trans hv
              refine lv_iconst (v := (0 : Int32)) S.1 S.2.1 dX12_matches_132 (by decide) ?_
              exact J133 x10_19 (0 : Int32) x9_18 _ hv hk H locs ls Z (lv_sub hl [1, 2, 3, 4, 5, 6, 7, 8, 10] rfl)
            · replace hv := (if_neg hc).symm.trans hv
              exact J125 x10_19 x9_18 _ hv hk H locs ls Z (lv_sub hl [1, 2, 3, 4, 5, 6, 7, 8, 10] rfl)
      rintro ⟨x9_12, x10_13⟩ x hv hk H locs ls Z hl
      replace hv : f_X12_matches_L81 h a0 a1 a2 a3 y4_4 y5_14 y6_15 y7_16 y8_17 x9_12 x10_13 = some x := hv
      unfold f_X12_matches_L81 at hv
      replace hl : lv_has ls 15 [(0, .ref (a0)), (2, .int (a2)), (3, .int (a3)), (4, .int (y4_4)), (5, .int (y5_14)), (6, .int (y6_15)), (7, .int (y7_16)), (8, .int (y8_17)), (9, .int (x9_12)), (10, .int (x10_13))] := hl
      replace Z : zz_B D dA A h n s.heap H locs := Z
      show zz_W p l e rm_X12_matches s m args below meth c D dA A (some (.int r)) h n 0 0 H locs 0 0 81 ls []
      refine lv_iload S.1 S.2.1 dX12_matches_81 (lv_at hl 9 rfl) ?_
      refine lv_iload S.1 S.2.1 dX12_matches_83 (lv_at hl 3 rfl) ?_
      refine lv_icmp_gt (tgt := 294) S.1 S.2.1 dX12_matches_85 (by decide) (fun hc => ?_) (fun hc => ?_)
      · replace hv := (if_pos hc).symm.trans hv
        obtain ⟨_, hv, hk⟩ := zz_mapk hv hk
        replace hk := hR2 _ hk
        refine lv_iload S.1 S.2.1 dX12_matches_294 (lv_at hl 8 rfl) ?_
        refine lv_istore (lv' := [(5, .int (x9_12)), (0, .ref (a0)), (2, .int (a2)), (3, .int (a3)), (4, .int (y4_4)), (6, .int (y6_15)), (7, .int (y7_16)), (8, .int (y8_17)), (9, .int (x9_12)), (10, .int (x10_13))]) S.1 S.2.1 dX12_matches_296 hl (by decide) rfl (fun ls hl => ?_)
        refine lv_iload S.1 S.2.1 dX12_matches_298 (lv_at hl 7 rfl) ?_
        refine lv_istore (lv' := [(6, .int (y8_17)), (5, .int (x9_12)), (0, .ref (a0)), (2, .int (a2)), (3, .int (a3)), (4, .int (y4_4)), (7, .int (y7_16)), (8, .int (y8_17)), (9, .int (x9_12)), (10, .int (x10_13))]) S.1 S.2.1 dX12_matches_300 hl (by decide) rfl (fun ls hl => ?_)
        refine lv_goto (tgt := 13) S.1 S.2.1 dX12_matches_302 (by decide) ?_
        replace hk := zz_fin hv hk
        exact hP1 _ hk H locs ls Z (lv_sub hl [2, 3, 4, 5, 1, 0] rfl)
      · replace hv := (if_neg hc).symm.trans hv
        refine lv_iload S.1 S.2.1 dX12_matches_88 (lv_at hl 4 rfl) ?_
        refine lv_iload S.1 S.2.1 dX12_matches_90 (lv_at hl 9 rfl) ?_
        refine lv_ishr S.1 S.2.1 dX12_matches_92 ?_
        refine lv_iconst (v := (1 : Int32)) S.1 S.2.1 dX12_matches_93 (by decide) ?_
        refine lv_iand S.1 S.2.1 dX12_matches_94 ?_
        refine lv_iconst (v := (1 : Int32)) S.1 S.2.1 dX12_matches_95 (by decide) ?_
        refine lv_icmp_ne (tgt := 103) S.1 S.2.1 dX12_matches_96 (by decide) (fun hc => ?_) (fun hc => ?_)
        · replace hv := (if_neg hc).symm.trans hv
          refine lv_iconst (v := (0 : Int32)) S.1 S.2.1 dX12_matches_103 (by decide) ?_
          exact J104 x9_12 x10_13 (0 : Int32) _ hv hk H locs ls Z (lv_sub hl [0, 1, 2, 3, 4, 5, 6, 7, 8, 9] rfl)
        · replace hv := (if_pos hc).symm.trans hv
          refine lv_iconst (v := (1 : Int32)) S.1 S.2.1 dX12_matches_99 (by decide) ?_
          refine lv_goto (tgt := 104) S.1 S.2.1 dX12_matches_100 (by decide) ?_
          exact J104 x9_12 x10_13 (1 : Int32) _ hv hk H locs ls Z (lv_sub hl [0, 1, 2, 3, 4, 5, 6, 7, 8, 9] rfl)
    have J75 : ∀ (x5_8 : Int32) (x6_9 : Int32) (x7_10 : Int32) (x8_11 : Int32) (x : ((Int32 × Int32) ⊕ (Int32))), f_X12_matches_J75 h a0 a1 a2 a3 y4_4 x5_8 x6_9 x7_10 x8_11 = some x → K1 x → ∀ (H : Heap) (locs : List Loc) (ls : Array Slot), zz_B D dA A h n s.heap H locs → lv_has ls 15 [(0, .ref (a0)), (2, .int (a2)), (3, .int (a3)), (4, .int (y4_4)), (5, .int (x5_8)), (6, .int (x6_9)), (7, .int (x7_10)), (8, .int (x8_11))] → zz_W p l e rm_X12_matches s m args below meth c D dA A (some (.int r)) h n 0 0 H locs 0 0 75 ls [] := by
      intro x5_8 x6_9 x7_10 x8_11 x hv hk H locs ls Z hl
      unfold f_X12_matches_J75 at hv
      refine lv_iconst (v := (0 : Int32)) S.1 S.2.1 dX12_matches_75 (by decide) ?_
      refine lv_istore (lv' := [(9, .int ((0 : Int32))), (0, .ref (a0)), (2, .int (a2)), (3, .int (a3)), (4, .int (y4_4)), (5, .int (x5_8)), (6, .int (x6_9)), (7, .int (x7_10)), (8, .int (x8_11))]) S.1 S.2.1 dX12_matches_76 hl (by decide) rfl (fun ls hl => ?_)
      refine lv_iconst (v := (0 : Int32)) S.1 S.2.1 dX12_matches_78 (by decide) ?_
      refine lv_istore (lv' := [(10, .int ((0 : Int32))), (9, .int ((0 : Int32))), (0, .ref (a0)), (2, .int (a2)), (3, .int (a3)), (4, .int (y4_4)), (5, .int (x5_8)), (6, .int (x6_9)), (7, .int (x7_10)), (8, .int (x8_11))]) S.1 S.2.1 dX12_matches_79 hl (by decide) rfl (fun ls hl => ?_)
      exact L81 x5_8 x6_9 x7_10 x8_11 ((0 : Int32), (0 : Int32)) _ hv hk H locs ls Z (lv_sub hl [2, 3, 4, 5, 6, 7, 8, 9, 1, 0] rfl)
    have L41 : ∀ (y5_62 : Int32) (y6_63 : Int32) (y7_64 : Int32) (st : (Int32)) (x : ((Int32 × Int32) ⊕ (Int32))), zz_loop (fun st : (Int32) => f_X12_matches_L41 h a0 a1 a2 a3 y4_4 y5_62 y6_63 y7_64 (st)) st = some x → K1 x → (fun st : (Int32) => ∀ (H : Heap) (locs : List Loc) (ls : Array Slot), zz_B D dA A h n s.heap H locs → lv_has ls 15 [(0, .ref (a0)), (2, .int (a2)), (3, .int (a3)), (4, .int (y4_4)), (5, .int (y5_62)), (6, .int (y6_63)), (7, .int (y7_64)), (8, .int ((st)))] → zz_W p l e rm_X12_matches s m args below meth c D dA A (some (.int r)) h n 0 0 H locs 0 0 41 ls []) st := by
      intro y5_62 y6_63 y7_64
      refine zz_loop_go (K := K1) ?_
      intro K2 hP2 hR2
      rintro x8_61 x hv hk H locs ls Z hl
      replace hv : f_X12_matches_L41 h a0 a1 a2 a3 y4_4 y5_62 y6_63 y7_64 x8_61 = some x := hv
      unfold f_X12_matches_L41 at hv
      replace hl : lv_has ls 15 [(0, .ref (a0)), (2, .int (a2)), (3, .int (a3)), (4, .int (y4_4)), (5, .int (y5_62)), (6, .int (y6_63)), (7, .int (y7_64)), (8, .int (x8_61))] := hl
      replace Z : zz_B D dA A h n s.heap H locs := Z
      show zz_W p l e rm_X12_matches s m args below meth c D dA A (some (.int r)) h n 0 0 H locs 0 0 41 ls []
      refine lv_aload_n S.1 S.2.1 dX12_matches_41 rfl (lv_at hl 0 rfl) ?_
      refine zz_gR S K Z hv zc_10 (by decide) gf_X12_82 dX12_matches_42 (fun v65 hv => ?_)
      refine lv_iload S.1 S.2.1 dX12_matches_45 (lv_at hl 7 rfl) ?_
      refine zz_iald S K Z hv dX12_matches_47 (fun v66 hv => ?_)
      refine lv_bipush (v := (93 : Int32)) S.1 S.2.1 dX12_matches_48 (by decide) ?_
      refine lv_icmp_eq (tgt := 59) S.1 S.2.1 dX12_matches_50 (by decide) (fun hc => ?_) (fun hc => ?_)
      · replace hv := (if_pos hc).symm.trans hv
        obtain ⟨_, hv, hk⟩ := zz_mapk hv hk
        replace hk := hR2 _ hk
        refine lv_iinc (v := x8_61 + (1 : Int32)) (lv' := [(8, .int (x8_61 + (1 : Int32))), (0, .ref (a0)), (2, .int (a2)), (3, .int (a3)), (4, .int (y4_4)), (5, .int (y5_62)), (6, .int (y6_63)), (7, .int (y7_64))]) S.1 S.2.1 dX12_matches_59 hl (k := 7) rfl rfl (by decide) rfl (fun ls hl => ?_)
        refine lv_goto (tgt := 75) S.1 S.2.1 dX12_matches_62 (by decide) ?_
        exact J75 y5_62 y6_63 y7_64 (x8_61 + (1 : Int32)) _ hv hk H locs ls Z (lv_sub hl [1, 2, 3, 4, 5, 6, 7, 0] rfl)
      · replace hv := (if_neg hc).symm.trans hv
        refine lv_iinc (v := x8_61 + (1 : Int32)) (lv' := [(8, .int (x8_61 + (1 : Int32))), (0, .ref (a0)), (2, .int (a2)), (3, .int (a3)), (4, .int (y4_4)), (5, .int (y5_62)), (6, .int (y6_63)), (7, .int (y7_64))]) S.1 S.2.1 dX12_matches_53 hl (k := 7) rfl rfl (by decide) rfl (fun ls hl => ?_)
        refine lv_goto (tgt := 41) S.1 S.2.1 dX12_matches_56 (by decide) ?_
        replace hk := zz_fin hv hk
        exact hP2 _ hk H locs ls Z (lv_sub hl [1, 2, 3, 4, 5, 6, 7, 0] rfl)
    rintro ⟨x5_2, x6_3⟩ x hv hk H locs ls Z hl
    replace hv : f_X12_matches_L13 h a0 a1 a2 a3 y4_4 x5_2 x6_3 = some x := hv
    unfold f_X12_matches_L13 at hv
    replace hl : lv_has ls 15 [(0, .ref (a0)), (2, .int (a2)), (3, .int (a3)), (4, .int (y4_4)), (5, .int (x5_2)), (6, .int (x6_3))] := hl
    replace Z : zz_B D dA A h n s.heap H locs := Z
    show zz_W p l e rm_X12_matches s m args below meth c D dA A (some (.int r)) h n 0 0 H locs 0 0 13 ls []
    refine lv_iload S.1 S.2.1 dX12_matches_13 (lv_at hl 5 rfl) ?_
    refine lv_iload_n S.1 S.2.1 dX12_matches_15 rfl (lv_at hl 1 rfl) ?_
    refine lv_icmp_ge (tgt := 305) S.1 S.2.1 dX12_matches_16 (by decide) (fun hc => ?_) (fun hc => ?_)
    · replace hv := (if_pos hc).symm.trans hv
      obtain ⟨_, hv, hk⟩ := zz_mapk hv hk
      replace hk := hR1 _ hk
      refine lv_iload S.1 S.2.1 dX12_matches_305 (lv_at hl 4 rfl) ?_
      refine lv_iload S.1 S.2.1 dX12_matches_307 (lv_at hl 3 rfl) ?_
      refine lv_ishr S.1 S.2.1 dX12_matches_309 ?_
      refine lv_iconst (v := (1 : Int32)) S.1 S.2.1 dX12_matches_310 (by decide) ?_
      refine lv_iand S.1 S.2.1 dX12_matches_311 ?_
      refine lv_iconst (v := (1 : Int32)) S.1 S.2.1 dX12_matches_312 (by decide) ?_
      refine lv_icmp_ne (tgt := 320) S.1 S.2.1 dX12_matches_313 (by decide) (fun hc => ?_) (fun hc => ?_)
      · replace hv := (if_neg hc).symm.trans hv
        refine lv_iconst (v := (0 : Int32)) S.1 S.2.1 dX12_matches_320 (by decide) ?_
        replace hk := zz_fin hv hk
        obtain rfl := hR0 _ hk
        exact zz_zret S Z hret (by decide) hlk dX12_matches_321 (Nat.le_refl _) (Nat.le_refl _)
      · replace hv := (if_pos hc).symm.trans hv
        refine lv_iconst (v := (1 : Int32)) S.1 S.2.1 dX12_matches_316 (by decide) ?_
        refine lv_goto (tgt := 321) S.1 S.2.1 dX12_matches_317 (by decide) ?_
        replace hk := zz_fin hv hk
        obtain rfl := hR0 _ hk
        exact zz_zret S Z hret (by decide) hlk dX12_matches_321 (Nat.le_refl _) (Nat.le_refl _)
    · replace hv := (if_neg hc).symm.trans hv
      refine lv_aload_n S.1 S.2.1 dX12_matches_19 rfl (lv_at hl 0 rfl) ?_
      refine zz_gR S K Z hv zc_10 (by decide) gf_X12_82 dX12_matches_20 (fun v5 hv => ?_)
      refine lv_iload S.1 S.2.1 dX12_matches_23 (lv_at hl 5 rfl) ?_
      refine zz_iald S K Z hv dX12_matches_25 (fun v6 hv => ?_)
      refine lv_istore (lv' := [(7, .int (v6)), (0, .ref (a0)), (2, .int (a2)), (3, .int (a3)), (4, .int (y4_4)), (5, .int (x5_2)), (6, .int (x6_3))]) S.1 S.2.1 dX12_matches_26 hl (by decide) rfl (fun ls hl => ?_)
      refine lv_iload S.1 S.2.1 dX12_matches_28 (lv_at hl 6 rfl) ?_
      refine lv_iconst (v := (1 : Int32)) S.1 S.2.1 dX12_matches_30 (by decide) ?_
      refine lv_iadd S.1 S.2.1 dX12_matches_31 ?_
      refine zz_lt hv (G := fun w => W _ _ _ _ _ _ _ _ _ _ _ _ _ _ _ (F0 _ _ _ (.int w :: _))) (fun v7 hv => ?_)
      refine lv_istore (lv' := [(8, .int (v7)), (7, .int (v6)), (0, .ref (a0)), (2, .int (a2)), (3, .int (a3)), (4, .int (y4_4)), (5, .int (x5_2)), (6, .int (x6_3))]) S.1 S.2.1 dX12_matches_32 hl (by decide) rfl (fun ls hl => ?_)
      refine lv_iload S.1 S.2.1 dX12_matches_34 (lv_at hl 1 rfl) ?_
      refine lv_bipush (v := (91 : Int32)) S.1 S.2.1 dX12_matches_36 (by decide) ?_
      refine lv_icmp_ne (tgt := 65) S.1 S.2.1 dX12_matches_38 (by decide) (fun hc => ?_) (fun hc => ?_)
      · replace hv := (if_neg hc).symm.trans hv
        refine lv_iload S.1 S.2.1 dX12_matches_65 (lv_at hl 1 rfl) ?_
        refine lv_bipush (v := (92 : Int32)) S.1 S.2.1 dX12_matches_67 (by decide) ?_
        refine lv_icmp_ne (tgt := 75) S.1 S.2.1 dX12_matches_69 (by decide) (fun hc => ?_) (fun hc => ?_)
        · replace hv := (if_neg hc).symm.trans hv
          exact J75 x5_2 x6_3 v6 v7 _ hv hk H locs ls Z (lv_sub hl [2, 3, 4, 5, 6, 7, 1, 0] rfl)
        · replace hv := (if_pos hc).symm.trans hv
          refine lv_iinc (v := v7 + (1 : Int32)) (lv' := [(8, .int (v7 + (1 : Int32))), (7, .int (v6)), (0, .ref (a0)), (2, .int (a2)), (3, .int (a3)), (4, .int (y4_4)), (5, .int (x5_2)), (6, .int (x6_3))]) S.1 S.2.1 dX12_matches_72 hl (k := 0) rfl rfl (by decide) rfl (fun ls hl => ?_)
          exact J75 x5_2 x6_3 v6 (v7 + (1 : Int32)) _ hv hk H locs ls Z (lv_sub hl [2, 3, 4, 5, 6, 7, 1, 0] rfl)
      · replace hv := (if_pos hc).symm.trans hv
        exact L41 x5_2 x6_3 v6 (v7) _ hv hk H locs ls Z (lv_sub hl [2, 3, 4, 5, 6, 7, 1, 0] rfl)
  have hv := hf
  unfold f_X12_matches at hv
  clear hf
  obtain ⟨x, hxx⟩ : ∃ x, x = r := ⟨_, rfl⟩
  rw [← hxx] at hv hk
  have ⟨H, hH⟩ : ∃ H, H = s.heap := ⟨_, rfl⟩
  have ⟨locs, hlo⟩ : ∃ q : List Loc, q = [] := ⟨_, rfl⟩
  have Z : zz_B D dA A h n s.heap H locs := by rw [hH, hlo]; exact Z
  have key : zz_W p l e rm_X12_matches s m args below meth c D dA A (some (.int r)) h n 0 0 H locs 0 0 0 ls [] := by
    clear hH hlo hxx
    refine lv_aload_n S.1 S.2.1 dX12_matches_0 rfl (lv_at hl 0 rfl) ?_
    refine lv_iload_n S.1 S.2.1 dX12_matches_1 rfl (lv_at hl 3 rfl) ?_
    obtain ⟨hci, hv⟩ := zz_isO_s hv
    obtain ⟨v1, hq, hv⟩ := zz_bd hv
    refine zz_V [.int (a3)] S K Z hci zc_10 rfl (c_X12_signsOf a0 a3 hq) ⟨rfl, rfl⟩ gm_X12_signsOf gmv_X12_signsOf gl_X12_213 ⟨by decide, by decide⟩ rfl hl.1 rfl (Nat.le_of_ble_eq_true rfl) dX12_matches_2 ⟨Nat.zero_le _, Nat.zero_le _⟩ (fun H locs Z => ?_)
    show W _ _ _ _ _ _ _ _ _ _ _ _ 0 0 _ (F0 m 5 ls [.int (v1)])
    refine lv_istore (lv' := [(4, .int (v1)), (0, .ref (a0)), (1, .int (a1)), (2, .int (a2)), (3, .int (a3))]) S.1 S.2.1 dX12_matches_5 hl (by decide) rfl (fun ls hl => ?_)
    refine lv_iconst (v := (1 : Int32)) S.1 S.2.1 dX12_matches_7 (by decide) ?_
    refine lv_istore (lv' := [(5, .int ((1 : Int32))), (4, .int (v1)), (0, .ref (a0)), (1, .int (a1)), (2, .int (a2)), (3, .int (a3))]) S.1 S.2.1 dX12_matches_8 hl (by decide) rfl (fun ls hl => ?_)
    refine lv_iload_n S.1 S.2.1 dX12_matches_10 rfl (lv_at hl 3 rfl) ?_
    refine lv_istore (lv' := [(6, .int (a1)), (5, .int ((1 : Int32))), (4, .int (v1)), (0, .ref (a0)), (1, .int (a1)), (2, .int (a2)), (3, .int (a3))]) S.1 S.2.1 dX12_matches_11 hl (by decide) rfl (fun ls hl => ?_)
    exact L13 v1 ((1 : Int32), a1) _ hv hk H locs ls Z (lv_sub hl [3, 5, 6, 2, 1, 0] rfl)
  rw [hH, hlo] at key
  exact key

noncomputable def f_X12_saysAll_J34 (h : ZH) (a0 : Nat) (a1 : Int32) (a2 : Int32) (x3_6 : Int32) (x4_7 : Int32) (h8 : ZH) : Option ((Int32 × ZH) ⊕ (Int32 × ZH)) :=
  (zg_R h8 a0 10 28).bind fun v9 => (zl_I h8 v9 1 (1 : Int32)).bind fun v10 => if v10 = 0 then ((zg_R h8 a0 10 31).bind fun v11 => zz_isO h8 a0 10 <| (f_X12_wordAt h8 a0 v11 x3_6 (x4_7 - x3_6)).bind fun v12 => zz_isO h8 a0 10 <| (f_X12_says h8 a0 v12).bind fun (v13, h14) => (zp_V h14 a0 10 36 (.int (v13))).bind fun h15 => (zg_I h15 a0 10 36).bind fun v16 => if v16 ≤ 0 then (zz_let (x4_7 + (1 : Int32)) fun v17 => some (.inl (v17, h15))) else ((some (((0 : Int32), h15))).map Sum.inr)) else ((some (((0 : Int32), h8))).map Sum.inr)
noncomputable def f_X12_saysAll_L10 (h : ZH) (a0 : Nat) (a1 : Int32) (a2 : Int32) (y3_4 : Int32) (h5 : ZH) (x4_3 : Int32)  : Option ((Int32) ⊕ ((Int32 × ZH) ⊕ (Int32 × ZH))) :=
  if a2 ≤ x4_3 then ((f_X12_saysAll_J34 h a0 a1 a2 y3_4 x4_3 h5).map Sum.inr) else ((zg_R h5 a0 10 31).bind fun v18 => (zl_I h5 v18 1 x4_3).bind fun v19 => if v19 = (32 : Int32) then ((f_X12_saysAll_J34 h a0 a1 a2 y3_4 x4_3 h5).map Sum.inr) else (some (.inl (x4_3 + (1 : Int32)))))
noncomputable def f_X12_saysAll_L2 (h : ZH) (a0 : Nat) (a1 : Int32) (a2 : Int32) (x3_1 : Int32) (h2 : ZH)  : Option ((Int32 × ZH) ⊕ (Int32 × ZH)) :=
  if a2 ≤ x3_1 then ((some (((1 : Int32), h2))).map Sum.inr) else (zz_loop (fun st : (Int32) => f_X12_saysAll_L10 h a0 a1 a2 x3_1 h2 (st)) (x3_1))
noncomputable def f_X12_saysAll (h : ZH) (a0 : Nat) (a1 : Int32) (a2 : Int32) : Option (Int32 × ZH) :=
  zz_loop (fun st : (Int32 × ZH) => f_X12_saysAll_L2 h a0 a1 a2 (st.1) (st.2)) (a1, h)
abbrev rm_X12_saysAll : Room := { frames := 3, cells := 0, slots := 0, locals := 71 }
set_option maxRecDepth 100000 in
set_option maxHeartbeats 4000000 in
theorem c_X12_saysAll {l : Launch} {D : va_G} {dA : Nat → ClassId} {A : Nat → Prop} {h : ZH} {n : Nat} (a0 : Nat) (a1 : Int32) (a2 : Int32) {r : Int32} {hx : ZH} (hf : f_X12_saysAll h a0 a1 a2 = some (r, hx)) : Met l yX12_saysAll (zz_ws yX12_saysAll cX12_saysAll 5 (some .boolean)) rm_X12_saysAll (zz_P D dA A h n [.ref (a0), .int (a1), .int (a2)]) (zz_Q D dA A (some (.int r)) hx n) 0 0 A := by
  refine zz_met (by decide) (Nat.le_of_ble_eq_true rfl) ?_
  intro p e s m args below meth c ls S K hret hlk hnm hl Z
  replace hl : lv_has ls 5 [(0, .ref (a0)), (1, .int (a1)), (2, .int (a2))] := hl
  obtain ⟨K0, hR0, hk⟩ : ∃ K0 : (Int32 × ZH) → Prop, (∀ x, K0 x → x = (r, hx)) ∧ K0 (r, hx) := ⟨fun x => x = (r, hx), fun _ h => h, rfl⟩
  have L2 : ∀ (st : (Int32 × ZH)) (x : (Int32 × ZH)), zz_loop (fun st : (Int32 × ZH) => f_X12_saysAll_L2 h a0 a1 a2 (st.1) (st.2)) st = some x → K0 x → (fun st : (Int32 × ZH) => ∀ (H : Heap) (locs : List Loc) (ls : Array Slot), zz_B D dA A (st.2) n s.heap H locs → lv_has ls 5 [(0, .ref (a0)), (2, .int (a2)), (3, .int ((st.1)))] → zz_W p l e rm_X12_saysAll s m args below meth c D dA A (some (.int r)) hx n 0 0 H locs 0 0 2 ls []) st := by
    refine zz_loop_go (K := K0) ?_
    intro K1 hP1 hR1
    have J34 : ∀ (x3_6 : Int32) (x4_7 : Int32) (h8 : ZH) (x : ((Int32 × ZH) ⊕ (Int32 × ZH))), f_X12_saysAll_J34 h a0 a1 a2 x3_6 x4_7 h8 = some x → K1 x → ∀ (H : Heap) (locs : List Loc) (ls : Array Slot), zz_B D dA A h8 n s.heap H locs → lv_has ls 5 [(0, .ref (a0)), (2, .int (a2)), (3, .int (x3_6)), (4, .int (x4_7))] → zz_W p l e rm_X12_saysAll s m args below meth c D dA A (some (.int r)) hx n 0 0 H locs 0 0 34 ls [] := by
      intro x3_6 x4_7 h8 x hv hk H locs ls Z hl
      unfold f_X12_saysAll_J34 at hv
      refine lv_aload_n S.1 S.2.1 dX12_saysAll_34 rfl (lv_at hl 0 rfl) ?_
      refine zz_gR S K Z hv zc_10 (by decide) gf_X12_75 dX12_saysAll_35 (fun v9 hv => ?_)
      refine lv_iconst (v := (1 : Int32)) S.1 S.2.1 dX12_saysAll_38 (by decide) ?_
      refine zz_iald S K Z hv dX12_saysAll_39 (fun v10 hv => ?_)
      refine lv_if_eq (tgt := 45) S.1 S.2.1 dX12_saysAll_40 (by decide) (fun hc => ?_) (fun hc => ?_)
      · replace hv := (if_pos hc).symm.trans hv
        refine lv_aload_n S.1 S.2.1 dX12_saysAll_45 rfl (lv_at hl 0 rfl) ?_
        refine lv_aload_n S.1 S.2.1 dX12_saysAll_46 rfl (lv_at hl 0 rfl) ?_
        refine lv_aload_n S.1 S.2.1 dX12_saysAll_47 rfl (lv_at hl 0 rfl) ?_
        refine lv_aload_n S.1 S.2.1 dX12_saysAll_48 rfl (lv_at hl 0 rfl) ?_
        refine zz_gR S K Z hv zc_10 (by decide) gf_X12_82 dX12_saysAll_49 (fun v11 hv => ?_)
        refine lv_iload_n S.1 S.2.1 dX12_saysAll_52 rfl (lv_at hl 2 rfl) ?_
        refine lv_iload S.1 S.2.1 dX12_saysAll_53 (lv_at hl 3 rfl) ?_
        refine lv_iload_n S.1 S.2.1 dX12_saysAll_55 rfl (lv_at hl 2 rfl) ?_
        refine lv_isub S.1 S.2.1 dX12_saysAll_56 ?_
        obtain ⟨hci, hv⟩ := zz_isO_s hv
        obtain ⟨v12, hq, hv⟩ := zz_bd hv
        refine zz_V [.ref (v11), .int (x3_6), .int (x4_7 - x3_6)] S K Z hci zc_10 rfl (c_X12_wordAt a0 v11 x3_6 (x4_7 - x3_6) hq) ⟨rfl, rfl⟩ gm_X12_wordAt gmv_X12_wordAt gl_X12_131 ⟨by decide, by decide⟩ rfl hl.1 rfl (Nat.le_of_ble_eq_true rfl) dX12_saysAll_57 ⟨Nat.zero_le _, Nat.zero_le _⟩ (fun H locs Z => ?_)
        show W _ _ _ _ _ _ _ _ _ _ _ _ 0 0 _ (F0 m 60 ls [.int (v12), .ref (a0), .ref (a0)])
        obtain ⟨hci, hv⟩ := zz_isO_s hv
        obtain ⟨⟨v13, h14⟩, hq, hv⟩ := zz_bd hv
        refine zz_V [.int (v12)] S K Z hci zc_10 rfl (c_X12_says a0 v12 hq) ⟨rfl, rfl⟩ gm_X12_says gmv_X12_says gl_X12_231 ⟨by decide, by decide⟩ rfl hl.1 rfl (Nat.le_of_ble_eq_true rfl) dX12_saysAll_60 ⟨Nat.zero_le _, Nat.zero_le _⟩ (fun H locs Z => ?_)
        show W _ _ _ _ _ _ _ _ _ _ _ _ 0 0 _ (F0 m 63 ls [.int (v13), .ref (a0)])
        refine zz_put S K Z hv zc_10 (by decide) gf_X12_234 rfl rfl rfl dX12_saysAll_63 (fun h15 H locs hv Z => ?_)
        refine lv_aload_n S.1 S.2.1 dX12_saysAll_66 rfl (lv_at hl 0 rfl) ?_
        refine zz_gI S K Z hv zc_10 (by decide) gf_X12_234 dX12_saysAll_67 (fun v16 hv => ?_)
        refine lv_if_le (tgt := 75) S.1 S.2.1 dX12_saysAll_70 (by decide) (fun hc => ?_) (fun hc => ?_)
        · replace hv := (if_pos hc).symm.trans hv
          refine lv_iload S.1 S.2.1 dX12_saysAll_75 (lv_at hl 3 rfl) ?_
          refine lv_iconst (v := (1 : Int32)) S.1 S.2.1 dX12_saysAll_77 (by decide) ?_
          refine lv_iadd S.1 S.2.1 dX12_saysAll_78 ?_
          refine zz_lt hv (G := fun w => W _ _ _ _ _ _ _ _ _ _ _ _ _ _ _ (F0 _ _ _ (.int w :: _))) (fun v17 hv => ?_)
          refine lv_istore_n (lv' := [(3, .int (v17)), (0, .ref (a0)), (2, .int (a2)), (4, .int (x4_7))]) S.1 S.2.1 dX12_saysAll_79 rfl hl (by decide) rfl (fun ls hl => ?_)
          refine lv_goto (tgt := 2) S.1 S.2.1 dX12_saysAll_80 (by decide) ?_
          replace hk := zz_fin hv hk
          exact hP1 _ hk H locs ls Z (lv_sub hl [1, 2, 0] rfl)
        · replace hv := (if_neg hc).symm.trans hv
          obtain ⟨_, hv, hk⟩ := zz_mapk hv hk
          replace hk := hR1 _ hk
          refine lv_iconst (v := (0 : Int32)) S.1 S.2.1 dX12_saysAll_73 (by decide) ?_
          replace hk := zz_fin hv hk
          obtain ⟨rfl, rfl⟩ := Prod.mk.inj (hR0 _ hk)
          exact zz_zret S Z hret (by decide) hlk dX12_saysAll_74 (Nat.le_refl _) (Nat.le_refl _)
      · replace hv := (if_neg hc).symm.trans hv
        obtain ⟨_, hv, hk⟩ := zz_mapk hv hk
        replace hk := hR1 _ hk
        refine lv_iconst (v := (0 : Int32)) S.1 S.2.1 dX12_saysAll_43 (by decide) ?_
        replace hk := zz_fin hv hk
        obtain ⟨rfl, rfl⟩ := Prod.mk.inj (hR0 _ hk)
        exact zz_zret S Z hret (by decide) hlk dX12_saysAll_44 (Nat.le_refl _) (Nat.le_refl _)
    have L10 : ∀ (y3_4 : Int32) (h5 : ZH) (st : (Int32)) (x : ((Int32 × ZH) ⊕ (Int32 × ZH))), zz_loop (fun st : (Int32) => f_X12_saysAll_L10 h a0 a1 a2 y3_4 h5 (st)) st = some x → K1 x → (fun st : (Int32) => ∀ (H : Heap) (locs : List Loc) (ls : Array Slot), zz_B D dA A h5 n s.heap H locs → lv_has ls 5 [(0, .ref (a0)), (2, .int (a2)), (3, .int (y3_4)), (4, .int ((st)))] → zz_W p l e rm_X12_saysAll s m args below meth c D dA A (some (.int r)) hx n 0 0 H locs 0 0 10 ls []) st := by
      intro y3_4 h5
      refine zz_loop_go (K := K1) ?_
      intro K2 hP2 hR2
      rintro x4_3 x hv hk H locs ls Z hl
      replace hv : f_X12_saysAll_L10 h a0 a1 a2 y3_4 h5 x4_3 = some x := hv
      unfold f_X12_saysAll_L10 at hv
      replace hl : lv_has ls 5 [(0, .ref (a0)), (2, .int (a2)), (3, .int (y3_4)), (4, .int (x4_3))] := hl
      replace Z : zz_B D dA A h5 n s.heap H locs := Z
      show zz_W p l e rm_X12_saysAll s m args below meth c D dA A (some (.int r)) hx n 0 0 H locs 0 0 10 ls []
      refine lv_iload S.1 S.2.1 dX12_saysAll_10 (lv_at hl 3 rfl) ?_
      refine lv_iload_n S.1 S.2.1 dX12_saysAll_12 rfl (lv_at hl 1 rfl) ?_
      refine lv_icmp_ge (tgt := 34) S.1 S.2.1 dX12_saysAll_13 (by decide) (fun hc => ?_) (fun hc => ?_)
      · replace hv := (if_pos hc).symm.trans hv
        obtain ⟨_, hv, hk⟩ := zz_mapk hv hk
        replace hk := hR2 _ hk
        exact J34 y3_4 x4_3 h5 _ hv hk H locs ls Z (lv_sub hl [0, 1, 2, 3] rfl)
      · replace hv := (if_neg hc).symm.trans hv
        refine lv_aload_n S.1 S.2.1 dX12_saysAll_16 rfl (lv_at hl 0 rfl) ?_
        refine zz_gR S K Z hv zc_10 (by decide) gf_X12_82 dX12_saysAll_17 (fun v18 hv => ?_)
        refine lv_iload S.1 S.2.1 dX12_saysAll_20 (lv_at hl 3 rfl) ?_
        refine zz_iald S K Z hv dX12_saysAll_22 (fun v19 hv => ?_)
        refine lv_bipush (v := (32 : Int32)) S.1 S.2.1 dX12_saysAll_23 (by decide) ?_
        refine lv_icmp_eq (tgt := 34) S.1 S.2.1 dX12_saysAll_25 (by decide) (fun hc => ?_) (fun hc => ?_)
        · replace hv := (if_pos hc).symm.trans hv
          obtain ⟨_, hv, hk⟩ := zz_mapk hv hk
          replace hk := hR2 _ hk
          exact J34 y3_4 x4_3 h5 _ hv hk H locs ls Z (lv_sub hl [0, 1, 2, 3] rfl)
        · replace hv := (if_neg hc).symm.trans hv
          refine lv_iinc (v := x4_3 + (1 : Int32)) (lv' := [(4, .int (x4_3 + (1 : Int32))), (0, .ref (a0)), (2, .int (a2)), (3, .int (y3_4))]) S.1 S.2.1 dX12_saysAll_28 hl (k := 3) rfl rfl (by decide) rfl (fun ls hl => ?_)
          refine lv_goto (tgt := 10) S.1 S.2.1 dX12_saysAll_31 (by decide) ?_
          replace hk := zz_fin hv hk
          exact hP2 _ hk H locs ls Z (lv_sub hl [1, 2, 3, 0] rfl)
    rintro ⟨x3_1, h2⟩ x hv hk H locs ls Z hl
    replace hv : f_X12_saysAll_L2 h a0 a1 a2 x3_1 h2 = some x := hv
    unfold f_X12_saysAll_L2 at hv
    replace hl : lv_has ls 5 [(0, .ref (a0)), (2, .int (a2)), (3, .int (x3_1))] := hl
    replace Z : zz_B D dA A h2 n s.heap H locs := Z
    show zz_W p l e rm_X12_saysAll s m args below meth c D dA A (some (.int r)) hx n 0 0 H locs 0 0 2 ls []
    refine lv_iload_n S.1 S.2.1 dX12_saysAll_2 rfl (lv_at hl 2 rfl) ?_
    refine lv_iload_n S.1 S.2.1 dX12_saysAll_3 rfl (lv_at hl 1 rfl) ?_
    refine lv_icmp_ge (tgt := 83) S.1 S.2.1 dX12_saysAll_4 (by decide) (fun hc => ?_) (fun hc => ?_)
    · replace hv := (if_pos hc).symm.trans hv
      obtain ⟨_, hv, hk⟩ := zz_mapk hv hk
      replace hk := hR1 _ hk
      refine lv_iconst (v := (1 : Int32)) S.1 S.2.1 dX12_saysAll_83 (by decide) ?_
      replace hk := zz_fin hv hk
      obtain ⟨rfl, rfl⟩ := Prod.mk.inj (hR0 _ hk)
      exact zz_zret S Z hret (by decide) hlk dX12_saysAll_84 (Nat.le_refl _) (Nat.le_refl _)
    · replace hv := (if_neg hc).symm.trans hv
      refine lv_iload_n S.1 S.2.1 dX12_saysAll_7 rfl (lv_at hl 2 rfl) ?_
      refine lv_istore (lv' := [(4, .int (x3_1)), (0, .ref (a0)), (2, .int (a2)), (3, .int (x3_1))]) S.1 S.2.1 dX12_saysAll_8 hl (by decide) rfl (fun ls hl => ?_)
      exact L10 x3_1 h2 (x3_1) _ hv hk H locs ls Z (lv_sub hl [1, 2, 3, 0] rfl)
  have hv := hf
  unfold f_X12_saysAll at hv
  clear hf
  obtain ⟨x, hxx⟩ : ∃ x, x = (r, hx) := ⟨_, rfl⟩
  rw [← hxx] at hv hk
  have ⟨H, hH⟩ : ∃ H, H = s.heap := ⟨_, rfl⟩
  have ⟨locs, hlo⟩ : ∃ q : List Loc, q = [] := ⟨_, rfl⟩
  have Z : zz_B D dA A h n s.heap H locs := by rw [hH, hlo]; exact Z
  have key : zz_W p l e rm_X12_saysAll s m args below meth c D dA A (some (.int r)) hx n 0 0 H locs 0 0 0 ls [] := by
    clear hH hlo hxx
    refine lv_iload_n S.1 S.2.1 dX12_saysAll_0 rfl (lv_at hl 1 rfl) ?_
    refine lv_istore_n (lv' := [(3, .int (a1)), (0, .ref (a0)), (1, .int (a1)), (2, .int (a2))]) S.1 S.2.1 dX12_saysAll_1 rfl hl (by decide) rfl (fun ls hl => ?_)
    exact L2  (a1, h) _ hv hk H locs ls Z (lv_sub hl [1, 3, 0] rfl)
  rw [hH, hlo] at key
  exact key

noncomputable def f_X12_comesOut_J232 (h : ZH) (a0 : Nat) (a1 : Int32) (a2 : Int32) (s34 : Int32) (s35 : Int32) (h36 : ZH) : Option (Int32 × ZH) :=
  if s35 = s34 then (some (((1 : Int32), h36))) else (some (((0 : Int32), h36)))
noncomputable def f_X12_comesOut_L180 (h : ZH) (a0 : Nat) (a1 : Int32) (a2 : Int32) (y4_29 : Int32) (y5_30 : Int32) (h31 : ZH) (x6_27 : Int32) (x7_28 : Int32)  : Option ((Int32 × Int32) ⊕ (Int32 × ZH)) :=
  if a2 ≤ x7_28 then (((zg_R h31 a0 10 28).bind fun v32 => (zl_I h31 v32 1 ((4 : Int32) + y4_29)).bind fun v33 => if y5_30 = 0 then (f_X12_comesOut_J232 h a0 a1 a2 x6_27 v33 h31) else (f_X12_comesOut_J232 h a0 a1 a2 (-x6_27) v33 h31)).map Sum.inr) else ((zg_R h31 a0 10 31).bind fun v37 => (zl_I h31 v37 1 x7_28).bind fun v38 => zz_let ((((10 : Int32) * x6_27) + v38) - (48 : Int32)) fun v39 => some (.inl (v39, x7_28 + (1 : Int32))))
noncomputable def f_X12_comesOut_J177 (h : ZH) (a0 : Nat) (a1 : Int32) (a2 : Int32) (x4_20 : Int32) (x5_21 : Int32) (x6_22 : Int32) (s23 : Int32) (s24 : Int32) (h25 : ZH) : Option (Int32 × ZH) :=
  zz_let (s24 + s23) fun v26 => zz_loop (fun st : (Int32 × Int32) => f_X12_comesOut_L180 h a0 a1 a2 x4_20 x5_21 h25 (st.1) (st.2)) (x6_22, v26)
noncomputable def f_X12_comesOut_J161 (h : ZH) (a0 : Nat) (a1 : Int32) (a2 : Int32) (x4_17 : Int32) (s18 : Int32) (h19 : ZH) : Option (Int32 × ZH) :=
  if s18 = 0 then (f_X12_comesOut_J177 h a0 a1 a2 x4_17 s18 (0 : Int32) (4 : Int32) a1 h19) else (f_X12_comesOut_J177 h a0 a1 a2 x4_17 s18 (0 : Int32) (5 : Int32) a1 h19)
noncomputable def f_X12_comesOut_J29 (h : ZH) (a0 : Nat) (a1 : Int32) (a2 : Int32) (x3_3 : Int32) (s4 : Int32) (h5 : ZH) : Option (Int32 × ZH) :=
  if x3_3 = (33 : Int32) then ((zg_R h5 a0 10 28).bind fun v6 => (zl_I h5 v6 1 (1 : Int32)).bind fun v7 => if v7 = s4 then (some (((1 : Int32), h5))) else (some (((0 : Int32), h5)))) else (if x3_3 = (61 : Int32) then ((zg_R h5 a0 10 28).bind fun v8 => (zl_I h5 v8 1 (3 : Int32)).bind fun v9 => if v9 = (-2 : Int32) then (some (((0 : Int32), h5))) else ((zg_R h5 a0 10 28).bind fun v10 => (zl_I h5 v10 1 (3 : Int32)).bind fun v11 => zz_isO h5 a0 10 <| (f_X12_matches h5 a0 (a1 + (2 : Int32)) a2 v11).bind fun v12 => if v12 = 0 then (some (((0 : Int32), h5))) else (some (((1 : Int32), h5))))) else (if x3_3 = (62 : Int32) then (zz_isO h5 a0 10 <| (f_X12_saysAll h5 a0 (a1 + (2 : Int32)) a2).bind fun (v13, h14) => zz_ok (v13 = 0 ∨ v13 = 1) <| some ((v13, h14))) else (if x3_3 = (63 : Int32) then ((zg_R h5 a0 10 31).bind fun v15 => (zl_I h5 v15 1 (a1 + (4 : Int32))).bind fun v16 => if v16 = (45 : Int32) then (f_X12_comesOut_J161 h a0 a1 a2 s4 (1 : Int32) h5) else (f_X12_comesOut_J161 h a0 a1 a2 s4 (0 : Int32) h5)) else (if x3_3 = (64 : Int32) then ((zg_R h5 a0 10 28).bind fun v40 => (zl_I h5 v40 1 (0 : Int32)).bind fun v41 => if v41 = s4 then (some (((1 : Int32), h5))) else (some (((0 : Int32), h5)))) else (if x3_3 = (98 : Int32) then ((zg_R h5 a0 10 29).bind fun v42 => (zl_I h5 v42 2 ((1 : Int32) + s4)).bind fun v43 => if v43 = 0 then (some (((0 : Int32), h5))) else (zz_isO h5 a0 10 <| (f_X12_copy h5 a0 ((1 : Int32) + s4) (0 : Int32)).bind fun h44 => some (((1 : Int32), h44)))) else (if x3_3 = (115 : Int32) then (zz_isO h5 a0 10 <| (f_X12_copy h5 a0 (0 : Int32) ((1 : Int32) + s4)).bind fun h45 => (zg_R h45 a0 10 29).bind fun v46 => (zs_I h45 v46 2 ((1 : Int32) + s4) (vp_nar .boolean (1 : Int32))).bind fun h47 => some (((1 : Int32), h47))) else (some (((1 : Int32), h5)))))))))
noncomputable def f_X12_comesOut (h : ZH) (a0 : Nat) (a1 : Int32) (a2 : Int32) : Option (Int32 × ZH) :=
  (zg_R h a0 10 31).bind fun v1 => (zl_I h v1 1 a1).bind fun v2 => if a2 ≤ (a1 + (2 : Int32)) then (f_X12_comesOut_J29 h a0 a1 a2 v2 (0 : Int32) h) else ((zg_R h a0 10 31).bind fun v48 => (zl_I h v48 1 (a1 + (2 : Int32))).bind fun v49 => f_X12_comesOut_J29 h a0 a1 a2 v2 (v49 - (48 : Int32)) h)
abbrev rm_X12_comesOut : Room := { frames := 4, cells := 0, slots := 0, locals := 95 }
set_option maxRecDepth 100000 in
set_option maxHeartbeats 4000000 in
theorem c_X12_comesOut {l : Launch} {D : va_G} {dA : Nat → ClassId} {A : Nat → Prop} {h : ZH} {n : Nat} (a0 : Nat) (a1 : Int32) (a2 : Int32) {r : Int32} {hx : ZH} (hf : f_X12_comesOut h a0 a1 a2 = some (r, hx)) : Met l yX12_comesOut (zz_ws yX12_comesOut cX12_comesOut 8 (some .boolean)) rm_X12_comesOut (zz_P D dA A h n [.ref (a0), .int (a1), .int (a2)]) (zz_Q D dA A (some (.int r)) hx n) 0 0 A := by
  refine zz_met (by decide) (Nat.le_of_ble_eq_true rfl) ?_
  intro p e s m args below meth c ls S K hret hlk hnm hl Z
  replace hl : lv_has ls 8 [(0, .ref (a0)), (1, .int (a1)), (2, .int (a2))] := hl
  obtain ⟨K0, hR0, hk⟩ : ∃ K0 : (Int32 × ZH) → Prop, (∀ x, K0 x → x = (r, hx)) ∧ K0 (r, hx) := ⟨fun x => x = (r, hx), fun _ h => h, rfl⟩
  have J232 : ∀ (s34 : Int32) (s35 : Int32) (h36 : ZH) (x : (Int32 × ZH)), f_X12_comesOut_J232 h a0 a1 a2 s34 s35 h36 = some x → K0 x → ∀ (H : Heap) (locs : List Loc) (ls : Array Slot), zz_B D dA A h36 n s.heap H locs → lv_has ls 8 [] → zz_W p l e rm_X12_comesOut s m args below meth c D dA A (some (.int r)) hx n 0 0 H locs 0 0 232 ls [.int (s34), .int (s35)] := by
    intro s34 s35 h36 x hv hk H locs ls Z hl
    unfold f_X12_comesOut_J232 at hv
    refine lv_icmp_ne (tgt := 239) S.1 S.2.1 dX12_comesOut_232 (by decide) (fun hc => ?_) (fun hc => ?_)
    · replace hv := (if_neg hc).symm.trans hv
      refine lv_iconst (v := (0 : Int32)) S.1 S.2.1 dX12_comesOut_239 (by decide) ?_
      replace hk := zz_fin hv hk
      obtain ⟨rfl, rfl⟩ := Prod.mk.inj (hR0 _ hk)
      exact zz_zret S Z hret (by decide) hlk dX12_comesOut_240 (Nat.le_refl _) (Nat.le_refl _)
    · replace hv := (if_pos hc).symm.trans hv
      refine lv_iconst (v := (1 : Int32)) S.1 S.2.1 dX12_comesOut_235 (by decide) ?_
      refine lv_goto (tgt := 240) S.1 S.2.1 dX12_comesOut_236 (by decide) ?_
      replace hk := zz_fin hv hk
      obtain ⟨rfl, rfl⟩ := Prod.mk.inj (hR0 _ hk)
      exact zz_zret S Z hret (by decide) hlk dX12_comesOut_240 (Nat.le_refl _) (Nat.le_refl _)
  have L180 : ∀ (y4_29 : Int32) (y5_30 : Int32) (h31 : ZH) (st : (Int32 × Int32)) (x : (Int32 × ZH)), zz_loop (fun st : (Int32 × Int32) => f_X12_comesOut_L180 h a0 a1 a2 y4_29 y5_30 h31 (st.1) (st.2)) st = some x → K0 x → (fun st : (Int32 × Int32) => ∀ (H : Heap) (locs : List Loc) (ls : Array Slot), zz_B D dA A h31 n s.heap H locs → lv_has ls 8 [(0, .ref (a0)), (2, .int (a2)), (4, .int (y4_29)), (5, .int (y5_30)), (6, .int ((st.1))), (7, .int ((st.2)))] → zz_W p l e rm_X12_comesOut s m args below meth c D dA A (some (.int r)) hx n 0 0 H locs 0 0 180 ls []) st := by
    intro y4_29 y5_30 h31
    refine zz_loop_go (K := K0) ?_
    intro K1 hP1 hR1
    rintro ⟨x6_27, x7_28⟩ x hv hk H locs ls Z hl
    replace hv : f_X12_comesOut_L180 h a0 a1 a2 y4_29 y5_30 h31 x6_27 x7_28 = some x := hv
    unfold f_X12_comesOut_L180 at hv
    replace hl : lv_has ls 8 [(0, .ref (a0)), (2, .int (a2)), (4, .int (y4_29)), (5, .int (y5_30)), (6, .int (x6_27)), (7, .int (x7_28))] := hl
    replace Z : zz_B D dA A h31 n s.heap H locs := Z
    show zz_W p l e rm_X12_comesOut s m args below meth c D dA A (some (.int r)) hx n 0 0 H locs 0 0 180 ls []
    refine lv_iload S.1 S.2.1 dX12_comesOut_180 (lv_at hl 5 rfl) ?_
    refine lv_iload_n S.1 S.2.1 dX12_comesOut_182 rfl (lv_at hl 1 rfl) ?_
    refine lv_icmp_ge (tgt := 210) S.1 S.2.1 dX12_comesOut_183 (by decide) (fun hc => ?_) (fun hc => ?_)
    · replace hv := (if_pos hc).symm.trans hv
      obtain ⟨_, hv, hk⟩ := zz_mapk hv hk
      replace hk := hR1 _ hk
      refine lv_aload_n S.1 S.2.1 dX12_comesOut_210 rfl (lv_at hl 0 rfl) ?_
      refine zz_gR S K Z hv zc_10 (by decide) gf_X12_75 dX12_comesOut_211 (fun v32 hv => ?_)
      refine lv_iconst (v := (4 : Int32)) S.1 S.2.1 dX12_comesOut_214 (by decide) ?_
      refine lv_iload S.1 S.2.1 dX12_comesOut_215 (lv_at hl 2 rfl) ?_
      refine lv_iadd S.1 S.2.1 dX12_comesOut_217 ?_
      refine zz_iald S K Z hv dX12_comesOut_218 (fun v33 hv => ?_)
      refine lv_iload S.1 S.2.1 dX12_comesOut_219 (lv_at hl 3 rfl) ?_
      refine lv_if_eq (tgt := 230) S.1 S.2.1 dX12_comesOut_221 (by decide) (fun hc => ?_) (fun hc => ?_)
      · replace hv := (if_pos hc).symm.trans hv
        refine lv_iload S.1 S.2.1 dX12_comesOut_230 (lv_at hl 4 rfl) ?_
        exact J232 x6_27 v33 h31 _ hv hk H locs ls Z (lv_sub hl [] rfl)
      · replace hv := (if_neg hc).symm.trans hv
        refine lv_iload S.1 S.2.1 dX12_comesOut_224 (lv_at hl 4 rfl) ?_
        refine lv_ineg S.1 S.2.1 dX12_comesOut_226 ?_
        refine lv_goto (tgt := 232) S.1 S.2.1 dX12_comesOut_227 (by decide) ?_
        exact J232 (-x6_27) v33 h31 _ hv hk H locs ls Z (lv_sub hl [] rfl)
    · replace hv := (if_neg hc).symm.trans hv
      refine lv_bipush (v := (10 : Int32)) S.1 S.2.1 dX12_comesOut_186 (by decide) ?_
      refine lv_iload S.1 S.2.1 dX12_comesOut_188 (lv_at hl 4 rfl) ?_
      refine lv_imul S.1 S.2.1 dX12_comesOut_190 ?_
      refine lv_aload_n S.1 S.2.1 dX12_comesOut_191 rfl (lv_at hl 0 rfl) ?_
      refine zz_gR S K Z hv zc_10 (by decide) gf_X12_82 dX12_comesOut_192 (fun v37 hv => ?_)
      refine lv_iload S.1 S.2.1 dX12_comesOut_195 (lv_at hl 5 rfl) ?_
      refine zz_iald S K Z hv dX12_comesOut_197 (fun v38 hv => ?_)
      refine lv_iadd S.1 S.2.1 dX12_comesOut_198 ?_
      refine lv_bipush (v := (48 : Int32)) S.1 S.2.1 dX12_comesOut_199 (by decide) ?_
      refine lv_isub S.1 S.2.1 dX12_comesOut_201 ?_
      refine zz_lt hv (G := fun w => W _ _ _ _ _ _ _ _ _ _ _ _ _ _ _ (F0 _ _ _ (.int w :: _))) (fun v39 hv => ?_)
      refine lv_istore (lv' := [(6, .int (v39)), (0, .ref (a0)), (2, .int (a2)), (4, .int (y4_29)), (5, .int (y5_30)), (7, .int (x7_28))]) S.1 S.2.1 dX12_comesOut_202 hl (by decide) rfl (fun ls hl => ?_)
      refine lv_iinc (v := x7_28 + (1 : Int32)) (lv' := [(7, .int (x7_28 + (1 : Int32))), (6, .int (v39)), (0, .ref (a0)), (2, .int (a2)), (4, .int (y4_29)), (5, .int (y5_30))]) S.1 S.2.1 dX12_comesOut_204 hl (k := 5) rfl rfl (by decide) rfl (fun ls hl => ?_)
      refine lv_goto (tgt := 180) S.1 S.2.1 dX12_comesOut_207 (by decide) ?_
      replace hk := zz_fin hv hk
      exact hP1 _ hk H locs ls Z (lv_sub hl [2, 3, 4, 5, 1, 0] rfl)
  have J177 : ∀ (x4_20 : Int32) (x5_21 : Int32) (x6_22 : Int32) (s23 : Int32) (s24 : Int32) (h25 : ZH) (x : (Int32 × ZH)), f_X12_comesOut_J177 h a0 a1 a2 x4_20 x5_21 x6_22 s23 s24 h25 = some x → K0 x → ∀ (H : Heap) (locs : List Loc) (ls : Array Slot), zz_B D dA A h25 n s.heap H locs → lv_has ls 8 [(0, .ref (a0)), (2, .int (a2)), (4, .int (x4_20)), (5, .int (x5_21)), (6, .int (x6_22))] → zz_W p l e rm_X12_comesOut s m args below meth c D dA A (some (.int r)) hx n 0 0 H locs 0 0 177 ls [.int (s23), .int (s24)] := by
    intro x4_20 x5_21 x6_22 s23 s24 h25 x hv hk H locs ls Z hl
    unfold f_X12_comesOut_J177 at hv
    refine lv_iadd S.1 S.2.1 dX12_comesOut_177 ?_
    refine zz_lt hv (G := fun w => W _ _ _ _ _ _ _ _ _ _ _ _ _ _ _ (F0 _ _ _ (.int w :: _))) (fun v26 hv => ?_)
    refine lv_istore (lv' := [(7, .int (v26)), (0, .ref (a0)), (2, .int (a2)), (4, .int (x4_20)), (5, .int (x5_21)), (6, .int (x6_22))]) S.1 S.2.1 dX12_comesOut_178 hl (by decide) rfl (fun ls hl => ?_)
    exact L180 x4_20 x5_21 h25 (x6_22, v26) _ hv hk H locs ls Z (lv_sub hl [1, 2, 3, 4, 5, 0] rfl)
  have J161 : ∀ (x4_17 : Int32) (s18 : Int32) (h19 : ZH) (x : (Int32 × ZH)), f_X12_comesOut_J161 h a0 a1 a2 x4_17 s18 h19 = some x → K0 x → ∀ (H : Heap) (locs : List Loc) (ls : Array Slot), zz_B D dA A h19 n s.heap H locs → lv_has ls 8 [(0, .ref (a0)), (1, .int (a1)), (2, .int (a2)), (4, .int (x4_17))] → zz_W p l e rm_X12_comesOut s m args below meth c D dA A (some (.int r)) hx n 0 0 H locs 0 0 161 ls [.int (s18)] := by
    intro x4_17 s18 h19 x hv hk H locs ls Z hl
    unfold f_X12_comesOut_J161 at hv
    refine lv_istore (lv' := [(5, .int (s18)), (0, .ref (a0)), (1, .int (a1)), (2, .int (a2)), (4, .int (x4_17))]) S.1 S.2.1 dX12_comesOut_161 hl (by decide) rfl (fun ls hl => ?_)
    refine lv_iconst (v := (0 : Int32)) S.1 S.2.1 dX12_comesOut_163 (by decide) ?_
    refine lv_istore (lv' := [(6, .int ((0 : Int32))), (5, .int (s18)), (0, .ref (a0)), (1, .int (a1)), (2, .int (a2)), (4, .int (x4_17))]) S.1 S.2.1 dX12_comesOut_164 hl (by decide) rfl (fun ls hl => ?_)
    refine lv_iload_n S.1 S.2.1 dX12_comesOut_166 rfl (lv_at hl 3 rfl) ?_
    refine lv_iload S.1 S.2.1 dX12_comesOut_167 (lv_at hl 1 rfl) ?_
    refine lv_if_eq (tgt := 176) S.1 S.2.1 dX12_comesOut_169 (by decide) (fun hc => ?_) (fun hc => ?_)
    · replace hv := (if_pos hc).symm.trans hv
      refine lv_iconst (v := (4 : Int32)) S.1 S.2.1 dX12_comesOut_176 (by decide) ?_
      exact J177 x4_17 s18 (0 : Int32) (4 : Int32) a1 h19 _ hv hk H locs ls Z (lv_sub hl [2, 4, 5, 1, 0] rfl)
    · replace hv := (if_neg hc).symm.trans hv
      refine lv_iconst (v := (5 : Int32)) S.1 S.2.1 dX12_comesOut_172 (by decide) ?_
      refine lv_goto (tgt := 177) S.1 S.2.1 dX12_comesOut_173 (by decide) ?_
      exact J177 x4_17 s18 (0 : Int32) (5 : Int32) a1 h19 _ hv hk H locs ls Z (lv_sub hl [2, 4, 5, 1, 0] rfl)
  have J29 : ∀ (x3_3 : Int32) (s4 : Int32) (h5 : ZH) (x : (Int32 × ZH)), f_X12_comesOut_J29 h a0 a1 a2 x3_3 s4 h5 = some x → K0 x → ∀ (H : Heap) (locs : List Loc) (ls : Array Slot), zz_B D dA A h5 n s.heap H locs → lv_has ls 8 [(0, .ref (a0)), (1, .int (a1)), (2, .int (a2)), (3, .int (x3_3))] → zz_W p l e rm_X12_comesOut s m args below meth c D dA A (some (.int r)) hx n 0 0 H locs 0 0 29 ls [.int (s4)] := by
    intro x3_3 s4 h5 x hv hk H locs ls Z hl
    unfold f_X12_comesOut_J29 at hv
    refine lv_istore (lv' := [(4, .int (s4)), (0, .ref (a0)), (1, .int (a1)), (2, .int (a2)), (3, .int (x3_3))]) S.1 S.2.1 dX12_comesOut_29 hl (by decide) rfl (fun ls hl => ?_)
    refine lv_iload_n S.1 S.2.1 dX12_comesOut_31 rfl (lv_at hl 4 rfl) ?_
    by_cases hc33 : x3_3 = (33 : Int32)
    · replace hv := (if_pos hc33).symm.trans hv
      refine lv_lookup (tgt := 258) S.1 S.2.1 dX12_comesOut_32 (by decide) (by rw [hc33] <;> rfl) (by decide) ?_
      refine lv_aload_n S.1 S.2.1 dX12_comesOut_258 rfl (lv_at hl 1 rfl) ?_
      refine zz_gR S K Z hv zc_10 (by decide) gf_X12_75 dX12_comesOut_259 (fun v6 hv => ?_)
      refine lv_iconst (v := (1 : Int32)) S.1 S.2.1 dX12_comesOut_262 (by decide) ?_
      refine zz_iald S K Z hv dX12_comesOut_263 (fun v7 hv => ?_)
      refine lv_iload S.1 S.2.1 dX12_comesOut_264 (lv_at hl 0 rfl) ?_
      refine lv_icmp_ne (tgt := 273) S.1 S.2.1 dX12_comesOut_266 (by decide) (fun hc => ?_) (fun hc => ?_)
      · replace hv := (if_neg hc).symm.trans hv
        refine lv_iconst (v := (0 : Int32)) S.1 S.2.1 dX12_comesOut_273 (by decide) ?_
        replace hk := zz_fin hv hk
        obtain ⟨rfl, rfl⟩ := Prod.mk.inj (hR0 _ hk)
        exact zz_zret S Z hret (by decide) hlk dX12_comesOut_274 (Nat.le_refl _) (Nat.le_refl _)
      · replace hv := (if_pos hc).symm.trans hv
        refine lv_iconst (v := (1 : Int32)) S.1 S.2.1 dX12_comesOut_269 (by decide) ?_
        refine lv_goto (tgt := 274) S.1 S.2.1 dX12_comesOut_270 (by decide) ?_
        replace hk := zz_fin hv hk
        obtain ⟨rfl, rfl⟩ := Prod.mk.inj (hR0 _ hk)
        exact zz_zret S Z hret (by decide) hlk dX12_comesOut_274 (Nat.le_refl _) (Nat.le_refl _)
    · replace hv := (if_neg hc33).symm.trans hv
      by_cases hc61 : x3_3 = (61 : Int32)
      · replace hv := (if_pos hc61).symm.trans hv
        refine lv_lookup (tgt := 109) S.1 S.2.1 dX12_comesOut_32 (by decide) (by rw [hc61] <;> rfl) (by decide) ?_
        refine lv_aload_n S.1 S.2.1 dX12_comesOut_109 rfl (lv_at hl 1 rfl) ?_
        refine zz_gR S K Z hv zc_10 (by decide) gf_X12_75 dX12_comesOut_110 (fun v8 hv => ?_)
        refine lv_iconst (v := (3 : Int32)) S.1 S.2.1 dX12_comesOut_113 (by decide) ?_
        refine zz_iald S K Z hv dX12_comesOut_114 (fun v9 hv => ?_)
        refine lv_bipush (v := (-2 : Int32)) S.1 S.2.1 dX12_comesOut_115 (by decide) ?_
        refine lv_icmp_eq (tgt := 141) S.1 S.2.1 dX12_comesOut_117 (by decide) (fun hc => ?_) (fun hc => ?_)
        · replace hv := (if_pos hc).symm.trans hv
          refine lv_iconst (v := (0 : Int32)) S.1 S.2.1 dX12_comesOut_141 (by decide) ?_
          replace hk := zz_fin hv hk
          obtain ⟨rfl, rfl⟩ := Prod.mk.inj (hR0 _ hk)
          exact zz_zret S Z hret (by decide) hlk dX12_comesOut_142 (Nat.le_refl _) (Nat.le_refl _)
        · replace hv := (if_neg hc).symm.trans hv
          refine lv_aload_n S.1 S.2.1 dX12_comesOut_120 rfl (lv_at hl 1 rfl) ?_
          refine lv_iload_n S.1 S.2.1 dX12_comesOut_121 rfl (lv_at hl 2 rfl) ?_
          refine lv_iconst (v := (2 : Int32)) S.1 S.2.1 dX12_comesOut_122 (by decide) ?_
          refine lv_iadd S.1 S.2.1 dX12_comesOut_123 ?_
          refine lv_iload_n S.1 S.2.1 dX12_comesOut_124 rfl (lv_at hl 3 rfl) ?_
          refine lv_aload_n S.1 S.2.1 dX12_comesOut_125 rfl (lv_at hl 1 rfl) ?_
          refine zz_gR S K Z hv zc_10 (by decide) gf_X12_75 dX12_comesOut_126 (fun v10 hv => ?_)
          refine lv_iconst (v := (3 : Int32)) S.1 S.2.1 dX12_comesOut_129 (by decide) ?_
          refine zz_iald S K Z hv dX12_comesOut_130 (fun v11 hv => ?_)
          obtain ⟨hci, hv⟩ := zz_isO_s hv
          obtain ⟨v12, hq, hv⟩ := zz_bd hv
          refine zz_V [.int (a1 + (2 : Int32)), .int (a2), .int (v11)] S K Z hci zc_10 rfl (c_X12_matches a0 (a1 + (2 : Int32)) a2 v11 hq) ⟨rfl, rfl⟩ gm_X12_matches gmv_X12_matches gl_X12_224 ⟨by decide, by decide⟩ rfl hl.1 rfl (Nat.le_of_ble_eq_true rfl) dX12_comesOut_131 ⟨Nat.zero_le _, Nat.zero_le _⟩ (fun H locs Z => ?_)
          show W _ _ _ _ _ _ _ _ _ _ _ _ 0 0 _ (F0 m 134 ls [.int (v12)])
          refine lv_if_eq (tgt := 141) S.1 S.2.1 dX12_comesOut_134 (by decide) (fun hc => ?_) (fun hc => ?_)
          · replace hv := (if_pos hc).symm.trans hv
            refine lv_iconst (v := (0 : Int32)) S.1 S.2.1 dX12_comesOut_141 (by decide) ?_
            replace hk := zz_fin hv hk
            obtain ⟨rfl, rfl⟩ := Prod.mk.inj (hR0 _ hk)
            exact zz_zret S Z hret (by decide) hlk dX12_comesOut_142 (Nat.le_refl _) (Nat.le_refl _)
          · replace hv := (if_neg hc).symm.trans hv
            refine lv_iconst (v := (1 : Int32)) S.1 S.2.1 dX12_comesOut_137 (by decide) ?_
            refine lv_goto (tgt := 142) S.1 S.2.1 dX12_comesOut_138 (by decide) ?_
            replace hk := zz_fin hv hk
            obtain ⟨rfl, rfl⟩ := Prod.mk.inj (hR0 _ hk)
            exact zz_zret S Z hret (by decide) hlk dX12_comesOut_142 (Nat.le_refl _) (Nat.le_refl _)
      · replace hv := (if_neg hc61).symm.trans hv
        by_cases hc62 : x3_3 = (62 : Int32)
        · replace hv := (if_pos hc62).symm.trans hv
          refine lv_lookup (tgt := 100) S.1 S.2.1 dX12_comesOut_32 (by decide) (by rw [hc62] <;> rfl) (by decide) ?_
          refine lv_aload_n S.1 S.2.1 dX12_comesOut_100 rfl (lv_at hl 1 rfl) ?_
          refine lv_iload_n S.1 S.2.1 dX12_comesOut_101 rfl (lv_at hl 2 rfl) ?_
          refine lv_iconst (v := (2 : Int32)) S.1 S.2.1 dX12_comesOut_102 (by decide) ?_
          refine lv_iadd S.1 S.2.1 dX12_comesOut_103 ?_
          refine lv_iload_n S.1 S.2.1 dX12_comesOut_104 rfl (lv_at hl 3 rfl) ?_
          obtain ⟨hci, hv⟩ := zz_isO_s hv
          obtain ⟨⟨v13, h14⟩, hq, hv⟩ := zz_bd hv
          refine zz_V [.int (a1 + (2 : Int32)), .int (a2)] S K Z hci zc_10 rfl (c_X12_saysAll a0 (a1 + (2 : Int32)) a2 hq) ⟨rfl, rfl⟩ gm_X12_saysAll gmv_X12_saysAll gl_X12_220 ⟨by decide, by decide⟩ rfl hl.1 rfl (Nat.le_of_ble_eq_true rfl) dX12_comesOut_105 ⟨Nat.zero_le _, Nat.zero_le _⟩ (fun H locs Z => ?_)
          show W _ _ _ _ _ _ _ _ _ _ _ _ 0 0 _ (F0 m 108 ls [.int (v13)])
          obtain ⟨hok, hv⟩ := zz_ok_s hv
          replace hk := zz_fin hv hk
          obtain ⟨rfl, rfl⟩ := Prod.mk.inj (hR0 _ hk)
          exact zz_zret S Z hret hok hlk dX12_comesOut_108 (Nat.le_refl _) (Nat.le_refl _)
        · replace hv := (if_neg hc62).symm.trans hv
          by_cases hc63 : x3_3 = (63 : Int32)
          · replace hv := (if_pos hc63).symm.trans hv
            refine lv_lookup (tgt := 143) S.1 S.2.1 dX12_comesOut_32 (by decide) (by rw [hc63] <;> rfl) (by decide) ?_
            refine lv_aload_n S.1 S.2.1 dX12_comesOut_143 rfl (lv_at hl 1 rfl) ?_
            refine zz_gR S K Z hv zc_10 (by decide) gf_X12_82 dX12_comesOut_144 (fun v15 hv => ?_)
            refine lv_iload_n S.1 S.2.1 dX12_comesOut_147 rfl (lv_at hl 2 rfl) ?_
            refine lv_iconst (v := (4 : Int32)) S.1 S.2.1 dX12_comesOut_148 (by decide) ?_
            refine lv_iadd S.1 S.2.1 dX12_comesOut_149 ?_
            refine zz_iald S K Z hv dX12_comesOut_150 (fun v16 hv => ?_)
            refine lv_bipush (v := (45 : Int32)) S.1 S.2.1 dX12_comesOut_151 (by decide) ?_
            refine lv_icmp_ne (tgt := 160) S.1 S.2.1 dX12_comesOut_153 (by decide) (fun hc => ?_) (fun hc => ?_)
            · replace hv := (if_neg hc).symm.trans hv
              refine lv_iconst (v := (0 : Int32)) S.1 S.2.1 dX12_comesOut_160 (by decide) ?_
              exact J161 s4 (0 : Int32) h5 _ hv hk H locs ls Z (lv_sub hl [1, 2, 3, 0] rfl)
            · replace hv := (if_pos hc).symm.trans hv
              refine lv_iconst (v := (1 : Int32)) S.1 S.2.1 dX12_comesOut_156 (by decide) ?_
              refine lv_goto (tgt := 161) S.1 S.2.1 dX12_comesOut_157 (by decide) ?_
              exact J161 s4 (1 : Int32) h5 _ hv hk H locs ls Z (lv_sub hl [1, 2, 3, 0] rfl)
          · replace hv := (if_neg hc63).symm.trans hv
            by_cases hc64 : x3_3 = (64 : Int32)
            · replace hv := (if_pos hc64).symm.trans hv
              refine lv_lookup (tgt := 241) S.1 S.2.1 dX12_comesOut_32 (by decide) (by rw [hc64] <;> rfl) (by decide) ?_
              refine lv_aload_n S.1 S.2.1 dX12_comesOut_241 rfl (lv_at hl 1 rfl) ?_
              refine zz_gR S K Z hv zc_10 (by decide) gf_X12_75 dX12_comesOut_242 (fun v40 hv => ?_)
              refine lv_iconst (v := (0 : Int32)) S.1 S.2.1 dX12_comesOut_245 (by decide) ?_
              refine zz_iald S K Z hv dX12_comesOut_246 (fun v41 hv => ?_)
              refine lv_iload S.1 S.2.1 dX12_comesOut_247 (lv_at hl 0 rfl) ?_
              refine lv_icmp_ne (tgt := 256) S.1 S.2.1 dX12_comesOut_249 (by decide) (fun hc => ?_) (fun hc => ?_)
              · replace hv := (if_neg hc).symm.trans hv
                refine lv_iconst (v := (0 : Int32)) S.1 S.2.1 dX12_comesOut_256 (by decide) ?_
                replace hk := zz_fin hv hk
                obtain ⟨rfl, rfl⟩ := Prod.mk.inj (hR0 _ hk)
                exact zz_zret S Z hret (by decide) hlk dX12_comesOut_257 (Nat.le_refl _) (Nat.le_refl _)
              · replace hv := (if_pos hc).symm.trans hv
                refine lv_iconst (v := (1 : Int32)) S.1 S.2.1 dX12_comesOut_252 (by decide) ?_
                refine lv_goto (tgt := 257) S.1 S.2.1 dX12_comesOut_253 (by decide) ?_
                replace hk := zz_fin hv hk
                obtain ⟨rfl, rfl⟩ := Prod.mk.inj (hR0 _ hk)
                exact zz_zret S Z hret (by decide) hlk dX12_comesOut_257 (Nat.le_refl _) (Nat.le_refl _)
            · replace hv := (if_neg hc64).symm.trans hv
              by_cases hc98 : x3_3 = (98 : Int32)
              · replace hv := (if_pos hc98).symm.trans hv
                refine lv_lookup (tgt := 296) S.1 S.2.1 dX12_comesOut_32 (by decide) (by rw [hc98] <;> rfl) (by decide) ?_
                refine lv_aload_n S.1 S.2.1 dX12_comesOut_296 rfl (lv_at hl 1 rfl) ?_
                refine zz_gR S K Z hv zc_10 (by decide) gf_X12_78 dX12_comesOut_297 (fun v42 hv => ?_)
                refine lv_iconst (v := (1 : Int32)) S.1 S.2.1 dX12_comesOut_300 (by decide) ?_
                refine lv_iload S.1 S.2.1 dX12_comesOut_301 (lv_at hl 0 rfl) ?_
                refine lv_iadd S.1 S.2.1 dX12_comesOut_303 ?_
                refine zz_zald S K Z hv dX12_comesOut_304 (fun v43 hv => ?_)
                refine lv_if_ne (tgt := 310) S.1 S.2.1 dX12_comesOut_305 (by decide) (fun hc => ?_) (fun hc => ?_)
                · replace hv := (if_neg hc).symm.trans hv
                  refine lv_aload_n S.1 S.2.1 dX12_comesOut_310 rfl (lv_at hl 1 rfl) ?_
                  refine lv_iconst (v := (1 : Int32)) S.1 S.2.1 dX12_comesOut_311 (by decide) ?_
                  refine lv_iload S.1 S.2.1 dX12_comesOut_312 (lv_at hl 0 rfl) ?_
                  refine lv_iadd S.1 S.2.1 dX12_comesOut_314 ?_
                  refine lv_iconst (v := (0 : Int32)) S.1 S.2.1 dX12_comesOut_315 (by decide) ?_
                  obtain ⟨hci, hv⟩ := zz_isO_s hv
                  obtain ⟨h44, hq, hv⟩ := zz_bd hv
                  refine zz_V [.int ((1 : Int32) + s4), .int ((0 : Int32))] S K Z hci zc_10 rfl (c_X12_copy a0 ((1 : Int32) + s4) (0 : Int32) hq) ⟨rfl, rfl⟩ gm_X12_copy gmv_X12_copy gl_X12_227 ⟨by decide, by decide⟩ rfl hl.1 rfl (Nat.le_of_ble_eq_true rfl) dX12_comesOut_316 ⟨Nat.zero_le _, Nat.zero_le _⟩ (fun H locs Z => ?_)
                  show W _ _ _ _ _ _ _ _ _ _ _ _ 0 0 _ (F0 m 319 ls [])
                  refine lv_iconst (v := (1 : Int32)) S.1 S.2.1 dX12_comesOut_319 (by decide) ?_
                  replace hk := zz_fin hv hk
                  obtain ⟨rfl, rfl⟩ := Prod.mk.inj (hR0 _ hk)
                  exact zz_zret S Z hret (by decide) hlk dX12_comesOut_320 (Nat.le_refl _) (Nat.le_refl _)
                · replace hv := (if_pos hc).symm.trans hv
                  refine lv_iconst (v := (0 : Int32)) S.1 S.2.1 dX12_comesOut_308 (by decide) ?_
                  replace hk := zz_fin hv hk
                  obtain ⟨rfl, rfl⟩ := Prod.mk.inj (hR0 _ hk)
                  exact zz_zret S Z hret (by decide) hlk dX12_comesOut_309 (Nat.le_refl _) (Nat.le_refl _)
              · replace hv := (if_neg hc98).symm.trans hv
                by_cases hc115 : x3_3 = (115 : Int32)
                · replace hv := (if_pos hc115).symm.trans hv
                  refine lv_lookup (tgt := 275) S.1 S.2.1 dX12_comesOut_32 (by decide) (by rw [hc115] <;> rfl) (by decide) ?_
                  refine lv_aload_n S.1 S.2.1 dX12_comesOut_275 rfl (lv_at hl 1 rfl) ?_
                  refine lv_iconst (v := (0 : Int32)) S.1 S.2.1 dX12_comesOut_276 (by decide) ?_
                  refine lv_iconst (v := (1 : Int32)) S.1 S.2.1 dX12_comesOut_277 (by decide) ?_
                  refine lv_iload S.1 S.2.1 dX12_comesOut_278 (lv_at hl 0 rfl) ?_
                  refine lv_iadd S.1 S.2.1 dX12_comesOut_280 ?_
                  obtain ⟨hci, hv⟩ := zz_isO_s hv
                  obtain ⟨h45, hq, hv⟩ := zz_bd hv
                  refine zz_V [.int ((0 : Int32)), .int ((1 : Int32) + s4)] S K Z hci zc_10 rfl (c_X12_copy a0 (0 : Int32) ((1 : Int32) + s4) hq) ⟨rfl, rfl⟩ gm_X12_copy gmv_X12_copy gl_X12_227 ⟨by decide, by decide⟩ rfl hl.1 rfl (Nat.le_of_ble_eq_true rfl) dX12_comesOut_281 ⟨Nat.zero_le _, Nat.zero_le _⟩ (fun H locs Z => ?_)
                  show W _ _ _ _ _ _ _ _ _ _ _ _ 0 0 _ (F0 m 284 ls [])
                  refine lv_aload_n S.1 S.2.1 dX12_comesOut_284 rfl (lv_at hl 1 rfl) ?_
                  refine zz_gR S K Z hv zc_10 (by decide) gf_X12_78 dX12_comesOut_285 (fun v46 hv => ?_)
                  refine lv_iconst (v := (1 : Int32)) S.1 S.2.1 dX12_comesOut_288 (by decide) ?_
                  refine lv_iload S.1 S.2.1 dX12_comesOut_289 (lv_at hl 0 rfl) ?_
                  refine lv_iadd S.1 S.2.1 dX12_comesOut_291 ?_
                  refine lv_iconst (v := (1 : Int32)) S.1 S.2.1 dX12_comesOut_292 (by decide) ?_
                  refine zz_zast S K Z hv dX12_comesOut_293 (fun h47 H locs hv Z => ?_)
                  refine lv_iconst (v := (1 : Int32)) S.1 S.2.1 dX12_comesOut_294 (by decide) ?_
                  replace hk := zz_fin hv hk
                  obtain ⟨rfl, rfl⟩ := Prod.mk.inj (hR0 _ hk)
                  exact zz_zret S Z hret (by decide) hlk dX12_comesOut_295 (Nat.le_refl _) (Nat.le_refl _)
                · replace hv := (if_neg hc115).symm.trans hv
                  refine lv_lookup (tgt := 321) S.1 S.2.1 dX12_comesOut_32 (by decide) ((lv_osw hc33 (by decide)).trans ((lv_osw hc61 (by decide)).trans ((lv_osw hc62 (by decide)).trans ((lv_osw hc63 (by decide)).trans ((lv_osw hc64 (by decide)).trans ((lv_osw hc98 (by decide)).trans ((lv_osw hc115 (by decide)).trans (Op.lookupswitch.offset_nil _ _)))))))) (by decide) ?_
                  refine lv_iconst (v := (1 : Int32)) S.1 S.2.1 dX12_comesOut_321 (by decide) ?_
                  replace hk := zz_fin hv hk
                  obtain ⟨rfl, rfl⟩ := Prod.mk.inj (hR0 _ hk)
                  exact zz_zret S Z hret (by decide) hlk dX12_comesOut_322 (Nat.le_refl _) (Nat.le_refl _)
  have hv := hf
  unfold f_X12_comesOut at hv
  clear hf
  obtain ⟨x, hxx⟩ : ∃ x, x = (r, hx) := ⟨_, rfl⟩
  rw [← hxx] at hv hk
  have ⟨H, hH⟩ : ∃ H, H = s.heap := ⟨_, rfl⟩
  have ⟨locs, hlo⟩ : ∃ q : List Loc, q = [] := ⟨_, rfl⟩
  have Z : zz_B D dA A h n s.heap H locs := by rw [hH, hlo]; exact Z
  have key : zz_W p l e rm_X12_comesOut s m args below meth c D dA A (some (.int r)) hx n 0 0 H locs 0 0 0 ls [] := by
    clear hH hlo hxx
    refine lv_aload_n S.1 S.2.1 dX12_comesOut_0 rfl (lv_at hl 0 rfl) ?_
    refine zz_gR S K Z hv zc_10 (by decide) gf_X12_82 dX12_comesOut_1 (fun v1 hv => ?_)
    refine lv_iload_n S.1 S.2.1 dX12_comesOut_4 rfl (lv_at hl 1 rfl) ?_
    refine zz_iald S K Z hv dX12_comesOut_5 (fun v2 hv => ?_)
    refine lv_istore_n (lv' := [(3, .int (v2)), (0, .ref (a0)), (1, .int (a1)), (2, .int (a2))]) S.1 S.2.1 dX12_comesOut_6 rfl hl (by decide) rfl (fun ls hl => ?_)
    refine lv_iload_n S.1 S.2.1 dX12_comesOut_7 rfl (lv_at hl 3 rfl) ?_
    refine lv_iload_n S.1 S.2.1 dX12_comesOut_8 rfl (lv_at hl 2 rfl) ?_
    refine lv_iconst (v := (2 : Int32)) S.1 S.2.1 dX12_comesOut_9 (by decide) ?_
    refine lv_iadd S.1 S.2.1 dX12_comesOut_10 ?_
    refine lv_icmp_le (tgt := 28) S.1 S.2.1 dX12_comesOut_11 (by decide) (fun hc => ?_) (fun hc => ?_)
    · replace hv := (if_pos hc).symm.trans hv
      refine lv_iconst (v := (0 : Int32)) S.1 S.2.1 dX12_comesOut_28 (by decide) ?_
      exact J29 v2 (0 : Int32) h _ hv hk H locs ls Z (lv_sub hl [1, 2, 3, 0] rfl)
    · replace hv := (if_neg hc).symm.trans hv
      refine lv_aload_n S.1 S.2.1 dX12_comesOut_14 rfl (lv_at hl 1 rfl) ?_
      refine zz_gR S K Z hv zc_10 (by decide) gf_X12_82 dX12_comesOut_15 (fun v48 hv => ?_)
      refine lv_iload_n S.1 S.2.1 dX12_comesOut_18 rfl (lv_at hl 2 rfl) ?_
      refine lv_iconst (v := (2 : Int32)) S.1 S.2.1 dX12_comesOut_19 (by decide) ?_
      refine lv_iadd S.1 S.2.1 dX12_comesOut_20 ?_
      refine zz_iald S K Z hv dX12_comesOut_21 (fun v49 hv => ?_)
      refine lv_bipush (v := (48 : Int32)) S.1 S.2.1 dX12_comesOut_22 (by decide) ?_
      refine lv_isub S.1 S.2.1 dX12_comesOut_24 ?_
      refine lv_goto (tgt := 29) S.1 S.2.1 dX12_comesOut_25 (by decide) ?_
      exact J29 v2 (v49 - (48 : Int32)) h _ hv hk H locs ls Z (lv_sub hl [1, 2, 3, 0] rfl)
  rw [hH, hlo] at key
  exact key
