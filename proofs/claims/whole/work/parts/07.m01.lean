noncomputable def f_X0_init_J14 (h : ZH) (a0 : Nat) (a1 : Int32) (s1 : Int32) (s2 : Nat) (h3 : ZH) (n4 : Nat) (kc5 : Nat) (ks6 : Nat) : Option (ZH × Nat) :=
  zz_ok (¬ s1 < 0 ∧ s1.toNatClampNeg ≤ 60000) <| zz_bud (kc5 + 1) 1 (ks6 + s1.toNatClampNeg) 600 <| zz_let (va_up h3 n4 (some (.inl (0, s1.toNatClampNeg, .inl (fun _ => 0))))) fun h7 => (zp_V h7 s2 0 0 (.ref (n4))).bind fun h8 => zz_bud (kc5 + 1) 1 (ks6 + s1.toNatClampNeg) 600 <| some ((h8, n4 + 1))
noncomputable def f_X0_init (h : ZH) (n : Nat) (a0 : Nat) (a1 : Int32) : Option (ZH × Nat) :=
  if 0 ≤ a1 then (f_X0_init_J14 h a0 a1 a1 a0 h n 0 0) else (f_X0_init_J14 h a0 a1 (0 : Int32) a0 h n 0 0)
abbrev rm_X0_init : Room := { frames := 1, cells := 1, slots := 600, locals := 20 }
set_option maxRecDepth 100000 in
set_option maxHeartbeats 4000000 in
theorem c_X0_init {l : Launch} {D : va_G} {dA : Nat → ClassId} {A : Nat → Prop} {h : ZH} {n : Nat} (a0 : Nat) (a1 : Int32) {hx : ZH} {nx : Nat} (hf : f_X0_init h n a0 a1 = some (hx, nx)) : Met l yX0_init (zz_ws yX0_init cX0_init 2 none) rm_X0_init (zz_P D dA A h n [.ref (a0), .int (a1)]) (zz_Q D dA A (none) hx nx) 1 600 A := by
  refine zz_met (by decide) (Nat.le_of_ble_eq_true rfl) ?_
  intro p e s m args below meth c ls S K hret hlk hnm hl Z
  replace hl : lv_has ls 2 [(0, .ref (a0)), (1, .int (a1))] := hl
  obtain ⟨K0, hR0, hk⟩ : ∃ K0 : (ZH × Nat) → Prop, (∀ x, K0 x → x = (hx, nx)) ∧ K0 (hx, nx) := ⟨fun x => x = (hx, nx), fun _ h => h, rfl⟩
  have J14 : ∀ (s1 : Int32) (s2 : Nat) (h3 : ZH) (n4 : Nat) (kc5 : Nat) (ks6 : Nat) (x : (ZH × Nat)), f_X0_init_J14 h a0 a1 s1 s2 h3 n4 kc5 ks6 = some x → K0 x → ∀ (H : Heap) (locs : List Loc) (ls : Array Slot), zz_B D dA A h3 n4 s.heap H locs → lv_has ls 2 [] → zz_W p l e rm_X0_init s m args below meth c D dA A (none) hx nx 1 600 H locs kc5 ks6 14 ls [.int (s1), .ref (s2)] := by
    intro s1 s2 h3 n4 kc5 ks6 x hv hk H locs ls Z hl
    unfold f_X0_init_J14 at hv
    obtain ⟨hok, hv⟩ := zz_ok_s hv
    obtain ⟨hbd, hv⟩ := zz_bud_s hv
    refine zz_newa (atype := .byte) (a0 := fun N => (N, .inl (fun _ => 0))) S K Z rfl hv ga_byte rfl (fun h => h) (fun _ _ => rfl) hok.1 (by have := hok.2; simp only [newarray.typeOf, componentBytes]; omega) hbd.1 hbd.2 dX0_init_14 (fun h7 H hv Z => ?_)
    show W _ _ _ _ _ _ _ _ _ _ _ _ (kc5 + 1) (ks6 + s1.toNatClampNeg) _ (F0 m 16 ls [.ref (n4), .ref (s2)])
    refine zz_putF S K Z hv zc_0 (by decide) gf_X0_9 rfl hnm rfl rfl rfl dX0_init_16 (fun h8 H locs hv Z => ?_)
    obtain ⟨hbd, hv⟩ := zz_bud_s hv
    replace hk := zz_fin hv hk
    obtain ⟨rfl, rfl⟩ := Prod.mk.inj (hR0 _ hk)
    exact zz_vret S Z hret hlk dX0_init_19 hbd.1 hbd.2
  have hv := hf
  unfold f_X0_init at hv
  clear hf
  obtain ⟨x, hxx⟩ : ∃ x, x = (hx, nx) := ⟨_, rfl⟩
  rw [← hxx] at hv hk
  have ⟨H, hH⟩ : ∃ H, H = s.heap := ⟨_, rfl⟩
  have ⟨locs, hlo⟩ : ∃ q : List Loc, q = [] := ⟨_, rfl⟩
  have Z : zz_B D dA A h n s.heap H locs := by rw [hH, hlo]; exact Z
  have key : zz_W p l e rm_X0_init s m args below meth c D dA A (none) hx nx 1 600 H locs 0 0 0 ls [] := by
    clear hH hlo hxx
    refine lv_aload_n S.1 S.2.1 dX0_init_0 rfl (lv_at hl 0 rfl) ?_
    refine W.objInit S.1 S.2.1 S.2.2.2.1 (S.2.2.2.2 _ gl_X0_3) (S.2.2.2.2 _ gi_obj) (S.2.2.2.2 _ gc_obj) rfl (by rw [S.2.2.1]; exact hl.1) rfl dX0_init_1 (by decide) (Nat.le_of_ble_eq_true rfl) ?_
    show W _ _ _ _ _ _ _ _ _ _ _ _ _ _ _ (F0 m 4 ls [])
    refine lv_aload_n S.1 S.2.1 dX0_init_4 rfl (lv_at hl 0 rfl) ?_
    refine lv_iload_n S.1 S.2.1 dX0_init_5 rfl (lv_at hl 1 rfl) ?_
    refine lv_if_ge (tgt := 13) S.1 S.2.1 dX0_init_6 (by decide) (fun hc => ?_) (fun hc => ?_)
    · replace hv := (if_pos hc).symm.trans hv
      refine lv_iload_n S.1 S.2.1 dX0_init_13 rfl (lv_at hl 1 rfl) ?_
      exact J14 a1 a0 h n 0 0 _ hv hk H locs ls Z (lv_sub hl [] rfl)
    · replace hv := (if_neg hc).symm.trans hv
      refine lv_iconst (v := (0 : Int32)) S.1 S.2.1 dX0_init_9 (by decide) ?_
      refine lv_goto (tgt := 14) S.1 S.2.1 dX0_init_10 (by decide) ?_
      exact J14 (0 : Int32) a0 h n 0 0 _ hv hk H locs ls Z (lv_sub hl [] rfl)
  rw [hH, hlo] at key
  exact key

noncomputable def f_X1_init_J24 (h : ZH) (a0 : Nat) (a1 : Int32) (a2 : Int32) (x3_6 : Int32) (s7 : Int32) (s8 : Nat) (h9 : ZH) (n10 : Nat) (kc11 : Nat) (ks12 : Nat) : Option (ZH × Nat) :=
  (zp_V h9 s8 1 0 (.int (s7))).bind fun h13 => (zg_I h13 a0 1 0).bind fun v14 => zz_let (x3_6 * v14) fun v16 => zz_ok (¬ v16 < 0 ∧ v16.toNatClampNeg ≤ 60000) <| zz_bud (kc11 + 1) 2 (ks12 + v16.toNatClampNeg) 600 <| zz_let (va_up h13 n10 (some (.inl (0, v16.toNatClampNeg, .inl (fun _ => 0))))) fun h15 => (zp_V h15 a0 1 1 (.ref (n10))).bind fun h17 => zz_ok (¬ x3_6 < 0 ∧ x3_6.toNatClampNeg ≤ 60000) <| zz_bud (kc11 + 2) 2 (ks12 + v16.toNatClampNeg + x3_6.toNatClampNeg) 600 <| zz_let (va_up h17 (n10 + 1) (some (.inl (1, x3_6.toNatClampNeg, .inl (fun _ => 0))))) fun h18 => (zp_V h18 a0 1 2 (.ref (n10 + 1))).bind fun h19 => zz_bud (kc11 + 2) 2 (ks12 + v16.toNatClampNeg + x3_6.toNatClampNeg) 600 <| some ((h19, n10 + 2))
noncomputable def f_X1_init_J13 (h : ZH) (a0 : Nat) (a1 : Int32) (a2 : Int32) (s1 : Int32) (h2 : ZH) (n3 : Nat) (kc4 : Nat) (ks5 : Nat) : Option (ZH × Nat) :=
  if 0 ≤ a2 then (f_X1_init_J24 h a0 a1 a2 s1 a2 a0 h2 n3 kc4 ks5) else (f_X1_init_J24 h a0 a1 a2 s1 (0 : Int32) a0 h2 n3 kc4 ks5)
noncomputable def f_X1_init (h : ZH) (n : Nat) (a0 : Nat) (a1 : Int32) (a2 : Int32) : Option (ZH × Nat) :=
  if 0 ≤ a1 then (f_X1_init_J13 h a0 a1 a2 a1 h n 0 0) else (f_X1_init_J13 h a0 a1 a2 (0 : Int32) h n 0 0)
abbrev rm_X1_init : Room := { frames := 1, cells := 2, slots := 600, locals := 20 }
set_option maxRecDepth 100000 in
set_option maxHeartbeats 4000000 in
theorem c_X1_init {l : Launch} {D : va_G} {dA : Nat → ClassId} {A : Nat → Prop} {h : ZH} {n : Nat} (a0 : Nat) (a1 : Int32) (a2 : Int32) {hx : ZH} {nx : Nat} (hf : f_X1_init h n a0 a1 a2 = some (hx, nx)) : Met l yX1_init (zz_ws yX1_init cX1_init 4 none) rm_X1_init (zz_P D dA A h n [.ref (a0), .int (a1), .int (a2)]) (zz_Q D dA A (none) hx nx) 2 600 A := by
  refine zz_met (by decide) (Nat.le_of_ble_eq_true rfl) ?_
  intro p e s m args below meth c ls S K hret hlk hnm hl Z
  replace hl : lv_has ls 4 [(0, .ref (a0)), (1, .int (a1)), (2, .int (a2))] := hl
  obtain ⟨K0, hR0, hk⟩ : ∃ K0 : (ZH × Nat) → Prop, (∀ x, K0 x → x = (hx, nx)) ∧ K0 (hx, nx) := ⟨fun x => x = (hx, nx), fun _ h => h, rfl⟩
  have J24 : ∀ (x3_6 : Int32) (s7 : Int32) (s8 : Nat) (h9 : ZH) (n10 : Nat) (kc11 : Nat) (ks12 : Nat) (x : (ZH × Nat)), f_X1_init_J24 h a0 a1 a2 x3_6 s7 s8 h9 n10 kc11 ks12 = some x → K0 x → ∀ (H : Heap) (locs : List Loc) (ls : Array Slot), zz_B D dA A h9 n10 s.heap H locs → lv_has ls 4 [(0, .ref (a0)), (3, .int (x3_6))] → zz_W p l e rm_X1_init s m args below meth c D dA A (none) hx nx 2 600 H locs kc11 ks12 24 ls [.int (s7), .ref (s8)] := by
    intro x3_6 s7 s8 h9 n10 kc11 ks12 x hv hk H locs ls Z hl
    unfold f_X1_init_J24 at hv
    refine zz_putF S K Z hv zc_1 (by decide) gf_X1_9 rfl hnm rfl rfl rfl dX1_init_24 (fun h13 H locs hv Z => ?_)
    refine lv_aload_n S.1 S.2.1 dX1_init_27 rfl (lv_at hl 0 rfl) ?_
    refine lv_iload_n S.1 S.2.1 dX1_init_28 rfl (lv_at hl 1 rfl) ?_
    refine lv_aload_n S.1 S.2.1 dX1_init_29 rfl (lv_at hl 0 rfl) ?_
    refine zz_gI S K Z hv zc_1 (by decide) gf_X1_9 dX1_init_30 (fun v14 hv => ?_)
    refine lv_imul S.1 S.2.1 dX1_init_33 ?_
    refine zz_lt hv (G := fun w => W _ _ _ _ _ _ _ _ _ _ _ _ _ _ _ (F0 _ _ _ (.int w :: _))) (fun v16 hv => ?_)
    obtain ⟨hok, hv⟩ := zz_ok_s hv
    obtain ⟨hbd, hv⟩ := zz_bud_s hv
    refine zz_newa (atype := .byte) (a0 := fun N => (N, .inl (fun _ => 0))) S K Z rfl hv ga_byte rfl (fun h => h) (fun _ _ => rfl) hok.1 (by have := hok.2; simp only [newarray.typeOf, componentBytes]; omega) hbd.1 hbd.2 dX1_init_34 (fun h15 H hv Z => ?_)
    show W _ _ _ _ _ _ _ _ _ _ _ _ (kc11 + 1) (ks12 + v16.toNatClampNeg) _ (F0 m 36 ls [.ref (n10), .ref (a0)])
    refine zz_putF S K Z hv zc_1 (by decide) gf_X1_15 rfl hnm rfl rfl rfl dX1_init_36 (fun h17 H locs hv Z => ?_)
    refine lv_aload_n S.1 S.2.1 dX1_init_39 rfl (lv_at hl 0 rfl) ?_
    refine lv_iload_n S.1 S.2.1 dX1_init_40 rfl (lv_at hl 1 rfl) ?_
    obtain ⟨hok, hv⟩ := zz_ok_s hv
    obtain ⟨hbd, hv⟩ := zz_bud_s hv
    refine zz_newa (atype := .int) (a0 := fun N => (N, .inl (fun _ => 0))) S K Z rfl hv ga_int rfl (fun h => h) (fun _ _ => rfl) hok.1 (by have := hok.2; simp only [newarray.typeOf, componentBytes]; omega) hbd.1 hbd.2 dX1_init_41 (fun h18 H hv Z => ?_)
    show W _ _ _ _ _ _ _ _ _ _ _ _ (kc11 + 2) (ks12 + v16.toNatClampNeg + x3_6.toNatClampNeg) _ (F0 m 43 ls [.ref (n10 + 1), .ref (a0)])
    refine zz_putF S K Z hv zc_1 (by decide) gf_X1_19 rfl hnm rfl rfl rfl dX1_init_43 (fun h19 H locs hv Z => ?_)
    obtain ⟨hbd, hv⟩ := zz_bud_s hv
    replace hk := zz_fin hv hk
    obtain ⟨rfl, rfl⟩ := Prod.mk.inj (hR0 _ hk)
    exact zz_vret S Z hret hlk dX1_init_46 hbd.1 hbd.2
  have J13 : ∀ (s1 : Int32) (h2 : ZH) (n3 : Nat) (kc4 : Nat) (ks5 : Nat) (x : (ZH × Nat)), f_X1_init_J13 h a0 a1 a2 s1 h2 n3 kc4 ks5 = some x → K0 x → ∀ (H : Heap) (locs : List Loc) (ls : Array Slot), zz_B D dA A h2 n3 s.heap H locs → lv_has ls 4 [(0, .ref (a0)), (2, .int (a2))] → zz_W p l e rm_X1_init s m args below meth c D dA A (none) hx nx 2 600 H locs kc4 ks5 13 ls [.int (s1)] := by
    intro s1 h2 n3 kc4 ks5 x hv hk H locs ls Z hl
    unfold f_X1_init_J13 at hv
    refine lv_istore_n (lv' := [(3, .int (s1)), (0, .ref (a0)), (2, .int (a2))]) S.1 S.2.1 dX1_init_13 rfl hl (by decide) rfl (fun ls hl => ?_)
    refine lv_aload_n S.1 S.2.1 dX1_init_14 rfl (lv_at hl 1 rfl) ?_
    refine lv_iload_n S.1 S.2.1 dX1_init_15 rfl (lv_at hl 2 rfl) ?_
    refine lv_if_ge (tgt := 23) S.1 S.2.1 dX1_init_16 (by decide) (fun hc => ?_) (fun hc => ?_)
    · replace hv := (if_pos hc).symm.trans hv
      refine lv_iload_n S.1 S.2.1 dX1_init_23 rfl (lv_at hl 2 rfl) ?_
      exact J24 s1 a2 a0 h2 n3 kc4 ks5 _ hv hk H locs ls Z (lv_sub hl [1, 0] rfl)
    · replace hv := (if_neg hc).symm.trans hv
      refine lv_iconst (v := (0 : Int32)) S.1 S.2.1 dX1_init_19 (by decide) ?_
      refine lv_goto (tgt := 24) S.1 S.2.1 dX1_init_20 (by decide) ?_
      exact J24 s1 (0 : Int32) a0 h2 n3 kc4 ks5 _ hv hk H locs ls Z (lv_sub hl [1, 0] rfl)
  have hv := hf
  unfold f_X1_init at hv
  clear hf
  obtain ⟨x, hxx⟩ : ∃ x, x = (hx, nx) := ⟨_, rfl⟩
  rw [← hxx] at hv hk
  have ⟨H, hH⟩ : ∃ H, H = s.heap := ⟨_, rfl⟩
  have ⟨locs, hlo⟩ : ∃ q : List Loc, q = [] := ⟨_, rfl⟩
  have Z : zz_B D dA A h n s.heap H locs := by rw [hH, hlo]; exact Z
  have key : zz_W p l e rm_X1_init s m args below meth c D dA A (none) hx nx 2 600 H locs 0 0 0 ls [] := by
    clear hH hlo hxx
    refine lv_aload_n S.1 S.2.1 dX1_init_0 rfl (lv_at hl 0 rfl) ?_
    refine W.objInit S.1 S.2.1 S.2.2.2.1 (S.2.2.2.2 _ gl_X1_3) (S.2.2.2.2 _ gi_obj) (S.2.2.2.2 _ gc_obj) rfl (by rw [S.2.2.1]; exact hl.1) rfl dX1_init_1 (by decide) (Nat.le_of_ble_eq_true rfl) ?_
    show W _ _ _ _ _ _ _ _ _ _ _ _ _ _ _ (F0 m 4 ls [])
    refine lv_iload_n S.1 S.2.1 dX1_init_4 rfl (lv_at hl 1 rfl) ?_
    refine lv_if_ge (tgt := 12) S.1 S.2.1 dX1_init_5 (by decide) (fun hc => ?_) (fun hc => ?_)
    · replace hv := (if_pos hc).symm.trans hv
      refine lv_iload_n S.1 S.2.1 dX1_init_12 rfl (lv_at hl 1 rfl) ?_
      exact J13 a1 h n 0 0 _ hv hk H locs ls Z (lv_sub hl [0, 2] rfl)
    · replace hv := (if_neg hc).symm.trans hv
      refine lv_iconst (v := (0 : Int32)) S.1 S.2.1 dX1_init_8 (by decide) ?_
      refine lv_goto (tgt := 13) S.1 S.2.1 dX1_init_9 (by decide) ?_
      exact J13 (0 : Int32) h n 0 0 _ hv hk H locs ls Z (lv_sub hl [0, 2] rfl)
  rw [hH, hlo] at key
  exact key

noncomputable def f_X6_init (h : ZH) (a0 : Nat) : Option (ZH) :=
  some (h)
abbrev rm_X6_init : Room := { frames := 1, cells := 0, slots := 0, locals := 20 }
set_option maxRecDepth 100000 in
set_option maxHeartbeats 4000000 in
theorem c_X6_init {l : Launch} {D : va_G} {dA : Nat → ClassId} {A : Nat → Prop} {h : ZH} {n : Nat} (a0 : Nat) {hx : ZH} (hf : f_X6_init h a0 = some hx) : Met l yX6_init (zz_ws yX6_init cX6_init 1 none) rm_X6_init (zz_P D dA A h n [.ref (a0)]) (zz_Q D dA A (none) hx n) 0 0 A := by
  refine zz_met (by decide) (Nat.le_of_ble_eq_true rfl) ?_
  intro p e s m args below meth c ls S K hret hlk hnm hl Z
  replace hl : lv_has ls 1 [(0, .ref (a0))] := hl
  obtain ⟨K0, hR0, hk⟩ : ∃ K0 : (ZH) → Prop, (∀ x, K0 x → x = hx) ∧ K0 hx := ⟨fun x => x = hx, fun _ h => h, rfl⟩
  have hv := hf
  unfold f_X6_init at hv
  clear hf
  obtain ⟨x, hxx⟩ : ∃ x, x = hx := ⟨_, rfl⟩
  rw [← hxx] at hv hk
  have ⟨H, hH⟩ : ∃ H, H = s.heap := ⟨_, rfl⟩
  have ⟨locs, hlo⟩ : ∃ q : List Loc, q = [] := ⟨_, rfl⟩
  have Z : zz_B D dA A h n s.heap H locs := by rw [hH, hlo]; exact Z
  have key : zz_W p l e rm_X6_init s m args below meth c D dA A (none) hx n 0 0 H locs 0 0 0 ls [] := by
    clear hH hlo hxx
    refine lv_aload_n S.1 S.2.1 dX6_init_0 rfl (lv_at hl 0 rfl) ?_
    refine W.objInit S.1 S.2.1 S.2.2.2.1 (S.2.2.2.2 _ gl_X6_1) (S.2.2.2.2 _ gi_obj) (S.2.2.2.2 _ gc_obj) rfl (by rw [S.2.2.1]; exact hl.1) rfl dX6_init_1 (by decide) (Nat.le_of_ble_eq_true rfl) ?_
    show W _ _ _ _ _ _ _ _ _ _ _ _ _ _ _ (F0 m 4 ls [])
    replace hk := zz_fin hv hk
    obtain rfl := hR0 _ hk
    exact zz_vret S Z hret hlk dX6_init_4 (Nat.le_refl _) (Nat.le_refl _)
  rw [hH, hlo] at key
  exact key

noncomputable def f_X3_init (h : ZH) (n : Nat) (a0 : Nat) : Option (ZH × Nat) :=
  zz_bud (1) 1 (4) 4 <| zz_let (va_up h n (some (.inl (1, 4, .inl (fun _ => 0))))) fun h1 => (zp_V h1 a0 2 0 (.ref (n))).bind fun h2 => (zp_V h2 a0 2 1 (.int ((0 : Int32)))).bind fun h3 => zz_bud (1) 1 (4) 4 <| some ((h3, n + 1))
abbrev rm_X3_init : Room := { frames := 1, cells := 1, slots := 4, locals := 20 }
set_option maxRecDepth 100000 in
set_option maxHeartbeats 4000000 in
theorem c_X3_init {l : Launch} {D : va_G} {dA : Nat → ClassId} {A : Nat → Prop} {h : ZH} {n : Nat} (a0 : Nat) {hx : ZH} {nx : Nat} (hf : f_X3_init h n a0 = some (hx, nx)) : Met l yX3_init (zz_ws yX3_init cX3_init 1 none) rm_X3_init (zz_P D dA A h n [.ref (a0)]) (zz_Q D dA A (none) hx nx) 1 4 A := by
  refine zz_met (by decide) (Nat.le_of_ble_eq_true rfl) ?_
  intro p e s m args below meth c ls S K hret hlk hnm hl Z
  replace hl : lv_has ls 1 [(0, .ref (a0))] := hl
  obtain ⟨K0, hR0, hk⟩ : ∃ K0 : (ZH × Nat) → Prop, (∀ x, K0 x → x = (hx, nx)) ∧ K0 (hx, nx) := ⟨fun x => x = (hx, nx), fun _ h => h, rfl⟩
  have hv := hf
  unfold f_X3_init at hv
  clear hf
  obtain ⟨x, hxx⟩ : ∃ x, x = (hx, nx) := ⟨_, rfl⟩
  rw [← hxx] at hv hk
  have ⟨H, hH⟩ : ∃ H, H = s.heap := ⟨_, rfl⟩
  have ⟨locs, hlo⟩ : ∃ q : List Loc, q = [] := ⟨_, rfl⟩
  have Z : zz_B D dA A h n s.heap H locs := by rw [hH, hlo]; exact Z
  have key : zz_W p l e rm_X3_init s m args below meth c D dA A (none) hx nx 1 4 H locs 0 0 0 ls [] := by
    clear hH hlo hxx
    refine lv_aload_n S.1 S.2.1 dX3_init_0 rfl (lv_at hl 0 rfl) ?_
    refine W.objInit S.1 S.2.1 S.2.2.2.1 (S.2.2.2.2 _ gl_X3_3) (S.2.2.2.2 _ gi_obj) (S.2.2.2.2 _ gc_obj) rfl (by rw [S.2.2.1]; exact hl.1) rfl dX3_init_1 (by decide) (Nat.le_of_ble_eq_true rfl) ?_
    show W _ _ _ _ _ _ _ _ _ _ _ _ _ _ _ (F0 m 4 ls [])
    refine lv_aload_n S.1 S.2.1 dX3_init_4 rfl (lv_at hl 0 rfl) ?_
    refine lv_iconst (v := (4 : Int32)) S.1 S.2.1 dX3_init_5 (by decide) ?_
    obtain ⟨hbd, hv⟩ := zz_bud_s hv
    refine zz_newa (atype := .int) (a0 := fun N => (N, .inl (fun _ => 0))) S K Z (by decide) hv ga_int rfl (fun h => h) (fun _ _ => rfl) (by decide) (by decide) hbd.1 hbd.2 dX3_init_6 (fun h1 H hv Z => ?_)
    show W _ _ _ _ _ _ _ _ _ _ _ _ 1 4 _ (F0 m 8 ls [.ref (n), .ref (a0)])
    refine zz_putF S K Z hv zc_2 (by decide) gf_X3_9 rfl hnm rfl rfl rfl dX3_init_8 (fun h2 H locs hv Z => ?_)
    refine lv_aload_n S.1 S.2.1 dX3_init_11 rfl (lv_at hl 0 rfl) ?_
    refine lv_iconst (v := (0 : Int32)) S.1 S.2.1 dX3_init_12 (by decide) ?_
    refine zz_put S K Z hv zc_2 (by decide) gf_X3_15 rfl rfl rfl dX3_init_13 (fun h3 H locs hv Z => ?_)
    obtain ⟨hbd, hv⟩ := zz_bud_s hv
    replace hk := zz_fin hv hk
    obtain ⟨rfl, rfl⟩ := Prod.mk.inj (hR0 _ hk)
    exact zz_vret S Z hret hlk dX3_init_16 hbd.1 hbd.2
  rw [hH, hlo] at key
  exact key

noncomputable def f_X10_init_L88 (h : ZH) (a0 : Nat) (a1 : Int32) (x2_21 : Int32) (h22 : ZH) (n23 : Nat) (kc24 : Nat) (ks25 : Nat)  : Option ((Int32 × ZH × Nat × Nat × Nat) ⊕ (ZH × Nat)) :=
  (zg_R h22 a0 8 3).bind fun v26 => (zl_N h22 v26 5).bind fun v27 => if v27 ≤ x2_21 then ((zz_bud (kc24) 46 (ks25) 1540 <| some ((h22, n23))).map Sum.inr) else ((zg_R h22 a0 8 3).bind fun v28 => zz_bud (kc24 + 1) 46 (ks25 + 3) 1540 <| zz_let (va_up h22 n23 (some (.inr (2, [.null, .int 0, .int 0])))) fun h29 => zz_bud (kc24 + 2) 46 (ks25 + 7) 1540 <| (f_X3_init h29 (n23 + 1) n23).bind fun (h30, n31) => zz_isO h30 n23 2 <| (zs_R h30 v28 5 x2_21 n23).bind fun h32 => some (.inl (x2_21 + (1 : Int32), h32, n31, kc24 + 2, ks25 + 7)))
noncomputable def f_X10_init_L58 (h : ZH) (a0 : Nat) (a1 : Int32) (x2_14 : Int32) (h15 : ZH) (n16 : Nat) (kc17 : Nat) (ks18 : Nat)  : Option ((Int32 × ZH × Nat × Nat × Nat) ⊕ (ZH × Nat)) :=
  (zg_R h15 a0 8 2).bind fun v19 => (zl_N h15 v19 7).bind fun v20 => if v20 ≤ x2_14 then ((zz_loop (fun st : (Int32 × ZH × Nat × Nat × Nat) => f_X10_init_L88 h a0 a1 (st.1) (st.2.1) (st.2.2.1) (st.2.2.2.1) (st.2.2.2.2)) ((0 : Int32), h15, n16, kc17, ks18)).map Sum.inr) else ((zg_R h15 a0 8 2).bind fun v33 => zz_bud (kc17 + 1) 46 (ks18 + 9) 1540 <| zz_let (va_up h15 n16 (some (.inr (4, [.int 0, .int 0, .int 0, .int 0, .int 0, .int 0, .int 0, .int 0, .int 0])))) fun h34 => zz_bud (kc17 + 1) 46 (ks18 + 9) 1540 <| (f_X6_init h34 n16).bind fun h35 => zz_isO h35 n16 4 <| (zs_R h35 v33 7 x2_14 n16).bind fun h36 => some (.inl (x2_14 + (1 : Int32), h36, n16 + 1, kc17 + 1, ks18 + 9)))
noncomputable def f_X10_init (h : ZH) (n : Nat) (a0 : Nat) (a1 : Int32) : Option (ZH × Nat) :=
  zz_bud (1) 46 (4) 1540 <| zz_let (va_up h n (some (.inr (1, [.int 0, .null, .null, .int 0])))) fun h1 => zz_bud (3) 46 (604) 1540 <| (f_X1_init h1 (n + 1) n (16 : Int32) (6 : Int32)).bind fun (h2, n3) => (zp_V h2 a0 8 0 (.ref (n))).bind fun h4 => zz_bud (4) 46 (608) 1540 <| zz_let (va_up h4 n3 (some (.inr (1, [.int 0, .null, .null, .int 0])))) fun h5 => zz_bud (6) 46 (1208) 1540 <| (f_X1_init h5 (n3 + 1) n3 (24 : Int32) (20 : Int32)).bind fun (h6, n7) => (zp_V h6 a0 8 1 (.ref (n3))).bind fun h8 => zz_bud (7) 46 (1238) 1540 <| zz_let (va_up h8 n7 (some (.inl (7, 30, .inr (.inr (.inr (.inr (fun _ => none)))))))) fun h9 => (zp_V h9 a0 8 2 (.ref (n7))).bind fun h10 => zz_bud (8) 46 (1242) 1540 <| zz_let (va_up h10 (n7 + 1) (some (.inl (5, 4, .inr (.inr (.inr (.inr (fun _ => none)))))))) fun h11 => (zp_V h11 a0 8 3 (.ref (n7 + 1))).bind fun h12 => (zp_V h12 a0 8 5 (.int (a1))).bind fun h13 => zz_loop (fun st : (Int32 × ZH × Nat × Nat × Nat) => f_X10_init_L58 h a0 a1 (st.1) (st.2.1) (st.2.2.1) (st.2.2.2.1) (st.2.2.2.2)) ((0 : Int32), h13, n7 + 2, 8, 1242)
abbrev rm_X10_init : Room := { frames := 2, cells := 46, slots := 1540, locals := 43 }
set_option maxRecDepth 100000 in
set_option maxHeartbeats 4000000 in
theorem c_X10_init {l : Launch} {D : va_G} {dA : Nat → ClassId} {A : Nat → Prop} {h : ZH} {n : Nat} (a0 : Nat) (a1 : Int32) {hx : ZH} {nx : Nat} (hf : f_X10_init h n a0 a1 = some (hx, nx)) : Met l yX10_init (zz_ws yX10_init cX10_init 3 none) rm_X10_init (zz_P D dA A h n [.ref (a0), .int (a1)]) (zz_Q D dA A (none) hx nx) 46 1540 A := by
  refine zz_met (by decide) (Nat.le_of_ble_eq_true rfl) ?_
  intro p e s m args below meth c ls S K hret hlk hnm hl Z
  replace hl : lv_has ls 3 [(0, .ref (a0)), (1, .int (a1))] := hl
  obtain ⟨K0, hR0, hk⟩ : ∃ K0 : (ZH × Nat) → Prop, (∀ x, K0 x → x = (hx, nx)) ∧ K0 (hx, nx) := ⟨fun x => x = (hx, nx), fun _ h => h, rfl⟩
  have L88 : ∀ (st : (Int32 × ZH × Nat × Nat × Nat)) (x : (ZH × Nat)), zz_loop (fun st : (Int32 × ZH × Nat × Nat × Nat) => f_X10_init_L88 h a0 a1 (st.1) (st.2.1) (st.2.2.1) (st.2.2.2.1) (st.2.2.2.2)) st = some x → K0 x → (fun st : (Int32 × ZH × Nat × Nat × Nat) => ∀ (H : Heap) (locs : List Loc) (ls : Array Slot), zz_B D dA A (st.2.1) (st.2.2.1) s.heap H locs → lv_has ls 3 [(0, .ref (a0)), (2, .int ((st.1)))] → zz_W p l e rm_X10_init s m args below meth c D dA A (none) hx nx 46 1540 H locs (st.2.2.2.1) (st.2.2.2.2) 88 ls []) st := by
    refine zz_loop_go (K := K0) ?_
    intro K1 hP1 hR1
    rintro ⟨x2_21, h22, n23, kc24, ks25⟩ x hv hk H locs ls Z hl
    replace hv : f_X10_init_L88 h a0 a1 x2_21 h22 n23 kc24 ks25 = some x := hv
    unfold f_X10_init_L88 at hv
    replace hl : lv_has ls 3 [(0, .ref (a0)), (2, .int (x2_21))] := hl
    replace Z : zz_B D dA A h22 n23 s.heap H locs := Z
    show zz_W p l e rm_X10_init s m args below meth c D dA A (none) hx nx 46 1540 H locs kc24 ks25 88 ls []
    refine lv_iload_n S.1 S.2.1 dX10_init_88 rfl (lv_at hl 1 rfl) ?_
    refine lv_aload_n S.1 S.2.1 dX10_init_89 rfl (lv_at hl 0 rfl) ?_
    refine zz_gR S K Z hv zc_8 (by decide) gf_X10_31 dX10_init_90 (fun v26 hv => ?_)
    refine zz_alen S K Z hv rfl dX10_init_93 (fun v27 hv => ?_)
    refine lv_icmp_ge (tgt := 116) S.1 S.2.1 dX10_init_94 (by decide) (fun hc => ?_) (fun hc => ?_)
    · replace hv := (if_pos hc).symm.trans hv
      obtain ⟨_, hv, hk⟩ := zz_mapk hv hk
      replace hk := hR1 _ hk
      obtain ⟨hbd, hv⟩ := zz_bud_s hv
      replace hk := zz_fin hv hk
      obtain ⟨rfl, rfl⟩ := Prod.mk.inj (hR0 _ hk)
      exact zz_vret S Z hret hlk dX10_init_116 hbd.1 hbd.2
    · replace hv := (if_neg hc).symm.trans hv
      refine lv_aload_n S.1 S.2.1 dX10_init_97 rfl (lv_at hl 0 rfl) ?_
      refine zz_gR S K Z hv zc_8 (by decide) gf_X10_31 dX10_init_98 (fun v28 hv => ?_)
      refine lv_iload_n S.1 S.2.1 dX10_init_101 rfl (lv_at hl 1 rfl) ?_
      obtain ⟨hbd, hv⟩ := zz_bud_s hv
      refine zz_new S K Z hv zc_2 gq_X10_29 gn_X3 gt_X3 zd_2 hbd.1 hbd.2 dX10_init_102 (fun h29 H hv Z => ?_)
      show W _ _ _ _ _ _ _ _ _ _ _ _ (kc24 + 1) (ks25 + 3) _ (F0 m 105 ls [.ref (n23), .int (x2_21), .ref (v28)])
      refine lv_dup S.1 S.2.1 dX10_init_105 rfl ?_
      obtain ⟨hbd, hv⟩ := zz_bud_s hv
      obtain ⟨⟨h30, n31⟩, hq, hv⟩ := zz_bd hv
      refine zz_IN [] S K Z (c_X3_init n23 hq) ⟨rfl, rfl⟩ gm_X3_init gi_X3_init rfl (List.mem_of_getElem? (i := 1) rfl) ⟨by decide, by decide⟩ rfl hl.1 rfl (Nat.le_of_ble_eq_true rfl) dX10_init_106 hbd (fun H locs Z => ?_)
      show W _ _ _ _ _ _ _ _ _ _ _ _ (kc24 + 2) (ks25 + 7) _ (F0 m 109 ls [.ref (n23), .int (x2_21), .ref (v28)])
      refine zz_aast S K Z hv zc_2 rfl dX10_init_109 (fun h32 H locs hv Z => ?_)
      refine lv_iinc (v := x2_21 + (1 : Int32)) (lv' := [(2, .int (x2_21 + (1 : Int32))), (0, .ref (a0))]) S.1 S.2.1 dX10_init_110 hl (k := 1) rfl rfl (by decide) rfl (fun ls hl => ?_)
      refine lv_goto (tgt := 88) S.1 S.2.1 dX10_init_113 (by decide) ?_
      replace hk := zz_fin hv hk
      exact hP1 _ hk H locs ls Z (lv_sub hl [1, 0] rfl)
  have L58 : ∀ (st : (Int32 × ZH × Nat × Nat × Nat)) (x : (ZH × Nat)), zz_loop (fun st : (Int32 × ZH × Nat × Nat × Nat) => f_X10_init_L58 h a0 a1 (st.1) (st.2.1) (st.2.2.1) (st.2.2.2.1) (st.2.2.2.2)) st = some x → K0 x → (fun st : (Int32 × ZH × Nat × Nat × Nat) => ∀ (H : Heap) (locs : List Loc) (ls : Array Slot), zz_B D dA A (st.2.1) (st.2.2.1) s.heap H locs → lv_has ls 3 [(0, .ref (a0)), (2, .int ((st.1)))] → zz_W p l e rm_X10_init s m args below meth c D dA A (none) hx nx 46 1540 H locs (st.2.2.2.1) (st.2.2.2.2) 58 ls []) st := by
    refine zz_loop_go (K := K0) ?_
    intro K1 hP1 hR1
    rintro ⟨x2_14, h15, n16, kc17, ks18⟩ x hv hk H locs ls Z hl
    replace hv : f_X10_init_L58 h a0 a1 x2_14 h15 n16 kc17 ks18 = some x := hv
    unfold f_X10_init_L58 at hv
    replace hl : lv_has ls 3 [(0, .ref (a0)), (2, .int (x2_14))] := hl
    replace Z : zz_B D dA A h15 n16 s.heap H locs := Z
    show zz_W p l e rm_X10_init s m args below meth c D dA A (none) hx nx 46 1540 H locs kc17 ks18 58 ls []
    refine lv_iload_n S.1 S.2.1 dX10_init_58 rfl (lv_at hl 1 rfl) ?_
    refine lv_aload_n S.1 S.2.1 dX10_init_59 rfl (lv_at hl 0 rfl) ?_
    refine zz_gR S K Z hv zc_8 (by decide) gf_X10_25 dX10_init_60 (fun v19 hv => ?_)
    refine zz_alen S K Z hv rfl dX10_init_63 (fun v20 hv => ?_)
    refine lv_icmp_ge (tgt := 86) S.1 S.2.1 dX10_init_64 (by decide) (fun hc => ?_) (fun hc => ?_)
    · replace hv := (if_pos hc).symm.trans hv
      obtain ⟨_, hv, hk⟩ := zz_mapk hv hk
      replace hk := hR1 _ hk
      refine lv_iconst (v := (0 : Int32)) S.1 S.2.1 dX10_init_86 (by decide) ?_
      refine lv_istore_n (lv' := [(2, .int ((0 : Int32))), (0, .ref (a0))]) S.1 S.2.1 dX10_init_87 rfl hl (by decide) rfl (fun ls hl => ?_)
      exact L88  ((0 : Int32), h15, n16, kc17, ks18) _ hv hk H locs ls Z (lv_sub hl [1, 0] rfl)
    · replace hv := (if_neg hc).symm.trans hv
      refine lv_aload_n S.1 S.2.1 dX10_init_67 rfl (lv_at hl 0 rfl) ?_
      refine zz_gR S K Z hv zc_8 (by decide) gf_X10_25 dX10_init_68 (fun v33 hv => ?_)
      refine lv_iload_n S.1 S.2.1 dX10_init_71 rfl (lv_at hl 1 rfl) ?_
      obtain ⟨hbd, hv⟩ := zz_bud_s hv
      refine zz_new S K Z hv zc_4 gq_X10_23 gn_X6 gt_X6 zd_4 hbd.1 hbd.2 dX10_init_72 (fun h34 H hv Z => ?_)
      show W _ _ _ _ _ _ _ _ _ _ _ _ (kc17 + 1) (ks18 + 9) _ (F0 m 75 ls [.ref (n16), .int (x2_14), .ref (v33)])
      refine lv_dup S.1 S.2.1 dX10_init_75 rfl ?_
      obtain ⟨hbd, hv⟩ := zz_bud_s hv
      obtain ⟨h35, hq, hv⟩ := zz_bd hv
      refine zz_IN [] S K Z (c_X6_init n16 hq) ⟨rfl, rfl⟩ gm_X6_init gi_X6_init rfl (List.mem_of_getElem? (i := 0) rfl) ⟨by decide, by decide⟩ rfl hl.1 rfl (Nat.le_of_ble_eq_true rfl) dX10_init_76 hbd (fun H locs Z => ?_)
      show W _ _ _ _ _ _ _ _ _ _ _ _ (kc17 + 1) (ks18 + 9) _ (F0 m 79 ls [.ref (n16), .int (x2_14), .ref (v33)])
      refine zz_aast S K Z hv zc_4 rfl dX10_init_79 (fun h36 H locs hv Z => ?_)
      refine lv_iinc (v := x2_14 + (1 : Int32)) (lv' := [(2, .int (x2_14 + (1 : Int32))), (0, .ref (a0))]) S.1 S.2.1 dX10_init_80 hl (k := 1) rfl rfl (by decide) rfl (fun ls hl => ?_)
      refine lv_goto (tgt := 58) S.1 S.2.1 dX10_init_83 (by decide) ?_
      replace hk := zz_fin hv hk
      exact hP1 _ hk H locs ls Z (lv_sub hl [1, 0] rfl)
  have hv := hf
  unfold f_X10_init at hv
  clear hf
  obtain ⟨x, hxx⟩ : ∃ x, x = (hx, nx) := ⟨_, rfl⟩
  rw [← hxx] at hv hk
  have ⟨H, hH⟩ : ∃ H, H = s.heap := ⟨_, rfl⟩
  have ⟨locs, hlo⟩ : ∃ q : List Loc, q = [] := ⟨_, rfl⟩
  have Z : zz_B D dA A h n s.heap H locs := by rw [hH, hlo]; exact Z
  have key : zz_W p l e rm_X10_init s m args below meth c D dA A (none) hx nx 46 1540 H locs 0 0 0 ls [] := by
    clear hH hlo hxx
    refine lv_aload_n S.1 S.2.1 dX10_init_0 rfl (lv_at hl 0 rfl) ?_
    refine W.objInit S.1 S.2.1 S.2.2.2.1 (S.2.2.2.2 _ gl_X10_3) (S.2.2.2.2 _ gi_obj) (S.2.2.2.2 _ gc_obj) rfl (by rw [S.2.2.1]; exact hl.1) rfl dX10_init_1 (by decide) (Nat.le_of_ble_eq_true rfl) ?_
    show W _ _ _ _ _ _ _ _ _ _ _ _ _ _ _ (F0 m 4 ls [])
    refine lv_aload_n S.1 S.2.1 dX10_init_4 rfl (lv_at hl 0 rfl) ?_
    obtain ⟨hbd, hv⟩ := zz_bud_s hv
    refine zz_new S K Z hv zc_1 gq_X10_9 gn_X1 gt_X1 zd_1 hbd.1 hbd.2 dX10_init_5 (fun h1 H hv Z => ?_)
    show W _ _ _ _ _ _ _ _ _ _ _ _ 1 4 _ (F0 m 8 ls [.ref (n), .ref (a0)])
    refine lv_dup S.1 S.2.1 dX10_init_8 rfl ?_
    refine lv_bipush (v := (16 : Int32)) S.1 S.2.1 dX10_init_9 (by decide) ?_
    refine lv_bipush (v := (6 : Int32)) S.1 S.2.1 dX10_init_11 (by decide) ?_
    obtain ⟨hbd, hv⟩ := zz_bud_s hv
    obtain ⟨⟨h2, n3⟩, hq, hv⟩ := zz_bd hv
    refine zz_I [.int ((16 : Int32)), .int ((6 : Int32))] S K Z (c_X1_init n (16 : Int32) (6 : Int32) hq) ⟨rfl, rfl⟩ gm_X1_init gi_X1_init rfl gl_X10_11 ⟨by decide, by decide⟩ rfl hl.1 rfl (Nat.le_of_ble_eq_true rfl) dX10_init_13 hbd (fun H locs Z => ?_)
    show W _ _ _ _ _ _ _ _ _ _ _ _ 3 604 _ (F0 m 16 ls [.ref (n), .ref (a0)])
    refine zz_putF S K Z hv zc_8 (by decide) gf_X10_14 rfl hnm rfl rfl rfl dX10_init_16 (fun h4 H locs hv Z => ?_)
    refine lv_aload_n S.1 S.2.1 dX10_init_19 rfl (lv_at hl 0 rfl) ?_
    obtain ⟨hbd, hv⟩ := zz_bud_s hv
    refine zz_new S K Z hv zc_1 gq_X10_9 gn_X1 gt_X1 zd_1 hbd.1 hbd.2 dX10_init_20 (fun h5 H hv Z => ?_)
    show W _ _ _ _ _ _ _ _ _ _ _ _ 4 608 _ (F0 m 23 ls [.ref (n3), .ref (a0)])
    refine lv_dup S.1 S.2.1 dX10_init_23 rfl ?_
    refine lv_bipush (v := (24 : Int32)) S.1 S.2.1 dX10_init_24 (by decide) ?_
    refine lv_bipush (v := (20 : Int32)) S.1 S.2.1 dX10_init_26 (by decide) ?_
    obtain ⟨hbd, hv⟩ := zz_bud_s hv
    obtain ⟨⟨h6, n7⟩, hq, hv⟩ := zz_bd hv
    refine zz_I [.int ((24 : Int32)), .int ((20 : Int32))] S K Z (c_X1_init n3 (24 : Int32) (20 : Int32) hq) ⟨rfl, rfl⟩ gm_X1_init gi_X1_init rfl gl_X10_11 ⟨by decide, by decide⟩ rfl hl.1 rfl (Nat.le_of_ble_eq_true rfl) dX10_init_28 hbd (fun H locs Z => ?_)
    show W _ _ _ _ _ _ _ _ _ _ _ _ 6 1208 _ (F0 m 31 ls [.ref (n3), .ref (a0)])
    refine zz_putF S K Z hv zc_8 (by decide) gf_X10_20 rfl hnm rfl rfl rfl dX10_init_31 (fun h8 H locs hv Z => ?_)
    refine lv_aload_n S.1 S.2.1 dX10_init_34 rfl (lv_at hl 0 rfl) ?_
    refine lv_bipush (v := (30 : Int32)) S.1 S.2.1 dX10_init_35 (by decide) ?_
    obtain ⟨hbd, hv⟩ := zz_bud_s hv
    refine zz_newq S K Z (by decide) hv gq_X10_23 K.2.2.2.2.2 rfl (by decide) (by decide) hbd.1 hbd.2 dX10_init_37 (fun h9 H hv Z => ?_)
    show W _ _ _ _ _ _ _ _ _ _ _ _ 7 1238 _ (F0 m 40 ls [.ref (n7), .ref (a0)])
    refine zz_putF S K Z hv zc_8 (by decide) gf_X10_25 rfl hnm rfl rfl rfl dX10_init_40 (fun h10 H locs hv Z => ?_)
    refine lv_aload_n S.1 S.2.1 dX10_init_43 rfl (lv_at hl 0 rfl) ?_
    refine lv_iconst (v := (4 : Int32)) S.1 S.2.1 dX10_init_44 (by decide) ?_
    obtain ⟨hbd, hv⟩ := zz_bud_s hv
    refine zz_newq S K Z (by decide) hv gq_X10_29 K.2.2.2.1 rfl (by decide) (by decide) hbd.1 hbd.2 dX10_init_45 (fun h11 H hv Z => ?_)
    show W _ _ _ _ _ _ _ _ _ _ _ _ 8 1242 _ (F0 m 48 ls [.ref (n7 + 1), .ref (a0)])
    refine zz_putF S K Z hv zc_8 (by decide) gf_X10_31 rfl hnm rfl rfl rfl dX10_init_48 (fun h12 H locs hv Z => ?_)
    refine lv_aload_n S.1 S.2.1 dX10_init_51 rfl (lv_at hl 0 rfl) ?_
    refine lv_iload_n S.1 S.2.1 dX10_init_52 rfl (lv_at hl 1 rfl) ?_
    refine zz_put S K Z hv zc_8 (by decide) gf_X10_35 rfl rfl rfl dX10_init_53 (fun h13 H locs hv Z => ?_)
    refine lv_iconst (v := (0 : Int32)) S.1 S.2.1 dX10_init_56 (by decide) ?_
    refine lv_istore_n (lv' := [(2, .int ((0 : Int32))), (0, .ref (a0)), (1, .int (a1))]) S.1 S.2.1 dX10_init_57 rfl hl (by decide) rfl (fun ls hl => ?_)
    exact L58  ((0 : Int32), h13, n7 + 2, 8, 1242) _ hv hk H locs ls Z (lv_sub hl [1, 0] rfl)
  rw [hH, hlo] at key
  exact key

noncomputable def f_X4_init (h : ZH) (n : Nat) (a0 : Nat) : Option (ZH × Nat) :=
  zz_bud (1) 1 (8) 8 <| zz_let (va_up h n (some (.inl (1, 8, .inl (fun _ => 0))))) fun h1 => (zp_V h1 a0 3 0 (.ref (n))).bind fun h2 => (zp_V h2 a0 3 4 (.int ((-2 : Int32)))).bind fun h3 => zz_bud (1) 1 (8) 8 <| some ((h3, n + 1))
abbrev rm_X4_init : Room := { frames := 1, cells := 1, slots := 8, locals := 20 }
set_option maxRecDepth 100000 in
set_option maxHeartbeats 4000000 in
theorem c_X4_init {l : Launch} {D : va_G} {dA : Nat → ClassId} {A : Nat → Prop} {h : ZH} {n : Nat} (a0 : Nat) {hx : ZH} {nx : Nat} (hf : f_X4_init h n a0 = some (hx, nx)) : Met l yX4_init (zz_ws yX4_init cX4_init 1 none) rm_X4_init (zz_P D dA A h n [.ref (a0)]) (zz_Q D dA A (none) hx nx) 1 8 A := by
  refine zz_met (by decide) (Nat.le_of_ble_eq_true rfl) ?_
  intro p e s m args below meth c ls S K hret hlk hnm hl Z
  replace hl : lv_has ls 1 [(0, .ref (a0))] := hl
  obtain ⟨K0, hR0, hk⟩ : ∃ K0 : (ZH × Nat) → Prop, (∀ x, K0 x → x = (hx, nx)) ∧ K0 (hx, nx) := ⟨fun x => x = (hx, nx), fun _ h => h, rfl⟩
  have hv := hf
  unfold f_X4_init at hv
  clear hf
  obtain ⟨x, hxx⟩ : ∃ x, x = (hx, nx) := ⟨_, rfl⟩
  rw [← hxx] at hv hk
  have ⟨H, hH⟩ : ∃ H, H = s.heap := ⟨_, rfl⟩
  have ⟨locs, hlo⟩ : ∃ q : List Loc, q = [] := ⟨_, rfl⟩
  have Z : zz_B D dA A h n s.heap H locs := by rw [hH, hlo]; exact Z
  have key : zz_W p l e rm_X4_init s m args below meth c D dA A (none) hx nx 1 8 H locs 0 0 0 ls [] := by
    clear hH hlo hxx
    refine lv_aload_n S.1 S.2.1 dX4_init_0 rfl (lv_at hl 0 rfl) ?_
    refine W.objInit S.1 S.2.1 S.2.2.2.1 (S.2.2.2.2 _ gl_X4_3) (S.2.2.2.2 _ gi_obj) (S.2.2.2.2 _ gc_obj) rfl (by rw [S.2.2.1]; exact hl.1) rfl dX4_init_1 (by decide) (Nat.le_of_ble_eq_true rfl) ?_
    show W _ _ _ _ _ _ _ _ _ _ _ _ _ _ _ (F0 m 4 ls [])
    refine lv_aload_n S.1 S.2.1 dX4_init_4 rfl (lv_at hl 0 rfl) ?_
    refine lv_bipush (v := (8 : Int32)) S.1 S.2.1 dX4_init_5 (by decide) ?_
    obtain ⟨hbd, hv⟩ := zz_bud_s hv
    refine zz_newa (atype := .int) (a0 := fun N => (N, .inl (fun _ => 0))) S K Z (by decide) hv ga_int rfl (fun h => h) (fun _ _ => rfl) (by decide) (by decide) hbd.1 hbd.2 dX4_init_7 (fun h1 H hv Z => ?_)
    show W _ _ _ _ _ _ _ _ _ _ _ _ 1 8 _ (F0 m 9 ls [.ref (n), .ref (a0)])
    refine zz_putF S K Z hv zc_3 (by decide) gf_X4_9 rfl hnm rfl rfl rfl dX4_init_9 (fun h2 H locs hv Z => ?_)
    refine lv_aload_n S.1 S.2.1 dX4_init_12 rfl (lv_at hl 0 rfl) ?_
    refine lv_bipush (v := (-2 : Int32)) S.1 S.2.1 dX4_init_13 (by decide) ?_
    refine zz_put S K Z hv zc_3 (by decide) gf_X4_15 rfl rfl rfl dX4_init_15 (fun h3 H locs hv Z => ?_)
    obtain ⟨hbd, hv⟩ := zz_bud_s hv
    replace hk := zz_fin hv hk
    obtain ⟨rfl, rfl⟩ := Prod.mk.inj (hR0 _ hk)
    exact zz_vret S Z hret hlk dX4_init_18 hbd.1 hbd.2
  rw [hH, hlo] at key
  exact key

noncomputable def f_X8_init (h : ZH) (n : Nat) (a0 : Nat) (a1 : Nat) : Option (ZH × Nat) :=
  zz_bud (1) 4 (5) 68 <| zz_let (va_up h n (some (.inr (3, [.null, .int 0, .int 0, .int 0, .int 0])))) fun h1 => zz_bud (2) 4 (13) 68 <| (f_X4_init h1 (n + 1) n).bind fun (h2, n3) => (zp_V h2 a0 6 1 (.ref (n))).bind fun h4 => zz_bud (3) 4 (43) 68 <| zz_let (va_up h4 n3 (some (.inl (1, 30, .inl (fun _ => 0))))) fun h5 => (zp_V h5 a0 6 2 (.ref (n3))).bind fun h6 => zz_bud (4) 4 (68) 68 <| zz_let (va_up h6 (n3 + 1) (some (.inl (1, 25, .inl (fun _ => 0))))) fun h7 => (zp_V h7 a0 6 3 (.ref (n3 + 1))).bind fun h8 => (zp_V h8 a0 6 0 (.ref (a1))).bind fun h9 => (zg_R h9 a0 6 1).bind fun v10 => (zg_I h9 a1 8 5).bind fun v11 => (zp_V h9 v10 3 2 (.int (v11))).bind fun h12 => zz_bud (4) 4 (68) 68 <| some ((h12, n3 + 2))
abbrev rm_X8_init : Room := { frames := 2, cells := 4, slots := 68, locals := 40 }
set_option maxRecDepth 100000 in
set_option maxHeartbeats 4000000 in
theorem c_X8_init {l : Launch} {D : va_G} {dA : Nat → ClassId} {A : Nat → Prop} {h : ZH} {n : Nat} (a0 : Nat) (a1 : Nat) {hx : ZH} {nx : Nat} (hf : f_X8_init h n a0 a1 = some (hx, nx)) : Met l yX8_init (zz_ws yX8_init cX8_init 2 none) rm_X8_init (zz_P D dA A h n [.ref (a0), .ref (a1)]) (zz_Q D dA A (none) hx nx) 4 68 A := by
  refine zz_met (by decide) (Nat.le_of_ble_eq_true rfl) ?_
  intro p e s m args below meth c ls S K hret hlk hnm hl Z
  replace hl : lv_has ls 2 [(0, .ref (a0)), (1, .ref (a1))] := hl
  obtain ⟨K0, hR0, hk⟩ : ∃ K0 : (ZH × Nat) → Prop, (∀ x, K0 x → x = (hx, nx)) ∧ K0 (hx, nx) := ⟨fun x => x = (hx, nx), fun _ h => h, rfl⟩
  have hv := hf
  unfold f_X8_init at hv
  clear hf
  obtain ⟨x, hxx⟩ : ∃ x, x = (hx, nx) := ⟨_, rfl⟩
  rw [← hxx] at hv hk
  have ⟨H, hH⟩ : ∃ H, H = s.heap := ⟨_, rfl⟩
  have ⟨locs, hlo⟩ : ∃ q : List Loc, q = [] := ⟨_, rfl⟩
  have Z : zz_B D dA A h n s.heap H locs := by rw [hH, hlo]; exact Z
  have key : zz_W p l e rm_X8_init s m args below meth c D dA A (none) hx nx 4 68 H locs 0 0 0 ls [] := by
    clear hH hlo hxx
    refine lv_aload_n S.1 S.2.1 dX8_init_0 rfl (lv_at hl 0 rfl) ?_
    refine W.objInit S.1 S.2.1 S.2.2.2.1 (S.2.2.2.2 _ gl_X8_3) (S.2.2.2.2 _ gi_obj) (S.2.2.2.2 _ gc_obj) rfl (by rw [S.2.2.1]; exact hl.1) rfl dX8_init_1 (by decide) (Nat.le_of_ble_eq_true rfl) ?_
    show W _ _ _ _ _ _ _ _ _ _ _ _ _ _ _ (F0 m 4 ls [])
    refine lv_aload_n S.1 S.2.1 dX8_init_4 rfl (lv_at hl 0 rfl) ?_
    obtain ⟨hbd, hv⟩ := zz_bud_s hv
    refine zz_new S K Z hv zc_3 gq_X8_9 gn_X4 gt_X4 zd_3 hbd.1 hbd.2 dX8_init_5 (fun h1 H hv Z => ?_)
    show W _ _ _ _ _ _ _ _ _ _ _ _ 1 5 _ (F0 m 8 ls [.ref (n), .ref (a0)])
    refine lv_dup S.1 S.2.1 dX8_init_8 rfl ?_
    obtain ⟨hbd, hv⟩ := zz_bud_s hv
    obtain ⟨⟨h2, n3⟩, hq, hv⟩ := zz_bd hv
    refine zz_IN [] S K Z (c_X4_init n hq) ⟨rfl, rfl⟩ gm_X4_init gi_X4_init rfl (List.mem_of_getElem? (i := 2) rfl) ⟨by decide, by decide⟩ rfl hl.1 rfl (Nat.le_of_ble_eq_true rfl) dX8_init_9 hbd (fun H locs Z => ?_)
    show W _ _ _ _ _ _ _ _ _ _ _ _ 2 13 _ (F0 m 12 ls [.ref (n), .ref (a0)])
    refine zz_putF S K Z hv zc_6 (by decide) gf_X8_12 rfl hnm rfl rfl rfl dX8_init_12 (fun h4 H locs hv Z => ?_)
    refine lv_aload_n S.1 S.2.1 dX8_init_15 rfl (lv_at hl 0 rfl) ?_
    refine lv_bipush (v := (30 : Int32)) S.1 S.2.1 dX8_init_16 (by decide) ?_
    obtain ⟨hbd, hv⟩ := zz_bud_s hv
    refine zz_newa (atype := .int) (a0 := fun N => (N, .inl (fun _ => 0))) S K Z (by decide) hv ga_int rfl (fun h => h) (fun _ _ => rfl) (by decide) (by decide) hbd.1 hbd.2 dX8_init_18 (fun h5 H hv Z => ?_)
    show W _ _ _ _ _ _ _ _ _ _ _ _ 3 43 _ (F0 m 20 ls [.ref (n3), .ref (a0)])
    refine zz_putF S K Z hv zc_6 (by decide) gf_X8_18 rfl hnm rfl rfl rfl dX8_init_20 (fun h6 H locs hv Z => ?_)
    refine lv_aload_n S.1 S.2.1 dX8_init_23 rfl (lv_at hl 0 rfl) ?_
    refine lv_bipush (v := (25 : Int32)) S.1 S.2.1 dX8_init_24 (by decide) ?_
    obtain ⟨hbd, hv⟩ := zz_bud_s hv
    refine zz_newa (atype := .int) (a0 := fun N => (N, .inl (fun _ => 0))) S K Z (by decide) hv ga_int rfl (fun h => h) (fun _ _ => rfl) (by decide) (by decide) hbd.1 hbd.2 dX8_init_26 (fun h7 H hv Z => ?_)
    show W _ _ _ _ _ _ _ _ _ _ _ _ 4 68 _ (F0 m 28 ls [.ref (n3 + 1), .ref (a0)])
    refine zz_putF S K Z hv zc_6 (by decide) gf_X8_22 rfl hnm rfl rfl rfl dX8_init_28 (fun h8 H locs hv Z => ?_)
    refine lv_aload_n S.1 S.2.1 dX8_init_31 rfl (lv_at hl 0 rfl) ?_
    refine lv_aload_n S.1 S.2.1 dX8_init_32 rfl (lv_at hl 1 rfl) ?_
    refine zz_putF S K Z hv zc_6 (by decide) gf_X8_25 rfl hnm rfl rfl rfl dX8_init_33 (fun h9 H locs hv Z => ?_)
    refine lv_aload_n S.1 S.2.1 dX8_init_36 rfl (lv_at hl 0 rfl) ?_
    refine zz_gR S K Z hv zc_6 (by decide) gf_X8_12 dX8_init_37 (fun v10 hv => ?_)
    refine lv_aload_n S.1 S.2.1 dX8_init_40 rfl (lv_at hl 1 rfl) ?_
    refine zz_gI S K Z hv zc_8 (by decide) gf_X8_29 dX8_init_41 (fun v11 hv => ?_)
    refine zz_put S K Z hv zc_3 (by decide) gf_X8_35 rfl rfl rfl dX8_init_44 (fun h12 H locs hv Z => ?_)
    obtain ⟨hbd, hv⟩ := zz_bud_s hv
    replace hk := zz_fin hv hk
    obtain ⟨rfl, rfl⟩ := Prod.mk.inj (hR0 _ hk)
    exact zz_vret S Z hret hlk dX8_init_47 hbd.1 hbd.2
  rw [hH, hlo] at key
  exact key

noncomputable def f_X7_init_L47 (h : ZH) (a0 : Nat) (a1 : Nat) (a2 : Nat) (x3_11 : Int32) (h12 : ZH) (n13 : Nat) (kc14 : Nat) (ks15 : Nat)  : Option ((Int32 × ZH × Nat × Nat × Nat) ⊕ (ZH × Nat)) :=
  (zg_R h12 a0 5 2).bind fun v16 => (zl_N h12 v16 6).bind fun v17 => if v17 ≤ x3_11 then ((zz_bud (kc14) 12 (ks15) 140 <| some ((h12, n13))).map Sum.inr) else ((zg_R h12 a0 5 2).bind fun v18 => zz_bud (kc14 + 1) 12 (ks15 + 5) 140 <| zz_let (va_up h12 n13 (some (.inr (3, [.null, .int 0, .int 0, .int 0, .int 0])))) fun h19 => zz_bud (kc14 + 2) 12 (ks15 + 13) 140 <| (f_X4_init h19 (n13 + 1) n13).bind fun (h20, n21) => zz_isO h20 n13 3 <| (zs_R h20 v18 6 x3_11 n13).bind fun h22 => some (.inl (x3_11 + (1 : Int32), h22, n21, kc14 + 2, ks15 + 13)))
noncomputable def f_X7_init (h : ZH) (n : Nat) (a0 : Nat) (a1 : Nat) (a2 : Nat) : Option (ZH × Nat) :=
  zz_bud (1) 12 (4) 140 <| zz_let (va_up h n (some (.inl (6, 4, .inr (.inr (.inr (.inr (fun _ => none)))))))) fun h1 => (zp_V h1 a0 5 2 (.ref (n))).bind fun h2 => zz_bud (2) 12 (8) 140 <| zz_let (va_up h2 (n + 1) (some (.inl (2, 4, .inl (fun _ => 0))))) fun h3 => (zp_V h3 a0 5 3 (.ref (n + 1))).bind fun h4 => zz_bud (3) 12 (48) 140 <| zz_let (va_up h4 (n + 2) (some (.inl (1, 40, .inl (fun _ => 0))))) fun h5 => (zp_V h5 a0 5 4 (.ref (n + 2))).bind fun h6 => zz_bud (4) 12 (88) 140 <| zz_let (va_up h6 (n + 3) (some (.inl (1, 40, .inl (fun _ => 0))))) fun h7 => (zp_V h7 a0 5 5 (.ref (n + 3))).bind fun h8 => (zp_V h8 a0 5 0 (.ref (a1))).bind fun h9 => (zp_V h9 a0 5 1 (.ref (a2))).bind fun h10 => zz_loop (fun st : (Int32 × ZH × Nat × Nat × Nat) => f_X7_init_L47 h a0 a1 a2 (st.1) (st.2.1) (st.2.2.1) (st.2.2.2.1) (st.2.2.2.2)) ((0 : Int32), h10, n + 4, 4, 88)
abbrev rm_X7_init : Room := { frames := 2, cells := 12, slots := 140, locals := 40 }
set_option maxRecDepth 100000 in
set_option maxHeartbeats 4000000 in
theorem c_X7_init {l : Launch} {D : va_G} {dA : Nat → ClassId} {A : Nat → Prop} {h : ZH} {n : Nat} (a0 : Nat) (a1 : Nat) (a2 : Nat) {hx : ZH} {nx : Nat} (hf : f_X7_init h n a0 a1 a2 = some (hx, nx)) : Met l yX7_init (zz_ws yX7_init cX7_init 4 none) rm_X7_init (zz_P D dA A h n [.ref (a0), .ref (a1), .ref (a2)]) (zz_Q D dA A (none) hx nx) 12 140 A := by
  refine zz_met (by decide) (Nat.le_of_ble_eq_true rfl) ?_
  intro p e s m args below meth c ls S K hret hlk hnm hl Z
  replace hl : lv_has ls 4 [(0, .ref (a0)), (1, .ref (a1)), (2, .ref (a2))] := hl
  obtain ⟨K0, hR0, hk⟩ : ∃ K0 : (ZH × Nat) → Prop, (∀ x, K0 x → x = (hx, nx)) ∧ K0 (hx, nx) := ⟨fun x => x = (hx, nx), fun _ h => h, rfl⟩
  have L47 : ∀ (st : (Int32 × ZH × Nat × Nat × Nat)) (x : (ZH × Nat)), zz_loop (fun st : (Int32 × ZH × Nat × Nat × Nat) => f_X7_init_L47 h a0 a1 a2 (st.1) (st.2.1) (st.2.2.1) (st.2.2.2.1) (st.2.2.2.2)) st = some x → K0 x → (fun st : (Int32 × ZH × Nat × Nat × Nat) => ∀ (H : Heap) (locs : List Loc) (ls : Array Slot), zz_B D dA A (st.2.1) (st.2.2.1) s.heap H locs → lv_has ls 4 [(0, .ref (a0)), (3, .int ((st.1)))] → zz_W p l e rm_X7_init s m args below meth c D dA A (none) hx nx 12 140 H locs (st.2.2.2.1) (st.2.2.2.2) 47 ls []) st := by
    refine zz_loop_go (K := K0) ?_
    intro K1 hP1 hR1
    rintro ⟨x3_11, h12, n13, kc14, ks15⟩ x hv hk H locs ls Z hl
    replace hv : f_X7_init_L47 h a0 a1 a2 x3_11 h12 n13 kc14 ks15 = some x := hv
    unfold f_X7_init_L47 at hv
    replace hl : lv_has ls 4 [(0, .ref (a0)), (3, .int (x3_11))] := hl
    replace Z : zz_B D dA A h12 n13 s.heap H locs := Z
    show zz_W p l e rm_X7_init s m args below meth c D dA A (none) hx nx 12 140 H locs kc14 ks15 47 ls []
    refine lv_iload_n S.1 S.2.1 dX7_init_47 rfl (lv_at hl 1 rfl) ?_
    refine lv_aload_n S.1 S.2.1 dX7_init_48 rfl (lv_at hl 0 rfl) ?_
    refine zz_gR S K Z hv zc_5 (by decide) gf_X7_11 dX7_init_49 (fun v16 hv => ?_)
    refine zz_alen S K Z hv rfl dX7_init_52 (fun v17 hv => ?_)
    refine lv_icmp_ge (tgt := 75) S.1 S.2.1 dX7_init_53 (by decide) (fun hc => ?_) (fun hc => ?_)
    · replace hv := (if_pos hc).symm.trans hv
      obtain ⟨_, hv, hk⟩ := zz_mapk hv hk
      replace hk := hR1 _ hk
      obtain ⟨hbd, hv⟩ := zz_bud_s hv
      replace hk := zz_fin hv hk
      obtain ⟨rfl, rfl⟩ := Prod.mk.inj (hR0 _ hk)
      exact zz_vret S Z hret hlk dX7_init_75 hbd.1 hbd.2
    · replace hv := (if_neg hc).symm.trans hv
      refine lv_aload_n S.1 S.2.1 dX7_init_56 rfl (lv_at hl 0 rfl) ?_
      refine zz_gR S K Z hv zc_5 (by decide) gf_X7_11 dX7_init_57 (fun v18 hv => ?_)
      refine lv_iload_n S.1 S.2.1 dX7_init_60 rfl (lv_at hl 1 rfl) ?_
      obtain ⟨hbd, hv⟩ := zz_bud_s hv
      refine zz_new S K Z hv zc_3 gq_X7_9 gn_X4 gt_X4 zd_3 hbd.1 hbd.2 dX7_init_61 (fun h19 H hv Z => ?_)
      show W _ _ _ _ _ _ _ _ _ _ _ _ (kc14 + 1) (ks15 + 5) _ (F0 m 64 ls [.ref (n13), .int (x3_11), .ref (v18)])
      refine lv_dup S.1 S.2.1 dX7_init_64 rfl ?_
      obtain ⟨hbd, hv⟩ := zz_bud_s hv
      obtain ⟨⟨h20, n21⟩, hq, hv⟩ := zz_bd hv
      refine zz_IN [] S K Z (c_X4_init n13 hq) ⟨rfl, rfl⟩ gm_X4_init gi_X4_init rfl (List.mem_of_getElem? (i := 3) rfl) ⟨by decide, by decide⟩ rfl hl.1 rfl (Nat.le_of_ble_eq_true rfl) dX7_init_65 hbd (fun H locs Z => ?_)
      show W _ _ _ _ _ _ _ _ _ _ _ _ (kc14 + 2) (ks15 + 13) _ (F0 m 68 ls [.ref (n13), .int (x3_11), .ref (v18)])
      refine zz_aast S K Z hv zc_3 rfl dX7_init_68 (fun h22 H locs hv Z => ?_)
      refine lv_iinc (v := x3_11 + (1 : Int32)) (lv' := [(3, .int (x3_11 + (1 : Int32))), (0, .ref (a0))]) S.1 S.2.1 dX7_init_69 hl (k := 1) rfl rfl (by decide) rfl (fun ls hl => ?_)
      refine lv_goto (tgt := 47) S.1 S.2.1 dX7_init_72 (by decide) ?_
      replace hk := zz_fin hv hk
      exact hP1 _ hk H locs ls Z (lv_sub hl [1, 0] rfl)
  have hv := hf
  unfold f_X7_init at hv
  clear hf
  obtain ⟨x, hxx⟩ : ∃ x, x = (hx, nx) := ⟨_, rfl⟩
  rw [← hxx] at hv hk
  have ⟨H, hH⟩ : ∃ H, H = s.heap := ⟨_, rfl⟩
  have ⟨locs, hlo⟩ : ∃ q : List Loc, q = [] := ⟨_, rfl⟩
  have Z : zz_B D dA A h n s.heap H locs := by rw [hH, hlo]; exact Z
  have key : zz_W p l e rm_X7_init s m args below meth c D dA A (none) hx nx 12 140 H locs 0 0 0 ls [] := by
    clear hH hlo hxx
    refine lv_aload_n S.1 S.2.1 dX7_init_0 rfl (lv_at hl 0 rfl) ?_
    refine W.objInit S.1 S.2.1 S.2.2.2.1 (S.2.2.2.2 _ gl_X7_3) (S.2.2.2.2 _ gi_obj) (S.2.2.2.2 _ gc_obj) rfl (by rw [S.2.2.1]; exact hl.1) rfl dX7_init_1 (by decide) (Nat.le_of_ble_eq_true rfl) ?_
    show W _ _ _ _ _ _ _ _ _ _ _ _ _ _ _ (F0 m 4 ls [])
    refine lv_aload_n S.1 S.2.1 dX7_init_4 rfl (lv_at hl 0 rfl) ?_
    refine lv_iconst (v := (4 : Int32)) S.1 S.2.1 dX7_init_5 (by decide) ?_
    obtain ⟨hbd, hv⟩ := zz_bud_s hv
    refine zz_newq S K Z (by decide) hv gq_X7_9 K.2.2.2.2.1 rfl (by decide) (by decide) hbd.1 hbd.2 dX7_init_6 (fun h1 H hv Z => ?_)
    show W _ _ _ _ _ _ _ _ _ _ _ _ 1 4 _ (F0 m 9 ls [.ref (n), .ref (a0)])
    refine zz_putF S K Z hv zc_5 (by decide) gf_X7_11 rfl hnm rfl rfl rfl dX7_init_9 (fun h2 H locs hv Z => ?_)
    refine lv_aload_n S.1 S.2.1 dX7_init_12 rfl (lv_at hl 0 rfl) ?_
    refine lv_iconst (v := (4 : Int32)) S.1 S.2.1 dX7_init_13 (by decide) ?_
    obtain ⟨hbd, hv⟩ := zz_bud_s hv
    refine zz_newa (atype := .boolean) (a0 := fun N => (N, .inl (fun _ => 0))) S K Z (by decide) hv ga_boolean rfl (fun h => h) (fun _ _ => rfl) (by decide) (by decide) hbd.1 hbd.2 dX7_init_14 (fun h3 H hv Z => ?_)
    show W _ _ _ _ _ _ _ _ _ _ _ _ 2 8 _ (F0 m 16 ls [.ref (n + 1), .ref (a0)])
    refine zz_putF S K Z hv zc_5 (by decide) gf_X7_17 rfl hnm rfl rfl rfl dX7_init_16 (fun h4 H locs hv Z => ?_)
    refine lv_aload_n S.1 S.2.1 dX7_init_19 rfl (lv_at hl 0 rfl) ?_
    refine lv_bipush (v := (40 : Int32)) S.1 S.2.1 dX7_init_20 (by decide) ?_
    obtain ⟨hbd, hv⟩ := zz_bud_s hv
    refine zz_newa (atype := .int) (a0 := fun N => (N, .inl (fun _ => 0))) S K Z (by decide) hv ga_int rfl (fun h => h) (fun _ _ => rfl) (by decide) (by decide) hbd.1 hbd.2 dX7_init_22 (fun h5 H hv Z => ?_)
    show W _ _ _ _ _ _ _ _ _ _ _ _ 3 48 _ (F0 m 24 ls [.ref (n + 2), .ref (a0)])
    refine zz_putF S K Z hv zc_5 (by decide) gf_X7_21 rfl hnm rfl rfl rfl dX7_init_24 (fun h6 H locs hv Z => ?_)
    refine lv_aload_n S.1 S.2.1 dX7_init_27 rfl (lv_at hl 0 rfl) ?_
    refine lv_bipush (v := (40 : Int32)) S.1 S.2.1 dX7_init_28 (by decide) ?_
    obtain ⟨hbd, hv⟩ := zz_bud_s hv
    refine zz_newa (atype := .int) (a0 := fun N => (N, .inl (fun _ => 0))) S K Z (by decide) hv ga_int rfl (fun h => h) (fun _ _ => rfl) (by decide) (by decide) hbd.1 hbd.2 dX7_init_30 (fun h7 H hv Z => ?_)
    show W _ _ _ _ _ _ _ _ _ _ _ _ 4 88 _ (F0 m 32 ls [.ref (n + 3), .ref (a0)])
    refine zz_putF S K Z hv zc_5 (by decide) gf_X7_25 rfl hnm rfl rfl rfl dX7_init_32 (fun h8 H locs hv Z => ?_)
    refine lv_aload_n S.1 S.2.1 dX7_init_35 rfl (lv_at hl 0 rfl) ?_
    refine lv_aload_n S.1 S.2.1 dX7_init_36 rfl (lv_at hl 1 rfl) ?_
    refine zz_putF S K Z hv zc_5 (by decide) gf_X7_28 rfl hnm rfl rfl rfl dX7_init_37 (fun h9 H locs hv Z => ?_)
    refine lv_aload_n S.1 S.2.1 dX7_init_40 rfl (lv_at hl 0 rfl) ?_
    refine lv_aload_n S.1 S.2.1 dX7_init_41 rfl (lv_at hl 2 rfl) ?_
    refine zz_putF S K Z hv zc_5 (by decide) gf_X7_32 rfl hnm rfl rfl rfl dX7_init_42 (fun h10 H locs hv Z => ?_)
    refine lv_iconst (v := (0 : Int32)) S.1 S.2.1 dX7_init_45 (by decide) ?_
    refine lv_istore_n (lv' := [(3, .int ((0 : Int32))), (0, .ref (a0)), (1, .ref (a1)), (2, .ref (a2))]) S.1 S.2.1 dX7_init_46 rfl hl (by decide) rfl (fun ls hl => ?_)
    exact L47  ((0 : Int32), h10, n + 4, 4, 88) _ hv hk H locs ls Z (lv_sub hl [1, 0] rfl)
  rw [hH, hlo] at key
  exact key

noncomputable def f_X9_init (h : ZH) (n : Nat) (a0 : Nat) (a1 : Nat) (a2 : Nat) : Option (ZH × Nat) :=
  zz_bud (1) 3 (5) 73 <| zz_let (va_up h n (some (.inr (3, [.null, .int 0, .int 0, .int 0, .int 0])))) fun h1 => zz_bud (2) 3 (13) 73 <| (f_X4_init h1 (n + 1) n).bind fun (h2, n3) => (zp_V h2 a0 7 2 (.ref (n))).bind fun h4 => zz_bud (3) 3 (73) 73 <| zz_let (va_up h4 n3 (some (.inl (1, 60, .inl (fun _ => 0))))) fun h5 => (zp_V h5 a0 7 3 (.ref (n3))).bind fun h6 => (zp_V h6 a0 7 0 (.ref (a1))).bind fun h7 => (zp_V h7 a0 7 1 (.ref (a2))).bind fun h8 => zz_bud (3) 3 (73) 73 <| some ((h8, n3 + 1))
abbrev rm_X9_init : Room := { frames := 2, cells := 3, slots := 73, locals := 40 }
set_option maxRecDepth 100000 in
set_option maxHeartbeats 4000000 in
theorem c_X9_init {l : Launch} {D : va_G} {dA : Nat → ClassId} {A : Nat → Prop} {h : ZH} {n : Nat} (a0 : Nat) (a1 : Nat) (a2 : Nat) {hx : ZH} {nx : Nat} (hf : f_X9_init h n a0 a1 a2 = some (hx, nx)) : Met l yX9_init (zz_ws yX9_init cX9_init 3 none) rm_X9_init (zz_P D dA A h n [.ref (a0), .ref (a1), .ref (a2)]) (zz_Q D dA A (none) hx nx) 3 73 A := by
  refine zz_met (by decide) (Nat.le_of_ble_eq_true rfl) ?_
  intro p e s m args below meth c ls S K hret hlk hnm hl Z
  replace hl : lv_has ls 3 [(0, .ref (a0)), (1, .ref (a1)), (2, .ref (a2))] := hl
  obtain ⟨K0, hR0, hk⟩ : ∃ K0 : (ZH × Nat) → Prop, (∀ x, K0 x → x = (hx, nx)) ∧ K0 (hx, nx) := ⟨fun x => x = (hx, nx), fun _ h => h, rfl⟩
  have hv := hf
  unfold f_X9_init at hv
  clear hf
  obtain ⟨x, hxx⟩ : ∃ x, x = (hx, nx) := ⟨_, rfl⟩
  rw [← hxx] at hv hk
  have ⟨H, hH⟩ : ∃ H, H = s.heap := ⟨_, rfl⟩
  have ⟨locs, hlo⟩ : ∃ q : List Loc, q = [] := ⟨_, rfl⟩
  have Z : zz_B D dA A h n s.heap H locs := by rw [hH, hlo]; exact Z
  have key : zz_W p l e rm_X9_init s m args below meth c D dA A (none) hx nx 3 73 H locs 0 0 0 ls [] := by
    clear hH hlo hxx
    refine lv_aload_n S.1 S.2.1 dX9_init_0 rfl (lv_at hl 0 rfl) ?_
    refine W.objInit S.1 S.2.1 S.2.2.2.1 (S.2.2.2.2 _ gl_X9_3) (S.2.2.2.2 _ gi_obj) (S.2.2.2.2 _ gc_obj) rfl (by rw [S.2.2.1]; exact hl.1) rfl dX9_init_1 (by decide) (Nat.le_of_ble_eq_true rfl) ?_
    show W _ _ _ _ _ _ _ _ _ _ _ _ _ _ _ (F0 m 4 ls [])
    refine lv_aload_n S.1 S.2.1 dX9_init_4 rfl (lv_at hl 0 rfl) ?_
    obtain ⟨hbd, hv⟩ := zz_bud_s hv
    refine zz_new S K Z hv zc_3 gq_X9_9 gn_X4 gt_X4 zd_3 hbd.1 hbd.2 dX9_init_5 (fun h1 H hv Z => ?_)
    show W _ _ _ _ _ _ _ _ _ _ _ _ 1 5 _ (F0 m 8 ls [.ref (n), .ref (a0)])
    refine lv_dup S.1 S.2.1 dX9_init_8 rfl ?_
    obtain ⟨hbd, hv⟩ := zz_bud_s hv
    obtain ⟨⟨h2, n3⟩, hq, hv⟩ := zz_bd hv
    refine zz_IN [] S K Z (c_X4_init n hq) ⟨rfl, rfl⟩ gm_X4_init gi_X4_init rfl (List.mem_of_getElem? (i := 4) rfl) ⟨by decide, by decide⟩ rfl hl.1 rfl (Nat.le_of_ble_eq_true rfl) dX9_init_9 hbd (fun H locs Z => ?_)
    show W _ _ _ _ _ _ _ _ _ _ _ _ 2 13 _ (F0 m 12 ls [.ref (n), .ref (a0)])
    refine zz_putF S K Z hv zc_7 (by decide) gf_X9_12 rfl hnm rfl rfl rfl dX9_init_12 (fun h4 H locs hv Z => ?_)
    refine lv_aload_n S.1 S.2.1 dX9_init_15 rfl (lv_at hl 0 rfl) ?_
    refine lv_bipush (v := (60 : Int32)) S.1 S.2.1 dX9_init_16 (by decide) ?_
    obtain ⟨hbd, hv⟩ := zz_bud_s hv
    refine zz_newa (atype := .int) (a0 := fun N => (N, .inl (fun _ => 0))) S K Z (by decide) hv ga_int rfl (fun h => h) (fun _ _ => rfl) (by decide) (by decide) hbd.1 hbd.2 dX9_init_18 (fun h5 H hv Z => ?_)
    show W _ _ _ _ _ _ _ _ _ _ _ _ 3 73 _ (F0 m 20 ls [.ref (n3), .ref (a0)])
    refine zz_putF S K Z hv zc_7 (by decide) gf_X9_18 rfl hnm rfl rfl rfl dX9_init_20 (fun h6 H locs hv Z => ?_)
    refine lv_aload_n S.1 S.2.1 dX9_init_23 rfl (lv_at hl 0 rfl) ?_
    refine lv_aload_n S.1 S.2.1 dX9_init_24 rfl (lv_at hl 1 rfl) ?_
    refine zz_putF S K Z hv zc_7 (by decide) gf_X9_22 rfl hnm rfl rfl rfl dX9_init_25 (fun h7 H locs hv Z => ?_)
    refine lv_aload_n S.1 S.2.1 dX9_init_28 rfl (lv_at hl 0 rfl) ?_
    refine lv_aload_n S.1 S.2.1 dX9_init_29 rfl (lv_at hl 2 rfl) ?_
    refine zz_putF S K Z hv zc_7 (by decide) gf_X9_26 rfl hnm rfl rfl rfl dX9_init_30 (fun h8 H locs hv Z => ?_)
    obtain ⟨hbd, hv⟩ := zz_bud_s hv
    replace hk := zz_fin hv hk
    obtain ⟨rfl, rfl⟩ := Prod.mk.inj (hR0 _ hk)
    exact zz_vret S Z hret hlk dX9_init_33 hbd.1 hbd.2
  rw [hH, hlo] at key
  exact key

noncomputable def f_X11_init (h : ZH) (n : Nat) (a0 : Nat) (a1 : Int32) : Option (ZH × Nat) :=
  zz_bud (1) 72 (2) 2459 <| zz_let (va_up h n (some (.inr (0, [.null, .int 0])))) fun h1 => zz_bud (2) 72 (602) 2459 <| (f_X0_init h1 (n + 1) n (600 : Int32)).bind fun (h2, n3) => (zp_V h2 a0 9 0 (.ref (n))).bind fun h4 => zz_bud (3) 72 (612) 2459 <| zz_let (va_up h4 n3 (some (.inl (4, 10, .inr (.inr (.inr (.inr (fun _ => none)))))))) fun h5 => (zp_V h5 a0 9 5 (.ref (n3))).bind fun h6 => zz_bud (4) 72 (618) 2459 <| zz_let (va_up h6 (n3 + 1) (some (.inr (8, [.null, .null, .null, .null, .int 0, .int 0])))) fun h7 => zz_let (n3 + 1) fun v8 => zz_bud (50) 72 (2158) 2459 <| (f_X10_init h7 (n3 + 2) v8 a1).bind fun (h9, n10) => (zp_V h9 a0 9 1 (.ref (v8))).bind fun h11 => zz_bud (51) 72 (2164) 2459 <| zz_let (va_up h11 n10 (some (.inr (6, [.null, .null, .null, .null, .int 0, .int 0])))) fun h12 => (zg_R h12 a0 9 1).bind fun v13 => zz_bud (55) 72 (2232) 2459 <| (f_X8_init h12 (n10 + 1) n10 v13).bind fun (h14, n15) => (zp_V h14 a0 9 2 (.ref (n10))).bind fun h16 => zz_bud (56) 72 (2240) 2459 <| zz_let (va_up h16 n15 (some (.inr (5, [.null, .null, .null, .null, .null, .null, .int 0, .int 0])))) fun h17 => (zg_R h17 a0 9 1).bind fun v18 => (zg_R h17 a0 9 2).bind fun v19 => zz_bud (68) 72 (2380) 2459 <| (f_X7_init h17 (n15 + 1) n15 v18 v19).bind fun (h20, n21) => (zp_V h20 a0 9 3 (.ref (n15))).bind fun h22 => zz_bud (69) 72 (2386) 2459 <| zz_let (va_up h22 n21 (some (.inr (7, [.null, .null, .null, .null, .int 0, .int 0])))) fun h23 => (zg_R h23 a0 9 1).bind fun v24 => (zg_R h23 a0 9 2).bind fun v25 => zz_bud (72) 72 (2459) 2459 <| (f_X9_init h23 (n21 + 1) n21 v24 v25).bind fun (h26, n27) => (zp_V h26 a0 9 4 (.ref (n21))).bind fun h28 => zz_bud (72) 72 (2459) 2459 <| some ((h28, n27))
abbrev rm_X11_init : Room := { frames := 3, cells := 72, slots := 2459, locals := 65 }
set_option maxRecDepth 100000 in
set_option maxHeartbeats 4000000 in
theorem c_X11_init {l : Launch} {D : va_G} {dA : Nat → ClassId} {A : Nat → Prop} {h : ZH} {n : Nat} (a0 : Nat) (a1 : Int32) {hx : ZH} {nx : Nat} (hf : f_X11_init h n a0 a1 = some (hx, nx)) : Met l yX11_init (zz_ws yX11_init cX11_init 2 none) rm_X11_init (zz_P D dA A h n [.ref (a0), .int (a1)]) (zz_Q D dA A (none) hx nx) 72 2459 A := by
  refine zz_met (by decide) (Nat.le_of_ble_eq_true rfl) ?_
  intro p e s m args below meth c ls S K hret hlk hnm hl Z
  replace hl : lv_has ls 2 [(0, .ref (a0)), (1, .int (a1))] := hl
  obtain ⟨K0, hR0, hk⟩ : ∃ K0 : (ZH × Nat) → Prop, (∀ x, K0 x → x = (hx, nx)) ∧ K0 (hx, nx) := ⟨fun x => x = (hx, nx), fun _ h => h, rfl⟩
  have hv := hf
  unfold f_X11_init at hv
  clear hf
  obtain ⟨x, hxx⟩ : ∃ x, x = (hx, nx) := ⟨_, rfl⟩
  rw [← hxx] at hv hk
  have ⟨H, hH⟩ : ∃ H, H = s.heap := ⟨_, rfl⟩
  have ⟨locs, hlo⟩ : ∃ q : List Loc, q = [] := ⟨_, rfl⟩
  have Z : zz_B D dA A h n s.heap H locs := by rw [hH, hlo]; exact Z
  have key : zz_W p l e rm_X11_init s m args below meth c D dA A (none) hx nx 72 2459 H locs 0 0 0 ls [] := by
    clear hH hlo hxx
    refine lv_aload_n S.1 S.2.1 dX11_init_0 rfl (lv_at hl 0 rfl) ?_
    refine W.objInit S.1 S.2.1 S.2.2.2.1 (S.2.2.2.2 _ gl_X11_1) (S.2.2.2.2 _ gi_obj) (S.2.2.2.2 _ gc_obj) rfl (by rw [S.2.2.1]; exact hl.1) rfl dX11_init_1 (by decide) (Nat.le_of_ble_eq_true rfl) ?_
    show W _ _ _ _ _ _ _ _ _ _ _ _ _ _ _ (F0 m 4 ls [])
    refine lv_aload_n S.1 S.2.1 dX11_init_4 rfl (lv_at hl 0 rfl) ?_
    obtain ⟨hbd, hv⟩ := zz_bud_s hv
    refine zz_new S K Z hv zc_0 gq_X11_7 gn_X0 gt_X0 zd_0 hbd.1 hbd.2 dX11_init_5 (fun h1 H hv Z => ?_)
    show W _ _ _ _ _ _ _ _ _ _ _ _ 1 2 _ (F0 m 8 ls [.ref (n), .ref (a0)])
    refine lv_dup S.1 S.2.1 dX11_init_8 rfl ?_
    refine lv_sipush (v := (600 : Int32)) S.1 S.2.1 dX11_init_9 (by decide) ?_
    obtain ⟨hbd, hv⟩ := zz_bud_s hv
    obtain ⟨⟨h2, n3⟩, hq, hv⟩ := zz_bd hv
    refine zz_I [.int ((600 : Int32))] S K Z (c_X0_init n (600 : Int32) hq) ⟨rfl, rfl⟩ gm_X0_init gi_X0_init rfl gl_X11_11 ⟨by decide, by decide⟩ rfl hl.1 rfl (Nat.le_of_ble_eq_true rfl) dX11_init_12 hbd (fun H locs Z => ?_)
    show W _ _ _ _ _ _ _ _ _ _ _ _ 2 602 _ (F0 m 15 ls [.ref (n), .ref (a0)])
    refine zz_putF S K Z hv zc_9 (by decide) gf_X11_14 rfl hnm rfl rfl rfl dX11_init_15 (fun h4 H locs hv Z => ?_)
    refine lv_aload_n S.1 S.2.1 dX11_init_18 rfl (lv_at hl 0 rfl) ?_
    refine lv_bipush (v := (10 : Int32)) S.1 S.2.1 dX11_init_19 (by decide) ?_
    obtain ⟨hbd, hv⟩ := zz_bud_s hv
    refine zz_newq S K Z (by decide) hv gq_X11_7 K.2.2.1 rfl (by decide) (by decide) hbd.1 hbd.2 dX11_init_21 (fun h5 H hv Z => ?_)
    show W _ _ _ _ _ _ _ _ _ _ _ _ 3 612 _ (F0 m 24 ls [.ref (n3), .ref (a0)])
    refine zz_putF S K Z hv zc_9 (by decide) gf_X11_18 rfl hnm rfl rfl rfl dX11_init_24 (fun h6 H locs hv Z => ?_)
    refine lv_aload_n S.1 S.2.1 dX11_init_27 rfl (lv_at hl 0 rfl) ?_
    obtain ⟨hbd, hv⟩ := zz_bud_s hv
    refine zz_new S K Z hv zc_8 gq_X11_22 gn_X10 gt_X10 zd_8 hbd.1 hbd.2 dX11_init_28 (fun h7 H hv Z => ?_)
    show W _ _ _ _ _ _ _ _ _ _ _ _ 4 618 _ (F0 m 31 ls [.ref (n3 + 1), .ref (a0)])
    refine zz_lt hv (G := fun w => W _ _ _ _ _ _ _ _ _ _ _ _ _ _ _ (F0 _ _ _ (.ref w :: _))) (fun v8 hv => ?_)
    refine lv_dup S.1 S.2.1 dX11_init_31 rfl ?_
    refine lv_iload_n S.1 S.2.1 dX11_init_32 rfl (lv_at hl 1 rfl) ?_
    obtain ⟨hbd, hv⟩ := zz_bud_s hv
    obtain ⟨⟨h9, n10⟩, hq, hv⟩ := zz_bd hv
    refine zz_I [.int (a1)] S K Z (c_X10_init v8 a1 hq) ⟨rfl, rfl⟩ gm_X10_init gi_X10_init rfl gl_X11_24 ⟨by decide, by decide⟩ rfl hl.1 rfl (Nat.le_of_ble_eq_true rfl) dX11_init_33 hbd (fun H locs Z => ?_)
    show W _ _ _ _ _ _ _ _ _ _ _ _ 50 2158 _ (F0 m 36 ls [.ref (v8), .ref (a0)])
    refine zz_putF S K Z hv zc_9 (by decide) gf_X11_25 rfl hnm rfl rfl rfl dX11_init_36 (fun h11 H locs hv Z => ?_)
    refine lv_aload_n S.1 S.2.1 dX11_init_39 rfl (lv_at hl 0 rfl) ?_
    obtain ⟨hbd, hv⟩ := zz_bud_s hv
    refine zz_new S K Z hv zc_6 gq_X11_29 gn_X8 gt_X8 zd_6 hbd.1 hbd.2 dX11_init_40 (fun h12 H hv Z => ?_)
    show W _ _ _ _ _ _ _ _ _ _ _ _ 51 2164 _ (F0 m 43 ls [.ref (n10), .ref (a0)])
    refine lv_dup S.1 S.2.1 dX11_init_43 rfl ?_
    refine lv_aload_n S.1 S.2.1 dX11_init_44 rfl (lv_at hl 0 rfl) ?_
    refine zz_gR S K Z hv zc_9 (by decide) gf_X11_25 dX11_init_45 (fun v13 hv => ?_)
    obtain ⟨hbd, hv⟩ := zz_bud_s hv
    obtain ⟨⟨h14, n15⟩, hq, hv⟩ := zz_bd hv
    refine zz_I [.ref (v13)] S K Z (c_X8_init n10 v13 hq) ⟨rfl, rfl⟩ gm_X8_init gi_X8_init rfl gl_X11_31 ⟨by decide, by decide⟩ rfl hl.1 rfl (Nat.le_of_ble_eq_true rfl) dX11_init_48 hbd (fun H locs Z => ?_)
    show W _ _ _ _ _ _ _ _ _ _ _ _ 55 2232 _ (F0 m 51 ls [.ref (n10), .ref (a0)])
    refine zz_putF S K Z hv zc_9 (by decide) gf_X11_34 rfl hnm rfl rfl rfl dX11_init_51 (fun h16 H locs hv Z => ?_)
    refine lv_aload_n S.1 S.2.1 dX11_init_54 rfl (lv_at hl 0 rfl) ?_
    obtain ⟨hbd, hv⟩ := zz_bud_s hv
    refine zz_new S K Z hv zc_5 gq_X11_38 gn_X7 gt_X7 zd_5 hbd.1 hbd.2 dX11_init_55 (fun h17 H hv Z => ?_)
    show W _ _ _ _ _ _ _ _ _ _ _ _ 56 2240 _ (F0 m 58 ls [.ref (n15), .ref (a0)])
    refine lv_dup S.1 S.2.1 dX11_init_58 rfl ?_
    refine lv_aload_n S.1 S.2.1 dX11_init_59 rfl (lv_at hl 0 rfl) ?_
    refine zz_gR S K Z hv zc_9 (by decide) gf_X11_25 dX11_init_60 (fun v18 hv => ?_)
    refine lv_aload_n S.1 S.2.1 dX11_init_63 rfl (lv_at hl 0 rfl) ?_
    refine zz_gR S K Z hv zc_9 (by decide) gf_X11_34 dX11_init_64 (fun v19 hv => ?_)
    obtain ⟨hbd, hv⟩ := zz_bud_s hv
    obtain ⟨⟨h20, n21⟩, hq, hv⟩ := zz_bd hv
    refine zz_I [.ref (v18), .ref (v19)] S K Z (c_X7_init n15 v18 v19 hq) ⟨rfl, rfl⟩ gm_X7_init gi_X7_init rfl gl_X11_40 ⟨by decide, by decide⟩ rfl hl.1 rfl (Nat.le_of_ble_eq_true rfl) dX11_init_67 hbd (fun H locs Z => ?_)
    show W _ _ _ _ _ _ _ _ _ _ _ _ 68 2380 _ (F0 m 70 ls [.ref (n15), .ref (a0)])
    refine zz_putF S K Z hv zc_9 (by decide) gf_X11_43 rfl hnm rfl rfl rfl dX11_init_70 (fun h22 H locs hv Z => ?_)
    refine lv_aload_n S.1 S.2.1 dX11_init_73 rfl (lv_at hl 0 rfl) ?_
    obtain ⟨hbd, hv⟩ := zz_bud_s hv
    refine zz_new S K Z hv zc_7 gq_X11_47 gn_X9 gt_X9 zd_7 hbd.1 hbd.2 dX11_init_74 (fun h23 H hv Z => ?_)
    show W _ _ _ _ _ _ _ _ _ _ _ _ 69 2386 _ (F0 m 77 ls [.ref (n21), .ref (a0)])
    refine lv_dup S.1 S.2.1 dX11_init_77 rfl ?_
    refine lv_aload_n S.1 S.2.1 dX11_init_78 rfl (lv_at hl 0 rfl) ?_
    refine zz_gR S K Z hv zc_9 (by decide) gf_X11_25 dX11_init_79 (fun v24 hv => ?_)
    refine lv_aload_n S.1 S.2.1 dX11_init_82 rfl (lv_at hl 0 rfl) ?_
    refine zz_gR S K Z hv zc_9 (by decide) gf_X11_34 dX11_init_83 (fun v25 hv => ?_)
    obtain ⟨hbd, hv⟩ := zz_bud_s hv
    obtain ⟨⟨h26, n27⟩, hq, hv⟩ := zz_bd hv
    refine zz_I [.ref (v24), .ref (v25)] S K Z (c_X9_init n21 v24 v25 hq) ⟨rfl, rfl⟩ gm_X9_init gi_X9_init rfl gl_X11_49 ⟨by decide, by decide⟩ rfl hl.1 rfl (Nat.le_of_ble_eq_true rfl) dX11_init_86 hbd (fun H locs Z => ?_)
    show W _ _ _ _ _ _ _ _ _ _ _ _ 72 2459 _ (F0 m 89 ls [.ref (n21), .ref (a0)])
    refine zz_putF S K Z hv zc_9 (by decide) gf_X11_50 rfl hnm rfl rfl rfl dX11_init_89 (fun h28 H locs hv Z => ?_)
    obtain ⟨hbd, hv⟩ := zz_bud_s hv
    replace hk := zz_fin hv hk
    obtain ⟨rfl, rfl⟩ := Prod.mk.inj (hR0 _ hk)
    exact zz_vret S Z hret hlk dX11_init_92 hbd.1 hbd.2
  rw [hH, hlo] at key
  exact key

noncomputable def f_X0_append (h : ZH) (a0 : Nat) (a1 : Int32) : Option (ZH) :=
  (zg_I h a0 0 1).bind fun v1 => if v1 < 0 then (some (h)) else ((zg_I h a0 0 1).bind fun v2 => (zg_R h a0 0 0).bind fun v3 => (zl_N h v3 0).bind fun v4 => if v2 < v4 then ((zg_R h a0 0 0).bind fun v5 => (zg_I h a0 0 1).bind fun v6 => (zs_I h v5 0 v6 (vp_nar .byte (a1.toInt8.toInt32))).bind fun h7 => (zg_I h7 a0 0 1).bind fun v8 => (zp_V h7 a0 0 1 (.int (v8 + (1 : Int32)))).bind fun h9 => some (h9)) else (some (h)))
abbrev rm_X0_append : Room := { frames := 0, cells := 0, slots := 0, locals := 0 }
set_option maxRecDepth 100000 in
set_option maxHeartbeats 4000000 in
theorem c_X0_append {l : Launch} {D : va_G} {dA : Nat → ClassId} {A : Nat → Prop} {h : ZH} {n : Nat} (a0 : Nat) (a1 : Int32) {hx : ZH} (hf : f_X0_append h a0 a1 = some hx) : Met l yX0_append (zz_ws yX0_append cX0_append 2 none) rm_X0_append (zz_P D dA A h n [.ref (a0), .int (a1)]) (zz_Q D dA A (none) hx n) 0 0 A := by
  refine zz_met (by decide) (Nat.le_of_ble_eq_true rfl) ?_
  intro p e s m args below meth c ls S K hret hlk hnm hl Z
  replace hl : lv_has ls 2 [(0, .ref (a0)), (1, .int (a1))] := hl
  obtain ⟨K0, hR0, hk⟩ : ∃ K0 : (ZH) → Prop, (∀ x, K0 x → x = hx) ∧ K0 hx := ⟨fun x => x = hx, fun _ h => h, rfl⟩
  have hv := hf
  unfold f_X0_append at hv
  clear hf
  obtain ⟨x, hxx⟩ : ∃ x, x = hx := ⟨_, rfl⟩
  rw [← hxx] at hv hk
  have ⟨H, hH⟩ : ∃ H, H = s.heap := ⟨_, rfl⟩
  have ⟨locs, hlo⟩ : ∃ q : List Loc, q = [] := ⟨_, rfl⟩
  have Z : zz_B D dA A h n s.heap H locs := by rw [hH, hlo]; exact Z
  have key : zz_W p l e rm_X0_append s m args below meth c D dA A (none) hx n 0 0 H locs 0 0 0 ls [] := by
    clear hH hlo hxx
    refine lv_aload_n S.1 S.2.1 dX0_append_0 rfl (lv_at hl 0 rfl) ?_
    refine zz_gI S K Z hv zc_0 (by decide) gf_X0_15 dX0_append_1 (fun v1 hv => ?_)
    refine lv_if_lt (tgt := 19) S.1 S.2.1 dX0_append_4 (by decide) (fun hc => ?_) (fun hc => ?_)
    · replace hv := (if_pos hc).symm.trans hv
      replace hk := zz_fin hv hk
      obtain rfl := hR0 _ hk
      exact zz_vret S Z hret hlk dX0_append_19 (Nat.le_refl _) (Nat.le_refl _)
    · replace hv := (if_neg hc).symm.trans hv
      refine lv_aload_n S.1 S.2.1 dX0_append_7 rfl (lv_at hl 0 rfl) ?_
      refine zz_gI S K Z hv zc_0 (by decide) gf_X0_15 dX0_append_8 (fun v2 hv => ?_)
      refine lv_aload_n S.1 S.2.1 dX0_append_11 rfl (lv_at hl 0 rfl) ?_
      refine zz_gR S K Z hv zc_0 (by decide) gf_X0_9 dX0_append_12 (fun v3 hv => ?_)
      refine zz_alen S K Z hv rfl dX0_append_15 (fun v4 hv => ?_)
      refine lv_icmp_lt (tgt := 20) S.1 S.2.1 dX0_append_16 (by decide) (fun hc => ?_) (fun hc => ?_)
      · replace hv := (if_pos hc).symm.trans hv
        refine lv_aload_n S.1 S.2.1 dX0_append_20 rfl (lv_at hl 0 rfl) ?_
        refine zz_gR S K Z hv zc_0 (by decide) gf_X0_9 dX0_append_21 (fun v5 hv => ?_)
        refine lv_aload_n S.1 S.2.1 dX0_append_24 rfl (lv_at hl 0 rfl) ?_
        refine zz_gI S K Z hv zc_0 (by decide) gf_X0_15 dX0_append_25 (fun v6 hv => ?_)
        refine lv_iload_n S.1 S.2.1 dX0_append_28 rfl (lv_at hl 1 rfl) ?_
        refine lv_i2b S.1 S.2.1 dX0_append_29 rfl ?_
        refine zz_bast S K Z hv dX0_append_30 (fun h7 H locs hv Z => ?_)
        refine lv_aload_n S.1 S.2.1 dX0_append_31 rfl (lv_at hl 0 rfl) ?_
        refine lv_dup S.1 S.2.1 dX0_append_32 rfl ?_
        refine zz_gI S K Z hv zc_0 (by decide) gf_X0_15 dX0_append_33 (fun v8 hv => ?_)
        refine lv_iconst (v := (1 : Int32)) S.1 S.2.1 dX0_append_36 (by decide) ?_
        refine lv_iadd S.1 S.2.1 dX0_append_37 ?_
        refine zz_put S K Z hv zc_0 (by decide) gf_X0_15 rfl rfl rfl dX0_append_38 (fun h9 H locs hv Z => ?_)
        replace hk := zz_fin hv hk
        obtain rfl := hR0 _ hk
        exact zz_vret S Z hret hlk dX0_append_41 (Nat.le_refl _) (Nat.le_refl _)
      · replace hv := (if_neg hc).symm.trans hv
        replace hk := zz_fin hv hk
        obtain rfl := hR0 _ hk
        exact zz_vret S Z hret hlk dX0_append_19 (Nat.le_refl _) (Nat.le_refl _)
  rw [hH, hlo] at key
  exact key

noncomputable def f_X11_feed_L37 (h : ZH) (a0 : Nat) (a1 : Int64) (a2 : Int32) (x4_4 : Int32) (h5 : ZH)  : Option ((Int32 × ZH) ⊕ (Int32 × ZH)) :=
  if x4_4 < 0 then (((zg_R h5 a0 9 0).bind fun v6 => (zg_I h5 v6 0 1).bind fun v7 => some ((v7, h5))).map Sum.inr) else ((zg_R h5 a0 9 0).bind fun v8 => zz_isO h5 v8 0 <| (f_X0_append h5 v8 ((((a1.toUInt64 >>> (((8 : Int32) * x4_4).toInt64.toUInt64 &&& Int64.toUInt64 63)).toInt64).toInt32) &&& (255 : Int32))).bind fun h9 => some (.inl (x4_4 + (-1 : Int32), h9)))
noncomputable def f_X11_feed (h : ZH) (a0 : Nat) (a1 : Int64) (a2 : Int32) : Option (Int32 × ZH) :=
  if a2 < (1 : Int32) then (some (((-3 : Int32), h))) else (if a2 ≤ (8 : Int32) then ((zg_R h a0 9 0).bind fun v1 => (zg_I h v1 0 1).bind fun v2 => if (v2 + a2) ≤ (600 : Int32) then (zz_let (a2 - (1 : Int32)) fun v3 => zz_loop (fun st : (Int32 × ZH) => f_X11_feed_L37 h a0 a1 a2 (st.1) (st.2)) (v3, h)) else (some (((-5 : Int32), h)))) else (some (((-3 : Int32), h))))
abbrev rm_X11_feed : Room := { frames := 1, cells := 0, slots := 0, locals := 21 }
set_option maxRecDepth 100000 in
set_option maxHeartbeats 4000000 in
theorem c_X11_feed {l : Launch} {D : va_G} {dA : Nat → ClassId} {A : Nat → Prop} {h : ZH} {n : Nat} (a0 : Nat) (a1 : Int64) (a2 : Int32) {r : Int32} {hx : ZH} (hf : f_X11_feed h a0 a1 a2 = some (r, hx)) : Met l yX11_feed (zz_ws yX11_feed cX11_feed 5 (some .int)) rm_X11_feed (zz_P D dA A h n [.ref (a0), .long (a1), .int (a2)]) (zz_Q D dA A (some (.int r)) hx n) 0 0 A := by
  refine zz_met (by decide) (Nat.le_of_ble_eq_true rfl) ?_
  intro p e s m args below meth c ls S K hret hlk hnm hl Z
  replace hl : lv_has ls 5 [(0, .ref (a0)), (1, .long (a1)), (3, .int (a2))] := hl
  obtain ⟨K0, hR0, hk⟩ : ∃ K0 : (Int32 × ZH) → Prop, (∀ x, K0 x → x = (r, hx)) ∧ K0 (r, hx) := ⟨fun x => x = (r, hx), fun _ h => h, rfl⟩
  have L37 : ∀ (st : (Int32 × ZH)) (x : (Int32 × ZH)), zz_loop (fun st : (Int32 × ZH) => f_X11_feed_L37 h a0 a1 a2 (st.1) (st.2)) st = some x → K0 x → (fun st : (Int32 × ZH) => ∀ (H : Heap) (locs : List Loc) (ls : Array Slot), zz_B D dA A (st.2) n s.heap H locs → lv_has ls 5 [(0, .ref (a0)), (1, .long (a1)), (4, .int ((st.1)))] → zz_W p l e rm_X11_feed s m args below meth c D dA A (some (.int r)) hx n 0 0 H locs 0 0 37 ls []) st := by
    refine zz_loop_go (K := K0) ?_
    intro K1 hP1 hR1
    rintro ⟨x4_4, h5⟩ x hv hk H locs ls Z hl
    replace hv : f_X11_feed_L37 h a0 a1 a2 x4_4 h5 = some x := hv
    unfold f_X11_feed_L37 at hv
    replace hl : lv_has ls 5 [(0, .ref (a0)), (1, .long (a1)), (4, .int (x4_4))] := hl
    replace Z : zz_B D dA A h5 n s.heap H locs := Z
    show zz_W p l e rm_X11_feed s m args below meth c D dA A (some (.int r)) hx n 0 0 H locs 0 0 37 ls []
    refine lv_iload S.1 S.2.1 dX11_feed_37 (lv_at hl 2 rfl) ?_
    refine lv_if_lt (tgt := 67) S.1 S.2.1 dX11_feed_39 (by decide) (fun hc => ?_) (fun hc => ?_)
    · replace hv := (if_pos hc).symm.trans hv
      obtain ⟨_, hv, hk⟩ := zz_mapk hv hk
      replace hk := hR1 _ hk
      refine lv_aload_n S.1 S.2.1 dX11_feed_67 rfl (lv_at hl 0 rfl) ?_
      refine zz_gR S K Z hv zc_9 (by decide) gf_X11_14 dX11_feed_68 (fun v6 hv => ?_)
      refine zz_gI S K Z hv zc_0 (by decide) gf_X11_54 dX11_feed_71 (fun v7 hv => ?_)
      replace hk := zz_fin hv hk
      obtain ⟨rfl, rfl⟩ := Prod.mk.inj (hR0 _ hk)
      exact zz_iret S Z hret hlk dX11_feed_74 (Nat.le_refl _) (Nat.le_refl _)
    · replace hv := (if_neg hc).symm.trans hv
      refine lv_aload_n S.1 S.2.1 dX11_feed_42 rfl (lv_at hl 0 rfl) ?_
      refine zz_gR S K Z hv zc_9 (by decide) gf_X11_14 dX11_feed_43 (fun v8 hv => ?_)
      refine lv_lload_n S.1 S.2.1 dX11_feed_46 rfl (lv_at hl 1 rfl) ?_
      refine lv_bipush (v := (8 : Int32)) S.1 S.2.1 dX11_feed_47 (by decide) ?_
      refine lv_iload S.1 S.2.1 dX11_feed_49 (lv_at hl 2 rfl) ?_
      refine lv_imul S.1 S.2.1 dX11_feed_51 ?_
      refine lv_lushr S.1 S.2.1 dX11_feed_52 rfl ?_
      refine lv_l2i S.1 S.2.1 dX11_feed_53 rfl ?_
      refine lv_sipush (v := (255 : Int32)) S.1 S.2.1 dX11_feed_54 (by decide) ?_
      refine lv_iand S.1 S.2.1 dX11_feed_57 ?_
      obtain ⟨hci, hv⟩ := zz_isO_s hv
      obtain ⟨h9, hq, hv⟩ := zz_bd hv
      refine zz_V [.int ((((a1.toUInt64 >>> (((8 : Int32) * x4_4).toInt64.toUInt64 &&& Int64.toUInt64 63)).toInt64).toInt32) &&& (255 : Int32))] S K Z hci zc_0 rfl (c_X0_append v8 ((((a1.toUInt64 >>> (((8 : Int32) * x4_4).toInt64.toUInt64 &&& Int64.toUInt64 63)).toInt64).toInt32) &&& (255 : Int32)) hq) ⟨rfl, rfl⟩ gm_X0_append gmv_X0_append gl_X11_58 ⟨by decide, by decide⟩ rfl hl.1 rfl (Nat.le_of_ble_eq_true rfl) dX11_feed_58 ⟨Nat.zero_le _, Nat.zero_le _⟩ (fun H locs Z => ?_)
      show W _ _ _ _ _ _ _ _ _ _ _ _ 0 0 _ (F0 m 61 ls [])
      refine lv_iinc (v := x4_4 + (-1 : Int32)) (lv' := [(4, .int (x4_4 + (-1 : Int32))), (0, .ref (a0)), (1, .long (a1))]) S.1 S.2.1 dX11_feed_61 hl (k := 2) rfl rfl (by decide) rfl (fun ls hl => ?_)
      refine lv_goto (tgt := 37) S.1 S.2.1 dX11_feed_64 (by decide) ?_
      replace hk := zz_fin hv hk
      exact hP1 _ hk H locs ls Z (lv_sub hl [1, 2, 0] rfl)
  have hv := hf
  unfold f_X11_feed at hv
  clear hf
  obtain ⟨x, hxx⟩ : ∃ x, x = (r, hx) := ⟨_, rfl⟩
  rw [← hxx] at hv hk
  have ⟨H, hH⟩ : ∃ H, H = s.heap := ⟨_, rfl⟩
  have ⟨locs, hlo⟩ : ∃ q : List Loc, q = [] := ⟨_, rfl⟩
  have Z : zz_B D dA A h n s.heap H locs := by rw [hH, hlo]; exact Z
  have key : zz_W p l e rm_X11_feed s m args below meth c D dA A (some (.int r)) hx n 0 0 H locs 0 0 0 ls [] := by
    clear hH hlo hxx
    refine lv_iload_n S.1 S.2.1 dX11_feed_0 rfl (lv_at hl 2 rfl) ?_
    refine lv_iconst (v := (1 : Int32)) S.1 S.2.1 dX11_feed_1 (by decide) ?_
    refine lv_icmp_lt (tgt := 11) S.1 S.2.1 dX11_feed_2 (by decide) (fun hc => ?_) (fun hc => ?_)
    · replace hv := (if_pos hc).symm.trans hv
      refine lv_bipush (v := (-3 : Int32)) S.1 S.2.1 dX11_feed_11 (by decide) ?_
      replace hk := zz_fin hv hk
      obtain ⟨rfl, rfl⟩ := Prod.mk.inj (hR0 _ hk)
      exact zz_iret S Z hret hlk dX11_feed_13 (Nat.le_refl _) (Nat.le_refl _)
    · replace hv := (if_neg hc).symm.trans hv
      refine lv_iload_n S.1 S.2.1 dX11_feed_5 rfl (lv_at hl 2 rfl) ?_
      refine lv_bipush (v := (8 : Int32)) S.1 S.2.1 dX11_feed_6 (by decide) ?_
      refine lv_icmp_le (tgt := 14) S.1 S.2.1 dX11_feed_8 (by decide) (fun hc => ?_) (fun hc => ?_)
      · replace hv := (if_pos hc).symm.trans hv
        refine lv_aload_n S.1 S.2.1 dX11_feed_14 rfl (lv_at hl 0 rfl) ?_
        refine zz_gR S K Z hv zc_9 (by decide) gf_X11_14 dX11_feed_15 (fun v1 hv => ?_)
        refine zz_gI S K Z hv zc_0 (by decide) gf_X11_54 dX11_feed_18 (fun v2 hv => ?_)
        refine lv_iload_n S.1 S.2.1 dX11_feed_21 rfl (lv_at hl 2 rfl) ?_
        refine lv_iadd S.1 S.2.1 dX11_feed_22 ?_
        refine lv_sipush (v := (600 : Int32)) S.1 S.2.1 dX11_feed_23 (by decide) ?_
        refine lv_icmp_le (tgt := 32) S.1 S.2.1 dX11_feed_26 (by decide) (fun hc => ?_) (fun hc => ?_)
        · replace hv := (if_pos hc).symm.trans hv
          refine lv_iload_n S.1 S.2.1 dX11_feed_32 rfl (lv_at hl 2 rfl) ?_
          refine lv_iconst (v := (1 : Int32)) S.1 S.2.1 dX11_feed_33 (by decide) ?_
          refine lv_isub S.1 S.2.1 dX11_feed_34 ?_
          refine zz_lt hv (G := fun w => W _ _ _ _ _ _ _ _ _ _ _ _ _ _ _ (F0 _ _ _ (.int w :: _))) (fun v3 hv => ?_)
          refine lv_istore (lv' := [(4, .int (v3)), (0, .ref (a0)), (1, .long (a1)), (3, .int (a2))]) S.1 S.2.1 dX11_feed_35 hl (by decide) rfl (fun ls hl => ?_)
          exact L37  (v3, h) _ hv hk H locs ls Z (lv_sub hl [1, 2, 0] rfl)
        · replace hv := (if_neg hc).symm.trans hv
          refine lv_bipush (v := (-5 : Int32)) S.1 S.2.1 dX11_feed_29 (by decide) ?_
          replace hk := zz_fin hv hk
          obtain ⟨rfl, rfl⟩ := Prod.mk.inj (hR0 _ hk)
          exact zz_iret S Z hret hlk dX11_feed_31 (Nat.le_refl _) (Nat.le_refl _)
      · replace hv := (if_neg hc).symm.trans hv
        refine lv_bipush (v := (-3 : Int32)) S.1 S.2.1 dX11_feed_11 (by decide) ?_
        replace hk := zz_fin hv hk
        obtain ⟨rfl, rfl⟩ := Prod.mk.inj (hR0 _ hk)
        exact zz_iret S Z hret hlk dX11_feed_13 (Nat.le_refl _) (Nat.le_refl _)
  rw [hH, hlo] at key
  exact key

noncomputable def f_X0_at (h : ZH) (a0 : Nat) (a1 : Int32) : Option (Int32) :=
  if a1 < 0 then (some ((-1 : Int32))) else ((zg_I h a0 0 1).bind fun v1 => if v1 ≤ a1 then (some ((-1 : Int32))) else ((zg_R h a0 0 0).bind fun v2 => (zl_N h v2 0).bind fun v3 => if a1 < v3 then ((zg_R h a0 0 0).bind fun v4 => (zl_I h v4 0 a1).bind fun v5 => some (v5 &&& (255 : Int32))) else (some ((-1 : Int32)))))
abbrev rm_X0_at : Room := { frames := 0, cells := 0, slots := 0, locals := 0 }
set_option maxRecDepth 100000 in
set_option maxHeartbeats 4000000 in
theorem c_X0_at {l : Launch} {D : va_G} {dA : Nat → ClassId} {A : Nat → Prop} {h : ZH} {n : Nat} (a0 : Nat) (a1 : Int32) {r : Int32} (hf : f_X0_at h a0 a1 = some r) : Met l yX0_at (zz_ws yX0_at cX0_at 2 (some .int)) rm_X0_at (zz_P D dA A h n [.ref (a0), .int (a1)]) (zz_Q D dA A (some (.int r)) h n) 0 0 A := by
  refine zz_met (by decide) (Nat.le_of_ble_eq_true rfl) ?_
  intro p e s m args below meth c ls S K hret hlk hnm hl Z
  replace hl : lv_has ls 2 [(0, .ref (a0)), (1, .int (a1))] := hl
  obtain ⟨K0, hR0, hk⟩ : ∃ K0 : (Int32) → Prop, (∀ x, K0 x → x = r) ∧ K0 r := ⟨fun x => x = r, fun _ h => h, rfl⟩
  have hv := hf
  unfold f_X0_at at hv
  clear hf
  obtain ⟨x, hxx⟩ : ∃ x, x = r := ⟨_, rfl⟩
  rw [← hxx] at hv hk
  have ⟨H, hH⟩ : ∃ H, H = s.heap := ⟨_, rfl⟩
  have ⟨locs, hlo⟩ : ∃ q : List Loc, q = [] := ⟨_, rfl⟩
  have Z : zz_B D dA A h n s.heap H locs := by rw [hH, hlo]; exact Z
  have key : zz_W p l e rm_X0_at s m args below meth c D dA A (some (.int r)) h n 0 0 H locs 0 0 0 ls [] := by
    clear hH hlo hxx
    refine lv_iload_n S.1 S.2.1 dX0_at_0 rfl (lv_at hl 1 rfl) ?_
    refine lv_if_lt (tgt := 21) S.1 S.2.1 dX0_at_1 (by decide) (fun hc => ?_) (fun hc => ?_)
    · replace hv := (if_pos hc).symm.trans hv
      refine lv_iconst (v := (-1 : Int32)) S.1 S.2.1 dX0_at_21 (by decide) ?_
      refine lv_goto (tgt := 35) S.1 S.2.1 dX0_at_22 (by decide) ?_
      replace hk := zz_fin hv hk
      obtain rfl := hR0 _ hk
      exact zz_iret S Z hret hlk dX0_at_35 (Nat.le_refl _) (Nat.le_refl _)
    · replace hv := (if_neg hc).symm.trans hv
      refine lv_iload_n S.1 S.2.1 dX0_at_4 rfl (lv_at hl 1 rfl) ?_
      refine lv_aload_n S.1 S.2.1 dX0_at_5 rfl (lv_at hl 0 rfl) ?_
      refine zz_gI S K Z hv zc_0 (by decide) gf_X0_15 dX0_at_6 (fun v1 hv => ?_)
      refine lv_icmp_ge (tgt := 21) S.1 S.2.1 dX0_at_9 (by decide) (fun hc => ?_) (fun hc => ?_)
      · replace hv := (if_pos hc).symm.trans hv
        refine lv_iconst (v := (-1 : Int32)) S.1 S.2.1 dX0_at_21 (by decide) ?_
        refine lv_goto (tgt := 35) S.1 S.2.1 dX0_at_22 (by decide) ?_
        replace hk := zz_fin hv hk
        obtain rfl := hR0 _ hk
        exact zz_iret S Z hret hlk dX0_at_35 (Nat.le_refl _) (Nat.le_refl _)
      · replace hv := (if_neg hc).symm.trans hv
        refine lv_iload_n S.1 S.2.1 dX0_at_12 rfl (lv_at hl 1 rfl) ?_
        refine lv_aload_n S.1 S.2.1 dX0_at_13 rfl (lv_at hl 0 rfl) ?_
        refine zz_gR S K Z hv zc_0 (by decide) gf_X0_9 dX0_at_14 (fun v2 hv => ?_)
        refine zz_alen S K Z hv rfl dX0_at_17 (fun v3 hv => ?_)
        refine lv_icmp_lt (tgt := 25) S.1 S.2.1 dX0_at_18 (by decide) (fun hc => ?_) (fun hc => ?_)
        · replace hv := (if_pos hc).symm.trans hv
          refine lv_aload_n S.1 S.2.1 dX0_at_25 rfl (lv_at hl 0 rfl) ?_
          refine zz_gR S K Z hv zc_0 (by decide) gf_X0_9 dX0_at_26 (fun v4 hv => ?_)
          refine lv_iload_n S.1 S.2.1 dX0_at_29 rfl (lv_at hl 1 rfl) ?_
          refine zz_bald S K Z hv dX0_at_30 (fun v5 hv => ?_)
          refine lv_sipush (v := (255 : Int32)) S.1 S.2.1 dX0_at_31 (by decide) ?_
          refine lv_iand S.1 S.2.1 dX0_at_34 ?_
          replace hk := zz_fin hv hk
          obtain rfl := hR0 _ hk
          exact zz_iret S Z hret hlk dX0_at_35 (Nat.le_refl _) (Nat.le_refl _)
        · replace hv := (if_neg hc).symm.trans hv
          refine lv_iconst (v := (-1 : Int32)) S.1 S.2.1 dX0_at_21 (by decide) ?_
          refine lv_goto (tgt := 35) S.1 S.2.1 dX0_at_22 (by decide) ?_
          replace hk := zz_fin hv hk
          obtain rfl := hR0 _ hk
          exact zz_iret S Z hret hlk dX0_at_35 (Nat.le_refl _) (Nat.le_refl _)
  rw [hH, hlo] at key
  exact key

noncomputable def f_X2_isLetter (h : ZH) (a0 : Int32) : Option (Int32) :=
  if a0 < (97 : Int32) then (some ((0 : Int32))) else (if (122 : Int32) < a0 then (some ((0 : Int32))) else (some ((1 : Int32))))
abbrev rm_X2_isLetter : Room := { frames := 0, cells := 0, slots := 0, locals := 0 }
set_option maxRecDepth 100000 in
set_option maxHeartbeats 4000000 in
theorem c_X2_isLetter {l : Launch} {D : va_G} {dA : Nat → ClassId} {A : Nat → Prop} {h : ZH} {n : Nat} (a0 : Int32) {r : Int32} (hf : f_X2_isLetter h a0 = some r) : Met l yX2_isLetter (zz_ws yX2_isLetter cX2_isLetter 1 (some .boolean)) rm_X2_isLetter (zz_P D dA A h n [.int (a0)]) (zz_Q D dA A (some (.int r)) h n) 0 0 A := by
  refine zz_met (by decide) (Nat.le_of_ble_eq_true rfl) ?_
  intro p e s m args below meth c ls S K hret hlk hnm hl Z
  replace hl : lv_has ls 1 [(0, .int (a0))] := hl
  obtain ⟨K0, hR0, hk⟩ : ∃ K0 : (Int32) → Prop, (∀ x, K0 x → x = r) ∧ K0 r := ⟨fun x => x = r, fun _ h => h, rfl⟩
  have hv := hf
  unfold f_X2_isLetter at hv
  clear hf
  obtain ⟨x, hxx⟩ : ∃ x, x = r := ⟨_, rfl⟩
  rw [← hxx] at hv hk
  have ⟨H, hH⟩ : ∃ H, H = s.heap := ⟨_, rfl⟩
  have ⟨locs, hlo⟩ : ∃ q : List Loc, q = [] := ⟨_, rfl⟩
  have Z : zz_B D dA A h n s.heap H locs := by rw [hH, hlo]; exact Z
  have key : zz_W p l e rm_X2_isLetter s m args below meth c D dA A (some (.int r)) h n 0 0 H locs 0 0 0 ls [] := by
    clear hH hlo hxx
    refine lv_iload_n S.1 S.2.1 dX2_isLetter_0 rfl (lv_at hl 0 rfl) ?_
    refine lv_bipush (v := (97 : Int32)) S.1 S.2.1 dX2_isLetter_1 (by decide) ?_
    refine lv_icmp_lt (tgt := 16) S.1 S.2.1 dX2_isLetter_3 (by decide) (fun hc => ?_) (fun hc => ?_)
    · replace hv := (if_pos hc).symm.trans hv
      refine lv_iconst (v := (0 : Int32)) S.1 S.2.1 dX2_isLetter_16 (by decide) ?_
      replace hk := zz_fin hv hk
      obtain rfl := hR0 _ hk
      exact zz_zret S Z hret (by decide) hlk dX2_isLetter_17 (Nat.le_refl _) (Nat.le_refl _)
    · replace hv := (if_neg hc).symm.trans hv
      refine lv_iload_n S.1 S.2.1 dX2_isLetter_6 rfl (lv_at hl 0 rfl) ?_
      refine lv_bipush (v := (122 : Int32)) S.1 S.2.1 dX2_isLetter_7 (by decide) ?_
      refine lv_icmp_gt (tgt := 16) S.1 S.2.1 dX2_isLetter_9 (by decide) (fun hc => ?_) (fun hc => ?_)
      · replace hv := (if_pos hc).symm.trans hv
        refine lv_iconst (v := (0 : Int32)) S.1 S.2.1 dX2_isLetter_16 (by decide) ?_
        replace hk := zz_fin hv hk
        obtain rfl := hR0 _ hk
        exact zz_zret S Z hret (by decide) hlk dX2_isLetter_17 (Nat.le_refl _) (Nat.le_refl _)
      · replace hv := (if_neg hc).symm.trans hv
        refine lv_iconst (v := (1 : Int32)) S.1 S.2.1 dX2_isLetter_12 (by decide) ?_
        refine lv_goto (tgt := 17) S.1 S.2.1 dX2_isLetter_13 (by decide) ?_
        replace hk := zz_fin hv hk
        obtain rfl := hR0 _ hk
        exact zz_zret S Z hret (by decide) hlk dX2_isLetter_17 (Nat.le_refl _) (Nat.le_refl _)
  rw [hH, hlo] at key
  exact key

noncomputable def f_X2_lettersEnd_J27 (h : ZH) (a0 : Nat) (a1 : Int32) (x2_2 : Int32) : Option (Int32) :=
  if x2_2 = 0 then (some (a1 ^^^ (-1 : Int32))) else (some (a1 + x2_2))
noncomputable def f_X2_lettersEnd_L2 (h : ZH) (a0 : Nat) (a1 : Int32) (x2_1 : Int32)  : Option ((Int32) ⊕ (Int32)) :=
  if (6 : Int32) ≤ x2_1 then ((f_X2_lettersEnd_J27 h a0 a1 x2_1).map Sum.inr) else (zz_isO h a0 0 <| (f_X0_at h a0 (a1 + x2_1)).bind fun v3 => (f_X2_isLetter h v3).bind fun v4 => if v4 = 0 then ((f_X2_lettersEnd_J27 h a0 a1 x2_1).map Sum.inr) else (some (.inl (x2_1 + (1 : Int32)))))
noncomputable def f_X2_lettersEnd (h : ZH) (a0 : Nat) (a1 : Int32) : Option (Int32) :=
  zz_loop (fun st : (Int32) => f_X2_lettersEnd_L2 h a0 a1 (st)) ((0 : Int32))
abbrev rm_X2_lettersEnd : Room := { frames := 1, cells := 0, slots := 0, locals := 21 }
set_option maxRecDepth 100000 in
set_option maxHeartbeats 4000000 in
theorem c_X2_lettersEnd {l : Launch} {D : va_G} {dA : Nat → ClassId} {A : Nat → Prop} {h : ZH} {n : Nat} (a0 : Nat) (a1 : Int32) {r : Int32} (hf : f_X2_lettersEnd h a0 a1 = some r) : Met l yX2_lettersEnd (zz_ws yX2_lettersEnd cX2_lettersEnd 3 (some .int)) rm_X2_lettersEnd (zz_P D dA A h n [.ref (a0), .int (a1)]) (zz_Q D dA A (some (.int r)) h n) 0 0 A := by
  refine zz_met (by decide) (Nat.le_of_ble_eq_true rfl) ?_
  intro p e s m args below meth c ls S K hret hlk hnm hl Z
  replace hl : lv_has ls 3 [(0, .ref (a0)), (1, .int (a1))] := hl
  obtain ⟨K0, hR0, hk⟩ : ∃ K0 : (Int32) → Prop, (∀ x, K0 x → x = r) ∧ K0 r := ⟨fun x => x = r, fun _ h => h, rfl⟩
  have J27 : ∀ (x2_2 : Int32) (x : (Int32)), f_X2_lettersEnd_J27 h a0 a1 x2_2 = some x → K0 x → ∀ (H : Heap) (locs : List Loc) (ls : Array Slot), zz_B D dA A h n s.heap H locs → lv_has ls 3 [(1, .int (a1)), (2, .int (x2_2))] → zz_W p l e rm_X2_lettersEnd s m args below meth c D dA A (some (.int r)) h n 0 0 H locs 0 0 27 ls [] := by
    intro x2_2 x hv hk H locs ls Z hl
    unfold f_X2_lettersEnd_J27 at hv
    refine lv_iload_n S.1 S.2.1 dX2_lettersEnd_27 rfl (lv_at hl 1 rfl) ?_
    refine lv_if_ne (tgt := 37) S.1 S.2.1 dX2_lettersEnd_28 (by decide) (fun hc => ?_) (fun hc => ?_)
    · replace hv := (if_neg hc).symm.trans hv
      refine lv_iload_n S.1 S.2.1 dX2_lettersEnd_37 rfl (lv_at hl 0 rfl) ?_
      refine lv_iload_n S.1 S.2.1 dX2_lettersEnd_38 rfl (lv_at hl 1 rfl) ?_
      refine lv_iadd S.1 S.2.1 dX2_lettersEnd_39 ?_
      replace hk := zz_fin hv hk
      obtain rfl := hR0 _ hk
      exact zz_iret S Z hret hlk dX2_lettersEnd_40 (Nat.le_refl _) (Nat.le_refl _)
    · replace hv := (if_pos hc).symm.trans hv
      refine lv_iload_n S.1 S.2.1 dX2_lettersEnd_31 rfl (lv_at hl 0 rfl) ?_
      refine lv_iconst (v := (-1 : Int32)) S.1 S.2.1 dX2_lettersEnd_32 (by decide) ?_
      refine lv_ixor S.1 S.2.1 dX2_lettersEnd_33 ?_
      refine lv_goto (tgt := 40) S.1 S.2.1 dX2_lettersEnd_34 (by decide) ?_
      replace hk := zz_fin hv hk
      obtain rfl := hR0 _ hk
      exact zz_iret S Z hret hlk dX2_lettersEnd_40 (Nat.le_refl _) (Nat.le_refl _)
  have L2 : ∀ (st : (Int32)) (x : (Int32)), zz_loop (fun st : (Int32) => f_X2_lettersEnd_L2 h a0 a1 (st)) st = some x → K0 x → (fun st : (Int32) => ∀ (H : Heap) (locs : List Loc) (ls : Array Slot), zz_B D dA A h n s.heap H locs → lv_has ls 3 [(0, .ref (a0)), (1, .int (a1)), (2, .int ((st)))] → zz_W p l e rm_X2_lettersEnd s m args below meth c D dA A (some (.int r)) h n 0 0 H locs 0 0 2 ls []) st := by
    refine zz_loop_go (K := K0) ?_
    intro K1 hP1 hR1
    rintro x2_1 x hv hk H locs ls Z hl
    replace hv : f_X2_lettersEnd_L2 h a0 a1 x2_1 = some x := hv
    unfold f_X2_lettersEnd_L2 at hv
    replace hl : lv_has ls 3 [(0, .ref (a0)), (1, .int (a1)), (2, .int (x2_1))] := hl
    replace Z : zz_B D dA A h n s.heap H locs := Z
    show zz_W p l e rm_X2_lettersEnd s m args below meth c D dA A (some (.int r)) h n 0 0 H locs 0 0 2 ls []
    refine lv_iload_n S.1 S.2.1 dX2_lettersEnd_2 rfl (lv_at hl 2 rfl) ?_
    refine lv_bipush (v := (6 : Int32)) S.1 S.2.1 dX2_lettersEnd_3 (by decide) ?_
    refine lv_icmp_ge (tgt := 27) S.1 S.2.1 dX2_lettersEnd_5 (by decide) (fun hc => ?_) (fun hc => ?_)
    · replace hv := (if_pos hc).symm.trans hv
      obtain ⟨_, hv, hk⟩ := zz_mapk hv hk
      replace hk := hR1 _ hk
      exact J27 x2_1 _ hv hk H locs ls Z (lv_sub hl [1, 2] rfl)
    · replace hv := (if_neg hc).symm.trans hv
      refine lv_aload_n S.1 S.2.1 dX2_lettersEnd_8 rfl (lv_at hl 0 rfl) ?_
      refine lv_iload_n S.1 S.2.1 dX2_lettersEnd_9 rfl (lv_at hl 1 rfl) ?_
      refine lv_iload_n S.1 S.2.1 dX2_lettersEnd_10 rfl (lv_at hl 2 rfl) ?_
      refine lv_iadd S.1 S.2.1 dX2_lettersEnd_11 ?_
      obtain ⟨hci, hv⟩ := zz_isO_s hv
      obtain ⟨v3, hq, hv⟩ := zz_bd hv
      refine zz_V [.int (a1 + x2_1)] S K Z hci zc_0 rfl (c_X0_at a0 (a1 + x2_1) hq) ⟨rfl, rfl⟩ gm_X0_at gmv_X0_at gl_X2_15 ⟨by decide, by decide⟩ rfl hl.1 rfl (Nat.le_of_ble_eq_true rfl) dX2_lettersEnd_12 ⟨Nat.zero_le _, Nat.zero_le _⟩ (fun H locs Z => ?_)
      show W _ _ _ _ _ _ _ _ _ _ _ _ 0 0 _ (F0 m 15 ls [.int (v3)])
      obtain ⟨v4, hq, hv⟩ := zz_bd hv
      refine zz_S [.int (v3)] S K Z (c_X2_isLetter v3 hq) ⟨rfl, rfl⟩ gm_X2_isLetter gs_X2_isLetter gl_X2_25 ⟨by decide, by decide⟩ rfl hl.1 rfl (Nat.le_of_ble_eq_true rfl) dX2_lettersEnd_15 ⟨Nat.zero_le _, Nat.zero_le _⟩ (fun H locs Z => ?_)
      show W _ _ _ _ _ _ _ _ _ _ _ _ 0 0 _ (F0 m 18 ls [.int (v4)])
      refine lv_if_eq (tgt := 27) S.1 S.2.1 dX2_lettersEnd_18 (by decide) (fun hc => ?_) (fun hc => ?_)
      · replace hv := (if_pos hc).symm.trans hv
        obtain ⟨_, hv, hk⟩ := zz_mapk hv hk
        replace hk := hR1 _ hk
        exact J27 x2_1 _ hv hk H locs ls Z (lv_sub hl [1, 2] rfl)
      · replace hv := (if_neg hc).symm.trans hv
        refine lv_iinc (v := x2_1 + (1 : Int32)) (lv' := [(2, .int (x2_1 + (1 : Int32))), (0, .ref (a0)), (1, .int (a1))]) S.1 S.2.1 dX2_lettersEnd_21 hl (k := 2) rfl rfl (by decide) rfl (fun ls hl => ?_)
        refine lv_goto (tgt := 2) S.1 S.2.1 dX2_lettersEnd_24 (by decide) ?_
        replace hk := zz_fin hv hk
        exact hP1 _ hk H locs ls Z (lv_sub hl [1, 2, 0] rfl)
  have hv := hf
  unfold f_X2_lettersEnd at hv
  clear hf
  obtain ⟨x, hxx⟩ : ∃ x, x = r := ⟨_, rfl⟩
  rw [← hxx] at hv hk
  have ⟨H, hH⟩ : ∃ H, H = s.heap := ⟨_, rfl⟩
  have ⟨locs, hlo⟩ : ∃ q : List Loc, q = [] := ⟨_, rfl⟩
  have Z : zz_B D dA A h n s.heap H locs := by rw [hH, hlo]; exact Z
  have key : zz_W p l e rm_X2_lettersEnd s m args below meth c D dA A (some (.int r)) h n 0 0 H locs 0 0 0 ls [] := by
    clear hH hlo hxx
    refine lv_iconst (v := (0 : Int32)) S.1 S.2.1 dX2_lettersEnd_0 (by decide) ?_
    refine lv_istore_n (lv' := [(2, .int ((0 : Int32))), (0, .ref (a0)), (1, .int (a1))]) S.1 S.2.1 dX2_lettersEnd_1 rfl hl (by decide) rfl (fun ls hl => ?_)
    exact L2  ((0 : Int32)) _ hv hk H locs ls Z (lv_sub hl [1, 2, 0] rfl)
  rw [hH, hlo] at key
  exact key

noncomputable def f_X1_lengthOf (h : ZH) (a0 : Nat) (a1 : Int32) : Option (Int32) :=
  if a1 < 0 then (some ((0 : Int32))) else ((zg_I h a0 1 3).bind fun v1 => if v1 ≤ a1 then (some ((0 : Int32))) else ((zg_R h a0 1 2).bind fun v2 => (zl_N h v2 1).bind fun v3 => if v3 ≤ a1 then (some ((0 : Int32))) else ((zg_R h a0 1 2).bind fun v4 => (zl_I h v4 1 a1).bind fun v5 => some (v5))))
abbrev rm_X1_lengthOf : Room := { frames := 0, cells := 0, slots := 0, locals := 0 }
set_option maxRecDepth 100000 in
set_option maxHeartbeats 4000000 in
theorem c_X1_lengthOf {l : Launch} {D : va_G} {dA : Nat → ClassId} {A : Nat → Prop} {h : ZH} {n : Nat} (a0 : Nat) (a1 : Int32) {r : Int32} (hf : f_X1_lengthOf h a0 a1 = some r) : Met l yX1_lengthOf (zz_ws yX1_lengthOf cX1_lengthOf 2 (some .int)) rm_X1_lengthOf (zz_P D dA A h n [.ref (a0), .int (a1)]) (zz_Q D dA A (some (.int r)) h n) 0 0 A := by
  refine zz_met (by decide) (Nat.le_of_ble_eq_true rfl) ?_
  intro p e s m args below meth c ls S K hret hlk hnm hl Z
  replace hl : lv_has ls 2 [(0, .ref (a0)), (1, .int (a1))] := hl
  obtain ⟨K0, hR0, hk⟩ : ∃ K0 : (Int32) → Prop, (∀ x, K0 x → x = r) ∧ K0 r := ⟨fun x => x = r, fun _ h => h, rfl⟩
  have hv := hf
  unfold f_X1_lengthOf at hv
  clear hf
  obtain ⟨x, hxx⟩ : ∃ x, x = r := ⟨_, rfl⟩
  rw [← hxx] at hv hk
  have ⟨H, hH⟩ : ∃ H, H = s.heap := ⟨_, rfl⟩
  have ⟨locs, hlo⟩ : ∃ q : List Loc, q = [] := ⟨_, rfl⟩
  have Z : zz_B D dA A h n s.heap H locs := by rw [hH, hlo]; exact Z
  have key : zz_W p l e rm_X1_lengthOf s m args below meth c D dA A (some (.int r)) h n 0 0 H locs 0 0 0 ls [] := by
    clear hH hlo hxx
    refine lv_iload_n S.1 S.2.1 dX1_lengthOf_0 rfl (lv_at hl 1 rfl) ?_
    refine lv_if_lt (tgt := 30) S.1 S.2.1 dX1_lengthOf_1 (by decide) (fun hc => ?_) (fun hc => ?_)
    · replace hv := (if_pos hc).symm.trans hv
      refine lv_iconst (v := (0 : Int32)) S.1 S.2.1 dX1_lengthOf_30 (by decide) ?_
      replace hk := zz_fin hv hk
      obtain rfl := hR0 _ hk
      exact zz_iret S Z hret hlk dX1_lengthOf_31 (Nat.le_refl _) (Nat.le_refl _)
    · replace hv := (if_neg hc).symm.trans hv
      refine lv_iload_n S.1 S.2.1 dX1_lengthOf_4 rfl (lv_at hl 1 rfl) ?_
      refine lv_aload_n S.1 S.2.1 dX1_lengthOf_5 rfl (lv_at hl 0 rfl) ?_
      refine zz_gI S K Z hv zc_1 (by decide) gf_X1_23 dX1_lengthOf_6 (fun v1 hv => ?_)
      refine lv_icmp_ge (tgt := 30) S.1 S.2.1 dX1_lengthOf_9 (by decide) (fun hc => ?_) (fun hc => ?_)
      · replace hv := (if_pos hc).symm.trans hv
        refine lv_iconst (v := (0 : Int32)) S.1 S.2.1 dX1_lengthOf_30 (by decide) ?_
        replace hk := zz_fin hv hk
        obtain rfl := hR0 _ hk
        exact zz_iret S Z hret hlk dX1_lengthOf_31 (Nat.le_refl _) (Nat.le_refl _)
      · replace hv := (if_neg hc).symm.trans hv
        refine lv_iload_n S.1 S.2.1 dX1_lengthOf_12 rfl (lv_at hl 1 rfl) ?_
        refine lv_aload_n S.1 S.2.1 dX1_lengthOf_13 rfl (lv_at hl 0 rfl) ?_
        refine zz_gR S K Z hv zc_1 (by decide) gf_X1_19 dX1_lengthOf_14 (fun v2 hv => ?_)
        refine zz_alen S K Z hv rfl dX1_lengthOf_17 (fun v3 hv => ?_)
        refine lv_icmp_ge (tgt := 30) S.1 S.2.1 dX1_lengthOf_18 (by decide) (fun hc => ?_) (fun hc => ?_)
        · replace hv := (if_pos hc).symm.trans hv
          refine lv_iconst (v := (0 : Int32)) S.1 S.2.1 dX1_lengthOf_30 (by decide) ?_
          replace hk := zz_fin hv hk
          obtain rfl := hR0 _ hk
          exact zz_iret S Z hret hlk dX1_lengthOf_31 (Nat.le_refl _) (Nat.le_refl _)
        · replace hv := (if_neg hc).symm.trans hv
          refine lv_aload_n S.1 S.2.1 dX1_lengthOf_21 rfl (lv_at hl 0 rfl) ?_
          refine zz_gR S K Z hv zc_1 (by decide) gf_X1_19 dX1_lengthOf_22 (fun v4 hv => ?_)
          refine lv_iload_n S.1 S.2.1 dX1_lengthOf_25 rfl (lv_at hl 1 rfl) ?_
          refine zz_iald S K Z hv dX1_lengthOf_26 (fun v5 hv => ?_)
          refine lv_goto (tgt := 31) S.1 S.2.1 dX1_lengthOf_27 (by decide) ?_
          replace hk := zz_fin hv hk
          obtain rfl := hR0 _ hk
          exact zz_iret S Z hret hlk dX1_lengthOf_31 (Nat.le_refl _) (Nat.le_refl _)
  rw [hH, hlo] at key
  exact key

noncomputable def f_X1_signOf (h : ZH) (a0 : Nat) (a1 : Int32) (a2 : Int32) : Option (Int32) :=
  if a2 < 0 then (some ((-1 : Int32))) else (zz_isO h a0 1 <| (f_X1_lengthOf h a0 a1).bind fun v1 => if a2 < v1 then ((zg_I h a0 1 0).bind fun v2 => zz_let ((a1 * v2) + a2) fun v3 => if v3 < 0 then (some ((-1 : Int32))) else ((zg_R h a0 1 1).bind fun v4 => (zl_N h v4 0).bind fun v5 => if v3 < v5 then ((zg_R h a0 1 1).bind fun v6 => (zl_I h v6 0 v3).bind fun v7 => some (v7)) else (some ((-1 : Int32))))) else (some ((-1 : Int32))))
abbrev rm_X1_signOf : Room := { frames := 1, cells := 0, slots := 0, locals := 21 }
set_option maxRecDepth 100000 in
set_option maxHeartbeats 4000000 in
theorem c_X1_signOf {l : Launch} {D : va_G} {dA : Nat → ClassId} {A : Nat → Prop} {h : ZH} {n : Nat} (a0 : Nat) (a1 : Int32) (a2 : Int32) {r : Int32} (hf : f_X1_signOf h a0 a1 a2 = some r) : Met l yX1_signOf (zz_ws yX1_signOf cX1_signOf 4 (some .int)) rm_X1_signOf (zz_P D dA A h n [.ref (a0), .int (a1), .int (a2)]) (zz_Q D dA A (some (.int r)) h n) 0 0 A := by
  refine zz_met (by decide) (Nat.le_of_ble_eq_true rfl) ?_
  intro p e s m args below meth c ls S K hret hlk hnm hl Z
  replace hl : lv_has ls 4 [(0, .ref (a0)), (1, .int (a1)), (2, .int (a2))] := hl
  obtain ⟨K0, hR0, hk⟩ : ∃ K0 : (Int32) → Prop, (∀ x, K0 x → x = r) ∧ K0 r := ⟨fun x => x = r, fun _ h => h, rfl⟩
  have hv := hf
  unfold f_X1_signOf at hv
  clear hf
  obtain ⟨x, hxx⟩ : ∃ x, x = r := ⟨_, rfl⟩
  rw [← hxx] at hv hk
  have ⟨H, hH⟩ : ∃ H, H = s.heap := ⟨_, rfl⟩
  have ⟨locs, hlo⟩ : ∃ q : List Loc, q = [] := ⟨_, rfl⟩
  have Z : zz_B D dA A h n s.heap H locs := by rw [hH, hlo]; exact Z
  have key : zz_W p l e rm_X1_signOf s m args below meth c D dA A (some (.int r)) h n 0 0 H locs 0 0 0 ls [] := by
    clear hH hlo hxx
    refine lv_iload_n S.1 S.2.1 dX1_signOf_0 rfl (lv_at hl 2 rfl) ?_
    refine lv_if_lt (tgt := 13) S.1 S.2.1 dX1_signOf_1 (by decide) (fun hc => ?_) (fun hc => ?_)
    · replace hv := (if_pos hc).symm.trans hv
      refine lv_iconst (v := (-1 : Int32)) S.1 S.2.1 dX1_signOf_13 (by decide) ?_
      replace hk := zz_fin hv hk
      obtain rfl := hR0 _ hk
      exact zz_iret S Z hret hlk dX1_signOf_14 (Nat.le_refl _) (Nat.le_refl _)
    · replace hv := (if_neg hc).symm.trans hv
      refine lv_iload_n S.1 S.2.1 dX1_signOf_4 rfl (lv_at hl 2 rfl) ?_
      refine lv_aload_n S.1 S.2.1 dX1_signOf_5 rfl (lv_at hl 0 rfl) ?_
      refine lv_iload_n S.1 S.2.1 dX1_signOf_6 rfl (lv_at hl 1 rfl) ?_
      obtain ⟨hci, hv⟩ := zz_isO_s hv
      obtain ⟨v1, hq, hv⟩ := zz_bd hv
      refine zz_V [.int (a1)] S K Z hci zc_1 rfl (c_X1_lengthOf a0 a1 hq) ⟨rfl, rfl⟩ gm_X1_lengthOf gmv_X1_lengthOf gl_X1_26 ⟨by decide, by decide⟩ rfl hl.1 rfl (Nat.le_of_ble_eq_true rfl) dX1_signOf_7 ⟨Nat.zero_le _, Nat.zero_le _⟩ (fun H locs Z => ?_)
      show W _ _ _ _ _ _ _ _ _ _ _ _ 0 0 _ (F0 m 10 ls [.int (v1), .int (a2)])
      refine lv_icmp_lt (tgt := 15) S.1 S.2.1 dX1_signOf_10 (by decide) (fun hc => ?_) (fun hc => ?_)
      · replace hv := (if_pos hc).symm.trans hv
        refine lv_iload_n S.1 S.2.1 dX1_signOf_15 rfl (lv_at hl 1 rfl) ?_
        refine lv_aload_n S.1 S.2.1 dX1_signOf_16 rfl (lv_at hl 0 rfl) ?_
        refine zz_gI S K Z hv zc_1 (by decide) gf_X1_9 dX1_signOf_17 (fun v2 hv => ?_)
        refine lv_imul S.1 S.2.1 dX1_signOf_20 ?_
        refine lv_iload_n S.1 S.2.1 dX1_signOf_21 rfl (lv_at hl 2 rfl) ?_
        refine lv_iadd S.1 S.2.1 dX1_signOf_22 ?_
        refine zz_lt hv (G := fun w => W _ _ _ _ _ _ _ _ _ _ _ _ _ _ _ (F0 _ _ _ (.int w :: _))) (fun v3 hv => ?_)
        refine lv_istore_n (lv' := [(3, .int (v3)), (0, .ref (a0)), (1, .int (a1)), (2, .int (a2))]) S.1 S.2.1 dX1_signOf_23 rfl hl (by decide) rfl (fun ls hl => ?_)
        refine lv_iload_n S.1 S.2.1 dX1_signOf_24 rfl (lv_at hl 0 rfl) ?_
        refine lv_if_lt (tgt := 37) S.1 S.2.1 dX1_signOf_25 (by decide) (fun hc => ?_) (fun hc => ?_)
        · replace hv := (if_pos hc).symm.trans hv
          refine lv_iconst (v := (-1 : Int32)) S.1 S.2.1 dX1_signOf_37 (by decide) ?_
          refine lv_goto (tgt := 47) S.1 S.2.1 dX1_signOf_38 (by decide) ?_
          replace hk := zz_fin hv hk
          obtain rfl := hR0 _ hk
          exact zz_iret S Z hret hlk dX1_signOf_47 (Nat.le_refl _) (Nat.le_refl _)
        · replace hv := (if_neg hc).symm.trans hv
          refine lv_iload_n S.1 S.2.1 dX1_signOf_28 rfl (lv_at hl 0 rfl) ?_
          refine lv_aload_n S.1 S.2.1 dX1_signOf_29 rfl (lv_at hl 1 rfl) ?_
          refine zz_gR S K Z hv zc_1 (by decide) gf_X1_15 dX1_signOf_30 (fun v4 hv => ?_)
          refine zz_alen S K Z hv rfl dX1_signOf_33 (fun v5 hv => ?_)
          refine lv_icmp_lt (tgt := 41) S.1 S.2.1 dX1_signOf_34 (by decide) (fun hc => ?_) (fun hc => ?_)
          · replace hv := (if_pos hc).symm.trans hv
            refine lv_aload_n S.1 S.2.1 dX1_signOf_41 rfl (lv_at hl 1 rfl) ?_
            refine zz_gR S K Z hv zc_1 (by decide) gf_X1_15 dX1_signOf_42 (fun v6 hv => ?_)
            refine lv_iload_n S.1 S.2.1 dX1_signOf_45 rfl (lv_at hl 0 rfl) ?_
            refine zz_bald S K Z hv dX1_signOf_46 (fun v7 hv => ?_)
            replace hk := zz_fin hv hk
            obtain rfl := hR0 _ hk
            exact zz_iret S Z hret hlk dX1_signOf_47 (Nat.le_refl _) (Nat.le_refl _)
          · replace hv := (if_neg hc).symm.trans hv
            refine lv_iconst (v := (-1 : Int32)) S.1 S.2.1 dX1_signOf_37 (by decide) ?_
            refine lv_goto (tgt := 47) S.1 S.2.1 dX1_signOf_38 (by decide) ?_
            replace hk := zz_fin hv hk
            obtain rfl := hR0 _ hk
            exact zz_iret S Z hret hlk dX1_signOf_47 (Nat.le_refl _) (Nat.le_refl _)
      · replace hv := (if_neg hc).symm.trans hv
        refine lv_iconst (v := (-1 : Int32)) S.1 S.2.1 dX1_signOf_13 (by decide) ?_
        replace hk := zz_fin hv hk
        obtain rfl := hR0 _ hk
        exact zz_iret S Z hret hlk dX1_signOf_14 (Nat.le_refl _) (Nat.le_refl _)
  rw [hH, hlo] at key
  exact key

noncomputable def f_X1_stands_L17 (h : ZH) (a0 : Nat) (a1 : Int32) (a2 : Nat) (a3 : Int32) (a4 : Int32) (x5_2 : Int32)  : Option ((Int32) ⊕ (Int32)) :=
  if (a4 - a3) ≤ x5_2 then ((some ((1 : Int32))).map Sum.inr) else (zz_isO h a0 1 <| (f_X1_signOf h a0 a1 x5_2).bind fun v3 => zz_isO h a2 0 <| (f_X0_at h a2 (a3 + x5_2)).bind fun v4 => if v3 = v4 then (some (.inl (x5_2 + (1 : Int32)))) else ((some ((0 : Int32))).map Sum.inr))
noncomputable def f_X1_stands (h : ZH) (a0 : Nat) (a1 : Int32) (a2 : Nat) (a3 : Int32) (a4 : Int32) : Option (Int32) :=
  zz_isO h a0 1 <| (f_X1_lengthOf h a0 a1).bind fun v1 => if v1 = (a4 - a3) then (zz_loop (fun st : (Int32) => f_X1_stands_L17 h a0 a1 a2 a3 a4 (st)) ((0 : Int32))) else (some ((0 : Int32)))
abbrev rm_X1_stands : Room := { frames := 2, cells := 0, slots := 0, locals := 44 }
set_option maxRecDepth 100000 in
set_option maxHeartbeats 4000000 in
theorem c_X1_stands {l : Launch} {D : va_G} {dA : Nat → ClassId} {A : Nat → Prop} {h : ZH} {n : Nat} (a0 : Nat) (a1 : Int32) (a2 : Nat) (a3 : Int32) (a4 : Int32) {r : Int32} (hf : f_X1_stands h a0 a1 a2 a3 a4 = some r) : Met l yX1_stands (zz_ws yX1_stands cX1_stands 6 (some .boolean)) rm_X1_stands (zz_P D dA A h n [.ref (a0), .int (a1), .ref (a2), .int (a3), .int (a4)]) (zz_Q D dA A (some (.int r)) h n) 0 0 A := by
  refine zz_met (by decide) (Nat.le_of_ble_eq_true rfl) ?_
  intro p e s m args below meth c ls S K hret hlk hnm hl Z
  replace hl : lv_has ls 6 [(0, .ref (a0)), (1, .int (a1)), (2, .ref (a2)), (3, .int (a3)), (4, .int (a4))] := hl
  obtain ⟨K0, hR0, hk⟩ : ∃ K0 : (Int32) → Prop, (∀ x, K0 x → x = r) ∧ K0 r := ⟨fun x => x = r, fun _ h => h, rfl⟩
  have L17 : ∀ (st : (Int32)) (x : (Int32)), zz_loop (fun st : (Int32) => f_X1_stands_L17 h a0 a1 a2 a3 a4 (st)) st = some x → K0 x → (fun st : (Int32) => ∀ (H : Heap) (locs : List Loc) (ls : Array Slot), zz_B D dA A h n s.heap H locs → lv_has ls 6 [(0, .ref (a0)), (1, .int (a1)), (2, .ref (a2)), (3, .int (a3)), (4, .int (a4)), (5, .int ((st)))] → zz_W p l e rm_X1_stands s m args below meth c D dA A (some (.int r)) h n 0 0 H locs 0 0 17 ls []) st := by
    refine zz_loop_go (K := K0) ?_
    intro K1 hP1 hR1
    rintro x5_2 x hv hk H locs ls Z hl
    replace hv : f_X1_stands_L17 h a0 a1 a2 a3 a4 x5_2 = some x := hv
    unfold f_X1_stands_L17 at hv
    replace hl : lv_has ls 6 [(0, .ref (a0)), (1, .int (a1)), (2, .ref (a2)), (3, .int (a3)), (4, .int (a4)), (5, .int (x5_2))] := hl
    replace Z : zz_B D dA A h n s.heap H locs := Z
    show zz_W p l e rm_X1_stands s m args below meth c D dA A (some (.int r)) h n 0 0 H locs 0 0 17 ls []
    refine lv_iload S.1 S.2.1 dX1_stands_17 (lv_at hl 5 rfl) ?_
    refine lv_iload S.1 S.2.1 dX1_stands_19 (lv_at hl 4 rfl) ?_
    refine lv_iload_n S.1 S.2.1 dX1_stands_21 rfl (lv_at hl 3 rfl) ?_
    refine lv_isub S.1 S.2.1 dX1_stands_22 ?_
    refine lv_icmp_ge (tgt := 52) S.1 S.2.1 dX1_stands_23 (by decide) (fun hc => ?_) (fun hc => ?_)
    · replace hv := (if_pos hc).symm.trans hv
      obtain ⟨_, hv, hk⟩ := zz_mapk hv hk
      replace hk := hR1 _ hk
      refine lv_iconst (v := (1 : Int32)) S.1 S.2.1 dX1_stands_52 (by decide) ?_
      replace hk := zz_fin hv hk
      obtain rfl := hR0 _ hk
      exact zz_zret S Z hret (by decide) hlk dX1_stands_53 (Nat.le_refl _) (Nat.le_refl _)
    · replace hv := (if_neg hc).symm.trans hv
      refine lv_aload_n S.1 S.2.1 dX1_stands_26 rfl (lv_at hl 0 rfl) ?_
      refine lv_iload_n S.1 S.2.1 dX1_stands_27 rfl (lv_at hl 1 rfl) ?_
      refine lv_iload S.1 S.2.1 dX1_stands_28 (lv_at hl 5 rfl) ?_
      obtain ⟨hci, hv⟩ := zz_isO_s hv
      obtain ⟨v3, hq, hv⟩ := zz_bd hv
      refine zz_V [.int (a1), .int (x5_2)] S K Z hci zc_1 rfl (c_X1_signOf a0 a1 x5_2 hq) ⟨rfl, rfl⟩ gm_X1_signOf gmv_X1_signOf gl_X1_34 ⟨by decide, by decide⟩ rfl hl.1 rfl (Nat.le_of_ble_eq_true rfl) dX1_stands_30 ⟨Nat.zero_le _, Nat.zero_le _⟩ (fun H locs Z => ?_)
      show W _ _ _ _ _ _ _ _ _ _ _ _ 0 0 _ (F0 m 33 ls [.int (v3)])
      refine lv_aload_n S.1 S.2.1 dX1_stands_33 rfl (lv_at hl 2 rfl) ?_
      refine lv_iload_n S.1 S.2.1 dX1_stands_34 rfl (lv_at hl 3 rfl) ?_
      refine lv_iload S.1 S.2.1 dX1_stands_35 (lv_at hl 5 rfl) ?_
      refine lv_iadd S.1 S.2.1 dX1_stands_37 ?_
      obtain ⟨hci, hv⟩ := zz_isO_s hv
      obtain ⟨v4, hq, hv⟩ := zz_bd hv
      refine zz_V [.int (a3 + x5_2)] S K Z hci zc_0 rfl (c_X0_at a2 (a3 + x5_2) hq) ⟨rfl, rfl⟩ gm_X0_at gmv_X0_at gl_X1_38 ⟨by decide, by decide⟩ rfl hl.1 rfl (Nat.le_of_ble_eq_true rfl) dX1_stands_38 ⟨Nat.zero_le _, Nat.zero_le _⟩ (fun H locs Z => ?_)
      show W _ _ _ _ _ _ _ _ _ _ _ _ 0 0 _ (F0 m 41 ls [.int (v4), .int (v3)])
      refine lv_icmp_eq (tgt := 46) S.1 S.2.1 dX1_stands_41 (by decide) (fun hc => ?_) (fun hc => ?_)
      · replace hv := (if_pos hc).symm.trans hv
        refine lv_iinc (v := x5_2 + (1 : Int32)) (lv' := [(5, .int (x5_2 + (1 : Int32))), (0, .ref (a0)), (1, .int (a1)), (2, .ref (a2)), (3, .int (a3)), (4, .int (a4))]) S.1 S.2.1 dX1_stands_46 hl (k := 5) rfl rfl (by decide) rfl (fun ls hl => ?_)
        refine lv_goto (tgt := 17) S.1 S.2.1 dX1_stands_49 (by decide) ?_
        replace hk := zz_fin hv hk
        exact hP1 _ hk H locs ls Z (lv_sub hl [1, 2, 3, 4, 5, 0] rfl)
      · replace hv := (if_neg hc).symm.trans hv
        obtain ⟨_, hv, hk⟩ := zz_mapk hv hk
        replace hk := hR1 _ hk
        refine lv_iconst (v := (0 : Int32)) S.1 S.2.1 dX1_stands_44 (by decide) ?_
        replace hk := zz_fin hv hk
        obtain rfl := hR0 _ hk
        exact zz_zret S Z hret (by decide) hlk dX1_stands_45 (Nat.le_refl _) (Nat.le_refl _)
  have hv := hf
  unfold f_X1_stands at hv
  clear hf
  obtain ⟨x, hxx⟩ : ∃ x, x = r := ⟨_, rfl⟩
  rw [← hxx] at hv hk
  have ⟨H, hH⟩ : ∃ H, H = s.heap := ⟨_, rfl⟩
  have ⟨locs, hlo⟩ : ∃ q : List Loc, q = [] := ⟨_, rfl⟩
  have Z : zz_B D dA A h n s.heap H locs := by rw [hH, hlo]; exact Z
  have key : zz_W p l e rm_X1_stands s m args below meth c D dA A (some (.int r)) h n 0 0 H locs 0 0 0 ls [] := by
    clear hH hlo hxx
    refine lv_aload_n S.1 S.2.1 dX1_stands_0 rfl (lv_at hl 0 rfl) ?_
    refine lv_iload_n S.1 S.2.1 dX1_stands_1 rfl (lv_at hl 1 rfl) ?_
    obtain ⟨hci, hv⟩ := zz_isO_s hv
    obtain ⟨v1, hq, hv⟩ := zz_bd hv
    refine zz_V [.int (a1)] S K Z hci zc_1 rfl (c_X1_lengthOf a0 a1 hq) ⟨rfl, rfl⟩ gm_X1_lengthOf gmv_X1_lengthOf gl_X1_26 ⟨by decide, by decide⟩ rfl hl.1 rfl (Nat.le_of_ble_eq_true rfl) dX1_stands_2 ⟨Nat.zero_le _, Nat.zero_le _⟩ (fun H locs Z => ?_)
    show W _ _ _ _ _ _ _ _ _ _ _ _ 0 0 _ (F0 m 5 ls [.int (v1)])
    refine lv_iload S.1 S.2.1 dX1_stands_5 (lv_at hl 4 rfl) ?_
    refine lv_iload_n S.1 S.2.1 dX1_stands_7 rfl (lv_at hl 3 rfl) ?_
    refine lv_isub S.1 S.2.1 dX1_stands_8 ?_
    refine lv_icmp_eq (tgt := 14) S.1 S.2.1 dX1_stands_9 (by decide) (fun hc => ?_) (fun hc => ?_)
    · replace hv := (if_pos hc).symm.trans hv
      refine lv_iconst (v := (0 : Int32)) S.1 S.2.1 dX1_stands_14 (by decide) ?_
      refine lv_istore (lv' := [(5, .int ((0 : Int32))), (0, .ref (a0)), (1, .int (a1)), (2, .ref (a2)), (3, .int (a3)), (4, .int (a4))]) S.1 S.2.1 dX1_stands_15 hl (by decide) rfl (fun ls hl => ?_)
      exact L17  ((0 : Int32)) _ hv hk H locs ls Z (lv_sub hl [1, 2, 3, 4, 5, 0] rfl)
    · replace hv := (if_neg hc).symm.trans hv
      refine lv_iconst (v := (0 : Int32)) S.1 S.2.1 dX1_stands_12 (by decide) ?_
      replace hk := zz_fin hv hk
      obtain rfl := hR0 _ hk
      exact zz_zret S Z hret (by decide) hlk dX1_stands_13 (Nat.le_refl _) (Nat.le_refl _)
  rw [hH, hlo] at key
  exact key

noncomputable def f_X1_find_L3 (h : ZH) (a0 : Nat) (a1 : Nat) (a2 : Int32) (a3 : Int32) (x4_1 : Int32)  : Option ((Int32) ⊕ (Int32)) :=
  (zg_I h a0 1 3).bind fun v2 => if v2 ≤ x4_1 then ((some ((-1 : Int32))).map Sum.inr) else (zz_isO h a0 1 <| (f_X1_stands h a0 x4_1 a1 a2 a3).bind fun v3 => if v3 = 0 then (some (.inl (x4_1 + (1 : Int32)))) else ((some (x4_1)).map Sum.inr))
noncomputable def f_X1_find (h : ZH) (a0 : Nat) (a1 : Nat) (a2 : Int32) (a3 : Int32) : Option (Int32) :=
  zz_loop (fun st : (Int32) => f_X1_find_L3 h a0 a1 a2 a3 (st)) ((0 : Int32))
abbrev rm_X1_find : Room := { frames := 3, cells := 0, slots := 0, locals := 69 }
set_option maxRecDepth 100000 in
set_option maxHeartbeats 4000000 in
theorem c_X1_find {l : Launch} {D : va_G} {dA : Nat → ClassId} {A : Nat → Prop} {h : ZH} {n : Nat} (a0 : Nat) (a1 : Nat) (a2 : Int32) (a3 : Int32) {r : Int32} (hf : f_X1_find h a0 a1 a2 a3 = some r) : Met l yX1_find (zz_ws yX1_find cX1_find 5 (some .int)) rm_X1_find (zz_P D dA A h n [.ref (a0), .ref (a1), .int (a2), .int (a3)]) (zz_Q D dA A (some (.int r)) h n) 0 0 A := by
  refine zz_met (by decide) (Nat.le_of_ble_eq_true rfl) ?_
  intro p e s m args below meth c ls S K hret hlk hnm hl Z
  replace hl : lv_has ls 5 [(0, .ref (a0)), (1, .ref (a1)), (2, .int (a2)), (3, .int (a3))] := hl
  obtain ⟨K0, hR0, hk⟩ : ∃ K0 : (Int32) → Prop, (∀ x, K0 x → x = r) ∧ K0 r := ⟨fun x => x = r, fun _ h => h, rfl⟩
  have L3 : ∀ (st : (Int32)) (x : (Int32)), zz_loop (fun st : (Int32) => f_X1_find_L3 h a0 a1 a2 a3 (st)) st = some x → K0 x → (fun st : (Int32) => ∀ (H : Heap) (locs : List Loc) (ls : Array Slot), zz_B D dA A h n s.heap H locs → lv_has ls 5 [(0, .ref (a0)), (1, .ref (a1)), (2, .int (a2)), (3, .int (a3)), (4, .int ((st)))] → zz_W p l e rm_X1_find s m args below meth c D dA A (some (.int r)) h n 0 0 H locs 0 0 3 ls []) st := by
    refine zz_loop_go (K := K0) ?_
    intro K1 hP1 hR1
    rintro x4_1 x hv hk H locs ls Z hl
    replace hv : f_X1_find_L3 h a0 a1 a2 a3 x4_1 = some x := hv
    unfold f_X1_find_L3 at hv
    replace hl : lv_has ls 5 [(0, .ref (a0)), (1, .ref (a1)), (2, .int (a2)), (3, .int (a3)), (4, .int (x4_1))] := hl
    replace Z : zz_B D dA A h n s.heap H locs := Z
    show zz_W p l e rm_X1_find s m args below meth c D dA A (some (.int r)) h n 0 0 H locs 0 0 3 ls []
    refine lv_iload S.1 S.2.1 dX1_find_3 (lv_at hl 4 rfl) ?_
    refine lv_aload_n S.1 S.2.1 dX1_find_5 rfl (lv_at hl 0 rfl) ?_
    refine zz_gI S K Z hv zc_1 (by decide) gf_X1_23 dX1_find_6 (fun v2 hv => ?_)
    refine lv_icmp_ge (tgt := 33) S.1 S.2.1 dX1_find_9 (by decide) (fun hc => ?_) (fun hc => ?_)
    · replace hv := (if_pos hc).symm.trans hv
      obtain ⟨_, hv, hk⟩ := zz_mapk hv hk
      replace hk := hR1 _ hk
      refine lv_iconst (v := (-1 : Int32)) S.1 S.2.1 dX1_find_33 (by decide) ?_
      replace hk := zz_fin hv hk
      obtain rfl := hR0 _ hk
      exact zz_iret S Z hret hlk dX1_find_34 (Nat.le_refl _) (Nat.le_refl _)
    · replace hv := (if_neg hc).symm.trans hv
      refine lv_aload_n S.1 S.2.1 dX1_find_12 rfl (lv_at hl 0 rfl) ?_
      refine lv_iload S.1 S.2.1 dX1_find_13 (lv_at hl 4 rfl) ?_
      refine lv_aload_n S.1 S.2.1 dX1_find_15 rfl (lv_at hl 1 rfl) ?_
      refine lv_iload_n S.1 S.2.1 dX1_find_16 rfl (lv_at hl 2 rfl) ?_
      refine lv_iload_n S.1 S.2.1 dX1_find_17 rfl (lv_at hl 3 rfl) ?_
      obtain ⟨hci, hv⟩ := zz_isO_s hv
      obtain ⟨v3, hq, hv⟩ := zz_bd hv
      refine zz_V [.int (x4_1), .ref (a1), .int (a2), .int (a3)] S K Z hci zc_1 rfl (c_X1_stands a0 x4_1 a1 a2 a3 hq) ⟨rfl, rfl⟩ gm_X1_stands gmv_X1_stands gl_X1_30 ⟨by decide, by decide⟩ rfl hl.1 rfl (Nat.le_of_ble_eq_true rfl) dX1_find_18 ⟨Nat.zero_le _, Nat.zero_le _⟩ (fun H locs Z => ?_)
      show W _ _ _ _ _ _ _ _ _ _ _ _ 0 0 _ (F0 m 21 ls [.int (v3)])
      refine lv_if_eq (tgt := 27) S.1 S.2.1 dX1_find_21 (by decide) (fun hc => ?_) (fun hc => ?_)
      · replace hv := (if_pos hc).symm.trans hv
        refine lv_iinc (v := x4_1 + (1 : Int32)) (lv' := [(4, .int (x4_1 + (1 : Int32))), (0, .ref (a0)), (1, .ref (a1)), (2, .int (a2)), (3, .int (a3))]) S.1 S.2.1 dX1_find_27 hl (k := 4) rfl rfl (by decide) rfl (fun ls hl => ?_)
        refine lv_goto (tgt := 3) S.1 S.2.1 dX1_find_30 (by decide) ?_
        replace hk := zz_fin hv hk
        exact hP1 _ hk H locs ls Z (lv_sub hl [1, 2, 3, 4, 0] rfl)
      · replace hv := (if_neg hc).symm.trans hv
        obtain ⟨_, hv, hk⟩ := zz_mapk hv hk
        replace hk := hR1 _ hk
        refine lv_iload S.1 S.2.1 dX1_find_24 (lv_at hl 4 rfl) ?_
        replace hk := zz_fin hv hk
        obtain rfl := hR0 _ hk
        exact zz_iret S Z hret hlk dX1_find_26 (Nat.le_refl _) (Nat.le_refl _)
  have hv := hf
  unfold f_X1_find at hv
  clear hf
  obtain ⟨x, hxx⟩ : ∃ x, x = r := ⟨_, rfl⟩
  rw [← hxx] at hv hk
  have ⟨H, hH⟩ : ∃ H, H = s.heap := ⟨_, rfl⟩
  have ⟨locs, hlo⟩ : ∃ q : List Loc, q = [] := ⟨_, rfl⟩
  have Z : zz_B D dA A h n s.heap H locs := by rw [hH, hlo]; exact Z
  have key : zz_W p l e rm_X1_find s m args below meth c D dA A (some (.int r)) h n 0 0 H locs 0 0 0 ls [] := by
    clear hH hlo hxx
    refine lv_iconst (v := (0 : Int32)) S.1 S.2.1 dX1_find_0 (by decide) ?_
    refine lv_istore (lv' := [(4, .int ((0 : Int32))), (0, .ref (a0)), (1, .ref (a1)), (2, .int (a2)), (3, .int (a3))]) S.1 S.2.1 dX1_find_1 hl (by decide) rfl (fun ls hl => ?_)
    exact L3  ((0 : Int32)) _ hv hk H locs ls Z (lv_sub hl [1, 2, 3, 4, 0] rfl)
  rw [hH, hlo] at key
  exact key

noncomputable def f_X1_append_L45 (h : ZH) (a0 : Nat) (a1 : Nat) (y2_11 : Int32) (x3_10 : Int32) (h12 : ZH)  : Option ((Int32 × ZH) ⊕ (Int32 × ZH)) :=
  (zg_I h12 a1 0 1).bind fun v13 => if v13 ≤ x3_10 then (((zg_R h12 a0 1 2).bind fun v14 => (zg_I h12 a0 1 3).bind fun v15 => (zg_I h12 a1 0 1).bind fun v16 => (zs_I h12 v14 1 v15 v16).bind fun h17 => (zg_I h17 a0 1 3).bind fun v18 => (zp_V h17 a0 1 3 (.int (v18 + (1 : Int32)))).bind fun h19 => (zg_I h19 a0 1 3).bind fun v20 => some ((v20 - (1 : Int32), h19))).map Sum.inr) else (zz_let (y2_11 + x3_10) fun v21 => if v21 < 0 then (some (.inl (x3_10 + (1 : Int32), h12))) else ((zg_R h12 a0 1 1).bind fun v22 => (zl_N h12 v22 0).bind fun v23 => if v23 ≤ v21 then (some (.inl (x3_10 + (1 : Int32), h12))) else ((zg_R h12 a0 1 1).bind fun v24 => zz_isO h12 a1 0 <| (f_X0_at h12 a1 x3_10).bind fun v25 => (zs_I h12 v24 0 v21 (vp_nar .byte (v25.toInt8.toInt32))).bind fun h26 => some (.inl (x3_10 + (1 : Int32), h26)))))
noncomputable def f_X1_append (h : ZH) (a0 : Nat) (a1 : Nat) : Option (Int32 × ZH) :=
  (zg_I h a0 1 3).bind fun v1 => if v1 < 0 then (some (((-5 : Int32), h))) else ((zg_I h a0 1 3).bind fun v2 => (zg_R h a0 1 2).bind fun v3 => (zl_N h v3 1).bind fun v4 => if v4 ≤ v2 then (some (((-5 : Int32), h))) else ((zg_I h a1 0 1).bind fun v5 => (zg_I h a0 1 0).bind fun v6 => if v5 ≤ v6 then ((zg_I h a0 1 3).bind fun v7 => (zg_I h a0 1 0).bind fun v8 => zz_let (v7 * v8) fun v9 => zz_loop (fun st : (Int32 × ZH) => f_X1_append_L45 h a0 a1 v9 (st.1) (st.2)) ((0 : Int32), h)) else (some (((-5 : Int32), h)))))
abbrev rm_X1_append : Room := { frames := 1, cells := 0, slots := 0, locals := 21 }
set_option maxRecDepth 100000 in
set_option maxHeartbeats 4000000 in
theorem c_X1_append {l : Launch} {D : va_G} {dA : Nat → ClassId} {A : Nat → Prop} {h : ZH} {n : Nat} (a0 : Nat) (a1 : Nat) {r : Int32} {hx : ZH} (hf : f_X1_append h a0 a1 = some (r, hx)) : Met l yX1_append (zz_ws yX1_append cX1_append 5 (some .int)) rm_X1_append (zz_P D dA A h n [.ref (a0), .ref (a1)]) (zz_Q D dA A (some (.int r)) hx n) 0 0 A := by
  refine zz_met (by decide) (Nat.le_of_ble_eq_true rfl) ?_
  intro p e s m args below meth c ls S K hret hlk hnm hl Z
  replace hl : lv_has ls 5 [(0, .ref (a0)), (1, .ref (a1))] := hl
  obtain ⟨K0, hR0, hk⟩ : ∃ K0 : (Int32 × ZH) → Prop, (∀ x, K0 x → x = (r, hx)) ∧ K0 (r, hx) := ⟨fun x => x = (r, hx), fun _ h => h, rfl⟩
  have L45 : ∀ (y2_11 : Int32) (st : (Int32 × ZH)) (x : (Int32 × ZH)), zz_loop (fun st : (Int32 × ZH) => f_X1_append_L45 h a0 a1 y2_11 (st.1) (st.2)) st = some x → K0 x → (fun st : (Int32 × ZH) => ∀ (H : Heap) (locs : List Loc) (ls : Array Slot), zz_B D dA A (st.2) n s.heap H locs → lv_has ls 5 [(0, .ref (a0)), (1, .ref (a1)), (2, .int (y2_11)), (3, .int ((st.1)))] → zz_W p l e rm_X1_append s m args below meth c D dA A (some (.int r)) hx n 0 0 H locs 0 0 45 ls []) st := by
    intro y2_11
    refine zz_loop_go (K := K0) ?_
    intro K1 hP1 hR1
    rintro ⟨x3_10, h12⟩ x hv hk H locs ls Z hl
    replace hv : f_X1_append_L45 h a0 a1 y2_11 x3_10 h12 = some x := hv
    unfold f_X1_append_L45 at hv
    replace hl : lv_has ls 5 [(0, .ref (a0)), (1, .ref (a1)), (2, .int (y2_11)), (3, .int (x3_10))] := hl
    replace Z : zz_B D dA A h12 n s.heap H locs := Z
    show zz_W p l e rm_X1_append s m args below meth c D dA A (some (.int r)) hx n 0 0 H locs 0 0 45 ls []
    refine lv_iload_n S.1 S.2.1 dX1_append_45 rfl (lv_at hl 3 rfl) ?_
    refine lv_aload_n S.1 S.2.1 dX1_append_46 rfl (lv_at hl 1 rfl) ?_
    refine zz_gI S K Z hv zc_0 (by decide) gf_X1_43 dX1_append_47 (fun v13 hv => ?_)
    refine lv_icmp_ge (tgt := 92) S.1 S.2.1 dX1_append_50 (by decide) (fun hc => ?_) (fun hc => ?_)
    · replace hv := (if_pos hc).symm.trans hv
      obtain ⟨_, hv, hk⟩ := zz_mapk hv hk
      replace hk := hR1 _ hk
      refine lv_aload_n S.1 S.2.1 dX1_append_92 rfl (lv_at hl 0 rfl) ?_
      refine zz_gR S K Z hv zc_1 (by decide) gf_X1_19 dX1_append_93 (fun v14 hv => ?_)
      refine lv_aload_n S.1 S.2.1 dX1_append_96 rfl (lv_at hl 0 rfl) ?_
      refine zz_gI S K Z hv zc_1 (by decide) gf_X1_23 dX1_append_97 (fun v15 hv => ?_)
      refine lv_aload_n S.1 S.2.1 dX1_append_100 rfl (lv_at hl 1 rfl) ?_
      refine zz_gI S K Z hv zc_0 (by decide) gf_X1_43 dX1_append_101 (fun v16 hv => ?_)
      refine zz_iast S K Z hv dX1_append_104 (fun h17 H locs hv Z => ?_)
      refine lv_aload_n S.1 S.2.1 dX1_append_105 rfl (lv_at hl 0 rfl) ?_
      refine lv_dup S.1 S.2.1 dX1_append_106 rfl ?_
      refine zz_gI S K Z hv zc_1 (by decide) gf_X1_23 dX1_append_107 (fun v18 hv => ?_)
      refine lv_iconst (v := (1 : Int32)) S.1 S.2.1 dX1_append_110 (by decide) ?_
      refine lv_iadd S.1 S.2.1 dX1_append_111 ?_
      refine zz_put S K Z hv zc_1 (by decide) gf_X1_23 rfl rfl rfl dX1_append_112 (fun h19 H locs hv Z => ?_)
      refine lv_aload_n S.1 S.2.1 dX1_append_115 rfl (lv_at hl 0 rfl) ?_
      refine zz_gI S K Z hv zc_1 (by decide) gf_X1_23 dX1_append_116 (fun v20 hv => ?_)
      refine lv_iconst (v := (1 : Int32)) S.1 S.2.1 dX1_append_119 (by decide) ?_
      refine lv_isub S.1 S.2.1 dX1_append_120 ?_
      replace hk := zz_fin hv hk
      obtain ⟨rfl, rfl⟩ := Prod.mk.inj (hR0 _ hk)
      exact zz_iret S Z hret hlk dX1_append_121 (Nat.le_refl _) (Nat.le_refl _)
    · replace hv := (if_neg hc).symm.trans hv
      refine lv_iload_n S.1 S.2.1 dX1_append_53 rfl (lv_at hl 2 rfl) ?_
      refine lv_iload_n S.1 S.2.1 dX1_append_54 rfl (lv_at hl 3 rfl) ?_
      refine lv_iadd S.1 S.2.1 dX1_append_55 ?_
      refine zz_lt hv (G := fun w => W _ _ _ _ _ _ _ _ _ _ _ _ _ _ _ (F0 _ _ _ (.int w :: _))) (fun v21 hv => ?_)
      refine lv_istore (lv' := [(4, .int (v21)), (0, .ref (a0)), (1, .ref (a1)), (2, .int (y2_11)), (3, .int (x3_10))]) S.1 S.2.1 dX1_append_56 hl (by decide) rfl (fun ls hl => ?_)
      refine lv_iload S.1 S.2.1 dX1_append_58 (lv_at hl 0 rfl) ?_
      refine lv_if_lt (tgt := 86) S.1 S.2.1 dX1_append_60 (by decide) (fun hc => ?_) (fun hc => ?_)
      · replace hv := (if_pos hc).symm.trans hv
        refine lv_iinc (v := x3_10 + (1 : Int32)) (lv' := [(3, .int (x3_10 + (1 : Int32))), (4, .int (v21)), (0, .ref (a0)), (1, .ref (a1)), (2, .int (y2_11))]) S.1 S.2.1 dX1_append_86 hl (k := 4) rfl rfl (by decide) rfl (fun ls hl => ?_)
        refine lv_goto (tgt := 45) S.1 S.2.1 dX1_append_89 (by decide) ?_
        replace hk := zz_fin hv hk
        exact hP1 _ hk H locs ls Z (lv_sub hl [2, 3, 4, 0] rfl)
      · replace hv := (if_neg hc).symm.trans hv
        refine lv_iload S.1 S.2.1 dX1_append_63 (lv_at hl 0 rfl) ?_
        refine lv_aload_n S.1 S.2.1 dX1_append_65 rfl (lv_at hl 1 rfl) ?_
        refine zz_gR S K Z hv zc_1 (by decide) gf_X1_15 dX1_append_66 (fun v22 hv => ?_)
        refine zz_alen S K Z hv rfl dX1_append_69 (fun v23 hv => ?_)
        refine lv_icmp_ge (tgt := 86) S.1 S.2.1 dX1_append_70 (by decide) (fun hc => ?_) (fun hc => ?_)
        · replace hv := (if_pos hc).symm.trans hv
          refine lv_iinc (v := x3_10 + (1 : Int32)) (lv' := [(3, .int (x3_10 + (1 : Int32))), (4, .int (v21)), (0, .ref (a0)), (1, .ref (a1)), (2, .int (y2_11))]) S.1 S.2.1 dX1_append_86 hl (k := 4) rfl rfl (by decide) rfl (fun ls hl => ?_)
          refine lv_goto (tgt := 45) S.1 S.2.1 dX1_append_89 (by decide) ?_
          replace hk := zz_fin hv hk
          exact hP1 _ hk H locs ls Z (lv_sub hl [2, 3, 4, 0] rfl)
        · replace hv := (if_neg hc).symm.trans hv
          refine lv_aload_n S.1 S.2.1 dX1_append_73 rfl (lv_at hl 1 rfl) ?_
          refine zz_gR S K Z hv zc_1 (by decide) gf_X1_15 dX1_append_74 (fun v24 hv => ?_)
          refine lv_iload S.1 S.2.1 dX1_append_77 (lv_at hl 0 rfl) ?_
          refine lv_aload_n S.1 S.2.1 dX1_append_79 rfl (lv_at hl 2 rfl) ?_
          refine lv_iload_n S.1 S.2.1 dX1_append_80 rfl (lv_at hl 4 rfl) ?_
          obtain ⟨hci, hv⟩ := zz_isO_s hv
          obtain ⟨v25, hq, hv⟩ := zz_bd hv
          refine zz_V [.int (x3_10)] S K Z hci zc_0 rfl (c_X0_at a1 x3_10 hq) ⟨rfl, rfl⟩ gm_X0_at gmv_X0_at gl_X1_38 ⟨by decide, by decide⟩ rfl hl.1 rfl (Nat.le_of_ble_eq_true rfl) dX1_append_81 ⟨Nat.zero_le _, Nat.zero_le _⟩ (fun H locs Z => ?_)
          show W _ _ _ _ _ _ _ _ _ _ _ _ 0 0 _ (F0 m 84 ls [.int (v25), .int (v21), .ref (v24)])
          refine lv_i2b S.1 S.2.1 dX1_append_84 rfl ?_
          refine zz_bast S K Z hv dX1_append_85 (fun h26 H locs hv Z => ?_)
          refine lv_iinc (v := x3_10 + (1 : Int32)) (lv' := [(3, .int (x3_10 + (1 : Int32))), (4, .int (v21)), (0, .ref (a0)), (1, .ref (a1)), (2, .int (y2_11))]) S.1 S.2.1 dX1_append_86 hl (k := 4) rfl rfl (by decide) rfl (fun ls hl => ?_)
          refine lv_goto (tgt := 45) S.1 S.2.1 dX1_append_89 (by decide) ?_
          replace hk := zz_fin hv hk
          exact hP1 _ hk H locs ls Z (lv_sub hl [2, 3, 4, 0] rfl)
  have hv := hf
  unfold f_X1_append at hv
  clear hf
  obtain ⟨x, hxx⟩ : ∃ x, x = (r, hx) := ⟨_, rfl⟩
  rw [← hxx] at hv hk
  have ⟨H, hH⟩ : ∃ H, H = s.heap := ⟨_, rfl⟩
  have ⟨locs, hlo⟩ : ∃ q : List Loc, q = [] := ⟨_, rfl⟩
  have Z : zz_B D dA A h n s.heap H locs := by rw [hH, hlo]; exact Z
  have key : zz_W p l e rm_X1_append s m args below meth c D dA A (some (.int r)) hx n 0 0 H locs 0 0 0 ls [] := by
    clear hH hlo hxx
    refine lv_aload_n S.1 S.2.1 dX1_append_0 rfl (lv_at hl 0 rfl) ?_
    refine zz_gI S K Z hv zc_1 (by decide) gf_X1_23 dX1_append_1 (fun v1 hv => ?_)
    refine lv_if_lt (tgt := 30) S.1 S.2.1 dX1_append_4 (by decide) (fun hc => ?_) (fun hc => ?_)
    · replace hv := (if_pos hc).symm.trans hv
      refine lv_bipush (v := (-5 : Int32)) S.1 S.2.1 dX1_append_30 (by decide) ?_
      replace hk := zz_fin hv hk
      obtain ⟨rfl, rfl⟩ := Prod.mk.inj (hR0 _ hk)
      exact zz_iret S Z hret hlk dX1_append_32 (Nat.le_refl _) (Nat.le_refl _)
    · replace hv := (if_neg hc).symm.trans hv
      refine lv_aload_n S.1 S.2.1 dX1_append_7 rfl (lv_at hl 0 rfl) ?_
      refine zz_gI S K Z hv zc_1 (by decide) gf_X1_23 dX1_append_8 (fun v2 hv => ?_)
      refine lv_aload_n S.1 S.2.1 dX1_append_11 rfl (lv_at hl 0 rfl) ?_
      refine zz_gR S K Z hv zc_1 (by decide) gf_X1_19 dX1_append_12 (fun v3 hv => ?_)
      refine zz_alen S K Z hv rfl dX1_append_15 (fun v4 hv => ?_)
      refine lv_icmp_ge (tgt := 30) S.1 S.2.1 dX1_append_16 (by decide) (fun hc => ?_) (fun hc => ?_)
      · replace hv := (if_pos hc).symm.trans hv
        refine lv_bipush (v := (-5 : Int32)) S.1 S.2.1 dX1_append_30 (by decide) ?_
        replace hk := zz_fin hv hk
        obtain ⟨rfl, rfl⟩ := Prod.mk.inj (hR0 _ hk)
        exact zz_iret S Z hret hlk dX1_append_32 (Nat.le_refl _) (Nat.le_refl _)
      · replace hv := (if_neg hc).symm.trans hv
        refine lv_aload_n S.1 S.2.1 dX1_append_19 rfl (lv_at hl 1 rfl) ?_
        refine zz_gI S K Z hv zc_0 (by decide) gf_X1_43 dX1_append_20 (fun v5 hv => ?_)
        refine lv_aload_n S.1 S.2.1 dX1_append_23 rfl (lv_at hl 0 rfl) ?_
        refine zz_gI S K Z hv zc_1 (by decide) gf_X1_9 dX1_append_24 (fun v6 hv => ?_)
        refine lv_icmp_le (tgt := 33) S.1 S.2.1 dX1_append_27 (by decide) (fun hc => ?_) (fun hc => ?_)
        · replace hv := (if_pos hc).symm.trans hv
          refine lv_aload_n S.1 S.2.1 dX1_append_33 rfl (lv_at hl 0 rfl) ?_
          refine zz_gI S K Z hv zc_1 (by decide) gf_X1_23 dX1_append_34 (fun v7 hv => ?_)
          refine lv_aload_n S.1 S.2.1 dX1_append_37 rfl (lv_at hl 0 rfl) ?_
          refine zz_gI S K Z hv zc_1 (by decide) gf_X1_9 dX1_append_38 (fun v8 hv => ?_)
          refine lv_imul S.1 S.2.1 dX1_append_41 ?_
          refine zz_lt hv (G := fun w => W _ _ _ _ _ _ _ _ _ _ _ _ _ _ _ (F0 _ _ _ (.int w :: _))) (fun v9 hv => ?_)
          refine lv_istore_n (lv' := [(2, .int (v9)), (0, .ref (a0)), (1, .ref (a1))]) S.1 S.2.1 dX1_append_42 rfl hl (by decide) rfl (fun ls hl => ?_)
          refine lv_iconst (v := (0 : Int32)) S.1 S.2.1 dX1_append_43 (by decide) ?_
          refine lv_istore_n (lv' := [(3, .int ((0 : Int32))), (2, .int (v9)), (0, .ref (a0)), (1, .ref (a1))]) S.1 S.2.1 dX1_append_44 rfl hl (by decide) rfl (fun ls hl => ?_)
          exact L45 v9 ((0 : Int32), h) _ hv hk H locs ls Z (lv_sub hl [2, 3, 1, 0] rfl)
        · replace hv := (if_neg hc).symm.trans hv
          refine lv_bipush (v := (-5 : Int32)) S.1 S.2.1 dX1_append_30 (by decide) ?_
          replace hk := zz_fin hv hk
          obtain ⟨rfl, rfl⟩ := Prod.mk.inj (hR0 _ hk)
          exact zz_iret S Z hret hlk dX1_append_32 (Nat.le_refl _) (Nat.le_refl _)
  rw [hH, hlo] at key
  exact key

noncomputable def f_X11_addWord (h : ZH) (a0 : Nat) : Option (Int32 × ZH) :=
  (zg_R h a0 9 0).bind fun v1 => (f_X2_lettersEnd h v1 (0 : Int32)).bind fun v2 => (zg_R h a0 9 0).bind fun v3 => (zg_I h v3 0 1).bind fun v4 => if v2 = v4 then ((zg_R h a0 9 1).bind fun v5 => (zg_R h v5 8 0).bind fun v6 => (zg_R h a0 9 0).bind fun v7 => (zg_R h a0 9 0).bind fun v8 => (zg_I h v8 0 1).bind fun v9 => zz_isO h v6 1 <| (f_X1_find h v6 v7 (0 : Int32) v9).bind fun v10 => if v10 = (-1 : Int32) then ((zg_R h a0 9 1).bind fun v11 => (zg_R h v11 8 0).bind fun v12 => (zg_R h a0 9 0).bind fun v13 => zz_isO h v12 1 <| (f_X1_append h v12 v13).bind fun (v14, h15) => some ((v14, h15))) else (some ((v10, h)))) else (some (((-3 : Int32), h)))
abbrev rm_X11_addWord : Room := { frames := 4, cells := 0, slots := 0, locals := 93 }
set_option maxRecDepth 100000 in
set_option maxHeartbeats 4000000 in
theorem c_X11_addWord {l : Launch} {D : va_G} {dA : Nat → ClassId} {A : Nat → Prop} {h : ZH} {n : Nat} (a0 : Nat) {r : Int32} {hx : ZH} (hf : f_X11_addWord h a0 = some (r, hx)) : Met l yX11_addWord (zz_ws yX11_addWord cX11_addWord 2 (some .int)) rm_X11_addWord (zz_P D dA A h n [.ref (a0)]) (zz_Q D dA A (some (.int r)) hx n) 0 0 A := by
  refine zz_met (by decide) (Nat.le_of_ble_eq_true rfl) ?_
  intro p e s m args below meth c ls S K hret hlk hnm hl Z
  replace hl : lv_has ls 2 [(0, .ref (a0))] := hl
  obtain ⟨K0, hR0, hk⟩ : ∃ K0 : (Int32 × ZH) → Prop, (∀ x, K0 x → x = (r, hx)) ∧ K0 (r, hx) := ⟨fun x => x = (r, hx), fun _ h => h, rfl⟩
  have hv := hf
  unfold f_X11_addWord at hv
  clear hf
  obtain ⟨x, hxx⟩ : ∃ x, x = (r, hx) := ⟨_, rfl⟩
  rw [← hxx] at hv hk
  have ⟨H, hH⟩ : ∃ H, H = s.heap := ⟨_, rfl⟩
  have ⟨locs, hlo⟩ : ∃ q : List Loc, q = [] := ⟨_, rfl⟩
  have Z : zz_B D dA A h n s.heap H locs := by rw [hH, hlo]; exact Z
  have key : zz_W p l e rm_X11_addWord s m args below meth c D dA A (some (.int r)) hx n 0 0 H locs 0 0 0 ls [] := by
    clear hH hlo hxx
    refine lv_aload_n S.1 S.2.1 dX11_addWord_0 rfl (lv_at hl 0 rfl) ?_
    refine zz_gR S K Z hv zc_9 (by decide) gf_X11_14 dX11_addWord_1 (fun v1 hv => ?_)
    refine lv_iconst (v := (0 : Int32)) S.1 S.2.1 dX11_addWord_4 (by decide) ?_
    obtain ⟨v2, hq, hv⟩ := zz_bd hv
    refine zz_S [.ref (v1), .int ((0 : Int32))] S K Z (c_X2_lettersEnd v1 (0 : Int32) hq) ⟨rfl, rfl⟩ gm_X2_lettersEnd gs_X2_lettersEnd gl_X11_68 ⟨by decide, by decide⟩ rfl hl.1 rfl (Nat.le_of_ble_eq_true rfl) dX11_addWord_5 ⟨Nat.zero_le _, Nat.zero_le _⟩ (fun H locs Z => ?_)
    show W _ _ _ _ _ _ _ _ _ _ _ _ 0 0 _ (F0 m 8 ls [.int (v2)])
    refine lv_aload_n S.1 S.2.1 dX11_addWord_8 rfl (lv_at hl 0 rfl) ?_
    refine zz_gR S K Z hv zc_9 (by decide) gf_X11_14 dX11_addWord_9 (fun v3 hv => ?_)
    refine zz_gI S K Z hv zc_0 (by decide) gf_X11_54 dX11_addWord_12 (fun v4 hv => ?_)
    refine lv_icmp_eq (tgt := 21) S.1 S.2.1 dX11_addWord_15 (by decide) (fun hc => ?_) (fun hc => ?_)
    · replace hv := (if_pos hc).symm.trans hv
      refine lv_aload_n S.1 S.2.1 dX11_addWord_21 rfl (lv_at hl 0 rfl) ?_
      refine zz_gR S K Z hv zc_9 (by decide) gf_X11_25 dX11_addWord_22 (fun v5 hv => ?_)
      refine zz_gR S K Z hv zc_8 (by decide) gf_X11_74 dX11_addWord_25 (fun v6 hv => ?_)
      refine lv_aload_n S.1 S.2.1 dX11_addWord_28 rfl (lv_at hl 0 rfl) ?_
      refine zz_gR S K Z hv zc_9 (by decide) gf_X11_14 dX11_addWord_29 (fun v7 hv => ?_)
      refine lv_iconst (v := (0 : Int32)) S.1 S.2.1 dX11_addWord_32 (by decide) ?_
      refine lv_aload_n S.1 S.2.1 dX11_addWord_33 rfl (lv_at hl 0 rfl) ?_
      refine zz_gR S K Z hv zc_9 (by decide) gf_X11_14 dX11_addWord_34 (fun v8 hv => ?_)
      refine zz_gI S K Z hv zc_0 (by decide) gf_X11_54 dX11_addWord_37 (fun v9 hv => ?_)
      obtain ⟨hci, hv⟩ := zz_isO_s hv
      obtain ⟨v10, hq, hv⟩ := zz_bd hv
      refine zz_V [.ref (v7), .int ((0 : Int32)), .int (v9)] S K Z hci zc_1 rfl (c_X1_find v6 v7 (0 : Int32) v9 hq) ⟨rfl, rfl⟩ gm_X1_find gmv_X1_find gl_X11_78 ⟨by decide, by decide⟩ rfl hl.1 rfl (Nat.le_of_ble_eq_true rfl) dX11_addWord_40 ⟨Nat.zero_le _, Nat.zero_le _⟩ (fun H locs Z => ?_)
      show W _ _ _ _ _ _ _ _ _ _ _ _ 0 0 _ (F0 m 43 ls [.int (v10)])
      refine lv_istore_n (lv' := [(1, .int (v10)), (0, .ref (a0))]) S.1 S.2.1 dX11_addWord_43 rfl hl (by decide) rfl (fun ls hl => ?_)
      refine lv_iload_n S.1 S.2.1 dX11_addWord_44 rfl (lv_at hl 0 rfl) ?_
      refine lv_iconst (v := (-1 : Int32)) S.1 S.2.1 dX11_addWord_45 (by decide) ?_
      refine lv_icmp_eq (tgt := 53) S.1 S.2.1 dX11_addWord_46 (by decide) (fun hc => ?_) (fun hc => ?_)
      · replace hv := (if_pos hc).symm.trans hv
        refine lv_aload_n S.1 S.2.1 dX11_addWord_53 rfl (lv_at hl 1 rfl) ?_
        refine zz_gR S K Z hv zc_9 (by decide) gf_X11_25 dX11_addWord_54 (fun v11 hv => ?_)
        refine zz_gR S K Z hv zc_8 (by decide) gf_X11_74 dX11_addWord_57 (fun v12 hv => ?_)
        refine lv_aload_n S.1 S.2.1 dX11_addWord_60 rfl (lv_at hl 1 rfl) ?_
        refine zz_gR S K Z hv zc_9 (by decide) gf_X11_14 dX11_addWord_61 (fun v13 hv => ?_)
        obtain ⟨hci, hv⟩ := zz_isO_s hv
        obtain ⟨⟨v14, h15⟩, hq, hv⟩ := zz_bd hv
        refine zz_V [.ref (v13)] S K Z hci zc_1 rfl (c_X1_append v12 v13 hq) ⟨rfl, rfl⟩ gm_X1_append gmv_X1_append gl_X11_84 ⟨by decide, by decide⟩ rfl hl.1 rfl (Nat.le_of_ble_eq_true rfl) dX11_addWord_64 ⟨Nat.zero_le _, Nat.zero_le _⟩ (fun H locs Z => ?_)
        show W _ _ _ _ _ _ _ _ _ _ _ _ 0 0 _ (F0 m 67 ls [.int (v14)])
        replace hk := zz_fin hv hk
        obtain ⟨rfl, rfl⟩ := Prod.mk.inj (hR0 _ hk)
        exact zz_iret S Z hret hlk dX11_addWord_67 (Nat.le_refl _) (Nat.le_refl _)
      · replace hv := (if_neg hc).symm.trans hv
        refine lv_iload_n S.1 S.2.1 dX11_addWord_49 rfl (lv_at hl 0 rfl) ?_
        refine lv_goto (tgt := 67) S.1 S.2.1 dX11_addWord_50 (by decide) ?_
        replace hk := zz_fin hv hk
        obtain ⟨rfl, rfl⟩ := Prod.mk.inj (hR0 _ hk)
        exact zz_iret S Z hret hlk dX11_addWord_67 (Nat.le_refl _) (Nat.le_refl _)
    · replace hv := (if_neg hc).symm.trans hv
      refine lv_bipush (v := (-3 : Int32)) S.1 S.2.1 dX11_addWord_18 (by decide) ?_
      replace hk := zz_fin hv hk
      obtain ⟨rfl, rfl⟩ := Prod.mk.inj (hR0 _ hk)
      exact zz_iret S Z hret hlk dX11_addWord_20 (Nat.le_refl _) (Nat.le_refl _)
  rw [hH, hlo] at key
  exact key

noncomputable def f_X0_clear (h : ZH) (a0 : Nat) : Option (ZH) :=
  (zp_V h a0 0 1 (.int ((0 : Int32)))).bind fun h1 => some (h1)
abbrev rm_X0_clear : Room := { frames := 0, cells := 0, slots := 0, locals := 0 }
set_option maxRecDepth 100000 in
set_option maxHeartbeats 4000000 in
theorem c_X0_clear {l : Launch} {D : va_G} {dA : Nat → ClassId} {A : Nat → Prop} {h : ZH} {n : Nat} (a0 : Nat) {hx : ZH} (hf : f_X0_clear h a0 = some hx) : Met l yX0_clear (zz_ws yX0_clear cX0_clear 1 none) rm_X0_clear (zz_P D dA A h n [.ref (a0)]) (zz_Q D dA A (none) hx n) 0 0 A := by
  refine zz_met (by decide) (Nat.le_of_ble_eq_true rfl) ?_
  intro p e s m args below meth c ls S K hret hlk hnm hl Z
  replace hl : lv_has ls 1 [(0, .ref (a0))] := hl
  obtain ⟨K0, hR0, hk⟩ : ∃ K0 : (ZH) → Prop, (∀ x, K0 x → x = hx) ∧ K0 hx := ⟨fun x => x = hx, fun _ h => h, rfl⟩
  have hv := hf
  unfold f_X0_clear at hv
  clear hf
  obtain ⟨x, hxx⟩ : ∃ x, x = hx := ⟨_, rfl⟩
  rw [← hxx] at hv hk
  have ⟨H, hH⟩ : ∃ H, H = s.heap := ⟨_, rfl⟩
  have ⟨locs, hlo⟩ : ∃ q : List Loc, q = [] := ⟨_, rfl⟩
  have Z : zz_B D dA A h n s.heap H locs := by rw [hH, hlo]; exact Z
  have key : zz_W p l e rm_X0_clear s m args below meth c D dA A (none) hx n 0 0 H locs 0 0 0 ls [] := by
    clear hH hlo hxx
    refine lv_aload_n S.1 S.2.1 dX0_clear_0 rfl (lv_at hl 0 rfl) ?_
    refine lv_iconst (v := (0 : Int32)) S.1 S.2.1 dX0_clear_1 (by decide) ?_
    refine zz_put S K Z hv zc_0 (by decide) gf_X0_15 rfl rfl rfl dX0_clear_2 (fun h1 H locs hv Z => ?_)
    replace hk := zz_fin hv hk
    obtain rfl := hR0 _ hk
    exact zz_vret S Z hret hlk dX0_clear_5 (Nat.le_refl _) (Nat.le_refl _)
  rw [hH, hlo] at key
  exact key

noncomputable def f_X11_word (h : ZH) (a0 : Nat) : Option (Int32 × ZH) :=
  zz_isO h a0 9 <| (f_X11_addWord h a0).bind fun (v1, h2) => (zg_R h2 a0 9 0).bind fun v3 => zz_isO h2 v3 0 <| (f_X0_clear h2 v3).bind fun h4 => some ((v1, h4))
abbrev rm_X11_word : Room := { frames := 5, cells := 0, slots := 0, locals := 114 }
set_option maxRecDepth 100000 in
set_option maxHeartbeats 4000000 in
theorem c_X11_word {l : Launch} {D : va_G} {dA : Nat → ClassId} {A : Nat → Prop} {h : ZH} {n : Nat} (a0 : Nat) {r : Int32} {hx : ZH} (hf : f_X11_word h a0 = some (r, hx)) : Met l yX11_word (zz_ws yX11_word cX11_word 2 (some .int)) rm_X11_word (zz_P D dA A h n [.ref (a0)]) (zz_Q D dA A (some (.int r)) hx n) 0 0 A := by
  refine zz_met (by decide) (Nat.le_of_ble_eq_true rfl) ?_
  intro p e s m args below meth c ls S K hret hlk hnm hl Z
  replace hl : lv_has ls 2 [(0, .ref (a0))] := hl
  obtain ⟨K0, hR0, hk⟩ : ∃ K0 : (Int32 × ZH) → Prop, (∀ x, K0 x → x = (r, hx)) ∧ K0 (r, hx) := ⟨fun x => x = (r, hx), fun _ h => h, rfl⟩
  have hv := hf
  unfold f_X11_word at hv
  clear hf
  obtain ⟨x, hxx⟩ : ∃ x, x = (r, hx) := ⟨_, rfl⟩
  rw [← hxx] at hv hk
  have ⟨H, hH⟩ : ∃ H, H = s.heap := ⟨_, rfl⟩
  have ⟨locs, hlo⟩ : ∃ q : List Loc, q = [] := ⟨_, rfl⟩
  have Z : zz_B D dA A h n s.heap H locs := by rw [hH, hlo]; exact Z
  have key : zz_W p l e rm_X11_word s m args below meth c D dA A (some (.int r)) hx n 0 0 H locs 0 0 0 ls [] := by
    clear hH hlo hxx
    refine lv_aload_n S.1 S.2.1 dX11_word_0 rfl (lv_at hl 0 rfl) ?_
    obtain ⟨hci, hv⟩ := zz_isO_s hv
    obtain ⟨⟨v1, h2⟩, hq, hv⟩ := zz_bd hv
    refine zz_V [] S K Z hci zc_9 rfl (c_X11_addWord a0 hq) ⟨rfl, rfl⟩ gm_X11_addWord gmv_X11_addWord gl_X11_61 ⟨by decide, by decide⟩ rfl hl.1 rfl (Nat.le_of_ble_eq_true rfl) dX11_word_1 ⟨Nat.zero_le _, Nat.zero_le _⟩ (fun H locs Z => ?_)
    show W _ _ _ _ _ _ _ _ _ _ _ _ 0 0 _ (F0 m 4 ls [.int (v1)])
    refine lv_istore_n (lv' := [(1, .int (v1)), (0, .ref (a0))]) S.1 S.2.1 dX11_word_4 rfl hl (by decide) rfl (fun ls hl => ?_)
    refine lv_aload_n S.1 S.2.1 dX11_word_5 rfl (lv_at hl 1 rfl) ?_
    refine zz_gR S K Z hv zc_9 (by decide) gf_X11_14 dX11_word_6 (fun v3 hv => ?_)
    obtain ⟨hci, hv⟩ := zz_isO_s hv
    obtain ⟨h4, hq, hv⟩ := zz_bd hv
    refine zz_V [] S K Z hci zc_0 rfl (c_X0_clear v3 hq) ⟨rfl, rfl⟩ gm_X0_clear gmv_X0_clear gl_X11_65 ⟨by decide, by decide⟩ rfl hl.1 rfl (Nat.le_of_ble_eq_true rfl) dX11_word_9 ⟨Nat.zero_le _, Nat.zero_le _⟩ (fun H locs Z => ?_)
    show W _ _ _ _ _ _ _ _ _ _ _ _ 0 0 _ (F0 m 12 ls [])
    refine lv_iload_n S.1 S.2.1 dX11_word_12 rfl (lv_at hl 0 rfl) ?_
    replace hk := zz_fin hv hk
    obtain ⟨rfl, rfl⟩ := Prod.mk.inj (hR0 _ hk)
    exact zz_iret S Z hret hlk dX11_word_13 (Nat.le_refl _) (Nat.le_refl _)
  rw [hH, hlo] at key
  exact key

noncomputable def f_X2_isSign (h : ZH) (a0 : Int32) : Option (Int32) :=
  if a0 < (32 : Int32) then (some ((0 : Int32))) else (if (126 : Int32) < a0 then (some ((0 : Int32))) else (some ((1 : Int32))))
abbrev rm_X2_isSign : Room := { frames := 0, cells := 0, slots := 0, locals := 0 }
set_option maxRecDepth 100000 in
set_option maxHeartbeats 4000000 in
theorem c_X2_isSign {l : Launch} {D : va_G} {dA : Nat → ClassId} {A : Nat → Prop} {h : ZH} {n : Nat} (a0 : Int32) {r : Int32} (hf : f_X2_isSign h a0 = some r) : Met l yX2_isSign (zz_ws yX2_isSign cX2_isSign 1 (some .boolean)) rm_X2_isSign (zz_P D dA A h n [.int (a0)]) (zz_Q D dA A (some (.int r)) h n) 0 0 A := by
  refine zz_met (by decide) (Nat.le_of_ble_eq_true rfl) ?_
  intro p e s m args below meth c ls S K hret hlk hnm hl Z
  replace hl : lv_has ls 1 [(0, .int (a0))] := hl
  obtain ⟨K0, hR0, hk⟩ : ∃ K0 : (Int32) → Prop, (∀ x, K0 x → x = r) ∧ K0 r := ⟨fun x => x = r, fun _ h => h, rfl⟩
  have hv := hf
  unfold f_X2_isSign at hv
  clear hf
  obtain ⟨x, hxx⟩ : ∃ x, x = r := ⟨_, rfl⟩
  rw [← hxx] at hv hk
  have ⟨H, hH⟩ : ∃ H, H = s.heap := ⟨_, rfl⟩
  have ⟨locs, hlo⟩ : ∃ q : List Loc, q = [] := ⟨_, rfl⟩
  have Z : zz_B D dA A h n s.heap H locs := by rw [hH, hlo]; exact Z
  have key : zz_W p l e rm_X2_isSign s m args below meth c D dA A (some (.int r)) h n 0 0 H locs 0 0 0 ls [] := by
    clear hH hlo hxx
    refine lv_iload_n S.1 S.2.1 dX2_isSign_0 rfl (lv_at hl 0 rfl) ?_
    refine lv_bipush (v := (32 : Int32)) S.1 S.2.1 dX2_isSign_1 (by decide) ?_
    refine lv_icmp_lt (tgt := 16) S.1 S.2.1 dX2_isSign_3 (by decide) (fun hc => ?_) (fun hc => ?_)
    · replace hv := (if_pos hc).symm.trans hv
      refine lv_iconst (v := (0 : Int32)) S.1 S.2.1 dX2_isSign_16 (by decide) ?_
      replace hk := zz_fin hv hk
      obtain rfl := hR0 _ hk
      exact zz_zret S Z hret (by decide) hlk dX2_isSign_17 (Nat.le_refl _) (Nat.le_refl _)
    · replace hv := (if_neg hc).symm.trans hv
      refine lv_iload_n S.1 S.2.1 dX2_isSign_6 rfl (lv_at hl 0 rfl) ?_
      refine lv_bipush (v := (126 : Int32)) S.1 S.2.1 dX2_isSign_7 (by decide) ?_
      refine lv_icmp_gt (tgt := 16) S.1 S.2.1 dX2_isSign_9 (by decide) (fun hc => ?_) (fun hc => ?_)
      · replace hv := (if_pos hc).symm.trans hv
        refine lv_iconst (v := (0 : Int32)) S.1 S.2.1 dX2_isSign_16 (by decide) ?_
        replace hk := zz_fin hv hk
        obtain rfl := hR0 _ hk
        exact zz_zret S Z hret (by decide) hlk dX2_isSign_17 (Nat.le_refl _) (Nat.le_refl _)
      · replace hv := (if_neg hc).symm.trans hv
        refine lv_iconst (v := (1 : Int32)) S.1 S.2.1 dX2_isSign_12 (by decide) ?_
        refine lv_goto (tgt := 17) S.1 S.2.1 dX2_isSign_13 (by decide) ?_
        replace hk := zz_fin hv hk
        obtain rfl := hR0 _ hk
        exact zz_zret S Z hret (by decide) hlk dX2_isSign_17 (Nat.le_refl _) (Nat.le_refl _)
  rw [hH, hlo] at key
  exact key

noncomputable def f_X2_signsEnd_L2 (h : ZH) (a0 : Nat) (a1 : Int32) (x2_1 : Int32)  : Option ((Int32) ⊕ (Int32)) :=
  (zg_I h a0 0 1).bind fun v2 => if v2 ≤ x2_1 then ((some (x2_1)).map Sum.inr) else (zz_isO h a0 0 <| (f_X0_at h a0 x2_1).bind fun v3 => (f_X2_isSign h v3).bind fun v4 => if v4 = 0 then ((some (x2_1)).map Sum.inr) else (some (.inl (x2_1 + (1 : Int32)))))
noncomputable def f_X2_signsEnd (h : ZH) (a0 : Nat) (a1 : Int32) : Option (Int32) :=
  zz_loop (fun st : (Int32) => f_X2_signsEnd_L2 h a0 a1 (st)) (a1)
abbrev rm_X2_signsEnd : Room := { frames := 1, cells := 0, slots := 0, locals := 21 }
set_option maxRecDepth 100000 in
set_option maxHeartbeats 4000000 in
theorem c_X2_signsEnd {l : Launch} {D : va_G} {dA : Nat → ClassId} {A : Nat → Prop} {h : ZH} {n : Nat} (a0 : Nat) (a1 : Int32) {r : Int32} (hf : f_X2_signsEnd h a0 a1 = some r) : Met l yX2_signsEnd (zz_ws yX2_signsEnd cX2_signsEnd 3 (some .int)) rm_X2_signsEnd (zz_P D dA A h n [.ref (a0), .int (a1)]) (zz_Q D dA A (some (.int r)) h n) 0 0 A := by
  refine zz_met (by decide) (Nat.le_of_ble_eq_true rfl) ?_
  intro p e s m args below meth c ls S K hret hlk hnm hl Z
  replace hl : lv_has ls 3 [(0, .ref (a0)), (1, .int (a1))] := hl
  obtain ⟨K0, hR0, hk⟩ : ∃ K0 : (Int32) → Prop, (∀ x, K0 x → x = r) ∧ K0 r := ⟨fun x => x = r, fun _ h => h, rfl⟩
  have L2 : ∀ (st : (Int32)) (x : (Int32)), zz_loop (fun st : (Int32) => f_X2_signsEnd_L2 h a0 a1 (st)) st = some x → K0 x → (fun st : (Int32) => ∀ (H : Heap) (locs : List Loc) (ls : Array Slot), zz_B D dA A h n s.heap H locs → lv_has ls 3 [(0, .ref (a0)), (2, .int ((st)))] → zz_W p l e rm_X2_signsEnd s m args below meth c D dA A (some (.int r)) h n 0 0 H locs 0 0 2 ls []) st := by
    refine zz_loop_go (K := K0) ?_
    intro K1 hP1 hR1
    rintro x2_1 x hv hk H locs ls Z hl
    replace hv : f_X2_signsEnd_L2 h a0 a1 x2_1 = some x := hv
    unfold f_X2_signsEnd_L2 at hv
    replace hl : lv_has ls 3 [(0, .ref (a0)), (2, .int (x2_1))] := hl
    replace Z : zz_B D dA A h n s.heap H locs := Z
    show zz_W p l e rm_X2_signsEnd s m args below meth c D dA A (some (.int r)) h n 0 0 H locs 0 0 2 ls []
    refine lv_iload_n S.1 S.2.1 dX2_signsEnd_2 rfl (lv_at hl 1 rfl) ?_
    refine lv_aload_n S.1 S.2.1 dX2_signsEnd_3 rfl (lv_at hl 0 rfl) ?_
    refine zz_gI S K Z hv zc_0 (by decide) gf_X2_9 dX2_signsEnd_4 (fun v2 hv => ?_)
    refine lv_icmp_ge (tgt := 27) S.1 S.2.1 dX2_signsEnd_7 (by decide) (fun hc => ?_) (fun hc => ?_)
    · replace hv := (if_pos hc).symm.trans hv
      obtain ⟨_, hv, hk⟩ := zz_mapk hv hk
      replace hk := hR1 _ hk
      refine lv_iload_n S.1 S.2.1 dX2_signsEnd_27 rfl (lv_at hl 1 rfl) ?_
      replace hk := zz_fin hv hk
      obtain rfl := hR0 _ hk
      exact zz_iret S Z hret hlk dX2_signsEnd_28 (Nat.le_refl _) (Nat.le_refl _)
    · replace hv := (if_neg hc).symm.trans hv
      refine lv_aload_n S.1 S.2.1 dX2_signsEnd_10 rfl (lv_at hl 0 rfl) ?_
      refine lv_iload_n S.1 S.2.1 dX2_signsEnd_11 rfl (lv_at hl 1 rfl) ?_
      obtain ⟨hci, hv⟩ := zz_isO_s hv
      obtain ⟨v3, hq, hv⟩ := zz_bd hv
      refine zz_V [.int (x2_1)] S K Z hci zc_0 rfl (c_X0_at a0 x2_1 hq) ⟨rfl, rfl⟩ gm_X0_at gmv_X0_at gl_X2_15 ⟨by decide, by decide⟩ rfl hl.1 rfl (Nat.le_of_ble_eq_true rfl) dX2_signsEnd_12 ⟨Nat.zero_le _, Nat.zero_le _⟩ (fun H locs Z => ?_)
      show W _ _ _ _ _ _ _ _ _ _ _ _ 0 0 _ (F0 m 15 ls [.int (v3)])
      obtain ⟨v4, hq, hv⟩ := zz_bd hv
      refine zz_S [.int (v3)] S K Z (c_X2_isSign v3 hq) ⟨rfl, rfl⟩ gm_X2_isSign gs_X2_isSign gl_X2_19 ⟨by decide, by decide⟩ rfl hl.1 rfl (Nat.le_of_ble_eq_true rfl) dX2_signsEnd_15 ⟨Nat.zero_le _, Nat.zero_le _⟩ (fun H locs Z => ?_)
      show W _ _ _ _ _ _ _ _ _ _ _ _ 0 0 _ (F0 m 18 ls [.int (v4)])
      refine lv_if_eq (tgt := 27) S.1 S.2.1 dX2_signsEnd_18 (by decide) (fun hc => ?_) (fun hc => ?_)
      · replace hv := (if_pos hc).symm.trans hv
        obtain ⟨_, hv, hk⟩ := zz_mapk hv hk
        replace hk := hR1 _ hk
        refine lv_iload_n S.1 S.2.1 dX2_signsEnd_27 rfl (lv_at hl 1 rfl) ?_
        replace hk := zz_fin hv hk
        obtain rfl := hR0 _ hk
        exact zz_iret S Z hret hlk dX2_signsEnd_28 (Nat.le_refl _) (Nat.le_refl _)
      · replace hv := (if_neg hc).symm.trans hv
        refine lv_iinc (v := x2_1 + (1 : Int32)) (lv' := [(2, .int (x2_1 + (1 : Int32))), (0, .ref (a0))]) S.1 S.2.1 dX2_signsEnd_21 hl (k := 1) rfl rfl (by decide) rfl (fun ls hl => ?_)
        refine lv_goto (tgt := 2) S.1 S.2.1 dX2_signsEnd_24 (by decide) ?_
        replace hk := zz_fin hv hk
        exact hP1 _ hk H locs ls Z (lv_sub hl [1, 0] rfl)
  have hv := hf
  unfold f_X2_signsEnd at hv
  clear hf
  obtain ⟨x, hxx⟩ : ∃ x, x = r := ⟨_, rfl⟩
  rw [← hxx] at hv hk
  have ⟨H, hH⟩ : ∃ H, H = s.heap := ⟨_, rfl⟩
  have ⟨locs, hlo⟩ : ∃ q : List Loc, q = [] := ⟨_, rfl⟩
  have Z : zz_B D dA A h n s.heap H locs := by rw [hH, hlo]; exact Z
  have key : zz_W p l e rm_X2_signsEnd s m args below meth c D dA A (some (.int r)) h n 0 0 H locs 0 0 0 ls [] := by
    clear hH hlo hxx
    refine lv_iload_n S.1 S.2.1 dX2_signsEnd_0 rfl (lv_at hl 1 rfl) ?_
    refine lv_istore_n (lv' := [(2, .int (a1)), (0, .ref (a0)), (1, .int (a1))]) S.1 S.2.1 dX2_signsEnd_1 rfl hl (by decide) rfl (fun ls hl => ?_)
    exact L2  (a1) _ hv hk H locs ls Z (lv_sub hl [1, 0] rfl)
  rw [hH, hlo] at key
  exact key

noncomputable def f_X11_addText (h : ZH) (a0 : Nat) : Option (Int32 × ZH) :=
  (zg_R h a0 9 0).bind fun v1 => (zg_I h v1 0 1).bind fun v2 => if (20 : Int32) < v2 then (some (((-3 : Int32), h))) else ((zg_R h a0 9 0).bind fun v3 => (f_X2_signsEnd h v3 (0 : Int32)).bind fun v4 => (zg_R h a0 9 0).bind fun v5 => (zg_I h v5 0 1).bind fun v6 => if v4 = v6 then ((zg_R h a0 9 1).bind fun v7 => (zg_R h v7 8 1).bind fun v8 => (zg_R h a0 9 0).bind fun v9 => zz_isO h v8 1 <| (f_X1_append h v8 v9).bind fun (v10, h11) => some ((v10, h11))) else (some (((-3 : Int32), h))))
abbrev rm_X11_addText : Room := { frames := 2, cells := 0, slots := 0, locals := 45 }
set_option maxRecDepth 100000 in
set_option maxHeartbeats 4000000 in
theorem c_X11_addText {l : Launch} {D : va_G} {dA : Nat → ClassId} {A : Nat → Prop} {h : ZH} {n : Nat} (a0 : Nat) {r : Int32} {hx : ZH} (hf : f_X11_addText h a0 = some (r, hx)) : Met l yX11_addText (zz_ws yX11_addText cX11_addText 1 (some .int)) rm_X11_addText (zz_P D dA A h n [.ref (a0)]) (zz_Q D dA A (some (.int r)) hx n) 0 0 A := by
  refine zz_met (by decide) (Nat.le_of_ble_eq_true rfl) ?_
  intro p e s m args below meth c ls S K hret hlk hnm hl Z
  replace hl : lv_has ls 1 [(0, .ref (a0))] := hl
  obtain ⟨K0, hR0, hk⟩ : ∃ K0 : (Int32 × ZH) → Prop, (∀ x, K0 x → x = (r, hx)) ∧ K0 (r, hx) := ⟨fun x => x = (r, hx), fun _ h => h, rfl⟩
  have hv := hf
  unfold f_X11_addText at hv
  clear hf
  obtain ⟨x, hxx⟩ : ∃ x, x = (r, hx) := ⟨_, rfl⟩
  rw [← hxx] at hv hk
  have ⟨H, hH⟩ : ∃ H, H = s.heap := ⟨_, rfl⟩
  have ⟨locs, hlo⟩ : ∃ q : List Loc, q = [] := ⟨_, rfl⟩
  have Z : zz_B D dA A h n s.heap H locs := by rw [hH, hlo]; exact Z
  have key : zz_W p l e rm_X11_addText s m args below meth c D dA A (some (.int r)) hx n 0 0 H locs 0 0 0 ls [] := by
    clear hH hlo hxx
    refine lv_aload_n S.1 S.2.1 dX11_addText_0 rfl (lv_at hl 0 rfl) ?_
    refine zz_gR S K Z hv zc_9 (by decide) gf_X11_14 dX11_addText_1 (fun v1 hv => ?_)
    refine zz_gI S K Z hv zc_0 (by decide) gf_X11_54 dX11_addText_4 (fun v2 hv => ?_)
    refine lv_bipush (v := (20 : Int32)) S.1 S.2.1 dX11_addText_7 (by decide) ?_
    refine lv_icmp_gt (tgt := 30) S.1 S.2.1 dX11_addText_9 (by decide) (fun hc => ?_) (fun hc => ?_)
    · replace hv := (if_pos hc).symm.trans hv
      refine lv_bipush (v := (-3 : Int32)) S.1 S.2.1 dX11_addText_30 (by decide) ?_
      replace hk := zz_fin hv hk
      obtain ⟨rfl, rfl⟩ := Prod.mk.inj (hR0 _ hk)
      exact zz_iret S Z hret hlk dX11_addText_32 (Nat.le_refl _) (Nat.le_refl _)
    · replace hv := (if_neg hc).symm.trans hv
      refine lv_aload_n S.1 S.2.1 dX11_addText_12 rfl (lv_at hl 0 rfl) ?_
      refine zz_gR S K Z hv zc_9 (by decide) gf_X11_14 dX11_addText_13 (fun v3 hv => ?_)
      refine lv_iconst (v := (0 : Int32)) S.1 S.2.1 dX11_addText_16 (by decide) ?_
      obtain ⟨v4, hq, hv⟩ := zz_bd hv
      refine zz_S [.ref (v3), .int ((0 : Int32))] S K Z (c_X2_signsEnd v3 (0 : Int32) hq) ⟨rfl, rfl⟩ gm_X2_signsEnd gs_X2_signsEnd gl_X11_90 ⟨by decide, by decide⟩ rfl hl.1 rfl (Nat.le_of_ble_eq_true rfl) dX11_addText_17 ⟨Nat.zero_le _, Nat.zero_le _⟩ (fun H locs Z => ?_)
      show W _ _ _ _ _ _ _ _ _ _ _ _ 0 0 _ (F0 m 20 ls [.int (v4)])
      refine lv_aload_n S.1 S.2.1 dX11_addText_20 rfl (lv_at hl 0 rfl) ?_
      refine zz_gR S K Z hv zc_9 (by decide) gf_X11_14 dX11_addText_21 (fun v5 hv => ?_)
      refine zz_gI S K Z hv zc_0 (by decide) gf_X11_54 dX11_addText_24 (fun v6 hv => ?_)
      refine lv_icmp_eq (tgt := 33) S.1 S.2.1 dX11_addText_27 (by decide) (fun hc => ?_) (fun hc => ?_)
      · replace hv := (if_pos hc).symm.trans hv
        refine lv_aload_n S.1 S.2.1 dX11_addText_33 rfl (lv_at hl 0 rfl) ?_
        refine zz_gR S K Z hv zc_9 (by decide) gf_X11_25 dX11_addText_34 (fun v7 hv => ?_)
        refine zz_gR S K Z hv zc_8 (by decide) gf_X11_93 dX11_addText_37 (fun v8 hv => ?_)
        refine lv_aload_n S.1 S.2.1 dX11_addText_40 rfl (lv_at hl 0 rfl) ?_
        refine zz_gR S K Z hv zc_9 (by decide) gf_X11_14 dX11_addText_41 (fun v9 hv => ?_)
        obtain ⟨hci, hv⟩ := zz_isO_s hv
        obtain ⟨⟨v10, h11⟩, hq, hv⟩ := zz_bd hv
        refine zz_V [.ref (v9)] S K Z hci zc_1 rfl (c_X1_append v8 v9 hq) ⟨rfl, rfl⟩ gm_X1_append gmv_X1_append gl_X11_84 ⟨by decide, by decide⟩ rfl hl.1 rfl (Nat.le_of_ble_eq_true rfl) dX11_addText_44 ⟨Nat.zero_le _, Nat.zero_le _⟩ (fun H locs Z => ?_)
        show W _ _ _ _ _ _ _ _ _ _ _ _ 0 0 _ (F0 m 47 ls [.int (v10)])
        replace hk := zz_fin hv hk
        obtain ⟨rfl, rfl⟩ := Prod.mk.inj (hR0 _ hk)
        exact zz_iret S Z hret hlk dX11_addText_47 (Nat.le_refl _) (Nat.le_refl _)
      · replace hv := (if_neg hc).symm.trans hv
        refine lv_bipush (v := (-3 : Int32)) S.1 S.2.1 dX11_addText_30 (by decide) ?_
        replace hk := zz_fin hv hk
        obtain ⟨rfl, rfl⟩ := Prod.mk.inj (hR0 _ hk)
        exact zz_iret S Z hret hlk dX11_addText_32 (Nat.le_refl _) (Nat.le_refl _)
  rw [hH, hlo] at key
  exact key

noncomputable def f_X11_text (h : ZH) (a0 : Nat) : Option (Int32 × ZH) :=
  zz_isO h a0 9 <| (f_X11_addText h a0).bind fun (v1, h2) => (zg_R h2 a0 9 0).bind fun v3 => zz_isO h2 v3 0 <| (f_X0_clear h2 v3).bind fun h4 => some ((v1, h4))
abbrev rm_X11_text : Room := { frames := 3, cells := 0, slots := 0, locals := 65 }
set_option maxRecDepth 100000 in
set_option maxHeartbeats 4000000 in
theorem c_X11_text {l : Launch} {D : va_G} {dA : Nat → ClassId} {A : Nat → Prop} {h : ZH} {n : Nat} (a0 : Nat) {r : Int32} {hx : ZH} (hf : f_X11_text h a0 = some (r, hx)) : Met l yX11_text (zz_ws yX11_text cX11_text 2 (some .int)) rm_X11_text (zz_P D dA A h n [.ref (a0)]) (zz_Q D dA A (some (.int r)) hx n) 0 0 A := by
  refine zz_met (by decide) (Nat.le_of_ble_eq_true rfl) ?_
  intro p e s m args below meth c ls S K hret hlk hnm hl Z
  replace hl : lv_has ls 2 [(0, .ref (a0))] := hl
  obtain ⟨K0, hR0, hk⟩ : ∃ K0 : (Int32 × ZH) → Prop, (∀ x, K0 x → x = (r, hx)) ∧ K0 (r, hx) := ⟨fun x => x = (r, hx), fun _ h => h, rfl⟩
  have hv := hf
  unfold f_X11_text at hv
  clear hf
  obtain ⟨x, hxx⟩ : ∃ x, x = (r, hx) := ⟨_, rfl⟩
  rw [← hxx] at hv hk
  have ⟨H, hH⟩ : ∃ H, H = s.heap := ⟨_, rfl⟩
  have ⟨locs, hlo⟩ : ∃ q : List Loc, q = [] := ⟨_, rfl⟩
  have Z : zz_B D dA A h n s.heap H locs := by rw [hH, hlo]; exact Z
  have key : zz_W p l e rm_X11_text s m args below meth c D dA A (some (.int r)) hx n 0 0 H locs 0 0 0 ls [] := by
    clear hH hlo hxx
    refine lv_aload_n S.1 S.2.1 dX11_text_0 rfl (lv_at hl 0 rfl) ?_
    obtain ⟨hci, hv⟩ := zz_isO_s hv
    obtain ⟨⟨v1, h2⟩, hq, hv⟩ := zz_bd hv
    refine zz_V [] S K Z hci zc_9 rfl (c_X11_addText a0 hq) ⟨rfl, rfl⟩ gm_X11_addText gmv_X11_addText gl_X11_87 ⟨by decide, by decide⟩ rfl hl.1 rfl (Nat.le_of_ble_eq_true rfl) dX11_text_1 ⟨Nat.zero_le _, Nat.zero_le _⟩ (fun H locs Z => ?_)
    show W _ _ _ _ _ _ _ _ _ _ _ _ 0 0 _ (F0 m 4 ls [.int (v1)])
    refine lv_istore_n (lv' := [(1, .int (v1)), (0, .ref (a0))]) S.1 S.2.1 dX11_text_4 rfl hl (by decide) rfl (fun ls hl => ?_)
    refine lv_aload_n S.1 S.2.1 dX11_text_5 rfl (lv_at hl 1 rfl) ?_
    refine zz_gR S K Z hv zc_9 (by decide) gf_X11_14 dX11_text_6 (fun v3 hv => ?_)
    obtain ⟨hci, hv⟩ := zz_isO_s hv
    obtain ⟨h4, hq, hv⟩ := zz_bd hv
    refine zz_V [] S K Z hci zc_0 rfl (c_X0_clear v3 hq) ⟨rfl, rfl⟩ gm_X0_clear gmv_X0_clear gl_X11_65 ⟨by decide, by decide⟩ rfl hl.1 rfl (Nat.le_of_ble_eq_true rfl) dX11_text_9 ⟨Nat.zero_le _, Nat.zero_le _⟩ (fun H locs Z => ?_)
    show W _ _ _ _ _ _ _ _ _ _ _ _ 0 0 _ (F0 m 12 ls [])
    refine lv_iload_n S.1 S.2.1 dX11_text_12 rfl (lv_at hl 0 rfl) ?_
    replace hk := zz_fin hv hk
    obtain ⟨rfl, rfl⟩ := Prod.mk.inj (hR0 _ hk)
    exact zz_iret S Z hret hlk dX11_text_13 (Nat.le_refl _) (Nat.le_refl _)
  rw [hH, hlo] at key
  exact key
