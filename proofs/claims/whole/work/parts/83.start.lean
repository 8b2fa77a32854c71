/-! ===== the start of the law ===== -/
theorem AK1 {args : Array Value} {s : State} {ty : FieldType} (hp : ∀ C, ty ≠ .object C) (h : (Cond.arrayClass ty).before args s = true) : ∃ c, ArrOfT s c ty ∧ va_RA s c ty := by
  obtain ⟨c, k, comp, h1, h2, h3⟩ := Cond.arrayClass_spec h
  refine ⟨c, fun n z => ⟨fun k h => (by cases h), k, h2, comp, h3⟩, ?_⟩
  cases ty with
  | object C => exact absurd rfl (hp C)
  | _ => exact h1
theorem AK2 {args : Array Value} {s : State} {C : String} (h : (Cond.arrayOver (.object C)).before args s = true) : ∃ c, ArrOfT s c (.object C) ∧ va_RA s c (.object C) := by
  obtain ⟨comp, c, k, h1, h2, h3, h4, h5⟩ := Cond.arrayOver_spec h
  exact ⟨c, fun n z => ⟨fun k h => (by cases h), k, h3, comp, h4⟩, k, comp, h3, h4, h1, h5⟩
set_option maxRecDepth 100000 in
set_option maxHeartbeats 4000000 in
theorem K_start {s : State} {args : Array Value} (hts : ∀ w ∈ lw_tbl, w.before args s = true) : ∃ (D : va_G) (dA : Nat → ClassId), zz_K D dA s := by
  have hG : ∀ w ∈ GW, w.before args s = true := fun w hw => hts w (GW_tbl hw)
  obtain ⟨c0, i0, hK0⟩ := u_known (C := RX0) (T := TX0) (N := 2) (n := 2) hG zcw_0 (hG _ gn_X0)
  obtain ⟨c1, i1, hK1⟩ := u_known (C := RX1) (T := TX1) (N := 4) (n := 4) hG zcw_1 (hG _ gn_X1)
  obtain ⟨c2, i2, hK2⟩ := u_known (C := RX3) (T := TX3) (N := 3) (n := 3) hG zcw_2 (hG _ gn_X3)
  obtain ⟨c3, i3, hK3⟩ := u_known (C := RX4) (T := TX4) (N := 5) (n := 5) hG zcw_3 (hG _ gn_X4)
  obtain ⟨c4, i4, hK4⟩ := u_known (C := RX6) (T := TX6) (N := 9) (n := 9) hG zcw_4 (hG _ gn_X6)
  obtain ⟨c5, i5, hK5⟩ := u_known (C := RX7) (T := TX7) (N := 8) (n := 8) hG zcw_5 (hG _ gn_X7)
  obtain ⟨c6, i6, hK6⟩ := u_known (C := RX8) (T := TX8) (N := 6) (n := 6) hG zcw_6 (hG _ gn_X8)
  obtain ⟨c7, i7, hK7⟩ := u_known (C := RX9) (T := TX9) (N := 6) (n := 6) hG zcw_7 (hG _ gn_X9)
  obtain ⟨c8, i8, hK8⟩ := u_known (C := RX10) (T := TX10) (N := 6) (n := 6) hG zcw_8 (hG _ gn_X10)
  obtain ⟨c9, i9, hK9⟩ := u_known (C := RX11) (T := TX11) (N := 7) (n := 7) hG zcw_9 (hG _ gn_X11)
  obtain ⟨c10, i10, hK10⟩ := u_known (C := RX12) (T := TX12) (N := 40) (n := 40) hG zcw_10 (hG _ gn_X12)
  obtain ⟨a0, hA0⟩ := AK1 (ty := .byte) (fun C h => by cases h) (hG _ ga_byte)
  obtain ⟨a1, hA1⟩ := AK1 (ty := .int) (fun C h => by cases h) (hG _ ga_int)
  obtain ⟨a2, hA2⟩ := AK1 (ty := .boolean) (fun C h => by cases h) (hG _ ga_boolean)
  obtain ⟨a3, hA3⟩ := AK1 (ty := .long) (fun C h => by cases h) (hG _ ga_long)
  have hO4 : (Cond.arrayOver (.object RX0)).before args s = true := hts _ (List.mem_of_getElem? (i := 86) (by decide +kernel))
  obtain ⟨a4, hA4⟩ := AK2 hO4
  have hO5 : (Cond.arrayOver (.object RX3)).before args s = true := hts _ (List.mem_of_getElem? (i := 118) (by decide +kernel))
  obtain ⟨a5, hA5⟩ := AK2 hO5
  have hO6 : (Cond.arrayOver (.object RX4)).before args s = true := hts _ (List.mem_of_getElem? (i := 281) (by decide +kernel))
  obtain ⟨a6, hA6⟩ := AK2 hO6
  have hO7 : (Cond.arrayOver (.object RX6)).before args s = true := hts _ (List.mem_of_getElem? (i := 116) (by decide +kernel))
  obtain ⟨a7, hA7⟩ := AK2 hO7
  refine ⟨(fun k => if k = 0 then c0 else if k = 1 then c1 else if k = 2 then c2 else if k = 3 then c3 else if k = 4 then c4 else if k = 5 then c5 else if k = 6 then c6 else if k = 7 then c7 else if k = 8 then c8 else if k = 9 then c9 else c10, fun k => if k = 0 then i0 else if k = 1 then i1 else if k = 2 then i2 else if k = 3 then i3 else if k = 4 then i4 else if k = 5 then i5 else if k = 6 then i6 else if k = 7 then i7 else if k = 8 then i8 else if k = 9 then i9 else i10), fun k => if k = 0 then a0 else if k = 1 then a1 else if k = 2 then a2 else if k = 3 then a3 else if k = 4 then a4 else if k = 5 then a5 else if k = 6 then a6 else a7, ⟨?_, ?_⟩, ?_, va_AO.of hO4, va_AO.of hO5, va_AO.of hO6, va_AO.of hO7⟩
  · intro k q hq
    match k, hq with
    | 0, hq => cases hq; exact hK0
    | 1, hq => cases hq; exact hK1
    | 2, hq => cases hq; exact hK2
    | 3, hq => cases hq; exact hK3
    | 4, hq => cases hq; exact hK4
    | 5, hq => cases hq; exact hK5
    | 6, hq => cases hq; exact hK6
    | 7, hq => cases hq; exact hK7
    | 8, hq => cases hq; exact hK8
    | 9, hq => cases hq; exact hK9
    | 10, hq => cases hq; exact hK10
    | k + 11, hq => simp [vwCl] at hq
  · intro k q hq
    match k, hq with
    | 0, hq => cases hq; exact hA0
    | 1, hq => cases hq; exact hA1
    | 2, hq => cases hq; exact hA2
    | 3, hq => cases hq; exact hA3
    | 4, hq => cases hq; exact hA4
    | 5, hq => cases hq; exact hA5
    | 6, hq => cases hq; exact hA6
    | 7, hq => cases hq; exact hA7
    | k + 8, hq => simp [zz_T] at hq
  · refine List.forall_mem_cons.mpr ⟨va_Nw.of (A := args) rfl (hts _ (List.mem_of_getElem? (i := 120) (by decide +kernel))), List.forall_mem_cons.mpr ⟨va_Nw.of (A := args) rfl (hts _ (List.mem_of_getElem? (i := 162) (by decide +kernel))), List.forall_mem_cons.mpr ⟨va_Nw.of (A := args) rfl (hts _ (List.mem_of_getElem? (i := 212) (by decide +kernel))), List.forall_mem_cons.mpr ⟨va_Nw.of (A := args) rfl (hts _ (List.mem_of_getElem? (i := 282) (by decide +kernel))), List.forall_mem_cons.mpr ⟨va_Nw.of (A := args) rfl (hts _ (List.mem_of_getElem? (i := 319) (by decide +kernel))), fun _ h => absurd h List.not_mem_nil⟩⟩⟩⟩⟩
section
variable {l : Launch} {D : va_G} {dA : Nat → ClassId} {A : Nat → Prop} {h : ZH} {n b0 L : Nat} {xs : Nat → Int32}
def cl_P (D : va_G) (dA : Nat → ClassId) (A : Nat → Prop) (h : ZH) (n b0 L : Nat) (xs : Nat → Int32) : Array Value → State → Prop := fun v U => v = [Value.ref b0, .int 0].toArray ∧ zz_K D dA U ∧ zz_H D dA A h n U.heap ∧ va_X b0 L xs U U.heap ∧ b0 < U.heap.size
theorem cl_P.blind : FrameBlind (cl_P D dA A h n b0 L xs) := by
  intro a U g mk hp
  obtain ⟨h1, h2, h3, h4, h5⟩ := hp
  exact ⟨h1, zz_K.same (s := U) (U := U.calling g mk a) rfl h2, h3, va_X.moved (u := U) (U := U.calling g mk a) (Vm.Alike.refl U.vm) h4, h5⟩
/-- the first int of the script -/
def cell0 (L : Nat) (xs : Nat → Int32) : Int32 := if L = 0 then 0 else xs 0
set_option maxRecDepth 100000 in
theorem c_cell0 (hL : L ≤ 5121) (hbA : ¬ A b0) : Met l yL_cell (zz_ws yL_cell cL_cell 2 (some .int)) rm_L_cell (cl_P D dA A h n b0 L xs) (zz_Q D dA A (some (.int (cell0 L xs))) h n) 0 0 A := by
  refine Met.ofW (cc := cL_cell) (maxL := 2) (ret := some .int) (by decide) rfl ?_
  intro p e s m args below meth c s₁ B hml hv
  obtain ⟨rfl, hK, hH, hX, hbl⟩ := hv
  have hts := atoms_spec (ws := zz_ws yL_cell cL_cell 2 (some .int)) B.pre
  have hown : s.vm.findClass yL_cell.cls = some m.cls := findClass_of_methodNamed B.named
  have S9 : CallFix p m c cL_cell 2 s [Value.ref b0, .int 0].toArray GW yL_cell.cls := ⟨B.exec, B.bytes, hml, hown, fun w hw => hts w (List.mem_cons_of_mem _ hw)⟩
  have Z : zz_B D dA A h n s.heap s.heap [] := ⟨hH, va_S.rf⟩
  have hl := lv_entry [Value.ref b0, .int 0] (n := 2) (Nat.le_of_ble_eq_true rfl)
  rw [lg_entry_eq]
  generalize (lg_sl [Value.ref b0, .int 0] ++ List.replicate (2 - (lg_sl [Value.ref b0, .int 0]).length) Slot.unset).toArray = ls at hl ⊢
  have hl : lv_has ls 2 [(0, .ref b0), (1, .int 0)] := hl
  refine lv_iload_n S9.1 S9.2.1 dL_cell_0 rfl (lv_at hl 1 rfl) ?_
  refine lv_aload_n S9.1 S9.2.1 dL_cell_1 rfl (lv_at hl 0 rfl) ?_
  refine va_slen S9.1 S9.2.1 hX hbl hbA Z.2 dL_cell_2 ?_
  refine lv_icmp_ge (tgt := 12) S9.1 S9.2.1 dL_cell_3 (by decide) (fun hc => ?_) (fun hc => ?_)
  · have h0 : L = 0 := by
      have := (zi_leL (a := L) (k := 0) (by omega) (by decide)).mp hc
      have h9 : L ≤ 0 := this
      omega
    refine lv_iconst (v := 0) S9.1 S9.2.1 dL_cell_12 (by decide) ?_
    rw [show cell0 L xs = 0 from if_pos h0]
    exact zz_iret S9 Z B.returns B.notSynchronized dL_cell_13 (Nat.le_refl _) (Nat.le_refl _)
  · have h0 : ¬ L = 0 := fun q => hc (by rw [q]; decide)
    refine lv_aload_n S9.1 S9.2.1 dL_cell_6 rfl (lv_at hl 0 rfl) ?_
    refine lv_iload_n S9.1 S9.2.1 dL_cell_7 rfl (lv_at hl 1 rfl) ?_
    refine va_sld S9.1 S9.2.1 hX hbl hbA Z.2 (i := 0) (fun q => q.elim (by decide) (fun q => h0 (by have : L ≤ 0 := q; omega))) dL_cell_8 ?_
    refine lv_goto (tgt := 13) S9.1 S9.2.1 dL_cell_9 (by decide) ?_
    rw [show cell0 L xs = xs 0 from if_neg h0]
    exact zz_iret S9 Z B.returns B.notSynchronized dL_cell_13 (Nat.le_refl _) (Nat.le_refl _)
end
theorem HG_nil {m : Nat} {g : ZH} : HG m [] g = g := by
  funext q
  unfold HG
  rw [if_neg (by simp)]
theorem HG_one {m : Nat} {g : ZH} {c : ZC} : va_up g m (some c) = HG m [c] g := by
  have := HG_new (m := m) (n := m) (l := []) (g := g) (c := c) (by simp)
  rw [HG_nil] at this
  exact this
theorem HH_start {b : Nat} {S V : Nat → Nat → Int32} {Q : Nat → Option Nat} {g : ZH} {Sm : Nat → Int32} {Vm : Nat → Nat → Int32} {lo : Nat → Int64} : va_up (Rm (b + 73) Sm Vm (Cl b S V Q g)) (b + 100) (some (.inl (3, 1, .inr (.inl lo)))) = HH b S V Q Sm Vm lo g := by
  rw [HH_m, Rm_up (by omega), Cl_up (by omega)]
  rfl
section
variable {p : Program} {l : Launch} {e : Env} {s : State} {m : MethodId} {below : List Frame} {meth : Method} {c : Code} {b0 L : Nat} {xs : Nat → Int32}
set_option maxRecDepth 100000 in
set_option maxHeartbeats 4000000 in
theorem start_0 (hL : L ≤ 5121) (C0 : lw_At p s m meth c b0 L xs) (hsh : ∀ (D : va_G) (dA : Nat → ClassId) (b k : Nat) (S V : Nat → Nat → Int32) (Q : Nat → Option Nat) (Sm : Nat → Int32) (Vm : Nat → Nat → Int32) (lo : Nat → Int64) (g : ZH) (n : Nat) (H : Heap) (locs : List Loc) (cells slots : Nat) (ls : Array Slot), LC p s m c D dA b0 L xs → 1 + 10 * k + 10 ≤ L → k < 512 → LI s D dA b S V Q Sm Vm lo g n H locs cells slots k → lv_has ls 7 [(0, .ref b0), (1, .ref b), (2, .ref (b + 73)), (3, .ref (b + 100)), (4, .int (zi (1 + 10 * k)))] → LK p l e s m below meth c D dA b0 b (1 + 10 * k) k (lw_Z below #[Value.ref b0] s) → W p l e room_1 s m #[Value.ref b0] below meth c H locs cells slots (lw_Z below #[Value.ref b0] s) (F0 m 730 ls [])) : W p l e room_1 s m #[Value.ref b0] below meth c s.heap [] 0 0 (lw_Z below #[Value.ref b0] s) (entryFrame m ([Value.ref b0] : List Value).toArray 7) := by
  obtain ⟨hx, hb, hr, hml, hown, hts, hX, hbl, hlocks, hgv⟩ := id C0
  have S9 : CallFix p m c cL_law 7 s #[Value.ref b0] GW RL := ⟨hx, hb, hml, hown, fun w hw => hts w (GW_tbl hw)⟩
  obtain ⟨D, dA, K⟩ := K_start hts
  have C1 : LC p s m c D dA b0 L xs := ⟨S9, K, hX, hbl⟩
  have hbA : ¬ LA s b0 := Nat.not_le.mpr hbl
  have hl := lv_entry ([.ref b0]) (n := 7) (Nat.le_of_ble_eq_true rfl)
  rw [lg_entry_eq]
  generalize (lg_sl ([.ref b0]) ++ List.replicate (7 - (lg_sl ([.ref b0])).length) Slot.unset).toArray = ls at hl ⊢
  have hl : lv_has ls 7 [(0, .ref b0)] := hl
  obtain ⟨b, hbs⟩ : ∃ b, b = s.heap.size := ⟨_, rfl⟩
  have Z : zz_B D dA (LA s) (fun _ => none) b s.heap s.heap [] := ⟨⟨fun q c h => (by cases h), hbs.symm, fun q c h => (by cases h), fun q hq => (by rw [hbs] at hq; exact hq)⟩, va_S.rf⟩
  have ⟨H, hH⟩ : ∃ H, H = s.heap := ⟨_, rfl⟩
  have ⟨locs, hlo⟩ : ∃ q : List Loc, q = [] := ⟨_, rfl⟩
  have Z : zz_B D dA (LA s) (fun _ => none) b s.heap H locs := by rw [hH, hlo]; exact Z
  have key : W p l e room_1 s m #[Value.ref b0] below meth c H locs 0 0 (lw_Z below #[Value.ref b0] s) (F0 m 0 ls []) := ?_
  · rw [hH, hlo] at key
    exact key
  clear hH hlo
  refine zz_new (F := some) (X := HG b [.inr (9, [.null, .null, .null, .null, .null, .null, .int 0])] (fun _ => none)) S9 K Z (congrArg some HG_one) zc_9 gq_L_8 gn_X11 gt_X11 zd_9 (Nat.le_of_ble_eq_true rfl) (Nat.le_of_ble_eq_true rfl) dL_law_0 (fun h1 H hv Z => ?_)
  obtain rfl := Option.some.inj hv
  show W _ _ _ _ _ _ _ _ _ _ _ _ 1 7 _ (F0 m 3 ls [.ref b])
  refine lv_dup S9.1 S9.2.1 dL_law_3 rfl ?_
  refine lv_aload_n S9.1 S9.2.1 dL_law_4 rfl (lv_at hl 0 rfl) ?_
  refine lv_iconst (v := 0) S9.1 S9.2.1 dL_law_5 (by decide) ?_
  refine zz_go (rv := some (.int (cell0 L xs))) Z (va_runS (As := [.ref b0, .int 0]) (rest := [.ref b, .ref b]) S9 (c_cell0 hL hbA) ⟨zz_callB S9 gm_L_cell gl_L_15 ⟨by decide, by decide⟩, S9.2.2.2.2 _ gs_L_cell⟩ ⟨cl_P.blind, fun U hU hW => ⟨rfl, zz_K.warm hW K, by rw [hU]; exact Z.1, by rw [hU]; exact va_X.moved hW.alike (hX.kept (Z.2.2.1 b0 hbl hbA)), by rw [hU]; exact Nat.lt_of_lt_of_le hbl Z.2.1⟩⟩ rfl rfl hl.1 rfl (lv_room (Nat.le_of_ble_eq_true rfl)) dL_law_6 ⟨Nat.le_of_ble_eq_true rfl, Nat.le_of_ble_eq_true rfl⟩) (fun H locs Z => ?_)
  show W _ _ _ _ _ _ _ _ _ _ _ _ 1 7 _ (F0 m 9 ls [.int (cell0 L xs), .ref b, .ref b])
  refine zz_I [.int (cell0 L xs)] S9 K Z (c_X11_init b (cell0 L xs) X11_make) ⟨rfl, rfl⟩ gm_X11_init gi_X11_init rfl gl_L_21 ⟨by decide, by decide⟩ rfl hl.1 rfl (Nat.le_of_ble_eq_true rfl) dL_law_9 ⟨Nat.le_of_ble_eq_true rfl, Nat.le_of_ble_eq_true rfl⟩ (fun H locs Z => ?_)
  show W _ _ _ _ _ _ _ _ _ _ _ _ 73 2466 _ (F0 m 12 ls [.ref b])
  refine lv_astore_n (lv' := [(1, .ref b), (0, .ref b0)]) S9.1 S9.2.1 dL_law_12 rfl hl (by decide) rfl (fun ls hl => ?_)
  refine zz_new (F := some) (X := HG (b + 73) [.inr (10, Rm0)] (Cl b (S0 (cell0 L xs)) Vz (fun _ => none) (fun _ => none))) S9 K Z (congrArg some HG_one) zc_10 gq_L_24 gn_X12 gt_X12 zd_10 (Nat.le_of_ble_eq_true rfl) (Nat.le_of_ble_eq_true rfl) dL_law_13 (fun h1 H hv Z => ?_)
  obtain rfl := Option.some.inj hv
  show W _ _ _ _ _ _ _ _ _ _ _ _ 74 2506 _ (F0 m 16 ls [.ref (b + 73)])
  refine lv_dup S9.1 S9.2.1 dL_law_16 rfl ?_
  refine lv_aload_n S9.1 S9.2.1 dL_law_17 rfl (lv_at hl 1 rfl) ?_
  refine lv_iconst (v := 0) S9.1 S9.2.1 dL_law_18 (by decide) ?_
  refine zz_go (rv := some (.int (cell0 L xs))) Z (va_runS (As := [.ref b0, .int 0]) (rest := [.ref (b + 73), .ref (b + 73)]) S9 (c_cell0 hL hbA) ⟨zz_callB S9 gm_L_cell gl_L_15 ⟨by decide, by decide⟩, S9.2.2.2.2 _ gs_L_cell⟩ ⟨cl_P.blind, fun U hU hW => ⟨rfl, zz_K.warm hW K, by rw [hU]; exact Z.1, by rw [hU]; exact va_X.moved hW.alike (hX.kept (Z.2.2.1 b0 hbl hbA)), by rw [hU]; exact Nat.lt_of_lt_of_le hbl Z.2.1⟩⟩ rfl rfl hl.1 rfl (lv_room (Nat.le_of_ble_eq_true rfl)) dL_law_19 ⟨Nat.le_of_ble_eq_true rfl, Nat.le_of_ble_eq_true rfl⟩) (fun H locs Z => ?_)
  show W _ _ _ _ _ _ _ _ _ _ _ _ 74 2506 _ (F0 m 22 ls [.int (cell0 L xs), .ref (b + 73), .ref (b + 73)])
  refine zz_I [.int (cell0 L xs)] S9 K Z (c_X12_init (b + 73) (cell0 L xs) X12_make) ⟨rfl, rfl⟩ gm_X12_init gi_X12_init rfl gl_L_26 ⟨by decide, by decide⟩ rfl hl.1 rfl (Nat.le_of_ble_eq_true rfl) dL_law_22 ⟨Nat.le_of_ble_eq_true rfl, Nat.le_of_ble_eq_true rfl⟩ (fun H locs Z => ?_)
  show W _ _ _ _ _ _ _ _ _ _ _ _ 100 10287 _ (F0 m 25 ls [.ref (b + 73)])
  refine lv_astore_n (lv' := [(2, .ref (b + 73)), (1, .ref b), (0, .ref b0)]) S9.1 S9.2.1 dL_law_25 rfl hl (by decide) rfl (fun ls hl => ?_)
  refine lv_iconst (v := 1) S9.1 S9.2.1 dL_law_26 (by decide) ?_
  refine zz_newa (F := some) (X := HH b (S0 (cell0 L xs)) Vz (fun _ => none) (Sm1 (cell0 L xs)) (beginV (Sm1 (cell0 L xs)) Vz) (fun _ => 0) (fun _ => none)) (atype := .long) (a0 := fun N => (N, .inr (.inl (fun _ => 0)))) (N := 1) S9 K Z (by decide) (congrArg some HH_start) ga_long rfl (fun h => h) (fun _ _ => rfl) (by decide) (by decide) (Nat.le_of_ble_eq_true rfl) (Nat.le_of_ble_eq_true rfl) dL_law_27 (fun h1 H hv Z => ?_)
  obtain rfl := Option.some.inj hv
  show W _ _ _ _ _ _ _ _ _ _ _ _ 101 10288 _ (F0 m 29 ls [.ref (b + 100)])
  refine lv_astore_n (lv' := [(3, .ref (b + 100)), (2, .ref (b + 73)), (1, .ref b), (0, .ref b0)]) S9.1 S9.2.1 dL_law_29 rfl hl (by decide) rfl (fun ls hl => ?_)
  refine lv_iconst (v := 1) S9.1 S9.2.1 dL_law_30 (by decide) ?_
  refine lv_istore (lv' := [(4, .int 1), (3, .ref (b + 100)), (2, .ref (b + 73)), (1, .ref b), (0, .ref b0)]) S9.1 S9.2.1 dL_law_31 hl (by decide) rfl (fun ls hl => ?_)
  exact law_loop C1 hL hr hlocks (fun b k S V Q Sm Vm lo g n H locs cells slots ls => hsh D dA b k S V Q Sm Vm lo g n H locs cells slots ls C1) 600 0 b _ _ _ _ _ _ _ _ _ _ _ _ ls (by omega) (by omega) ⟨Z, Rel_0, Nat.le_refl _, fun _ _ => rfl, by omega, by omega⟩ (lv_sub hl [4, 3, 2, 1, 0] rfl)
end
