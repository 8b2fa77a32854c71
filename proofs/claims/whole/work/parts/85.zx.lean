/-! ===== the class's share, as it throws ===== -/
abbrev AE : String := "java/lang/ArithmeticException"
abbrev zx_nm : List String := ["java/lang/RuntimeException", "java/lang/Exception"]
theorem gq_X11_248 : Cond.classLink RX11 248 AE ∈ GW := zz_in 759 (by decide +kernel) (by decide +kernel)
theorem gt_AE : Cond.initialized AE ∈ GW := zz_in 59 (by decide +kernel) (by decide +kernel)
theorem zx_tb : ∀ w ∈ (vx_atS RX11 252 AE zx_nm).filter goodWord, w ∈ lw_tbl := by decide +kernel
theorem zx_gw {w : Cond} (h : w ∈ (vx_atS RX11 252 AE zx_nm).filter goodWord) : w ∈ GW := List.mem_filter.mpr ⟨zx_tb w h, (List.mem_filter.mp h).2⟩
/-- the words of the throw that a warm machine must keep by laws of their own -/
def zx_bad : List Cond := [.castable AE AE, .declares ⟨"java/lang/RuntimeException", "<init>", "(Ljava/lang/String;)V"⟩, .declares ⟨"java/lang/Exception", "<init>", "(Ljava/lang/String;)V"⟩, .declares ⟨"java/lang/Throwable", "<init>", "(Ljava/lang/String;)V"⟩]
theorem zx_bd : ∀ w ∈ (vx_atS RX11 252 AE zx_nm).filter (fun w => !goodWord w), w ∈ zx_bad := by decide +kernel
theorem zx_ot : ∀ w ∈ Cond.classLink RX11 248 AE :: Cond.initialized AE :: vx_atS RX11 252 AE zx_nm, vx_ot w = true := by decide +kernel
theorem zx_on : ∀ w ∈ zx_bad, w.onTables = true := by decide +kernel
/-- what a throw rests on -/
def zx_E (A : Nat → Prop) (U : State) : Prop := ∃ sa, vx_Zq Bundle.tN "UNASSIGNED_STACK" Bundle.steD A U U.heap ∧ vx_Zq Bundle.tN "SUPPRESSED_SENTINEL" Bundle.listD A U U.heap ∧ vk_R RX11 250 "no RULE was DONE" sa U ∧ ∀ w ∈ zx_bad, va_Nw w U
theorem zx_E.same {A : Nat → Prop} {u U : State} (hv : u.vm = U.vm) (hh : U.heap = u.heap) (h : zx_E A u) : zx_E A U := by
  obtain ⟨sa, h1, h2, h3, h4⟩ := h
  have ha : u.vm.Alike U.vm := by rw [← hv]; exact Vm.Alike.refl _
  refine ⟨sa, ?_, ?_, vk_R.same hv.symm h3, fun w hw => va_Nw.same (zx_on w hw) hv (h4 w hw)⟩
  · rw [hh]
    exact vx_Zq.moved ha h1
  · rw [hh]
    exact vx_Zq.moved ha h2
theorem zx_E.warm {A : Nat → Prop} {s U : State} {H : Heap} {locs : List Loc} (hW : s.WarmedH U.vm) (hU : U.heap = H) (hS : va_S A s.heap H locs) (h : zx_E A s) : zx_E A U := by
  obtain ⟨sa, h1, h2, h3, h4⟩ := h
  refine ⟨sa, ?_, ?_, vk_R.warm hW h3, ?_⟩
  · rw [hU]
    exact vx_Zq.moved hW.alike (h1.kept hS.2.1)
  · rw [hU]
    exact vx_Zq.moved hW.alike (h2.kept hS.2.1)
  · exact List.forall_mem_cons.mpr ⟨va_Nw.warmC hW (h4 _ (List.mem_of_getElem? (i := 0) rfl)), List.forall_mem_cons.mpr ⟨va_Nw.warmD hW (h4 _ (List.mem_of_getElem? (i := 1) rfl)), List.forall_mem_cons.mpr ⟨va_Nw.warmD hW (h4 _ (List.mem_of_getElem? (i := 2) rfl)), List.forall_mem_cons.mpr ⟨va_Nw.warmD hW (h4 _ (List.mem_of_getElem? (i := 3) rfl)), fun _ h => absurd h List.not_mem_nil⟩⟩⟩⟩
def zx_P (D : va_G) (dA : Nat → ClassId) (A : Nat → Prop) (h : ZH) (n : Nat) (av : List Value) : Array Value → State → Prop := fun v U => zz_P D dA A h n av v U ∧ zx_E A U
def zx_F : Array Value → State → Outcome → State → Prop := fun _ _ _ _ => False
def zx_X (D : va_G) (dA : Nat → ClassId) (A : Nat → Prop) (h : ZH) (n : Nat) : String → State → State → Prop := fun E st t => E = AE ∧ ∃ n1, n ≤ n1 ∧ zz_H D dA A h n1 t.heap ∧ va_F A st t
theorem zx_P.blind {D : va_G} {dA : Nat → ClassId} {A : Nat → Prop} {h : ZH} {n : Nat} {av : List Value} : FrameBlind (zx_P D dA A h n av) := by
  intro a U g mk hp
  exact ⟨zz_P.blind _ _ _ _ hp.1, zx_E.same (u := U) (U := U.calling g mk a) rfl rfl hp.2⟩
theorem zx_met {l : Launch} {y : MethodName} {cc : ByteArray} {maxL : Nat} {ret : Option FieldType} {rm : Room} {av : List Value} {h h1 : ZH} {n n1 mc ms : Nat} {D : va_G} {dA : Nat → ClassId} {A : Nat → Prop} (hy : plainName y.cls = true) (ha : (lg_sl av).length ≤ maxL)
    (body : ∀ (p : Program) (e : Env) (s : State) (m : MethodId) (args : Array Value) (below : List Frame) (meth : Method) (c : Code) (ls : Array Slot), CallFix p m c cc maxL s args GW y.cls → zz_K D dA s → meth.sig.returnType = ret → meth.locks = false → (∀ x ∈ c.exceptionTable.toList, False) → zx_E A s → lv_has ls maxL (lv_args 0 av) → zz_B D dA A h n s.heap s.heap [] →
      W p l e rm s m args below meth c s.heap [] 0 0 (vx_MQ below zx_F (zx_X D dA A h1 n1) args s mc ms A) (F0 m 0 ls [])) : vx_Met l y (zz_ws y cc maxL ret) rm (zx_P D dA A h n av) zx_F (zx_X D dA A h1 n1) mc ms A := by
  refine vx_ofW (cc := cc) (maxL := maxL) (ret := ret) hy rfl ?_
  intro p e s m args below meth c s₁ B hml htb hv
  obtain ⟨⟨rfl, hK, hH⟩, hE⟩ := hv
  have hts := atoms_spec (ws := zz_ws y cc maxL ret) B.pre
  have hown : s.vm.findClass y.cls = some m.cls := findClass_of_methodNamed B.named
  rw [lg_entry_eq]
  exact body p e s m _ below meth c _ ⟨B.exec, B.bytes, hml, hown, fun w hw => hts w (List.mem_cons_of_mem _ hw)⟩ hK B.returns B.notSynchronized htb hE (lv_entry av ha) ⟨hH, va_S.rf⟩
theorem zx_throw {p : Program} {l : Launch} {e : Env} {s : State} {m : MethodId} {args : Array Value} {below : List Frame} {meth : Method} {c : Code} {D : va_G} {dA : Nat → ClassId} {A : Nat → Prop} {h : ZH} {n : Nat} {H : Heap} {locs : List Loc} {ls : Array Slot} {rm : Room} (hrm : rm.frames = 6 ∧ rm.cells = 1 ∧ rm.slots = 6 ∧ rm.locals = 82) (hst : l.stackTraces = false) (S : CallFix p m c cX11_share 4 s args GW yX11_share.cls) (hlk : meth.locks = false) (htb : ∀ x ∈ c.exceptionTable.toList, False) (X9 : zx_E A s) (hsz : ls.size = 4) (Z : zz_B D dA A h n s.heap H locs) :
    W p l e rm s m args below meth c H locs 0 0 (vx_MQ below zx_F (zx_X D dA A h n) args s 1 6 A) (F0 m 54 ls []) := by
  obtain ⟨sa, h1, h2, h3, h4⟩ := X9
  obtain ⟨r1, r2, r3, r4⟩ := hrm
  refine vx_throwS (own := RX11) (cls := AE) (text := "no RULE was DONE") (names := zx_nm) (ik := 248) (is := 250) (ic := 252) (sa := sa) (A := A) S.1 S.2.1 hst S.2.2.2.1 (by decide +kernel) (by decide +kernel) (S.2.2.2.2 _ gq_X11_248) (S.2.2.2.2 _ gt_AE) h3 (vx_hat (fun w hw => S.2.2.2.2 _ (zx_gw hw)) zx_bd (fun w hw => va_Nw.use (zx_on w hw) (h4 w hw))) zx_ot h1 h2 Z.2 (hsz.trans S.2.2.1.symm) dX11_share_54 dX11_share_57 dX11_share_58 dX11_share_60 dX11_share_63 (fun x hx => (htb x hx).elim) (by rw [r1]; decide) (by rw [r4]; decide) (by rw [r2]; decide) (by rw [r3]; decide) hlk ?_ (fun z hz => Z.2.2.2 z hz) (by decide) (by decide)
  intro t _ hsz' hk
  obtain ⟨⟨z1, z2, z3, z4⟩, zS⟩ := Z
  refine ⟨rfl, t.heap.size, by omega, ⟨fun q c hq => (z1 q c hq).kept (hk q (z1 q c hq).lt), rfl, z3, fun q hq => z4 q (by omega)⟩, Nat.le_trans zS.1 hsz', fun q h1 h2 => (hk q (Nat.lt_of_lt_of_le h1 zS.1)).trans (zS.2.1 q h1 h2)⟩
abbrev rm_X11_shareT : Room := { frames := 6, cells := 1, slots := 6, locals := 82 }
set_option maxRecDepth 100000 in
set_option maxHeartbeats 4000000 in
theorem c_X11_shareT {l : Launch} {D : va_G} {dA : Nat → ClassId} {A : Nat → Prop} {h : ZH} {n : Nat} (a0 : Nat) {r : Int32} (hst : l.stackTraces = false) (hf : f_X11_shareT h a0 = some r) : vx_Met l yX11_share (zz_ws yX11_share cX11_share 4 (some .int)) rm_X11_shareT (zx_P D dA A h n [.ref (a0)]) zx_F (zx_X D dA A h n) 1 6 A := by
  refine zx_met (by decide) (Nat.le_of_ble_eq_true rfl) ?_
  intro p e s m args below meth c ls S K hret hlk htb X9 hl Z
  replace hl : lv_has ls 4 [(0, .ref (a0))] := hl
  obtain ⟨K0, hR0, hk⟩ : ∃ K0 : (Int32) → Prop, (∀ x, K0 x → x = r) ∧ K0 r := ⟨fun x => x = r, fun _ h => h, rfl⟩
  have L6 : ∀ (st : (Int32 × Int32 × Int32)) (x : (Int32)), zz_loop (fun st : (Int32 × Int32 × Int32) => f_X11_shareT_L6 h a0 (st.1) (st.2.1) (st.2.2)) st = some x → K0 x → (fun st : (Int32 × Int32 × Int32) => ∀ (H : Heap) (locs : List Loc) (ls : Array Slot), zz_B D dA A h n s.heap H locs → lv_has ls 4 [(0, .ref (a0)), (1, .int ((st.1))), (2, .int ((st.2.1))), (3, .int ((st.2.2)))] → W p l e rm_X11_shareT s m args below meth c H locs 0 0 (vx_MQ below zx_F (zx_X D dA A h n) args s 1 6 A) (F0 m 6 ls [])) st := by
    refine zz_loop_go (K := K0) ?_
    intro K1 hP1 hR1
    rintro ⟨x1_1, x2_2, x3_3⟩ x hv hk H locs ls Z hl
    replace hv : f_X11_shareT_L6 h a0 x1_1 x2_2 x3_3 = some x := hv
    unfold f_X11_shareT_L6 at hv
    replace hl : lv_has ls 4 [(0, .ref (a0)), (1, .int (x1_1)), (2, .int (x2_2)), (3, .int (x3_3))] := hl
    replace Z : zz_B D dA A h n s.heap H locs := Z
    show W p l e rm_X11_shareT s m args below meth c H locs 0 0 (vx_MQ below zx_F (zx_X D dA A h n) args s 1 6 A) (F0 m 6 ls [])
    refine lv_iload_n S.1 S.2.1 dX11_share_6 rfl (lv_at hl 3 rfl) ?_
    refine lv_aload_n S.1 S.2.1 dX11_share_7 rfl (lv_at hl 0 rfl) ?_
    refine zz_gR S K Z hv zc_9 (by decide) gf_X11_25 dX11_share_8 (fun v4 hv => ?_)
    refine zz_gI S K Z hv zc_8 (by decide) gf_X11_140 dX11_share_11 (fun v5 hv => ?_)
    refine lv_icmp_ge (tgt := 50) S.1 S.2.1 dX11_share_14 (by decide) (fun hc => ?_) (fun hc => ?_)
    · replace hv := (if_pos hc).symm.trans hv
      obtain ⟨_, hv, hk⟩ := zz_mapk hv hk
      replace hk := hR1 _ hk
      refine lv_iload_n S.1 S.2.1 dX11_share_50 rfl (lv_at hl 2 rfl) ?_
      refine lv_if_ne (tgt := 64) S.1 S.2.1 dX11_share_51 (by decide) (fun hc => ?_) (fun hc => ?_)
      · replace hv := (if_neg hc).symm.trans hv
        cases hv
      · replace hv := (if_pos hc).symm.trans hv
        exact zx_throw ⟨rfl, rfl, rfl, rfl⟩ hst S hlk htb X9 hl.1 Z
    · replace hv := (if_neg hc).symm.trans hv
      refine lv_iload_n S.1 S.2.1 dX11_share_17 rfl (lv_at hl 1 rfl) ?_
      refine lv_aload_n S.1 S.2.1 dX11_share_18 rfl (lv_at hl 0 rfl) ?_
      refine zz_gR S K Z hv zc_9 (by decide) gf_X11_34 dX11_share_19 (fun v6 hv => ?_)
      refine zz_gR S K Z hv zc_6 (by decide) gf_X11_242 dX11_share_22 (fun v7 hv => ?_)
      refine lv_iload_n S.1 S.2.1 dX11_share_25 rfl (lv_at hl 3 rfl) ?_
      refine zz_iald S K Z hv dX11_share_26 (fun v8 hv => ?_)
      refine lv_iadd S.1 S.2.1 dX11_share_27 ?_
      refine zz_lt hv (G := fun w => W _ _ _ _ _ _ _ _ _ _ _ _ _ _ _ (F0 _ _ _ (.int w :: _))) (fun v9 hv => ?_)
      refine lv_istore_n (lv' := [(1, .int (v9)), (0, .ref (a0)), (2, .int (x2_2)), (3, .int (x3_3))]) S.1 S.2.1 dX11_share_28 rfl hl (by decide) rfl (fun ls hl => ?_)
      refine lv_aload_n S.1 S.2.1 dX11_share_29 rfl (lv_at hl 1 rfl) ?_
      refine zz_gR S K Z hv zc_9 (by decide) gf_X11_34 dX11_share_30 (fun v10 hv => ?_)
      refine zz_gR S K Z hv zc_6 (by decide) gf_X11_242 dX11_share_33 (fun v11 hv => ?_)
      refine lv_iload_n S.1 S.2.1 dX11_share_36 rfl (lv_at hl 3 rfl) ?_
      refine zz_iald S K Z hv dX11_share_37 (fun v12 hv => ?_)
      refine lv_if_le (tgt := 44) S.1 S.2.1 dX11_share_38 (by decide) (fun hc => ?_) (fun hc => ?_)
      · replace hv := (if_pos hc).symm.trans hv
        refine lv_iinc (v := x3_3 + (1 : Int32)) (lv' := [(3, .int (x3_3 + (1 : Int32))), (1, .int (v9)), (0, .ref (a0)), (2, .int (x2_2))]) S.1 S.2.1 dX11_share_44 hl (k := 3) rfl rfl (by decide) rfl (fun ls hl => ?_)
        refine lv_goto (tgt := 6) S.1 S.2.1 dX11_share_47 (by decide) ?_
        replace hk := zz_fin hv hk
        exact hP1 _ hk H locs ls Z (lv_sub hl [2, 1, 3, 0] rfl)
      · replace hv := (if_neg hc).symm.trans hv
        refine lv_iinc (v := x2_2 + (1 : Int32)) (lv' := [(2, .int (x2_2 + (1 : Int32))), (1, .int (v9)), (0, .ref (a0)), (3, .int (x3_3))]) S.1 S.2.1 dX11_share_41 hl (k := 2) rfl rfl (by decide) rfl (fun ls hl => ?_)
        refine lv_iinc (v := x3_3 + (1 : Int32)) (lv' := [(3, .int (x3_3 + (1 : Int32))), (2, .int (x2_2 + (1 : Int32))), (1, .int (v9)), (0, .ref (a0))]) S.1 S.2.1 dX11_share_44 hl (k := 3) rfl rfl (by decide) rfl (fun ls hl => ?_)
        refine lv_goto (tgt := 6) S.1 S.2.1 dX11_share_47 (by decide) ?_
        replace hk := zz_fin hv hk
        exact hP1 _ hk H locs ls Z (lv_sub hl [3, 2, 1, 0] rfl)
  have hv := hf
  unfold f_X11_shareT at hv
  clear hf
  obtain ⟨x, hxx⟩ : ∃ x, x = r := ⟨_, rfl⟩
  rw [← hxx] at hv hk
  have ⟨H, hH⟩ : ∃ H, H = s.heap := ⟨_, rfl⟩
  have ⟨locs, hlo⟩ : ∃ q : List Loc, q = [] := ⟨_, rfl⟩
  have Z : zz_B D dA A h n s.heap H locs := by rw [hH, hlo]; exact Z
  have key : W p l e rm_X11_shareT s m args below meth c H locs 0 0 (vx_MQ below zx_F (zx_X D dA A h n) args s 1 6 A) (F0 m 0 ls []) := by
    clear hH hlo hxx
    refine lv_iconst (v := (0 : Int32)) S.1 S.2.1 dX11_share_0 (by decide) ?_
    refine lv_istore_n (lv' := [(1, .int ((0 : Int32))), (0, .ref (a0))]) S.1 S.2.1 dX11_share_1 rfl hl (by decide) rfl (fun ls hl => ?_)
    refine lv_iconst (v := (0 : Int32)) S.1 S.2.1 dX11_share_2 (by decide) ?_
    refine lv_istore_n (lv' := [(2, .int ((0 : Int32))), (1, .int ((0 : Int32))), (0, .ref (a0))]) S.1 S.2.1 dX11_share_3 rfl hl (by decide) rfl (fun ls hl => ?_)
    refine lv_iconst (v := (0 : Int32)) S.1 S.2.1 dX11_share_4 (by decide) ?_
    refine lv_istore_n (lv' := [(3, .int ((0 : Int32))), (2, .int ((0 : Int32))), (1, .int ((0 : Int32))), (0, .ref (a0))]) S.1 S.2.1 dX11_share_5 rfl hl (by decide) rfl (fun ls hl => ?_)
    exact L6  ((0 : Int32), (0 : Int32), (0 : Int32)) _ hv hk H locs ls Z (lv_sub hl [3, 2, 1, 0] rfl)
  rw [hH, hlo] at key
  exact key
