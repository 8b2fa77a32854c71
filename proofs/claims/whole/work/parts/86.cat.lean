/-! ===== caught: the law's own share ===== -/
section
variable {p : Program} {l : Launch} {e : Env} {R : Room} {s : State} {m : MethodId} {args : Array Value} {below : List Frame} {meth : Method} {c : Code} {H : Heap} {locs : List Loc} {cells slots : Nat} {Q : State → Prop}
variable {mc ms : Nat} {free : Addr → Prop} {A0 A1 : Nat → Prop} {H0 : Heap} {a : Array Value} {pc : Nat} {ls : Array Slot} {st0 rest : List Value}
theorem vx_catch {own name : String} {E : String} {ce : Cell} {q : Addr} (hown : s.vm.findClass own = some m.cls) (pre : List ExceptionTableEntry) (x : ExceptionTableEntry) (suf : List ExceptionTableEntry) (hsplit : c.exceptionTable.toList = pre ++ x :: suf)
    (hpass : ∀ z ∈ pre, covers z pc = false ∨ (z.catchType ≠ 0 ∧ ∃ nm : String, (Cond.classLink own z.catchType nm).before args s = true ∧ va_Nc E nm s)) (hx : covers x pc = true) (h0 : x.catchType ≠ 0)
    (hlink : (Cond.classLink own x.catchType name).before args s = true) (hcast : (Cond.castable E name).before args s = true) (hcell : H[q]? = some ce) (hv : ce.vm = .none) (hcl : s.vm.findClass E = some ce.cls)
    (kk : W p l e R s m args below meth c H locs cells slots Q (F0 m x.handlerPc ls [.ref q])) : vx_W p l e R s m args below meth c H locs cells slots Q (F0 m pc ls rest) q := by
  intro T hT X
  have hpl : e.platform.magicAccessors = ({} : Platform).magicAccessors := by rw [X.admits.platform]
  obtain ⟨c3, c4, hc3, hc4, hasg⟩ := Cond.castable_spec hcast
  cases Option.some.inj (hc3.symm.trans hcl)
  obtain ⟨c5, hc5, hcl5⟩ := Cond.classLink_spec hown hlink e.platform hpl
  cases Option.some.inj (hc4.symm.trans hc5)
  obtain ⟨vm', X', st⟩ := Jvm.Stand.thenCaughtThrough X q (g := F0 m pc ls rest) rfl (Steps.refl _) (by rw [hT]; exact hcell) (by rw [hv]; rfl) (by obtain ⟨k9, h9, -⟩ := Vm.findClass_spec hcl; exact ⟨k9, h9⟩) pre x suf hsplit
    (fun z hz => by
      rcases hpass z hz with h | ⟨hz0, nm, hl1, hn1⟩
      · exact Or.inl h
      · obtain ⟨c6, hc6, hcl6⟩ := Cond.classLink_spec hown hl1 e.platform hpl
        obtain ⟨a8, b8, h1, h2, h3⟩ := hn1
        cases Option.some.inj (h1.symm.trans hcl)
        cases Option.some.inj (h2.symm.trans hc6)
        exact Or.inr ⟨hz0, _, hcl6, h3⟩) hx (Or.inr ⟨h0, c4, hcl5, hasg⟩)
  obtain ⟨t, a1, b1⟩ := kk (T.setVm vm') hT X'
  exact ⟨t, st.trans a1, b1⟩
end
theorem gc_X11_share : Cond.code yX11_share cX11_share 4 (some .int) ∈ GW := zz_in 758 (by decide +kernel) (by decide +kernel)
theorem gi_X11_share : Cond.instanceMethod yX11_share ∈ GW := zz_in 756 (by decide +kernel) (by decide +kernel)
theorem gv_X11_share : Cond.selects yX11_share.cls yX11_share yX11_share ∈ GW := zz_in 757 (by decide +kernel) (by decide +kernel)
theorem gl_L_7 : Cond.methodLink RL 7 yX11_share ∈ GW := zz_in 755 (by decide +kernel) (by decide +kernel)
theorem gl_L_106 : Cond.methodLink RL 106 yL_share ∈ GW := zz_in 751 (by decide +kernel) (by decide +kernel)
theorem gs_L_share : Cond.static yL_share ∈ GW := zz_in 752 (by decide +kernel) (by decide +kernel)
theorem gq_L_13 : Cond.classLink RL 13 AE ∈ GW := zz_in 754 (by decide +kernel) (by decide +kernel)
theorem gm_X11_share : zz_M yX11_share cX11_share 4 (some .int) 0 := ⟨gc_X11_share, gt_X11, by decide +kernel, by decide +kernel, by decide +kernel⟩
theorem gmv_X11_share : zz_MV yX11_share := ⟨gi_X11_share, gv_X11_share⟩
theorem gcw_L_share : Cond.codeWith yL_share cL_share 3 (some .int) [(0, 8, 11, 13)] ∈ GW := zz_in 753 (by decide +kernel) (by decide +kernel)
section
variable {p : Program} {l : Launch} {e : Env} {R : Room} {s : State} {m : MethodId} {args : Array Value} {below : List Frame} {meth : Method} {c : Code} {D : va_G} {dA : Nat → ClassId} {A : Nat → Prop} {h : ZH} {n : Nat} {H0 H : Heap} {locs : List Loc} {cells slots mc ms pc : Nat} {Q9 : State → Prop} {ls : Array Slot} {rest st0 : List Value} {cc : ByteArray} {nL : Nat} {own : String}
theorem zz_last0 {a N : Nat} {i : Int32} {x : Int64} {f : Nat → Int64} (S : CallFix p m c cc nL s args GW own) (K : zz_K D dA s) (Z : zz_B D dA A h n H0 H locs) (ha : h a = some (.inl (3, N, .inr (.inl f)))) (hin : vp_in i N) (hdg : decode cc pc = .ok (.lastore, 1))
    (kk : ∀ (H1 : Heap) (locs1 : List Loc), zz_B D dA A (va_up h a (some (.inl (3, N, .inr (.inl (va_up f i.toNatClampNeg x)))))) n H0 H1 locs1 → W p l e R s m args below meth c H1 locs1 cells slots Q9 (F0 m (pc + 1) ls rest)) : W p l e R s m args below meth c H locs cells slots Q9 (F0 m pc ls (.long x :: .int i :: .ref a :: rest)) := by
  refine W.last S.1 S.2.1 (Z.1.1 _ _ ha) ((K.1.2 3 (dA 3, .long) rfl).1 N (fun j => .long (f j))) (fun q => by cases q) (by show ¬ (i < 0 ∨ (arrV _ _ _).slots.size ≤ _); rw [arrV_size]; exact hin) rfl rfl hdg fun H1 e z oq => ?_
  refine kk H1 _ (Z.set ha (c1 := .inl (3, N, .inr (.inl (va_up f i.toNatClampNeg x)))) ?_ z oq)
  show H1[a]? = some (vp_cell _ _)
  rw [e]
  show some ((vp_cell _ (N, .inr (.inl f))).setSlot _ _) = _
  rw [vp_cell_l, vp_cell_l, arrV_store]
  congr 2
  funext q
  by_cases hq : q = i.toNatClampNeg
  · subst hq
    simp [updV, va_up]
  · simp [updV, va_up, hq]
theorem zx_go {a : Array Value} (Z : zz_B D dA A h n H0 H locs) (hr : vx_Run p l e R s m args below meth c H locs cells slots mc ms (F0 m pc ls st0) rest (zx_F a) (zx_X D dA A h n) A)
    (kk : ∀ (ce : Cell) (q : Addr) (H1 : Heap) (locs1 : List Loc) (n1 : Nat), n ≤ n1 → zz_B D dA A h n1 H0 H1 locs1 → H1[q]? = some ce → ce.vm = .none → s.vm.findClass AE = some ce.cls → vx_W p l e R s m args below meth c H1 locs1 (cells + mc) (slots + ms) Q9 (F0 m pc ls rest) q) : W p l e R s m args below meth c H locs cells slots Q9 (F0 m pc ls st0) := by
  intro T hT X
  rcases hr T hT X with ⟨v, st₀, t, T', L, h0, X', hL, e1, e2, hq, st⟩ | ⟨q, st₀, t, T', L, E, ce, h0, X', hL, e1, e2, hq, hce, hcv, hcl, st⟩
  · exact hq.elim
  · obtain ⟨rfl, n1, hn1, hH, hz, hk⟩ := hq
    rw [h0] at hz hk
    obtain ⟨hB, hS⟩ := Z
    obtain ⟨t2, a1, b1⟩ := kk ce q T'.heap (locs ++ L) n1 hn1 ⟨by rw [e1]; exact hH, Nat.le_trans hS.1 (by rw [e1]; exact hz), fun q h1 h2 => by rw [e1, hk q (Nat.lt_of_lt_of_le h1 hS.1) h2]; exact hS.2.1 q h1 h2, fun q hq => by
      rcases List.mem_append.mp hq with h | h
      · exact hS.2.2 q h
      · exact hL q h⟩ (by rw [e1]; exact hce) hcv hcl T' rfl X'
    exact ⟨t2, st.trans a1, b1⟩
def zm_Q (D : va_G) (dA : Nat → ClassId) (A : Nat → Prop) (k : Int32) (h : ZH) (n : Nat) : Array Value → State → Outcome → State → Prop := fun _ st oc t => oc = .returned (some (.int k)) ∧ ∃ n1, n ≤ n1 ∧ zz_H D dA A h n1 t.heap ∧ va_F A st t
theorem zm_go {a : Array Value} {k : Int32} {h1 : ZH} (Z : zz_B D dA A h n H0 H locs) (hr : va_Run p l e R s m args below meth c H locs cells slots mc ms (F0 m pc ls st0) rest (zm_Q D dA A k h1 n a) A)
    (kk : ∀ (H1 : Heap) (locs1 : List Loc) (n1 : Nat), n ≤ n1 → zz_B D dA A h1 n1 H0 H1 locs1 → W p l e R s m args below meth c H1 locs1 (cells + mc) (slots + ms) Q9 (F0 m (pc + 3) ls (.int k :: rest))) : W p l e R s m args below meth c H locs cells slots Q9 (F0 m pc ls st0) := by
  intro T hT X
  obtain ⟨v, st₀, t, T', L, h0, X', hL, e1, e2, ⟨hv, n1, hn1, hH, hz, hk⟩, st⟩ := hr T hT X
  cases hv
  rw [h0] at hz hk
  obtain ⟨hB, hS⟩ := Z
  obtain ⟨t2, a1, b1⟩ := kk T'.heap (locs ++ L) n1 hn1 ⟨by rw [e1]; exact hH, Nat.le_trans hS.1 (by rw [e1]; exact hz), fun q h1 h2 => by rw [e1, hk q (Nat.lt_of_lt_of_le h1 hS.1) h2]; exact hS.2.1 q h1 h2, fun q hq => by
      rcases List.mem_append.mp hq with h | h
      · exact hS.2.2 q h
      · exact hL q h⟩ T' rfl X'
  exact ⟨t2, st t2 a1, b1⟩
theorem zm_ret {k : Int32} {n1 : Nat} (hn : n ≤ n1) (S : CallFix p m c cc nL s args GW own) (Z : zz_B D dA A h n1 s.heap H locs) (hr : meth.sig.returnType = some .int) (hlocks : meth.locks = false) (hdg : decode cc pc = .ok (.ireturn, 1)) (h1 : cells ≤ mc) (h2 : slots ≤ ms) :
    W p l e R s m args below meth c H locs cells slots (MQ below (zm_Q D dA A k h n) args s mc ms A) (F0 m pc ls [.int k]) :=
  W.widen h1 h2 (W.iret S.1 S.2.1 hr (fun t ht hW => ⟨rfl, n1, hn, by rw [ht]; exact Z.1, Z.2.F ht⟩) Z.2.2.2 hdg hlocks)
end
section
variable {b : Nat} {S V : Nat → Nat → Int32} {Q : Nat → Option Nat} {g : ZH} {Sm : Nat → Int32} {Vm : Nat → Nat → Int32} {lo : Nat → Int64}
theorem HH_o : HH b S V Q Sm Vm lo g (b + 100) = some (.inl (3, 1, .inr (.inl lo))) := by
  unfold HH Cl
  rw [if_neg (by omega)]
  unfold Rm oz
  rw [if_neg (by omega), up_self]
theorem HH_ou {lo' : Nat → Int64} : va_up (HH b S V Q Sm Vm lo g) (b + 100) (some (.inl (3, 1, .inr (.inl lo')))) = HH b S V Q Sm Vm lo' g := by
  unfold HH
  rw [Cl_up (by omega), Rm_up (by omega)]
  unfold oz
  rw [up_up]
end
abbrev rm_L_share : Room := { frames := 7, cells := 1, slots := 6, locals := 105 }
def zl_ws : List Cond := Cond.codeWith yL_share cL_share 3 (some .int) [(0, 8, 11, 13)] :: GW
section
variable {l : Launch} {D : va_G} {dA : Nat → ClassId} {A : Nat → Prop} {n b : Nat} {S V : Nat → Nat → Int32} {Q : Nat → Option Nat} {g : ZH} {Sm : Nat → Int32} {Vm : Nat → Nat → Int32} {lo : Nat → Int64}
set_option maxRecDepth 100000 in
set_option maxHeartbeats 4000000 in
theorem c_L_share {k r : Int32} (hst : l.stackTraces = false) (hcase : (k = 0 ∧ f_X11_share (HH b S V Q Sm Vm lo g) b = some r) ∨ (k = 1 ∧ f_X11_shareT (HH b S V Q Sm Vm lo g) b = some 1)) : Met l yL_share zl_ws rm_L_share (zx_P D dA A (HH b S V Q Sm Vm lo g) n [.ref b, .ref (b + 100)]) (zm_Q D dA A k (HH b S V Q Sm Vm (if k = 0 then va_up lo 0 r.toInt64 else lo) g) n) 1 6 A := by
  refine va_MetW (cc := cL_share) (maxL := 3) (ret := some .int) (hh := [(0, 8, 11, 13)]) (ws' := GW) (by decide) rfl ?_
  intro p e s m args below meth c s₁ B hml hv
  obtain ⟨⟨rfl, K, hH⟩, hE⟩ := hv
  have hts := atoms_spec (ws := zl_ws) B.pre
  have hown : s.vm.findClass yL_share.cls = some m.cls := findClass_of_methodNamed B.named
  have S9 : CallFix p m c cL_share 3 s [Value.ref b, .ref (b + 100)].toArray GW RL := ⟨B.exec, B.bytes, hml, hown, fun w hw => hts w (List.mem_cons_of_mem _ hw)⟩
  have htab : c.exceptionTable.toList = tableOf [(0, 8, 11, 13)] := vx_table (x := yL_share) B (hts _ List.mem_cons_self)
  have Z : zz_B D dA A (HH b S V Q Sm Vm lo g) n s.heap s.heap [] := ⟨hH, va_S.rf⟩
  have hl := lv_entry [Value.ref b, .ref (b + 100)] (n := 3) (Nat.le_of_ble_eq_true rfl)
  rw [lg_entry_eq]
  generalize (lg_sl [Value.ref b, .ref (b + 100)] ++ List.replicate (3 - (lg_sl [Value.ref b, .ref (b + 100)]).length) Slot.unset).toArray = ls at hl ⊢
  have hl : lv_has ls 3 [(0, .ref b), (1, .ref (b + 100))] := hl
  refine lv_aload_n S9.1 S9.2.1 dL_share_0 rfl (lv_at hl 1 rfl) ?_
  refine lv_iconst (v := 0) S9.1 S9.2.1 dL_share_1 (by decide) ?_
  refine lv_aload_n S9.1 S9.2.1 dL_share_2 rfl (lv_at hl 0 rfl) ?_
  rcases hcase with ⟨rfl, hf⟩ | ⟨rfl, hf⟩
  · refine zz_V [] S9 K Z HH_b zc_9 rfl (c_X11_share b hf) ⟨rfl, rfl⟩ gm_X11_share gmv_X11_share gl_L_7 ⟨by decide, by decide⟩ rfl hl.1 rfl (Nat.le_of_ble_eq_true rfl) dL_share_3 ⟨Nat.zero_le _, Nat.zero_le _⟩ (fun H locs Z => ?_)
    show W _ _ _ _ _ _ _ _ _ _ _ _ _ _ _ (F0 m 6 ls [.int r, .int 0, .ref (b + 100)])
    refine lv_i2l S9.1 S9.2.1 dL_share_6 rfl ?_
    refine zz_last0 S9 K Z HH_o (fun q => q.elim (by decide) (by decide)) dL_share_7 (fun H locs Z => ?_)
    rw [HH_ou] at Z
    refine lv_goto (tgt := 14) S9.1 S9.2.1 dL_share_8 (by decide) ?_
    refine lv_iconst (v := 0) S9.1 S9.2.1 dL_share_14 (by decide) ?_
    rw [if_pos rfl]
    exact zm_ret (Nat.le_refl _) S9 Z B.returns B.notSynchronized dL_share_15 (Nat.zero_le _) (Nat.zero_le _)
  · obtain ⟨fs, hfs⟩ := HH_b (b := b) (S := S) (V := V) (Q := Q) (Sm := Sm) (Vm := Vm) (lo := lo) (g := g)
    refine zx_go Z (vx_runV (C := RX11) (As := []) (rest := [.int 0, .ref (b + 100)]) S9 (c_X11_shareT b hst hf) ⟨zz_callB S9 gm_X11_share gl_L_7 ⟨by decide, by decide⟩, S9.2.2.2.2 _ gmv_X11_share.1, S9.2.2.2.2 _ gmv_X11_share.2⟩ ⟨zx_P.blind, va_recv (q0 := 0) K.1 (Z.at hfs) zc_9.1 rfl, fun U hU hW => ⟨⟨rfl, zz_K.warm hW K, by rw [hU]; exact Z.1⟩, zx_E.warm hW hU Z.2 hE⟩⟩ rfl rfl hl.1 rfl (lv_room (Nat.le_of_ble_eq_true rfl)) dL_share_3 ⟨Nat.le_of_ble_eq_true rfl, Nat.le_of_ble_eq_true rfl⟩) (fun ce q H locs n1 hn1 Z hce hcv hcl => ?_)
    refine vx_catch (own := RL) (name := AE) (E := AE) (ce := ce) hown [] ⟨0, 8, 11, 13⟩ [] htab (fun z hz => absurd hz List.not_mem_nil) (by decide) (by decide) (S9.2.2.2.2 _ gq_L_13) ?_ hce hcv hcl ?_
    · obtain ⟨sa, h1, h2, h3, h4⟩ := hE
      exact va_Nw.use rfl (h4 _ (List.mem_of_getElem? (i := 0) rfl))
    · show W _ _ _ _ _ _ _ _ _ _ _ _ _ _ _ (F0 m 11 ls [.ref q])
      refine lv_astore_n (lv' := [(2, .ref q), (0, .ref b), (1, .ref (b + 100))]) S9.1 S9.2.1 dL_share_11 rfl hl (by decide) rfl (fun ls hl => ?_)
      refine lv_iconst (v := 1) S9.1 S9.2.1 dL_share_12 (by decide) ?_
      rw [if_neg (by decide)]
      exact zm_ret hn1 S9 Z B.returns B.notSynchronized dL_share_13 (Nat.le_of_ble_eq_true rfl) (Nat.le_of_ble_eq_true rfl)
end
theorem zl_in : ∀ w ∈ va_wsS RL 106 yL_share zl_ws, w ∈ GW := by
  intro w hw
  rcases List.mem_append.mp hw with h | h
  · rcases List.mem_cons.mp h with rfl | h
    · exact gl_L_106
    · rcases List.mem_cons.mp h with rfl | h
      · exact gs_L_share
      · rcases List.mem_cons.mp h with rfl | h
        · exact gt_L
        · exact absurd h List.not_mem_nil
  · rcases List.mem_cons.mp h with rfl | h
    · exact gcw_L_share
    · exact h
theorem lg_cmp_self (x : Int64) : lg_cmp x x = 0 := by
  unfold lg_cmp
  rw [if_neg (by simp), if_pos rfl]
section
variable {p : Program} {l : Launch} {e : Env} {s : State} {m : MethodId} {below : List Frame} {meth : Method} {c : Code} {D : va_G} {dA : Nat → ClassId} {b0 L b i k : Nat} {xs : Nat → Int32} {Z9 : State → Prop} {S V : Nat → Nat → Int32} {Q : Nat → Option Nat} {Sm : Nat → Int32} {Vm : Nat → Nat → Int32} {lo : Nat → Int64} {g : ZH} {n : Nat} {H : Heap} {locs : List Loc} {cells slots : Nat} {ls : Array Slot}
set_option maxRecDepth 100000 in
set_option maxHeartbeats 4000000 in
theorem lc_share (hst : l.stackTraces = false) (hE : zx_E (LA s) s) (C : LC p s m c D dA b0 L xs) (hk : k < 512) (I : LI s D dA b S V Q Sm Vm lo g n H locs cells slots k) (hl : lv_has ls 7 [(0, .ref b0), (1, .ref b), (2, .ref (b + 73)), (3, .ref (b + 100)), (4, .int (zi i))]) (kk : LK p l e s m below meth c D dA b0 b i k Z9) : W p l e room_1 s m #[Value.ref b0] below meth c H locs cells slots Z9 (F0 m 730 ls []) := by
  obtain ⟨S9, K, hX, hbl⟩ := C
  obtain ⟨Z, hR, hn, hfr, hc1, hc2⟩ := I
  obtain ⟨v, r, hcase, e2, e3, hR'⟩ := lo_share hR
  have hcase1 : (v = 0 ∧ f_X11_share (HH b S V Q Sm Vm lo g) b = some r) ∨ (v = 1 ∧ f_X11_shareT (HH b S V Q Sm Vm lo g) b = some 1) := by
    rcases hcase with ⟨h1, h2⟩ | ⟨h1, h2⟩
    · exact Or.inl ⟨h1, h2 lo⟩
    · exact Or.inr ⟨h1, h2 lo⟩
  have hv : v = 0 ∨ v = 1 := by
    rcases hcase with ⟨h1, -⟩ | ⟨h1, -⟩
    · exact Or.inl h1
    · exact Or.inr h1
  refine lv_aload_n S9.1 S9.2.1 dL_law_730 rfl (lv_at hl 1 rfl) ?_
  refine lv_aload_n S9.1 S9.2.1 dL_law_731 rfl (lv_at hl 3 rfl) ?_
  refine zm_go Z (vx_runSW (hh := [(0, 8, 11, 13)]) (As := [.ref b, .ref (b + 100)]) (rest := []) S9 (c_L_share hst hcase1) (vx_cwSW 2 S9.2.2.2.2 (fun w hw => GW_good w (zl_in w hw)) rfl rfl rfl (by decide +kernel) ⟨by decide, by decide⟩) ⟨zx_P.blind, fun U hU hW => ⟨⟨rfl, zz_K.warm hW K, by rw [hU]; exact Z.1⟩, zx_E.warm hW hU Z.2 hE⟩⟩ rfl rfl hl.1 rfl (lv_room (Nat.le_of_ble_eq_true rfl)) dL_law_732 ⟨by show cells + 1 ≤ 601024; omega, by show slots + 6 ≤ 7293000; omega⟩) (fun H locs n1 hn1 Z => ?_)
  generalize hlo : (if v = 0 then va_up lo 0 r.toInt64 else lo) = lo' at Z
  refine lv_istore (lv' := [(5, .int v), (0, .ref b0), (1, .ref b), (2, .ref (b + 73)), (3, .ref (b + 100)), (4, .int (zi i))]) S9.1 S9.2.1 dL_law_735 hl (by decide) rfl (fun ls hl => ?_)
  refine lv_aload_n S9.1 S9.2.1 dL_law_737 rfl (lv_at hl 3 rfl) ?_
  refine zz_V [] S9 K Z HH_r zc_10 rfl (c_X12_share (b + 73) (e2 lo')) ⟨rfl, rfl⟩ gm_X12_share gmv_X12_share gl_L_109 ⟨by decide, by decide⟩ rfl hl.1 rfl (Nat.le_of_ble_eq_true rfl) dL_law_738 ⟨by show cells + 1 + 0 ≤ 601024; omega, by show slots + 6 + 0 ≤ 7293000; omega⟩ (fun H locs Z => ?_)
  show W _ _ _ _ _ _ _ _ _ _ _ _ _ _ _ (F0 m 741 ls [.int r])
  refine lv_istore (lv' := [(6, .int r), (5, .int v), (0, .ref b0), (1, .ref b), (2, .ref (b + 73)), (3, .ref (b + 100)), (4, .int (zi i))]) S9.1 S9.2.1 dL_law_741 hl (by decide) rfl (fun ls hl => ?_)
  refine lv_aload_n S9.1 S9.2.1 dL_law_743 rfl (lv_at hl 4 rfl) ?_
  refine zz_V [] S9 K Z HH_r zc_10 rfl (c_X12_thrown (b + 73) (e3 lo')) ⟨rfl, rfl⟩ gm_X12_thrown gmv_X12_thrown gl_L_110 ⟨by decide, by decide⟩ rfl hl.1 rfl (Nat.le_of_ble_eq_true rfl) dL_law_744 ⟨by show cells + 1 + 0 + 0 ≤ 601024; omega, by show slots + 6 + 0 + 0 ≤ 7293000; omega⟩ (fun H locs Z => ?_)
  show W _ _ _ _ _ _ _ _ _ _ _ _ _ _ _ (F0 m 747 ls [.int v])
  refine lv_iload S9.1 S9.2.1 dL_law_747 (lv_at hl 1 rfl) ?_
  refine lv_icmp_eq (tgt := 754) S9.1 S9.2.1 dL_law_749 (by decide) (fun hc => ?_) (fun hc => absurd rfl hc)
  have fin : W p l e room_1 s m #[Value.ref b0] below meth c H locs (cells + 1 + 0 + 0) (slots + 6 + 0 + 0) Z9 (F0 m 771 ls []) := by
    refine lv_goto (tgt := 799) S9.1 S9.2.1 dL_law_771 (by decide) ?_
    exact kk _ _ _ _ _ _ _ _ _ _ _ _ _ ⟨Z, hR', by omega, fun q hq => hfr q (by omega), by omega, by omega⟩ (lv_sub hl [2, 3, 4, 5, 6] rfl)
  refine lv_iload S9.1 S9.2.1 dL_law_754 (lv_at hl 1 rfl) ?_
  refine lv_if_ne (tgt := 771) S9.1 S9.2.1 dL_law_756 (by decide) (fun hc => fin) (fun hc => ?_)
  have hv0 : v = 0 := hc
  rw [if_pos hv0] at hlo
  have ej : zl_J (HH b S V Q (va_up Sm 0 v) Vm lo' g) (b + 100) 3 0 = some r.toInt64 := by
    simp only [zl_J, HH_o]
    rw [if_pos ⟨trivial, fun q => q.elim (by decide) (by decide)⟩, ← hlo]
    rfl
  refine lv_aload_n S9.1 S9.2.1 dL_law_759 rfl (lv_at hl 5 rfl) ?_
  refine lv_iconst (v := 0) S9.1 S9.2.1 dL_law_760 (by decide) ?_
  refine zz_lald (F := some) (X := r.toInt64) S9 K Z (by rw [ej]; rfl) dL_law_761 (fun x hx => ?_)
  obtain rfl := Option.some.inj hx
  refine lv_iload S9.1 S9.2.1 dL_law_762 (lv_at hl 0 rfl) ?_
  refine lv_i2l S9.1 S9.2.1 dL_law_764 rfl ?_
  refine W.lcmp S9.1 S9.2.1 dL_law_765 ?_
  rw [lg_cmp_self]
  refine lv_if_eq (tgt := 771) S9.1 S9.2.1 dL_law_766 (by decide) (fun hc => fin) (fun hc => absurd rfl hc)
end
