section ZZR
variable {p : Program} {l : Launch} {e : Env} {R : Room} {s : State} {m : MethodId} {args : Array Value} {below : List Frame} {meth : Method} {c : Code} {H : Heap} {locs : List Loc} {cells slots : Nat} {Q : State → Prop}
variable {cc : ByteArray} {nL pc : Nat} {own : String} {ls : Array Slot} {rest : List Value} {D : va_G} {dA : Nat → ClassId} {A : Nat → Prop} {h : ZH} {n : Nat} {H0 : Heap} {α : Type} {X : α}
theorem zz_lt {β : Type} {x : β} {F : β → Option α} {G : β → Prop} (hv : zz_let x F = some X) (k : ∀ v : β, F v = some X → G v) : G x := k x hv
theorem zz_gI {a ci k index : Nat} {C : String} {T : u_T} {N : Nat} {ty0 : Nat → FieldType} {F : Int32 → Option α} (S : CallFix p m c cc nL s args GW own) (K : zz_K D dA s) (Z : zz_B D dA A h n H0 H locs) (hv : (zg_I h a ci k).bind F = some X) (hC : zz_C ci C T N ty0) (hk : k < N) (hlk : Cond.fieldLink own index (T k).1 (T k).2.1 (T k).2.2.1 ∈ GW) (hdg : decode cc pc = .ok (.getfield index, 3))
    (kk : ∀ v : Int32, F v = some X → W p l e R s m args below meth c H locs cells slots Q (F0 m (pc + 3) ls (.int v :: rest))) : W p l e R s m args below meth c H locs cells slots Q (F0 m pc ls (.ref a :: rest)) := by
  obtain ⟨v, h1, h2⟩ := zz_bd hv
  obtain ⟨fs, h3, h4⟩ := zg_I_s h1
  exact va_get (ws := [(a, .inr (ci, fs))]) S.1 S.2.1 S.2.2.2.2 hC.2.1 S.2.2.2.1 K.1 (Z.at h3) 0 rfl hC.1 k hk (S.2.2.2.2 _ hlk) (fun _ h => h) h4 hdg (kk v h2)
theorem zz_gR {a ci k index : Nat} {C : String} {T : u_T} {N : Nat} {ty0 : Nat → FieldType} {F : Nat → Option α} (S : CallFix p m c cc nL s args GW own) (K : zz_K D dA s) (Z : zz_B D dA A h n H0 H locs) (hv : (zg_R h a ci k).bind F = some X) (hC : zz_C ci C T N ty0) (hk : k < N) (hlk : Cond.fieldLink own index (T k).1 (T k).2.1 (T k).2.2.1 ∈ GW) (hdg : decode cc pc = .ok (.getfield index, 3))
    (kk : ∀ v : Nat, F v = some X → W p l e R s m args below meth c H locs cells slots Q (F0 m (pc + 3) ls (.ref v :: rest))) : W p l e R s m args below meth c H locs cells slots Q (F0 m pc ls (.ref a :: rest)) := by
  obtain ⟨v, h1, h2⟩ := zz_bd hv
  obtain ⟨fs, h3, h4⟩ := zg_R_s h1
  exact va_get (ws := [(a, .inr (ci, fs))]) S.1 S.2.1 S.2.2.2.2 hC.2.1 S.2.2.2.1 K.1 (Z.at h3) 0 rfl hC.1 k hk (S.2.2.2.2 _ hlk) (fun _ h => h) h4 hdg (kk v h2)
theorem zz_put {a ci k index : Nat} {C : String} {T : u_T} {N : Nat} {ty0 : Nat → FieldType} {v : Value} {F : ZH → Option α} (S : CallFix p m c cc nL s args GW own) (K : zz_K D dA s) (Z : zz_B D dA A h n H0 H locs) (hv : (zp_V h a ci k v).bind F = some X) (hC : zz_C ci C T N ty0) (hk : k < N) (hlk : Cond.fieldLink own index (T k).1 (T k).2.1 (T k).2.2.1 ∈ GW) (hfin : (T k).2.2.2 = false) (hn : narrow (ty0 k) v = v) (hfit : fits (ty0 k) v = true) (hdg : decode cc pc = .ok (.putfield index, 3))
    (kk : ∀ (h1 : ZH) (H1 : Heap) (locs1 : List Loc), F h1 = some X → zz_B D dA A h1 n H0 H1 locs1 → W p l e R s m args below meth c H1 locs1 cells slots Q (F0 m (pc + 3) ls rest)) : W p l e R s m args below meth c H locs cells slots Q (F0 m pc ls (v :: .ref a :: rest)) := by
  obtain ⟨h1, g1, g2⟩ := zz_bd hv
  obtain ⟨fs, g3, hl, rfl⟩ := zp_V_s g1
  obtain ⟨hx, hb, -, hown, hts⟩ := S
  obtain ⟨hc, hin, hty, hnm⟩ := hC
  have hK := K.1
  have hd := hty k hk
  have hap := va_apart (own := own) hts hin ty0 hty hnm hK hc
  obtain ⟨r, h1, cell, q1, q2, q3, q4⟩ := Z.1.1 _ _ g3
  have hr : r = (C, T, N) := Option.some.inj (h1.symm.trans hc)
  subst hr
  obtain ⟨hS, hfc, kC, hkC, hkind⟩ := hK.1 ci _ hc
  obtain ⟨cf, kf, fi, f, hi, hsl⟩ := hS k hk
  have hlay := hts _ (hin _ (u_in_lay hk))
  unfold u_lay at hlay
  rw [if_neg (by rw [hfin]; decide)] at hlay
  have hst := (u_facts hfc hkC (u_lays hts hin hk) hi).1
  have h6 := u_store hfc hkC hkind hlay hi hd hn hfit
  refine W.putK hx hb (f := f) ⟨hown, hts _ hlk, ⟨_, _, _, hi⟩, hst⟩ (by rw [q2]; exact h6) q1 q3 (by rw [hsl]; exact k2_hasslot (q4 k hk)) rfl rfl hdg fun H' e1 e2 e3 => ?_
  rw [hsl] at e1 ⊢
  exact kk _ H' _ g2 (Z.set g3 (c1 := .inr (ci, fs.set k v)) ⟨_, hc, t_OB.to (V := updV (vp_V fs) k v) ⟨_, e1, q2, q3, t_set q4 hap hk v⟩ (fun j _ => vp_updV_set hl v j)⟩ e2 e3)
theorem zz_putF {a ci k index : Nat} {C : String} {T : u_T} {N : Nat} {ty0 : Nat → FieldType} {v : Value} {F : ZH → Option α} (S : CallFix p m c cc nL s args GW own) (K : zz_K D dA s) (Z : zz_B D dA A h n H0 H locs) (hv : (zp_V h a ci k v).bind F = some X) (hC : zz_C ci C T N ty0) (hk : k < N) (hlk : Cond.fieldLink own index (T k).1 (T k).2.1 (T k).2.2.1 ∈ GW) (hfin : (T k).2.2.2 = true) (hin2 : meth.name = "<init>") (hdecl : (T k).1 = own) (hn : narrow (ty0 k) v = v) (hfit : fits (ty0 k) v = true) (hdg : decode cc pc = .ok (.putfield index, 3))
    (kk : ∀ (h1 : ZH) (H1 : Heap) (locs1 : List Loc), F h1 = some X → zz_B D dA A h1 n H0 H1 locs1 → W p l e R s m args below meth c H1 locs1 cells slots Q (F0 m (pc + 3) ls rest)) : W p l e R s m args below meth c H locs cells slots Q (F0 m pc ls (v :: .ref a :: rest)) := by
  obtain ⟨h1, g1, g2⟩ := zz_bd hv
  obtain ⟨fs, g3, hl, rfl⟩ := zp_V_s g1
  obtain ⟨hx, hb, -, hown, hts⟩ := S
  obtain ⟨hc, hin, hty, hnm⟩ := hC
  have hK := K.1
  have hd := hty k hk
  have hap := va_apart (own := own) hts hin ty0 hty hnm hK hc
  obtain ⟨r, h1, cell, q1, q2, q3, q4⟩ := Z.1.1 _ _ g3
  have hr : r = (C, T, N) := Option.some.inj (h1.symm.trans hc)
  subst hr
  obtain ⟨hS, hfc, kC, hkC, hkind⟩ := hK.1 ci _ hc
  obtain ⟨cf, kf, fi, f, hi, hsl⟩ := hS k hk
  have hlay := hts _ (hin _ (u_in_lay hk))
  unfold u_lay at hlay
  rw [if_pos hfin] at hlay
  have hst := (u_facts hfc hkC (u_lays hts hin hk) hi).1
  have hcf : m.cls = cf := by
    obtain ⟨_, _, c', _, _, _, -, -, hf', -, -, -, hown2, -⟩ := Cond.laysFinal_spec hlay
    have e1 : c' = cf := by have := hi.symm.trans hf'; simp at this; exact this.1.symm
    rw [hdecl] at hown2
    rw [← e1]; exact Option.some.inj (hown.symm.trans hown2)
  have h6 := u_fits hfc hkC hkind (Or.inr hlay) hi hd hn hfit
  refine W.putFinK hx hb hown (hts _ hlk) hi hst hcf hin2 (by rw [q2]; exact h6) q1 q3 (by rw [hsl]; exact k2_hasslot (q4 k hk)) rfl rfl hdg fun H' e1 e2 e3 => ?_
  rw [hsl] at e1 ⊢
  exact kk _ H' _ g2 (Z.set g3 (c1 := .inr (ci, fs.set k v)) ⟨_, hc, t_OB.to (V := updV (vp_V fs) k v) ⟨_, e1, q2, q3, t_set q4 hap hk v⟩ (fun j _ => vp_updV_set hl v j)⟩ e2 e3)
theorem zz_iald {a : Nat} {i : Int32} {F : Int32 → Option α} (S : CallFix p m c cc nL s args GW own) (K : zz_K D dA s) (Z : zz_B D dA A h n H0 H locs) (hv : (zl_I h a 1 i).bind F = some X) (hdg : decode cc pc = .ok (.iaload, 1))
    (kk : ∀ v : Int32, F v = some X → W p l e R s m args below meth c H locs cells slots Q (F0 m (pc + 1) ls (.int v :: rest))) : W p l e R s m args below meth c H locs cells slots Q (F0 m pc ls (.int i :: .ref a :: rest)) := by
  obtain ⟨v, h1, h2⟩ := zz_bd hv
  obtain ⟨N, f, h3, h4, rfl⟩ := zl_I_s h1
  exact va_iald (ws := [(a, zz_E dA (.inl (1, N, .inl f)))]) S.1 S.2.1 K.1 (Z.at h3) 0 1 rfl rfl h4 hdg (kk _ h2)
theorem zz_bald {a : Nat} {i : Int32} {F : Int32 → Option α} (S : CallFix p m c cc nL s args GW own) (K : zz_K D dA s) (Z : zz_B D dA A h n H0 H locs) (hv : (zl_I h a 0 i).bind F = some X) (hdg : decode cc pc = .ok (.baload, 1))
    (kk : ∀ v : Int32, F v = some X → W p l e R s m args below meth c H locs cells slots Q (F0 m (pc + 1) ls (.int v :: rest))) : W p l e R s m args below meth c H locs cells slots Q (F0 m pc ls (.int i :: .ref a :: rest)) := by
  obtain ⟨v, h1, h2⟩ := zz_bd hv
  obtain ⟨N, f, h3, h4, rfl⟩ := zl_I_s h1
  exact va_bald (ws := [(a, zz_E dA (.inl (0, N, .inl f)))]) S.1 S.2.1 K.1 (Z.at h3) 0 0 rfl rfl h4 hdg (kk _ h2)
theorem zz_zald {a : Nat} {i : Int32} {F : Int32 → Option α} (S : CallFix p m c cc nL s args GW own) (K : zz_K D dA s) (Z : zz_B D dA A h n H0 H locs) (hv : (zl_I h a 2 i).bind F = some X) (hdg : decode cc pc = .ok (.baload, 1))
    (kk : ∀ v : Int32, F v = some X → W p l e R s m args below meth c H locs cells slots Q (F0 m (pc + 1) ls (.int v :: rest))) : W p l e R s m args below meth c H locs cells slots Q (F0 m pc ls (.int i :: .ref a :: rest)) := by
  obtain ⟨v, h1, h2⟩ := zz_bd hv
  obtain ⟨N, f, h3, h4, rfl⟩ := zl_I_s h1
  exact va_zald (ws := [(a, zz_E dA (.inl (2, N, .inl f)))]) S.1 S.2.1 K.1 (Z.at h3) 0 2 rfl rfl h4 hdg (kk _ h2)
theorem zz_lald {a : Nat} {i : Int32} {F : Int64 → Option α} (S : CallFix p m c cc nL s args GW own) (K : zz_K D dA s) (Z : zz_B D dA A h n H0 H locs) (hv : (zl_J h a 3 i).bind F = some X) (hdg : decode cc pc = .ok (.laload, 1))
    (kk : ∀ v : Int64, F v = some X → W p l e R s m args below meth c H locs cells slots Q (F0 m (pc + 1) ls (.long v :: rest))) : W p l e R s m args below meth c H locs cells slots Q (F0 m pc ls (.int i :: .ref a :: rest)) := by
  obtain ⟨v, h1, h2⟩ := zz_bd hv
  obtain ⟨N, f, h3, h4, rfl⟩ := zl_J_s h1
  exact va_lald (ws := [(a, zz_E dA (.inl (3, N, .inr (.inl f))))]) S.1 S.2.1 K.1 (Z.at h3) 0 3 rfl rfl h4 hdg (kk _ h2)
theorem zz_aaldQ {a t : Nat} {C : String} {i : Int32} {F : Option Nat → Option α} (S : CallFix p m c cc nL s args GW own) (K : zz_K D dA s) (Z : zz_B D dA A h n H0 H locs) (hv : (zl_Q h a t i).bind F = some X) (ht : (zz_T dA)[t]? = some (dA t, .object C)) (hdg : decode cc pc = .ok (.aaload, 1))
    (kk : ∀ v : Option Nat, F v = some X → W p l e R s m args below meth c H locs cells slots Q (F0 m (pc + 1) ls (va_rf v :: rest))) : W p l e R s m args below meth c H locs cells slots Q (F0 m pc ls (.int i :: .ref a :: rest)) := by
  obtain ⟨v, h1, h2⟩ := zz_bd hv
  obtain ⟨N, f, h3, h4, rfl⟩ := zl_Q_s h1
  exact va_aldq (ws := [(a, zz_E dA (.inl (t, N, .inr (.inr (.inr (.inr f))))))]) S.1 S.2.1 K.1 (Z.at h3) 0 t rfl ht h4 hdg (kk _ h2)
theorem zz_aald {a t : Nat} {C : String} {i : Int32} {F : Nat → Option α} (S : CallFix p m c cc nL s args GW own) (K : zz_K D dA s) (Z : zz_B D dA A h n H0 H locs) (hv : (zl_R h a t i).bind F = some X) (ht : (zz_T dA)[t]? = some (dA t, .object C)) (hdg : decode cc pc = .ok (.aaload, 1))
    (kk : ∀ v : Nat, F v = some X → W p l e R s m args below meth c H locs cells slots Q (F0 m (pc + 1) ls (.ref v :: rest))) : W p l e R s m args below meth c H locs cells slots Q (F0 m pc ls (.int i :: .ref a :: rest)) := by
  obtain ⟨v, h1, h2⟩ := zz_bd hv
  obtain ⟨r, h5, h6⟩ := zz_bd h1
  subst h6
  obtain ⟨N, f, h3, h4, h7⟩ := zl_Q_s h5
  refine va_aldq (ws := [(a, zz_E dA (.inl (t, N, .inr (.inr (.inr (.inr f))))))]) S.1 S.2.1 K.1 (Z.at h3) 0 t rfl ht h4 hdg ?_
  rw [← h7]
  exact kk _ h2
theorem zz_alen {a t : Nat} {ty : FieldType} {F : Int32 → Option α} (S : CallFix p m c cc nL s args GW own) (K : zz_K D dA s) (Z : zz_B D dA A h n H0 H locs) (hv : (zl_N h a t).bind F = some X) (ht : (zz_T dA)[t]? = some (dA t, ty)) (hdg : decode cc pc = .ok (.arraylength, 1))
    (kk : ∀ v : Int32, F v = some X → W p l e R s m args below meth c H locs cells slots Q (F0 m (pc + 1) ls (.int v :: rest))) : W p l e R s m args below meth c H locs cells slots Q (F0 m pc ls (.ref a :: rest)) := by
  obtain ⟨v, h1, h2⟩ := zz_bd hv
  obtain ⟨x, h3, h4⟩ := zl_N_s h1
  exact va_alen (ws := [(a, zz_E dA (.inl (t, x)))]) S.1 S.2.1 K.1 (Z.at h3) 0 t rfl ht h4 hdg (kk _ h2)
theorem zz_iast {a : Nat} {i x : Int32} {F : ZH → Option α} (S : CallFix p m c cc nL s args GW own) (K : zz_K D dA s) (Z : zz_B D dA A h n H0 H locs) (hv : (zs_I h a 1 i x).bind F = some X) (hdg : decode cc pc = .ok (.iastore, 1))
    (kk : ∀ (h1 : ZH) (H1 : Heap) (locs1 : List Loc), F h1 = some X → zz_B D dA A h1 n H0 H1 locs1 → W p l e R s m args below meth c H1 locs1 cells slots Q (F0 m (pc + 1) ls rest)) : W p l e R s m args below meth c H locs cells slots Q (F0 m pc ls (.int x :: .int i :: .ref a :: rest)) := by
  obtain ⟨h1, g1, g2⟩ := zz_bd hv
  obtain ⟨N, f, g3, hin, rfl⟩ := zs_I_s g1
  refine W.iast S.1 S.2.1 (Z.1.1 _ _ g3) ((K.1.2 1 (dA 1, .int) rfl).1 N (fun j => .int (f j))) (fun q => by cases q) (by show ¬ (i < 0 ∨ (arrV _ _ _).slots.size ≤ _); rw [arrV_size]; exact hin) rfl rfl hdg fun H1 e z oq => ?_
  refine kk _ H1 _ g2 (Z.set g3 (c1 := .inl (1, N, .inl (va_up f i.toNatClampNeg x))) ?_ z oq)
  show H1[a]? = some (vp_cell _ _)
  rw [e]
  show some ((vp_cell _ (N, .inl f)).setSlot _ _) = _
  rw [vp_cell_i, vp_cell_i, arrV_store]
  congr 2
  funext q
  by_cases hq : q = i.toNatClampNeg
  · subst hq
    simp [updV, va_up]
  · simp [updV, va_up, hq]
theorem zz_bast {a : Nat} {i x : Int32} {F : ZH → Option α} (S : CallFix p m c cc nL s args GW own) (K : zz_K D dA s) (Z : zz_B D dA A h n H0 H locs) (hv : (zs_I h a 0 i (vp_nar .byte x)).bind F = some X) (hdg : decode cc pc = .ok (.bastore, 1))
    (kk : ∀ (h1 : ZH) (H1 : Heap) (locs1 : List Loc), F h1 = some X → zz_B D dA A h1 n H0 H1 locs1 → W p l e R s m args below meth c H1 locs1 cells slots Q (F0 m (pc + 1) ls rest)) : W p l e R s m args below meth c H locs cells slots Q (F0 m pc ls (.int x :: .int i :: .ref a :: rest)) := by
  obtain ⟨h1, g1, g2⟩ := zz_bd hv
  obtain ⟨N, f, g3, hin, rfl⟩ := zs_I_s g1
  refine W.bast S.1 S.2.1 (Z.1.1 _ _ g3) ((K.1.2 0 (dA 0, .byte) rfl).1 N (fun j => .int (f j))) (fun q => by cases q) (by show ¬ (i < 0 ∨ (arrV _ _ _).slots.size ≤ _); rw [arrV_size]; exact hin) rfl rfl hdg fun H1 e z oq => ?_
  refine kk _ H1 _ g2 (Z.set g3 (c1 := .inl (0, N, .inl (va_up f i.toNatClampNeg (vp_nar .byte x)))) ?_ z oq)
  show H1[a]? = some (vp_cell _ _)
  rw [e]
  show some ((vp_cell _ (N, .inl f)).setSlot _ _) = _
  rw [vp_cell_i, vp_cell_i, arrV_store]
  congr 2
  funext q
  by_cases hq : q = i.toNatClampNeg
  · subst hq
    simp [updV, va_up, vp_nar]
    try rfl
  · simp [updV, va_up, hq]
theorem zz_zast {a : Nat} {i x : Int32} {F : ZH → Option α} (S : CallFix p m c cc nL s args GW own) (K : zz_K D dA s) (Z : zz_B D dA A h n H0 H locs) (hv : (zs_I h a 2 i (vp_nar .boolean x)).bind F = some X) (hdg : decode cc pc = .ok (.bastore, 1))
    (kk : ∀ (h1 : ZH) (H1 : Heap) (locs1 : List Loc), F h1 = some X → zz_B D dA A h1 n H0 H1 locs1 → W p l e R s m args below meth c H1 locs1 cells slots Q (F0 m (pc + 1) ls rest)) : W p l e R s m args below meth c H locs cells slots Q (F0 m pc ls (.int x :: .int i :: .ref a :: rest)) := by
  obtain ⟨h1, g1, g2⟩ := zz_bd hv
  obtain ⟨N, f, g3, hin, rfl⟩ := zs_I_s g1
  refine W.zast S.1 S.2.1 (Z.1.1 _ _ g3) ((K.1.2 2 (dA 2, .boolean) rfl).1 N (fun j => .int (f j))) (fun q => by cases q) (by show ¬ (i < 0 ∨ (arrV _ _ _).slots.size ≤ _); rw [arrV_size]; exact hin) rfl rfl hdg fun H1 e z oq => ?_
  refine kk _ H1 _ g2 (Z.set g3 (c1 := .inl (2, N, .inl (va_up f i.toNatClampNeg (vp_nar .boolean x)))) ?_ z oq)
  show H1[a]? = some (vp_cell _ _)
  rw [e]
  show some ((vp_cell _ (N, .inl f)).setSlot _ _) = _
  rw [vp_cell_i, vp_cell_i, arrV_store]
  congr 2
  funext q
  by_cases hq : q = i.toNatClampNeg
  · subst hq
    simp [updV, va_up, vp_nar]
    try rfl
  · simp [updV, va_up, hq]
theorem zz_aast {a t v ci : Nat} {i : Int32} {C : String} {T : u_T} {N0 : Nat} {ty0 : Nat → FieldType} {F : ZH → Option α} (S : CallFix p m c cc nL s args GW own) (K : zz_K D dA s) (Z : zz_B D dA A h n H0 H locs) (hv : zz_isO h v ci ((zs_R h a t i v).bind F) = some X) (hC : zz_C ci C T N0 ty0) (ht : (zz_T dA)[t]? = some (dA t, .object C)) (hdg : decode cc pc = .ok (.aastore, 1))
    (kk : ∀ (h1 : ZH) (H1 : Heap) (locs1 : List Loc), F h1 = some X → zz_B D dA A h1 n H0 H1 locs1 → W p l e R s m args below meth c H1 locs1 cells slots Q (F0 m (pc + 1) ls rest)) : W p l e R s m args below meth c H locs cells slots Q (F0 m pc ls (.ref v :: .int i :: .ref a :: rest)) := by
  obtain ⟨⟨vs, hvs⟩, hv⟩ := zz_isO_s hv
  obtain ⟨h1, g1, g2⟩ := zz_bd hv
  obtain ⟨N, f, g3, hin, rfl⟩ := zs_R_s g1
  have hlt : i.toNatClampNeg < N := Nat.not_le.mp fun q => hin (Or.inr q)
  have h0 : ¬ i < 0 := fun q => hin (Or.inl q)
  have hK := K.1
  obtain ⟨r', hr', cellV, q1, q2, q3, -⟩ := Z.1.1 _ _ hvs
  have hcls := (hK.1 ci _ hC.1).2
  obtain ⟨kA, comp, k1, k2, k3, -⟩ := (hK.2 t _ ht).2
  have hcomp : comp = D.1 ci := Option.some.inj (k3.symm.trans hcls.1)
  subst hcomp
  obtain ⟨kC, hkC, -⟩ := hcls.2
  refine W.aast S.1 S.2.1 (Z.1.1 _ _ g3) (fun q h => by cases h) (fun h => by cases h) k1 k2 rfl hkC ⟨h0, by show _ < (arrV _ _ _).slots.size; rw [arrV_size]; exact hlt⟩ q1 (fun q h => by rw [q3] at h; cases h) (by rw [q2]; exact hkC) (by rw [q2]; exact va_assign hcls) rfl rfl hdg fun H1 e z oq => ?_
  refine kk _ H1 _ g2 (Z.set g3 (c1 := .inl (t, N, .inr (.inr (.inr (.inr (va_up f i.toNatClampNeg (some v))))))) ?_ z oq)
  show H1[a]? = some (vp_cell _ _)
  rw [e]
  show some ((vp_cell _ (N, .inr (.inr (.inr (.inr f))))).setSlot _ _) = _
  rw [vp_cell_q, vp_cell_q, arrV_store]
  congr 2
  funext q
  by_cases hq : q = i.toNatClampNeg
  · subst hq
    simp [updV, va_up, va_rf]
  · simp [updV, va_up, hq]
/-! ===== ends ===== -/
theorem zz_iret {v : Int32} {mc ms : Nat} (S : CallFix p m c cc nL s args GW own) (Z : zz_B D dA A h n s.heap H locs) (hr : meth.sig.returnType = some .int) (hlocks : meth.locks = false) (hdg : decode cc pc = .ok (.ireturn, 1)) (h1 : cells ≤ mc) (h2 : slots ≤ ms) :
    W p l e R s m args below meth c H locs cells slots (MQ below (zz_Q D dA A (some (.int v)) h n) args s mc ms A) (F0 m pc ls [.int v]) :=
  W.widen h1 h2 (W.iret S.1 S.2.1 hr (fun t ht hW => ⟨rfl, by rw [ht]; exact Z.1, Z.2.F ht⟩) Z.2.2.2 hdg hlocks)
theorem zz_zret {v : Int32} {mc ms : Nat} (S : CallFix p m c cc nL s args GW own) (Z : zz_B D dA A h n s.heap H locs) (hr : meth.sig.returnType = some .boolean) (hn : v = 0 ∨ v = 1) (hlocks : meth.locks = false) (hdg : decode cc pc = .ok (.ireturn, 1)) (h1 : cells ≤ mc) (h2 : slots ≤ ms) :
    W p l e R s m args below meth c H locs cells slots (MQ below (zz_Q D dA A (some (.int v)) h n) args s mc ms A) (F0 m pc ls [.int v]) :=
  W.widen h1 h2 (W.zret S.1 S.2.1 hr (by rcases hn with rfl | rfl <;> rfl) (fun t ht hW => ⟨rfl, by rw [ht]; exact Z.1, Z.2.F ht⟩) Z.2.2.2 hdg hlocks)
theorem zz_vret {mc ms : Nat} (S : CallFix p m c cc nL s args GW own) (Z : zz_B D dA A h n s.heap H locs) (hr : meth.sig.returnType = none) (hlocks : meth.locks = false) (hdg : decode cc pc = .ok (.return_, 1)) (h1 : cells ≤ mc) (h2 : slots ≤ ms) :
    W p l e R s m args below meth c H locs cells slots (MQ below (zz_Q D dA A none h n) args s mc ms A) (F0 m pc ls []) :=
  W.widen h1 h2 (W.vret S.1 S.2.1 hr (fun t ht hW => ⟨rfl, by rw [ht]; exact Z.1, Z.2.F ht⟩) Z.2.2.2 hdg hlocks)
theorem zz_aret {v : Value} {rt : FieldType} {mc ms : Nat} (S : CallFix p m c cc nL s args GW own) (Z : zz_B D dA A h n s.heap H locs) (hr : meth.sig.returnType = some rt) (hrt : (∃ n, rt = .object n) ∨ ∃ t, rt = .array t) (hv : v = .null ∨ ∃ a, v = .ref a) (hlocks : meth.locks = false) (hdg : decode cc pc = .ok (.areturn, 1)) (h1 : cells ≤ mc) (h2 : slots ≤ ms) :
    W p l e R s m args below meth c H locs cells slots (MQ below (zz_Q D dA A (some v) h n) args s mc ms A) (F0 m pc ls [v]) :=
  W.widen h1 h2 (W.aret S.1 S.2.1 hr hrt hv (fun t ht hW => ⟨rfl, by rw [ht]; exact Z.1, Z.2.F ht⟩) Z.2.2.2 hdg hlocks)
/-! ===== calls ===== -/
def zz_M (y : MethodName) (cc : ByteArray) (maxL : Nat) (ret : Option FieldType) (k : Nat) : Prop := Cond.code y cc maxL ret ∈ GW ∧ Cond.initialized y.cls ∈ GW ∧ y.cls ≠ "java/lang/invoke/MethodHandle" ∧ y.cls ≠ "java/lang/invoke/VarHandle" ∧ (parseMethodDescriptor y.desc).map (fun d => d.parameters.length) = some k
def zz_MV (y : MethodName) : Prop := Cond.instanceMethod y ∈ GW ∧ Cond.selects y.cls y y ∈ GW
theorem zz_gi {y : MethodName} {bc : ByteArray} {maxL k : Nat} {ret : Option FieldType} (hM : zz_M y bc maxL ret k) : GoodIn GW (zz_ws y bc maxL ret) := fun w hw => by
  rcases List.mem_cons.mp hw with h | h
  · subst h; exact GW_good _ hM.1
  · exact GW_good _ h
theorem zz_callB {y : MethodName} {bc : ByteArray} {maxL k index : Nat} {ret : Option FieldType} {rm : Room} (S : CallFix p m c cc nL s args GW own) (hM : zz_M y bc maxL ret k) (hl : Cond.methodLink own index y ∈ GW) (hR : rm.frames + 1 ≤ R.frames ∧ 8 + (maxL + 11) + rm.locals ≤ R.locals) : CallB R s args own index y bc maxL ret (zz_ws y bc maxL ret) rm rm.cells rm.slots k :=
  callB_of k S.2.2.2.2 (zz_gi hM) rfl rfl rfl (S.2.2.2.2 _ hM.2.1) (S.2.2.2.2 _ hl) hM.2.2 hR
theorem zz_go {a : Array Value} {st0 : List Value} {mc ms : Nat} {rv : Option Value} {h1 : ZH} {n1 : Nat} (Z : zz_B D dA A h n H0 H locs) (hr : va_Run p l e R s m args below meth c H locs cells slots mc ms (F0 m pc ls st0) rest (zz_Q D dA A rv h1 n1 a) A)
    (kk : ∀ (H1 : Heap) (locs1 : List Loc), zz_B D dA A h1 n1 H0 H1 locs1 → W p l e R s m args below meth c H1 locs1 (cells + mc) (slots + ms) Q (F0 m (pc + 3) ls (rv.toList ++ rest))) : W p l e R s m args below meth c H locs cells slots Q (F0 m pc ls st0) := by
  intro T hT X
  obtain ⟨v, st₀, t, T', L, h0, X', hL, e1, e2, ⟨hv, hH, hz, hk⟩, st⟩ := hr T hT X
  cases hv
  rw [h0] at hz hk
  obtain ⟨hB, hS⟩ := Z
  obtain ⟨t2, a1, b1⟩ := kk T'.heap (locs ++ L) ⟨by rw [e1]; exact hH, Nat.le_trans hS.1 (by rw [e1]; exact hz), fun q h1 h2 => by rw [e1, hk q (Nat.lt_of_lt_of_le h1 hS.1) h2]; exact hS.2.1 q h1 h2, fun q hq => by
      rcases List.mem_append.mp hq with h | h
      · exact hS.2.2 q h
      · exact hL q h⟩ T' rfl X'
  exact ⟨t2, st t2 a1, b1⟩
theorem zz_pre {As : List Value} (K : zz_K D dA s) (Z : zz_B D dA A h n H0 H locs) : PreS s H (zz_P D dA A h n As) As :=
  ⟨zz_P.blind, fun U hU hW => ⟨rfl, zz_K.warm hW K, by rw [hU]; exact Z.1⟩⟩
theorem zz_V {mc ms : Nat} {y : MethodName} {bc : ByteArray} {maxL k index b ci : Nat} {ret : Option FieldType} {rm : Room} {rv : Option Value} {h1 : ZH} {n1 : Nat} {C : String} {T : u_T} {N : Nat} {ty0 : Nat → FieldType} (As : List Value) (S : CallFix p m c cc nL s args GW own) (K : zz_K D dA s) (Z : zz_B D dA A h n H0 H locs) (hci : ∃ fs, h b = some (.inr (ci, fs))) (hC : zz_C ci C T N ty0) (hyC : y.cls = C) (hM : Met l y (zz_ws y bc maxL ret) rm (zz_P D dA A h n (.ref b :: As)) (zz_Q D dA A rv h1 n1) mc ms A) (hmc : rm.cells = mc ∧ rm.slots = ms) (hW : zz_M y bc maxL ret k) (hV : zz_MV y) (hl : Cond.methodLink own index y ∈ GW) (hR : rm.frames + 1 ≤ R.frames ∧ 8 + (maxL + 11) + rm.locals ≤ R.locals) (hn : As.length = k) (hsz : ls.size = nL) {st0 : List Value} (hst : st0 = As.reverse ++ .ref b :: rest) (hrest : (rest.map fun v => v.category).sum ≤ 8) (hdg : decode cc pc = .ok (.invokevirtual index, 3)) (hf : cells + mc ≤ R.cells ∧ slots + ms ≤ R.slots)
    (kk : ∀ (H1 : Heap) (locs1 : List Loc), zz_B D dA A h1 n1 H0 H1 locs1 → W p l e R s m args below meth c H1 locs1 (cells + mc) (slots + ms) Q (F0 m (pc + 3) ls (rv.toList ++ rest))) : W p l e R s m args below meth c H locs cells slots Q (F0 m pc ls st0) := by
  obtain ⟨fs, hfs⟩ := hci
  obtain ⟨rfl, rfl⟩ := hmc
  subst hst
  subst hyC
  exact zz_go Z (va_runV S hM ⟨zz_callB S hW hl hR, S.2.2.2.2 _ hV.1, S.2.2.2.2 _ hV.2⟩ ⟨zz_P.blind, va_recv (q0 := 0) K.1 (Z.at hfs) hC.1 rfl, (zz_pre K Z).2⟩ rfl hn hsz rfl (lv_room hrest) hdg hf) kk
theorem zz_S {mc ms : Nat} {y : MethodName} {bc : ByteArray} {maxL k index : Nat} {ret : Option FieldType} {rm : Room} {rv : Option Value} {h1 : ZH} {n1 : Nat} (As : List Value) (S : CallFix p m c cc nL s args GW own) (K : zz_K D dA s) (Z : zz_B D dA A h n H0 H locs) (hM : Met l y (zz_ws y bc maxL ret) rm (zz_P D dA A h n As) (zz_Q D dA A rv h1 n1) mc ms A) (hmc : rm.cells = mc ∧ rm.slots = ms) (hW : zz_M y bc maxL ret k) (hV : Cond.static y ∈ GW) (hl : Cond.methodLink own index y ∈ GW) (hR : rm.frames + 1 ≤ R.frames ∧ 8 + (maxL + 11) + rm.locals ≤ R.locals) (hn : As.length = k) (hsz : ls.size = nL) {st0 : List Value} (hst : st0 = As.reverse ++ rest) (hrest : (rest.map fun v => v.category).sum ≤ 8) (hdg : decode cc pc = .ok (.invokestatic index, 3)) (hf : cells + mc ≤ R.cells ∧ slots + ms ≤ R.slots)
    (kk : ∀ (H1 : Heap) (locs1 : List Loc), zz_B D dA A h1 n1 H0 H1 locs1 → W p l e R s m args below meth c H1 locs1 (cells + mc) (slots + ms) Q (F0 m (pc + 3) ls (rv.toList ++ rest))) : W p l e R s m args below meth c H locs cells slots Q (F0 m pc ls st0) := by
  obtain ⟨rfl, rfl⟩ := hmc
  subst hst
  exact zz_go Z (va_runS S hM ⟨zz_callB S hW hl hR, S.2.2.2.2 _ hV⟩ (zz_pre K Z) rfl hn hsz rfl (lv_room hrest) hdg hf) kk
theorem zz_I {mc ms : Nat} {y : MethodName} {bc : ByteArray} {maxL k index b : Nat} {rm : Room} {rv : Option Value} {h1 : ZH} {n1 : Nat} (As : List Value) (S : CallFix p m c cc nL s args GW own) (K : zz_K D dA s) (Z : zz_B D dA A h n H0 H locs) (hM : Met l y (zz_ws y bc maxL none) rm (zz_P D dA A h n (.ref b :: As)) (zz_Q D dA A rv h1 n1) mc ms A) (hmc : rm.cells = mc ∧ rm.slots = ms) (hW : zz_M y bc maxL none k) (hV : Cond.instanceMethod y ∈ GW) (hy : y.name = "<init>") (hl : Cond.methodLink own index y ∈ GW) (hR : rm.frames + 1 ≤ R.frames ∧ 8 + (maxL + 11) + rm.locals ≤ R.locals) (hn : As.length = k) (hsz : ls.size = nL) {st0 : List Value} (hst : st0 = As.reverse ++ .ref b :: rest) (hrest : (rest.map fun v => v.category).sum ≤ 8) (hdg : decode cc pc = .ok (.invokespecial index, 3)) (hf : cells + mc ≤ R.cells ∧ slots + ms ≤ R.slots)
    (kk : ∀ (H1 : Heap) (locs1 : List Loc), zz_B D dA A h1 n1 H0 H1 locs1 → W p l e R s m args below meth c H1 locs1 (cells + mc) (slots + ms) Q (F0 m (pc + 3) ls (rv.toList ++ rest))) : W p l e R s m args below meth c H locs cells slots Q (F0 m pc ls st0) := by
  obtain ⟨rfl, rfl⟩ := hmc
  subst hst
  exact zz_go Z (va_runI S hM ⟨zz_callB S hW hl hR, hy, S.2.2.2.2 _ hV⟩ (zz_pre K Z) rfl hn hsz rfl (lv_room hrest) hdg hf) kk
theorem zz_IN {mc ms : Nat} {y : MethodName} {bc : ByteArray} {maxL k index b : Nat} {host : String} {rm : Room} {rv : Option Value} {h1 : ZH} {n1 : Nat} (As : List Value) (S : CallFix p m c cc nL s args GW own) (K : zz_K D dA s) (Z : zz_B D dA A h n H0 H locs) (hM : Met l y (zz_ws y bc maxL none) rm (zz_P D dA A h n (.ref b :: As)) (zz_Q D dA A rv h1 n1) mc ms A) (hmc : rm.cells = mc ∧ rm.slots = ms) (hW : zz_M y bc maxL none k) (hV : Cond.instanceMethod y ∈ GW) (hy : y.name = "<init>") (hl : Cond.methodLinkNest own index y host ∈ zz_NW) (hR : rm.frames + 1 ≤ R.frames ∧ 8 + (maxL + 11) + rm.locals ≤ R.locals) (hn : As.length = k) (hsz : ls.size = nL) {st0 : List Value} (hst : st0 = As.reverse ++ .ref b :: rest) (hrest : (rest.map fun v => v.category).sum ≤ 8) (hdg : decode cc pc = .ok (.invokespecial index, 3)) (hf : cells + mc ≤ R.cells ∧ slots + ms ≤ R.slots)
    (kk : ∀ (H1 : Heap) (locs1 : List Loc), zz_B D dA A h1 n1 H0 H1 locs1 → W p l e R s m args below meth c H1 locs1 (cells + mc) (slots + ms) Q (F0 m (pc + 3) ls (rv.toList ++ rest))) : W p l e R s m args below meth c H locs cells slots Q (F0 m pc ls st0) := by
  obtain ⟨rfl, rfl⟩ := hmc
  subst hst
  exact zz_go Z (va_runIN S hM ⟨va_cnB k S.2.2.2.2 (zz_gi hW) rfl rfl rfl (K.2.1 _ hl) (S.2.2.2.2 _ hW.2.1) hW.2.2 hR, hy, S.2.2.2.2 _ hV⟩ (zz_pre K Z) rfl hn hsz rfl (lv_room hrest) hdg hf) kk
/-! ===== making ===== -/
theorem zz_new {F : ZH → Option α} {ci index : Nat} {C : String} {T : u_T} {N : Nat} {ty0 : Nat → FieldType} {fs : List Value} (S : CallFix p m c cc nL s args GW own) (K : zz_K D dA s) (Z : zz_B D dA A h n H0 H locs) (hv : zz_let (va_up h n (some (.inr (ci, fs)))) F = some X) (hC : zz_C ci C T N ty0) (hcl : Cond.classLink own index C ∈ GW) (hinst : Cond.instantiable C N ∈ GW) (hini : Cond.initialized C ∈ GW) (hfs : ∀ j, j < N → defaultValue (ty0 j) = vp_V fs j) (hcells : cells + 1 ≤ R.cells) (hslots : slots + N ≤ R.slots) (hdg : decode cc pc = .ok (.new index, 3))
    (kk : ∀ (h1 : ZH) (H1 : Heap), F h1 = some X → zz_B D dA A h1 (n + 1) H0 H1 locs → W p l e R s m args below meth c H1 locs (cells + 1) (slots + N) Q (F0 m (pc + 3) ls (.ref n :: rest))) : W p l e R s m args below meth c H locs cells slots Q (F0 m pc ls rest) := by
  obtain ⟨hx, hb, -, hown, hts⟩ := S
  obtain ⟨hc, hin, hty, hnm⟩ := hC
  have hKn := K.1.1 ci _ hc
  refine W.newcK hx hb hown (hts _ hcl) (hts _ hinst) (hts _ hini) rfl hdg hcells hslots hKn.2.1 Z.1.2.1 fun H1 kC hkC e1 z1 o1 => ?_
  exact kk _ H1 hv (Z.push (c1 := .inr (ci, fs)) ⟨_, hc, (u_born ty0 hts hin hKn hkC e1 hty).to hfs⟩ z1 o1)
theorem zz_newa {F : ZH → Option α} {t : Nat} {atype : ArrayType} {z : Int32} {N : Nat} {a0 : Nat → vp_A} (S : CallFix p m c cc nL s args GW own) (K : zz_K D dA s) (Z : zz_B D dA A h n H0 H locs) (hN : z.toNatClampNeg = N) (hv : zz_let (va_up h n (some (.inl (t, a0 N)))) F = some X) (harr : Cond.arrayClass (newarray.typeOf atype) ∈ GW) (ht : (zz_T dA)[t]? = some (dA t, newarray.typeOf atype)) (hra : va_RA s (dA t) (newarray.typeOf atype) → s.vm.findClass ("[" ++ (newarray.typeOf atype).toString) = some (dA t)) (ha : ∀ (cA : ClassId) (N : Nat), vp_cell cA (a0 N) = arrV cA N (fun _ => defaultValue (newarray.typeOf atype))) (hn : ¬ z < 0) (hbytes : N * componentBytes (newarray.typeOf atype) ≤ 536870912) (hcells : cells + 1 ≤ R.cells) (hslots : slots + N ≤ R.slots) (hdg : decode cc pc = .ok (.newarray atype, 2))
    (kk : ∀ (h1 : ZH) (H1 : Heap), F h1 = some X → zz_B D dA A h1 (n + 1) H0 H1 locs → W p l e R s m args below meth c H1 locs (cells + 1) (slots + N) Q (F0 m (pc + 2) ls (.ref n :: rest))) : W p l e R s m args below meth c H locs cells slots Q (F0 m pc ls (.int z :: rest)) := by
  refine va_newaK S.1 S.2.1 (S.2.2.2.2 _ harr) rfl hdg rfl hn hN hbytes hcells hslots Z.1.2.1 fun H1 cA e1 z1 o1 hAr hNm => ?_
  have hcA : cA = dA t := Option.some.inj (hNm.symm.trans (hra (K.1.2 t _ ht).2))
  subst hcA
  refine kk _ H1 hv (Z.push (c1 := .inl (t, a0 N)) ?_ z1 o1)
  show H1[n]? = some (vp_cell _ _)
  rw [ha]
  exact e1
theorem zz_newq {F : ZH → Option α} {t index : Nat} {C : String} {z : Int32} {N : Nat} (S : CallFix p m c cc nL s args GW own) (K : zz_K D dA s) (Z : zz_B D dA A h n H0 H locs) (hN : z.toNatClampNeg = N) (hv : zz_let (va_up h n (some (.inl (t, N, .inr (.inr (.inr (.inr (fun _ => none)))))))) F = some X) (hcl : Cond.classLink own index C ∈ GW) (hover : va_AO C s) (ht : (zz_T dA)[t]? = some (dA t, .object C)) (hn : ¬ z < 0) (hbytes : N * 4 ≤ 536870912) (hcells : cells + 1 ≤ R.cells) (hslots : slots + N ≤ R.slots) (hdg : decode cc pc = .ok (.anewarray index, 3))
    (kk : ∀ (h1 : ZH) (H1 : Heap), F h1 = some X → zz_B D dA A h1 (n + 1) H0 H1 locs → W p l e R s m args below meth c H1 locs (cells + 1) (slots + N) Q (F0 m (pc + 3) ls (.ref n :: rest))) : W p l e R s m args below meth c H locs cells slots Q (F0 m pc ls (.int z :: rest)) := by
  subst hN
  refine W.anew S.1 S.2.1 S.2.2.2.1 (S.2.2.2.2 _ hcl) (va_AO.use hover) rfl hdg rfl hn hbytes hcells hslots fun cA kA comp f1 f2 f3 f4 => ?_
  obtain ⟨kA', comp', k1, k2, k3, k4⟩ := (K.1.2 t _ ht).2
  have hcA : cA = dA t := Option.some.inj (f1.symm.trans k4)
  subst hcA
  have hz := Z.1.2.1
  generalize hH1 : H.push ({ cls := dA t, slots := Array.replicate z.toNatClampNeg .null, vm := .none } : Cell) = H1
  have z1 : H1.size = H.size + 1 := by rw [← hH1, Array.size_push]
  have e1 : H1[H.size]? = some (arrV (dA t) z.toNatClampNeg (fun _ => .null)) := by rw [← hH1, Array.getElem?_push_size, ← arrV_new]
  have o1 : ∀ q : Nat, q < H.size → H1[q]? = H[q]? := fun q hq => by rw [← hH1, Array.getElem?_push, if_neg (Nat.ne_of_lt hq)]
  subst hz
  refine kk _ H1 hv (Z.push (c1 := .inl (t, z.toNatClampNeg, .inr (.inr (.inr (.inr (fun _ => none)))))) ?_ z1 o1)
  show H1[H.size]? = some (vp_cell _ _)
  rw [vp_cell_q]
  exact e1
end ZZR
/-! ===== switches ===== -/
theorem zz_sw_out {x : Int32} {lo hi : Int} (h : ∀ k : Int, lo ≤ k → k ≤ hi → ¬ x = Int32.ofInt k) : x.toInt < lo ∨ hi < x.toInt := by
  by_cases h1 : x.toInt < lo
  · exact Or.inl h1
  · by_cases h2 : hi < x.toInt
    · exact Or.inr h2
    · exact absurd (Int32.ofInt_toInt x).symm (h x.toInt (by omega) (by omega))
