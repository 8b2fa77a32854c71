/-! ===== loops of pure functions ===== -/
def zz_wh {σ ρ : Type} (b : σ → Option (σ ⊕ ρ)) : Nat → σ → Option ρ
  | 0, _ => none
  | n + 1, s => (b s).bind fun x => match x with
    | .inl s' => zz_wh b n s'
    | .inr r => some r
noncomputable def zz_loop {σ ρ : Type} (b : σ → Option (σ ⊕ ρ)) (s : σ) : Option ρ :=
  @dite _ (∃ r, ∃ n, zz_wh b n s = some r) (Classical.propDecidable _) (fun h => some (Classical.choose h)) (fun _ => none)
theorem zz_wh_mono {σ ρ : Type} {b : σ → Option (σ ⊕ ρ)} : ∀ (n : Nat) (s : σ) (r : ρ) (k : Nat), zz_wh b n s = some r → zz_wh b (n + k) s = some r
  | 0, _, _, _, h => by cases h
  | n + 1, s, r, k, h => by
    rw [show n + 1 + k = (n + k) + 1 by omega]
    unfold zz_wh at h ⊢
    cases hb : b s with
    | none => rw [hb] at h; cases h
    | some x =>
      rw [hb] at h
      cases x with
      | inl s' => exact zz_wh_mono n s' r k h
      | inr r' => exact h
theorem zz_loop_iff {σ ρ : Type} {b : σ → Option (σ ⊕ ρ)} {s : σ} {r : ρ} : zz_loop b s = some r ↔ ∃ n, zz_wh b n s = some r := by
  constructor
  · intro h
    unfold zz_loop at h
    by_cases hx : ∃ r, ∃ n, zz_wh b n s = some r
    · rw [dif_pos hx] at h
      have h1 := Classical.choose_spec hx
      rw [Option.some.inj h] at h1
      exact h1
    · rw [dif_neg hx] at h
      cases h
  · intro ⟨n, h⟩
    unfold zz_loop
    have hx : ∃ r, ∃ n, zz_wh b n s = some r := ⟨r, n, h⟩
    rw [dif_pos hx]
    obtain ⟨k, hk⟩ := Classical.choose_spec hx
    have h1 := zz_wh_mono _ _ _ k h
    have h2 := zz_wh_mono _ _ _ n hk
    rw [Nat.add_comm] at h2
    exact h2.symm.trans h1
theorem zz_loop_inl {σ ρ : Type} {b : σ → Option (σ ⊕ ρ)} {s s' : σ} (h : b s = some (.inl s')) : zz_loop b s = zz_loop b s' := by
  have key : ∀ r, zz_loop b s = some r ↔ zz_loop b s' = some r := by
    intro r
    rw [zz_loop_iff, zz_loop_iff]
    constructor
    · intro ⟨n, hn⟩
      cases n with
      | zero => cases hn
      | succ n =>
        unfold zz_wh at hn
        rw [h] at hn
        exact ⟨n, hn⟩
    · intro ⟨n, hn⟩
      refine ⟨n + 1, ?_⟩
      unfold zz_wh
      rw [h]
      exact hn
  cases h1 : zz_loop b s with
  | some r => exact ((key r).mp h1).symm
  | none =>
    cases h2 : zz_loop b s' with
    | none => rfl
    | some r => rw [(key r).mpr h2] at h1; cases h1
theorem zz_loop_inr {σ ρ : Type} {b : σ → Option (σ ⊕ ρ)} {s : σ} {r : ρ} (h : b s = some (.inr r)) : zz_loop b s = some r := by
  rw [zz_loop_iff]
  refine ⟨1, ?_⟩
  unfold zz_wh
  rw [h]
  rfl
/-- .. with the continuation as a variable -/
theorem zz_loop_rule0 {σ ρ : Type} {b : σ → Option (σ ⊕ ρ)} {P : σ → Prop} {K : ρ → Prop} (step : ∀ (s : σ) (x : σ ⊕ ρ), b s = some x → (match x with | .inl s' => P s' | .inr r => K r) → P s) : ∀ (s : σ) (r : ρ), zz_loop b s = some r → K r → P s := by
  have key : ∀ (n : Nat) (s : σ) (r : ρ), zz_wh b n s = some r → K r → P s := by
    intro n
    induction n with
    | zero => intro s r h; cases h
    | succ n ih =>
      intro s r h hk
      unfold zz_wh at h
      cases hb : b s with
      | none => rw [hb] at h; cases h
      | some x =>
        rw [hb] at h
        refine step s x hb ?_
        cases x with
        | inl s' => exact ih s' r h hk
        | inr r' =>
          have e : r' = r := Option.some.inj h
          subst e
          exact hk
  intro s r h hk
  obtain ⟨n, hn⟩ := zz_loop_iff.mp h
  exact key n s r hn hk
/-- the rule by which the machine walks a loop -/
theorem zz_loop_go {σ ρ : Type} {b : σ → Option (σ ⊕ ρ)} {P : σ → Prop} {K : ρ → Prop} (step : ∀ K1 : σ ⊕ ρ → Prop, (∀ s', K1 (.inl s') → P s') → (∀ r, K1 (.inr r) → K r) → ∀ (s : σ) (x : σ ⊕ ρ), b s = some x → K1 x → P s) (s : σ) (r : ρ) (h : zz_loop b s = some r) (hk : K r) : P s :=
  zz_loop_rule0 (P := P) (K := K) (fun s x hb hx => step (fun x => match x with | .inl s' => P s' | .inr r => K r) (fun _ h => h) (fun _ h => h) s x hb hx) s r h hk
theorem zz_loop_eq {σ ρ : Type} {b : σ → Option (σ ⊕ ρ)} {s : σ} {x : σ ⊕ ρ} (h : b s = some x) : zz_loop b s = match x with | .inl s' => zz_loop b s' | .inr r => some r := by
  cases x with
  | inl s' => exact zz_loop_inl h
  | inr r => exact zz_loop_inr h
/-! ===== the pure heap ===== -/
abbrev ZC : Type := (Nat × vp_A) ⊕ (Nat × List Value)
abbrev ZH : Type := Nat → Option ZC
def zz_E (dA : Nat → ClassId) (c : ZC) : va_E := match c with
  | .inl x => .inl (dA x.1, x.2)
  | .inr o => .inr o
def zz_T (dA : Nat → ClassId) : List (ClassId × FieldType) := [(dA 0, .byte), (dA 1, .int), (dA 2, .boolean), (dA 3, .long), (dA 4, .object RX0), (dA 5, .object RX3), (dA 6, .object RX4), (dA 7, .object RX6)]
def GW : List Cond := lw_tbl.filter goodWord
theorem GW_tbl {w : Cond} (h : w ∈ GW) : w ∈ lw_tbl := (List.mem_filter.mp h).1
theorem GW_good : GoodIn GW GW := fun w h => ⟨h, good_of_word (List.mem_filter.mp h).2⟩
theorem zz_in {w : Cond} (i : Nat) (h : lw_tbl[i]? = some w) (hg : goodWord w = true) : w ∈ GW := List.mem_filter.mpr ⟨List.mem_of_getElem? h, hg⟩
def zz_NW : List Cond := [.methodLinkNest RX10 39 yX6_init RX11, .methodLinkNest RX10 40 yX3_init RX11, .methodLinkNest RX8 11 yX4_init RX11, .methodLinkNest RX7 36 yX4_init RX11, .methodLinkNest RX9 11 yX4_init RX11]
def zz_K (D : va_G) (dA : Nat → ClassId) (U : State) : Prop := va_K D vwCl (zz_T dA) U ∧ (∀ w ∈ zz_NW, va_Nw w U) ∧ va_AO RX0 U ∧ va_AO RX3 U ∧ va_AO RX4 U ∧ va_AO RX6 U
theorem zz_K.warm {D : va_G} {dA : Nat → ClassId} {s U : State} (hW : s.WarmedH U.vm) (h : zz_K D dA s) : zz_K D dA U := by
  obtain ⟨h1, h2, h3, h4, h5, h6⟩ := h
  refine ⟨va_K.moved hW.alike h1, ?_, va_AO.moved hW.alike h3, va_AO.moved hW.alike h4, va_AO.moved hW.alike h5, va_AO.moved hW.alike h6⟩
  refine List.forall_mem_cons.mpr ⟨va_Nw.warmM hW (h2 _ (List.mem_of_getElem? (i := 0) rfl)), List.forall_mem_cons.mpr ⟨va_Nw.warmM hW (h2 _ (List.mem_of_getElem? (i := 1) rfl)), List.forall_mem_cons.mpr ⟨va_Nw.warmM hW (h2 _ (List.mem_of_getElem? (i := 2) rfl)), List.forall_mem_cons.mpr ⟨va_Nw.warmM hW (h2 _ (List.mem_of_getElem? (i := 3) rfl)), List.forall_mem_cons.mpr ⟨va_Nw.warmM hW (h2 _ (List.mem_of_getElem? (i := 4) rfl)), fun _ h => absurd h List.not_mem_nil⟩⟩⟩⟩⟩
theorem zz_K.same {D : va_G} {dA : Nat → ClassId} {s U : State} (hv : s.vm = U.vm) (h : zz_K D dA s) : zz_K D dA U := by
  obtain ⟨h1, h2, h3, h4, h5, h6⟩ := h
  have ha : s.vm.Alike U.vm := by rw [← hv]; exact Vm.Alike.refl _
  refine ⟨va_K.moved ha h1, ?_, va_AO.moved ha h3, va_AO.moved ha h4, va_AO.moved ha h5, va_AO.moved ha h6⟩
  refine List.forall_mem_cons.mpr ⟨va_Nw.same rfl hv (h2 _ (List.mem_of_getElem? (i := 0) rfl)), List.forall_mem_cons.mpr ⟨va_Nw.same rfl hv (h2 _ (List.mem_of_getElem? (i := 1) rfl)), List.forall_mem_cons.mpr ⟨va_Nw.same rfl hv (h2 _ (List.mem_of_getElem? (i := 2) rfl)), List.forall_mem_cons.mpr ⟨va_Nw.same rfl hv (h2 _ (List.mem_of_getElem? (i := 3) rfl)), List.forall_mem_cons.mpr ⟨va_Nw.same rfl hv (h2 _ (List.mem_of_getElem? (i := 4) rfl)), fun _ h => absurd h List.not_mem_nil⟩⟩⟩⟩⟩
/-- the heap H holds the pure heap h, n is its size, A: what may be written -/
def zz_H (D : va_G) (dA : Nat → ClassId) (A : Nat → Prop) (h : ZH) (n : Nat) (H : Heap) : Prop := (∀ (q : Nat) (c : ZC), h q = some c → va_at D vwCl (q, zz_E dA c) H) ∧ H.size = n ∧ (∀ (q : Nat) (c : ZC), h q = some c → A q) ∧ ∀ q, n ≤ q → A q
def zz_B (D : va_G) (dA : Nat → ClassId) (A : Nat → Prop) (h : ZH) (n : Nat) (H0 H : Heap) (locs : List Loc) : Prop := zz_H D dA A h n H ∧ va_S A H0 H locs
def zz_P (D : va_G) (dA : Nat → ClassId) (A : Nat → Prop) (h : ZH) (n : Nat) (av : List Value) : Array Value → State → Prop := fun v U => v = av.toArray ∧ zz_K D dA U ∧ zz_H D dA A h n U.heap
def zz_Q (D : va_G) (dA : Nat → ClassId) (A : Nat → Prop) (rv : Option Value) (h : ZH) (n : Nat) : Array Value → State → Outcome → State → Prop := fun _ st oc t => oc = .returned rv ∧ zz_H D dA A h n t.heap ∧ va_F A st t
def zz_ws (y : MethodName) (cc : ByteArray) (maxL : Nat) (ret : Option FieldType) : List Cond := Cond.code y cc maxL ret :: GW
abbrev zz_W (p : Program) (l : Launch) (e : Env) (R : Room) (s : State) (m : MethodId) (args : Array Value) (below : List Frame) (meth : Method) (c : Code) (D : va_G) (dA : Nat → ClassId) (A : Nat → Prop) (rv : Option Value) (h : ZH) (n mc ms : Nat) (H : Heap) (locs : List Loc) (cells slots pc : Nat) (ls : Array Slot) (st : List Value) : Prop :=
  W p l e R s m args below meth c H locs cells slots (MQ below (zz_Q D dA A rv h n) args s mc ms A) (F0 m pc ls st)
theorem zz_P.blind {D : va_G} {dA : Nat → ClassId} {A : Nat → Prop} {h : ZH} {n : Nat} {av : List Value} : FrameBlind (zz_P D dA A h n av) := by
  intro a U g mk hp
  obtain ⟨h1, h2, h3⟩ := hp
  exact ⟨h1, zz_K.same (s := U) (U := U.calling g mk a) rfl h2, h3⟩
/-- a method's contract out of its walk -/
theorem zz_met {l : Launch} {y : MethodName} {cc : ByteArray} {maxL : Nat} {ret : Option FieldType} {rm : Room} {av : List Value} {h h1 : ZH} {n n1 mc ms : Nat} {D : va_G} {dA : Nat → ClassId} {A : Nat → Prop} {rv : Option Value} (hy : plainName y.cls = true) (ha : (lg_sl av).length ≤ maxL)
    (body : ∀ (p : Program) (e : Env) (s : State) (m : MethodId) (args : Array Value) (below : List Frame) (meth : Method) (c : Code) (ls : Array Slot), CallFix p m c cc maxL s args GW y.cls → zz_K D dA s → meth.sig.returnType = ret → meth.locks = false → meth.name = y.name → lv_has ls maxL (lv_args 0 av) → zz_B D dA A h n s.heap s.heap [] →
      zz_W p l e rm s m args below meth c D dA A rv h1 n1 mc ms s.heap [] 0 0 0 ls []) : Met l y (zz_ws y cc maxL ret) rm (zz_P D dA A h n av) (zz_Q D dA A rv h1 n1) mc ms A := by
  refine Met.ofW (cc := cc) (maxL := maxL) (ret := ret) hy rfl ?_
  intro p e s m args below meth c s₁ B hml hv
  obtain ⟨rfl, hK, hH⟩ := hv
  have hts := atoms_spec (ws := zz_ws y cc maxL ret) B.pre
  have hown : s.vm.findClass y.cls = some m.cls := findClass_of_methodNamed B.named
  rw [lg_entry_eq]
  exact body p e s m _ below meth c _ ⟨B.exec, B.bytes, hml, hown, fun w hw => hts w (List.mem_cons_of_mem _ hw)⟩ hK B.returns B.notSynchronized (name_of_methodNamed B.named B.method).1 (lv_entry av ha) ⟨hH, va_S.rf⟩
def zz_let {α β : Type} (x : α) (f : α → Option β) : Option β := f x
def zz_ne {β : Type} (y : Int32) (o : Option β) : Option β := if y = 0 then none else o
theorem zz_ne_s {β : Type} {y : Int32} {o : Option β} {X : β} (h : zz_ne y o = some X) : ¬ y = 0 ∧ o = some X := by
  unfold zz_ne at h
  by_cases hy : y = 0
  · rw [if_pos hy] at h; cases h
  · rw [if_neg hy] at h; exact ⟨hy, h⟩
/-- the room that is left -/
def zz_bud {β : Type} (k K q Q : Nat) (o : Option β) : Option β := if k ≤ K ∧ q ≤ Q then o else none
theorem zz_bud_s {β : Type} {k K q Q : Nat} {o : Option β} {X : β} (h : zz_bud k K q Q o = some X) : (k ≤ K ∧ q ≤ Q) ∧ o = some X := by
  unfold zz_bud at h
  by_cases hy : k ≤ K ∧ q ≤ Q
  · rw [if_pos hy] at h; exact ⟨hy, h⟩
  · rw [if_neg hy] at h; cases h
def zz_ok {β : Type} (P : Prop) [Decidable P] (o : Option β) : Option β := if P then o else none
theorem zz_ok_s {β : Type} {P : Prop} [Decidable P] {o : Option β} {X : β} (h : zz_ok P o = some X) : P ∧ o = some X := by
  unfold zz_ok at h
  by_cases hy : P
  · rw [if_pos hy] at h; exact ⟨hy, h⟩
  · rw [if_neg hy] at h; cases h
def zz_nr {β : Type} (r : Option Nat) (a : Option β) (b : Nat → Option β) : Option β := match r with
  | none => a
  | some v => b v
theorem zz_bd {α β : Type} {o : Option α} {F : α → Option β} {X : β} (h : o.bind F = some X) : ∃ v, o = some v ∧ F v = some X := by
  cases o with
  | none => cases h
  | some v => exact ⟨v, rfl, h⟩
theorem zz_mapr {α β : Type} {o : Option β} {X : α ⊕ β} (h : o.map Sum.inr = some X) : ∃ y, X = .inr y ∧ o = some y := by
  cases o with
  | none => cases h
  | some v => exact ⟨v, (Option.some.inj h).symm, rfl⟩
theorem zz_mapk {α β : Type} {o : Option β} {X : α ⊕ β} {K : α ⊕ β → Prop} (h : o.map Sum.inr = some X) (hk : K X) : ∃ y, o = some y ∧ K (.inr y) := by
  obtain ⟨y, rfl, hy⟩ := zz_mapr h
  exact ⟨y, hy, hk⟩
theorem zz_fin {α : Type} {a X : α} {K : α → Prop} (h : some a = some X) (hk : K X) : K a := by
  cases h
  exact hk
/-! ===== fields ===== -/
def zg_V (h : ZH) (a ci k : Nat) : Option Value := match h a with
  | some (.inr o) => if o.1 = ci then o.2[k]? else none
  | _ => none
def zz_asI (v : Value) : Option Int32 := match v with
  | .int x => some x
  | _ => none
def zz_asR (v : Value) : Option Nat := match v with
  | .ref x => some x
  | _ => none
def zg_I (h : ZH) (a ci k : Nat) : Option Int32 := (zg_V h a ci k).bind zz_asI
def zg_R (h : ZH) (a ci k : Nat) : Option Nat := (zg_V h a ci k).bind zz_asR
def zp_V (h : ZH) (a ci k : Nat) (v : Value) : Option ZH := match h a with
  | some (.inr o) => if o.1 = ci ∧ k < o.2.length then some (va_up h a (some (.inr (ci, o.2.set k v)))) else none
  | _ => none
def zz_isO {β : Type} (h : ZH) (a ci : Nat) (o : Option β) : Option β := match h a with
  | some (.inr x) => if x.1 = ci then o else none
  | _ => none
theorem zg_V_s {h : ZH} {a ci k : Nat} {v : Value} (hv : zg_V h a ci k = some v) : ∃ fs, h a = some (.inr (ci, fs)) ∧ fs[k]? = some v := by
  unfold zg_V at hv
  split at hv
  · rename_i o ho
    by_cases hc : o.1 = ci
    · rw [if_pos hc] at hv
      subst hc
      exact ⟨o.2, ho, hv⟩
    · rw [if_neg hc] at hv; cases hv
  · cases hv
theorem zg_I_s {h : ZH} {a ci k : Nat} {v : Int32} (hv : zg_I h a ci k = some v) : ∃ fs, h a = some (.inr (ci, fs)) ∧ fs[k]? = some (.int v) := by
  obtain ⟨w, h1, h2⟩ := zz_bd hv
  obtain ⟨fs, h3, h4⟩ := zg_V_s h1
  cases w with
  | int x => cases h2; exact ⟨fs, h3, h4⟩
  | _ => cases h2
theorem zg_R_s {h : ZH} {a ci k : Nat} {v : Nat} (hv : zg_R h a ci k = some v) : ∃ fs, h a = some (.inr (ci, fs)) ∧ fs[k]? = some (.ref v) := by
  obtain ⟨w, h1, h2⟩ := zz_bd hv
  obtain ⟨fs, h3, h4⟩ := zg_V_s h1
  cases w with
  | ref x => cases h2; exact ⟨fs, h3, h4⟩
  | _ => cases h2
theorem zp_V_s {h h1 : ZH} {a ci k : Nat} {v : Value} (hv : zp_V h a ci k v = some h1) : ∃ fs, h a = some (.inr (ci, fs)) ∧ k < fs.length ∧ h1 = va_up h a (some (.inr (ci, fs.set k v))) := by
  unfold zp_V at hv
  split at hv
  · rename_i o ho
    by_cases hc : o.1 = ci ∧ k < o.2.length
    · rw [if_pos hc] at hv
      obtain ⟨e, hl⟩ := hc
      subst e
      exact ⟨o.2, ho, hl, (Option.some.inj hv).symm⟩
    · rw [if_neg hc] at hv; cases hv
  · cases hv
theorem zz_isO_s {β : Type} {h : ZH} {a ci : Nat} {o : Option β} {X : β} (hv : zz_isO h a ci o = some X) : (∃ fs, h a = some (.inr (ci, fs))) ∧ o = some X := by
  unfold zz_isO at hv
  split at hv
  · rename_i x hx
    by_cases hc : x.1 = ci
    · rw [if_pos hc] at hv
      subst hc
      exact ⟨⟨x.2, hx⟩, hv⟩
    · rw [if_neg hc] at hv; cases hv
  · cases hv
/-- what the tables say of a class -/
def zz_C (ci : Nat) (C : String) (T : u_T) (N : Nat) (ty : Nat → FieldType) : Prop := vwCl[ci]? = some (C, T, N) ∧ (∀ w ∈ u_ws C T N, w ∈ GW) ∧ (∀ k, k < N → parseFieldDescriptor (T k).2.2.1 = some (ty k)) ∧ ∀ a, a < N → ∀ b, b < N → a ≠ b → (T a).2.1 ≠ (T b).2.1
/-! ===== arrays ===== -/
def zl_I (h : ZH) (a t : Nat) (i : Int32) : Option Int32 := match h a with
  | some (.inl (t', n, .inl f)) => if t' = t ∧ ¬ (i < 0 ∨ n ≤ i.toNatClampNeg) then some (f i.toNatClampNeg) else none
  | _ => none
def zl_J (h : ZH) (a t : Nat) (i : Int32) : Option Int64 := match h a with
  | some (.inl (t', n, .inr (.inl f))) => if t' = t ∧ ¬ (i < 0 ∨ n ≤ i.toNatClampNeg) then some (f i.toNatClampNeg) else none
  | _ => none
def zl_Q (h : ZH) (a t : Nat) (i : Int32) : Option (Option Nat) := match h a with
  | some (.inl (t', n, .inr (.inr (.inr (.inr f))))) => if t' = t ∧ ¬ (i < 0 ∨ n ≤ i.toNatClampNeg) then some (f i.toNatClampNeg) else none
  | _ => none
def zl_R (h : ZH) (a t : Nat) (i : Int32) : Option Nat := (zl_Q h a t i).bind fun r => r
def zs_I (h : ZH) (a t : Nat) (i v : Int32) : Option ZH := match h a with
  | some (.inl (t', n, .inl f)) => if t' = t ∧ ¬ (i < 0 ∨ n ≤ i.toNatClampNeg) then some (va_up h a (some (.inl (t, n, .inl (va_up f i.toNatClampNeg v))))) else none
  | _ => none
def zs_J (h : ZH) (a t : Nat) (i : Int32) (v : Int64) : Option ZH := match h a with
  | some (.inl (t', n, .inr (.inl f))) => if t' = t ∧ ¬ (i < 0 ∨ n ≤ i.toNatClampNeg) then some (va_up h a (some (.inl (t, n, .inr (.inl (va_up f i.toNatClampNeg v)))))) else none
  | _ => none
def zs_R (h : ZH) (a t : Nat) (i : Int32) (v : Nat) : Option ZH := match h a with
  | some (.inl (t', n, .inr (.inr (.inr (.inr f))))) => if t' = t ∧ ¬ (i < 0 ∨ n ≤ i.toNatClampNeg) then some (va_up h a (some (.inl (t, n, .inr (.inr (.inr (.inr (va_up f i.toNatClampNeg (some v))))))))) else none
  | _ => none
def zl_N (h : ZH) (a t : Nat) : Option Int32 := match h a with
  | some (.inl x) => if x.1 = t then some (Int32.ofNat x.2.1) else none
  | _ => none
theorem zl_I_s {h : ZH} {a t : Nat} {i v : Int32} (hv : zl_I h a t i = some v) : ∃ n f, h a = some (.inl (t, n, .inl f)) ∧ vp_in i n ∧ v = f i.toNatClampNeg := by
  unfold zl_I at hv
  split at hv
  · rename_i t' n f ho
    by_cases hc : t' = t ∧ ¬ (i < 0 ∨ n ≤ i.toNatClampNeg)
    · rw [if_pos hc] at hv
      obtain ⟨e, hl⟩ := hc
      subst e
      exact ⟨n, f, ho, hl, (Option.some.inj hv).symm⟩
    · rw [if_neg hc] at hv; cases hv
  · cases hv
theorem zl_J_s {h : ZH} {a t : Nat} {i : Int32} {v : Int64} (hv : zl_J h a t i = some v) : ∃ n f, h a = some (.inl (t, n, .inr (.inl f))) ∧ vp_in i n ∧ v = f i.toNatClampNeg := by
  unfold zl_J at hv
  split at hv
  · rename_i t' n f ho
    by_cases hc : t' = t ∧ ¬ (i < 0 ∨ n ≤ i.toNatClampNeg)
    · rw [if_pos hc] at hv
      obtain ⟨e, hl⟩ := hc
      subst e
      exact ⟨n, f, ho, hl, (Option.some.inj hv).symm⟩
    · rw [if_neg hc] at hv; cases hv
  · cases hv
theorem zl_Q_s {h : ZH} {a t : Nat} {i : Int32} {v : Option Nat} (hv : zl_Q h a t i = some v) : ∃ n f, h a = some (.inl (t, n, .inr (.inr (.inr (.inr f))))) ∧ vp_in i n ∧ v = f i.toNatClampNeg := by
  unfold zl_Q at hv
  split at hv
  · rename_i t' n f ho
    by_cases hc : t' = t ∧ ¬ (i < 0 ∨ n ≤ i.toNatClampNeg)
    · rw [if_pos hc] at hv
      obtain ⟨e, hl⟩ := hc
      subst e
      exact ⟨n, f, ho, hl, (Option.some.inj hv).symm⟩
    · rw [if_neg hc] at hv; cases hv
  · cases hv
theorem zs_I_s {h h1 : ZH} {a t : Nat} {i v : Int32} (hv : zs_I h a t i v = some h1) : ∃ n f, h a = some (.inl (t, n, .inl f)) ∧ vp_in i n ∧ h1 = va_up h a (some (.inl (t, n, .inl (va_up f i.toNatClampNeg v)))) := by
  unfold zs_I at hv
  split at hv
  · rename_i t' n f ho
    by_cases hc : t' = t ∧ ¬ (i < 0 ∨ n ≤ i.toNatClampNeg)
    · rw [if_pos hc] at hv
      obtain ⟨e, hl⟩ := hc
      subst e
      exact ⟨n, f, ho, hl, (Option.some.inj hv).symm⟩
    · rw [if_neg hc] at hv; cases hv
  · cases hv
theorem zs_J_s {h h1 : ZH} {a t : Nat} {i : Int32} {v : Int64} (hv : zs_J h a t i v = some h1) : ∃ n f, h a = some (.inl (t, n, .inr (.inl f))) ∧ vp_in i n ∧ h1 = va_up h a (some (.inl (t, n, .inr (.inl (va_up f i.toNatClampNeg v))))) := by
  unfold zs_J at hv
  split at hv
  · rename_i t' n f ho
    by_cases hc : t' = t ∧ ¬ (i < 0 ∨ n ≤ i.toNatClampNeg)
    · rw [if_pos hc] at hv
      obtain ⟨e, hl⟩ := hc
      subst e
      exact ⟨n, f, ho, hl, (Option.some.inj hv).symm⟩
    · rw [if_neg hc] at hv; cases hv
  · cases hv
theorem zs_R_s {h h1 : ZH} {a t : Nat} {i : Int32} {v : Nat} (hv : zs_R h a t i v = some h1) : ∃ n f, h a = some (.inl (t, n, .inr (.inr (.inr (.inr f))))) ∧ vp_in i n ∧ h1 = va_up h a (some (.inl (t, n, .inr (.inr (.inr (.inr (va_up f i.toNatClampNeg (some v)))))))) := by
  unfold zs_R at hv
  split at hv
  · rename_i t' n f ho
    by_cases hc : t' = t ∧ ¬ (i < 0 ∨ n ≤ i.toNatClampNeg)
    · rw [if_pos hc] at hv
      obtain ⟨e, hl⟩ := hc
      subst e
      exact ⟨n, f, ho, hl, (Option.some.inj hv).symm⟩
    · rw [if_neg hc] at hv; cases hv
  · cases hv
theorem zl_N_s {h : ZH} {a t : Nat} {v : Int32} (hv : zl_N h a t = some v) : ∃ x : vp_A, h a = some (.inl (t, x)) ∧ Int32.ofNat x.1 = v := by
  unfold zl_N at hv
  split at hv
  · rename_i x ho
    by_cases hc : x.1 = t
    · rw [if_pos hc] at hv
      subst hc
      exact ⟨x.2, ho, Option.some.inj hv⟩
    · rw [if_neg hc] at hv; cases hv
  · cases hv
/-! ===== the bundle ===== -/
theorem zz_B.at {D : va_G} {dA : Nat → ClassId} {A : Nat → Prop} {h : ZH} {n : Nat} {H0 H : Heap} {locs : List Loc} (Z : zz_B D dA A h n H0 H locs) {a : Nat} {c : ZC} (ha : h a = some c) : va_P D vwCl [(a, zz_E dA c)] H := by
  intro k q hk
  have hz : k < 1 := (List.getElem?_eq_some_iff.mp hk).1
  rw [show k = 0 by omega] at hk
  cases hk
  exact Z.1.1 a c ha
theorem zz_B.set {D : va_G} {dA : Nat → ClassId} {A : Nat → Prop} {h : ZH} {n : Nat} {H0 H H1 : Heap} {locs : List Loc} (Z : zz_B D dA A h n H0 H locs) {a k : Nat} {c0 c1 : ZC} (ha : h a = some c0) (he : va_at D vwCl (a, zz_E dA c1) H1) (e2 : H1.size = H.size) (e3 : ∀ q : Nat, q ≠ a → H1[q]? = H[q]?) : zz_B D dA A (va_up h a (some c1)) n H0 H1 (locs ++ [⟨a, k⟩]) := by
  obtain ⟨⟨z1, z2, z3, z4⟩, zS⟩ := Z
  refine ⟨⟨fun q c hq => ?_, by rw [e2]; exact z2, fun q c hq => ?_, z4⟩, zS.put e2 e3 (z3 a c0 ha)⟩
  · by_cases hqa : q = a
    · subst hqa
      have hq' : some c1 = some c := by simpa [va_up] using hq
      cases hq'
      exact he
    · have hq' : h q = some c := by simpa [va_up, hqa] using hq
      exact (z1 q c hq').kept (e3 q hqa)
  · by_cases hqa : q = a
    · subst hqa
      exact z3 q c0 ha
    · exact z3 q c (by simpa [va_up, hqa] using hq)
theorem zz_B.push {D : va_G} {dA : Nat → ClassId} {A : Nat → Prop} {h : ZH} {n : Nat} {H0 H H1 : Heap} {locs : List Loc} (Z : zz_B D dA A h n H0 H locs) {c1 : ZC} (he : va_at D vwCl (n, zz_E dA c1) H1) (e2 : H1.size = n + 1) (e3 : ∀ q : Nat, q < n → H1[q]? = H[q]?) : zz_B D dA A (va_up h n (some c1)) (n + 1) H0 H1 locs := by
  obtain ⟨⟨z1, z2, z3, z4⟩, zS⟩ := Z
  subst z2
  refine ⟨⟨fun q c hq => ?_, e2, fun q c hq => ?_, fun q hq => z4 q (by omega)⟩, ⟨Nat.le_trans zS.1 (by omega), fun x h1 h2 => (e3 x (Nat.lt_of_lt_of_le h1 zS.1)).trans (zS.2.1 x h1 h2), zS.2.2⟩⟩
  · by_cases hqa : q = H.size
    · subst hqa
      have hq' : some c1 = some c := by simpa [va_up] using hq
      cases hq'
      exact he
    · have hq' : h q = some c := by simpa [va_up, hqa] using hq
      have hl := (z1 q c hq').lt
      exact (z1 q c hq').kept (e3 q hl)
  · by_cases hqa : q = H.size
    · subst hqa
      exact z4 _ (Nat.le_refl _)
    · exact z3 q c (by simpa [va_up, hqa] using hq)
