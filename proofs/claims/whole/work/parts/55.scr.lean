/-! ===== script: what is kept of the tape ===== -/
theorem and255 (x : Int32) : (x &&& 255) &&& 255 = x &&& 255 := by
  apply Int32.toBitVec_inj.mp
  rw [Int32.toBitVec_and, Int32.toBitVec_and, BitVec.and_assoc, BitVec.and_self]
theorem wsc_le {M : Nat → Int32} {L : Nat} : ∀ (f k ln p : Nat), wsc M L f k ln = some p → p ≤ L + 603
  | 0, k, ln, p, h => by cases h
  | f + 1, k, ln, p, h => by
    rw [wsc_succ] at h
    by_cases c1 : L ≤ k
    · rw [if_pos c1] at h
      cases h
    rw [if_neg c1] at h
    by_cases c2 : M k = 10
    · rw [if_pos c2] at h
      exact wsc_le f _ _ p h
    rw [if_neg c2] at h
    by_cases c3 : 40 < ln
    · rw [if_pos c3] at h
      have : k = p := Option.some.inj h
      omega
    rw [if_neg c3] at h
    cases hw : wl M k with
    | some q =>
      rw [hw] at h
      have : q = p := Option.some.inj h
      have := wl_le hw
      omega
    | none =>
      rw [hw] at h
      exact wsc_le f _ _ p h
theorem bud_t {β : Type} {k K q Q : Nat} {o : Option β} (h : k ≤ K ∧ q ≤ Q) : zz_bud k K q Q o = o := by
  unfold zz_bud
  rw [if_pos h]
theorem zp_V_of {h : ZH} {a ci k : Nat} {fs : List Value} {v : Value} (ha : h a = some (.inr (ci, fs))) (hk : k < fs.length) : zp_V h a ci k v = some (va_up h a (some (.inr (ci, fs.set k v)))) := by
  simp [zp_V, ha, hk]
/-- the heap while a copy grows -/
def Hc (h : ZH) (n t i : Nat) (src : Nat → Int32) : ZH := va_up (va_up h n (some (.inr (0, [.ref (n + 1), .int (zi i)])))) (n + 1) (some (.inl (0, t, .inl (bw (fun _ => 0) 0 i src))))
theorem Hc_n {h : ZH} {n t i : Nat} {src : Nat → Int32} : Hc h n t i src n = some (.inr (0, [.ref (n + 1), .int (zi i)])) := by
  unfold Hc
  rw [up_ne _ _ (by omega), up_self]
theorem Hc_n1 {h : ZH} {n t i : Nat} {src : Nat → Int32} : Hc h n t i src (n + 1) = some (.inl (0, t, .inl (bw (fun _ => 0) 0 i src))) := up_self _ _ _
theorem Hc_o {h : ZH} {n t i q : Nat} {src : Nat → Int32} (h1 : q ≠ n) (h2 : q ≠ n + 1) : Hc h n t i src q = h q := by
  unfold Hc
  rw [up_ne _ _ h2, up_ne _ _ h1]
theorem Hc_app {h : ZH} {n t i : Nat} {src : Nat → Int32} {v : Int32} (hi : i < t) (ht : t ≤ 600) (hv : vp_nar .byte (v.toInt8.toInt32) = src i) : f_X0_append (Hc h n t i src) n v = some (Hc h n t (i + 1) src) := by
  unfold f_X0_append
  rw [zg_I_of Hc_n rfl, Option.bind_some, if_neg (zi_neg (by omega)), Option.bind_some, zg_R_of Hc_n rfl, Option.bind_some, zl_N_of Hc_n1, Option.bind_some, if_pos ((zi_lt (by omega) (by omega)).mpr hi), Option.bind_some, Option.bind_some, zs_I_of Hc_n1 hi (by omega), Option.bind_some, hv]
  have e1 : va_up (Hc h n t i src) (n + 1) (some (.inl (0, t, .inl (va_up (bw (fun _ => 0) 0 i src) i (src i))))) n = some (.inr (0, [.ref (n + 1), .int (zi i)])) := by
    rw [up_ne _ _ (by omega), Hc_n]
  rw [zg_I_of e1 rfl, Option.bind_some, zi_one]
  rw [zp_V_of e1 (Nat.le_of_ble_eq_true rfl)]
  refine congrArg some ?_
  have e2 := bw_up (fun _ => (0 : Int32)) 0 i src
  rw [Nat.zero_add] at e2
  rw [e2]
  unfold Hc
  rw [up_up, up_comm _ _ _ (show n + 1 ≠ n by omega), up_up]
  rfl
theorem X0_copy {h : ZH} {n a t : Nat} {f : Nat → Int32} (hB : Byt h a t f) (hf : ∀ q, n ≤ q → h q = none) : f_X0_copy h n a = some (n, Hc h n t t (fun k => vp_nar .byte ((bt f t k).toInt8.toInt32)), n + 2) := by
  have h6 := hB.le
  obtain ⟨r, C, b1, b2, b3, b4⟩ := id hB
  have han : a < n := by
    rcases Nat.lt_or_ge a n with q | q
    · exact q
    · rw [hf a q] at b1
      cases b1
  have hrn : r < n := by
    rcases Nat.lt_or_ge r n with q | q
    · exact q
    · rw [hf r q] at b2
      cases b2
  have hBc : ∀ i, Byt (Hc h n t i (fun k => vp_nar .byte ((bt f t k).toInt8.toInt32))) a t f := fun i => ⟨r, C, by rw [Hc_o (by omega) (by omega)]; exact b1, by rw [Hc_o (by omega) (by omega)]; exact b2, b3, b4⟩
  unfold f_X0_copy zz_bud
  rw [if_pos (by decide), zz_let, zg_I_of (show va_up h n (some (.inr (0, [.null, .int 0]))) a = _ by rw [up_ne _ _ (by omega)]; exact b1) rfl, Option.bind_some, if_pos (by decide)]
  have ei : f_X0_init (va_up h n (some (.inr (0, [.null, .int 0])))) (n + 1) n (zi t) = some (Hc h n t 0 (fun k => vp_nar .byte ((bt f t k).toInt8.toInt32)), n + 2) := by
    unfold f_X0_init f_X0_init_J14 zz_ok zz_bud
    rw [if_pos ((zi_Lle (by omega) (by decide)).mpr (Nat.zero_le _)), zi_nat (by omega), if_pos ⟨zi_neg (by omega), by omega⟩, if_pos ⟨by decide, by omega⟩, zz_let]
    have e1 : va_up (va_up h n (some (.inr (0, [.null, .int 0])))) (n + 1) (some (.inl (0, t, .inl (fun _ => 0)))) n = some (.inr (0, [.null, .int 0])) := by
      rw [up_ne _ _ (by omega), up_self]
    rw [zp_V_of e1 (Nat.le_of_ble_eq_true rfl), Option.bind_some, if_pos ⟨by decide, by omega⟩]
    unfold Hc
    rw [bw_0, up_comm _ _ _ (show n + 1 ≠ n by omega), up_up]
    rfl
  rw [ei, Option.bind_some]
  have key := loop_cnt (b := fun st : (Int32 × ZH) => f_X0_copy_L14 h a n (n + 2) 2 602 (st.1) (st.2)) t (fun i => Hc h n t i (fun k => vp_nar .byte ((bt f t k).toInt8.toInt32))) (n, Hc h n t t (fun k => vp_nar .byte ((bt f t k).toInt8.toInt32)), n + 2) 0 (Nat.zero_le _) ?_ ?_
  · exact key
  · intro i _ hi
    show f_X0_copy_L14 h a n (n + 2) 2 602 (zi i) _ = _
    unfold f_X0_copy_L14 zz_bud
    rw [(hBc i).len, Option.bind_some, if_neg (fun q => absurd ((zi_le (by omega) (by omega)).mp q) (by omega)), if_pos (by decide), (hBc i).isO, X0_at (hBc i) (by omega), Option.bind_some, if_pos (by decide), zz_isO_of Hc_n, Hc_app hi h6 rfl, Option.bind_some, zi_one]
  · show f_X0_copy_L14 h a n (n + 2) 2 602 (zi t) _ = _
    unfold f_X0_copy_L14 zz_bud
    rw [(hBc t).len, Option.bind_some, if_pos ((zi_le (by omega) (by omega)).mpr (Nat.le_refl _)), if_pos (by decide)]
    rfl
section
variable {b m : Nat} {S V : Nat → Nat → Int32} {Q : Nat → Option Nat} {g g1 g2 : ZH} {Sm : Nat → Int32} {Vm : Nat → Nat → Int32}
theorem Cl_up {n : Nat} {c : Option ZC} (h : ¬ (b ≤ n ∧ n < b + 73)) : va_up (Cl b S V Q g) n c = Cl b S V Q (va_up g n c) := by
  funext q
  by_cases hq : q = n
  · subst hq
    rw [up_self, Cl_out h, up_self]
  · rw [up_ne _ _ hq]
    by_cases hb : b ≤ q ∧ q < b + 73
    · unfold Cl
      rw [if_pos hb, if_pos hb]
    · rw [Cl_out hb, Cl_out hb, up_ne _ _ hq]
theorem Cl_Hc {n t i : Nat} {src : Nat → Int32} (h : b + 101 ≤ n) : Hc (Cl b S V Q g) n t i src = Cl b S V Q (Hc g n t i src) := by
  unfold Hc
  rw [Cl_up (by omega), Cl_up (by omega)]
theorem cel_Q {o : Nat} {s w : Nat → Int32} {Q' : Nat → Option Nat} (h : o ≠ 3) : cel b Q' o s w = cel b Q o s w := by
  have e : celT b Q' s w = (celT b Q s w).set 3 (.inl (4, 10, .inr (.inr (.inr (.inr Q'))))) := rfl
  unfold cel
  rw [e, List.getElem?_set_ne (by omega)]
theorem cs_3 {i v : Nat} (hi : i < 10) : zs_R (Cl b S V Q g) (b + 3) 4 (zi i) v = some (Cl b S V (va_up Q i (some v)) g) := by
  have e : Cl b S V Q g (b + 3) = some (.inl (4, 10, .inr (.inr (.inr (.inr Q))))) := Cl_at (o := 3) (by decide) rfl
  have e0 : zs_R (Cl b S V Q g) (b + 3) 4 (zi i) v = some (va_up (Cl b S V Q g) (b + 3) (some (.inl (4, 10, .inr (.inr (.inr (.inr (va_up Q i (some v))))))))) := by
    simp only [zs_R, e, zi_nat (show i < 2147483648 by omega)]
    rw [if_pos ⟨trivial, fun q => q.elim (zi_neg (by omega)) (by omega)⟩]
  rw [e0]
  refine congrArg some ?_
  funext q
  by_cases hq : q = b + 3
  · subst hq
    rw [up_self]
    exact (Cl_at (o := 3) (by decide) rfl).symm
  · rw [up_ne _ _ hq]
    by_cases hb : b ≤ q ∧ q < b + 73
    · unfold Cl
      rw [if_pos hb, if_pos hb]
      exact (cel_Q (by omega)).symm
    · rw [Cl_out hb, Cl_out hb]
theorem X12_scr_cp {t ns : Nat} {h0 : ZH} {S1 : Nat → Int32} (h30 : S1 30 = zi ns) (hN : ns < 10) (ht : t ≤ 600) : zz_loop (fun st : (Int32 × ZH) => f_X12_script_L119 h0 m (zi t) (st.1) (st.2)) ((0 : Int32), Rm m S1 Vm g) = some (zi ns, Rm m (va_up S1 30 (zi (ns + 1))) (va_up (va_up Vm 31 (bw (Vm 31) (600 * ns) t (Vm 1))) 32 (va_up (Vm 32) ns (zi t))) g) := by
  have key := loop_cnt (b := fun st : (Int32 × ZH) => f_X12_script_L119 h0 m (zi t) (st.1) (st.2)) t (fun k => Rm m S1 (va_up Vm 31 (bw (Vm 31) (600 * ns) k (Vm 1))) g) (zi ns, Rm m (va_up S1 30 (zi (ns + 1))) (va_up (va_up Vm 31 (bw (Vm 31) (600 * ns) t (Vm 1))) 32 (va_up (Vm 32) ns (zi t))) g) 0 (Nat.zero_le _) ?_ ?_
  · rw [bw_0, up_id] at key
    exact key
  · intro k _ hk
    show f_X12_script_L119 h0 m (zi t) (zi k) _ = _
    unfold f_X12_script_L119
    rw [if_neg (fun q => absurd ((zi_le (by omega) (by omega)).mp q) (by omega)), rgR_31, Option.bind_some, rgI_30, Option.bind_some, h30, rgR_1, Option.bind_some, rl_1 (by omega), Option.bind_some, zi_Lmul, zi_add, rs_31 _ (by show 600 * ns + k < 6000; omega), Option.bind_some, up_self, up_up, zi_one]
    rw [show va_up Vm 31 (bw (Vm 31) (600 * ns) k (Vm 1)) 1 k = Vm 1 k from rfl, bw_up]
  · show f_X12_script_L119 h0 m (zi t) (zi t) _ = _
    unfold f_X12_script_L119
    rw [if_pos ((zi_le (by omega) (by omega)).mpr (Nat.le_refl _)), rgR_32, Option.bind_some, rgI_30, Option.bind_some, h30, rs_32 _ (by omega), Option.bind_some, rgI_30, Option.bind_some, h30, zi_one, rp_30, Option.bind_some, rgI_30, Option.bind_some, up_self, show zi (ns + 1) - (1 : Int32) = zi ns from zi_sub (b := 1) (by omega)]
    rfl
theorem mb_mby {t : Nat} (h : ∀ i, i < t → V 2 i &&& 255 = Vm 1 i) : mb (Vm 1) t = mby (V 2) t := by
  funext k
  unfold mb mby
  by_cases hk : k < t
  · rw [if_pos hk, if_pos hk, h k hk]
  · rw [if_neg hk, if_neg hk]
theorem script_fin {S' : Nat → Nat → Int32} {Q' : Nat → Option Nat} {g' : ZH} {Sm' : Nat → Int32} {Vm' : Nat → Nat → Int32} {nr nw nt t ns ns' nf p : Nat} (h : Rst S V Sm Vm nr nw nt) (hct : Rct S V Sm Vm) (hmo : Rmo S V Vm nt) (h27 : Sm 27 = 1) (hpl : Rpl S V Sm Vm p) (ho : Rot b S V Q g Sm Vm nw nt t ns nf) (h1 : ∀ q, q ≠ 0 → q ≠ 1 → S' q = S q) (h11 : S' 1 1 = 0) (h3 : ∀ k, k ≠ 0 → k ≠ 2 → k ≠ 30 → Sm' k = Sm k) (h32 : Sm' 2 = 0) (h4 : ∀ k, k ≠ 31 → k ≠ 32 → Vm' k = Vm k) (hsc' : Rsc b S' Q' g' Sm' Vm' ns') : Rel b S' V Q' g' Sm' Vm' := by
  obtain ⟨-, hwd, htx, hsd, -, hfl⟩ := ho
  refine ⟨nr, nw, nt, 0, ns', nf, p, h.mv (fun q n1 n2 => h1 q (by omega) (by omega)) (fun _ _ _ => rfl) ⟨h3 4 (by decide) (by decide) (by decide), h3 7 (by decide) (by decide) (by decide), h3 10 (by decide) (by decide) (by decide)⟩ (fun k hk => h4 k (by omega) (by omega)), ?_, ?_, ?_, ?_, ⟨h11, h32, by decide, fun i hi => by omega⟩, ?_, ?_, ?_, hsc', ?_⟩
  · unfold Rct
    rw [h1 51 (by decide) (by decide), h3 26 (by decide) (by decide) (by decide), h3 25 (by decide) (by decide) (by decide), h4 20 (by decide) (by decide), h4 21 (by decide) (by decide)]
    exact hct
  · unfold Rmo amo
    rw [h1 52 (by decide) (by decide), h4 28 (by decide) (by decide)]
    exact hmo
  · rw [h3 27 (by decide) (by decide) (by decide)]
    exact h27
  · unfold Rpl
    rw [h1 69 (by decide) (by decide), h3 37 (by decide) (by decide) (by decide), h3 39 (by decide) (by decide) (by decide), h4 38 (by decide) (by decide)]
    exact hpl
  · unfold Rwd
    rw [h4 6 (by decide) (by decide), h4 5 (by decide) (by decide)]
    exact hwd
  · unfold Rtx
    rw [h4 9 (by decide) (by decide), h4 8 (by decide) (by decide)]
    exact htx
  · rw [h1 4 (by decide) (by decide), h3 3 (by decide) (by decide) (by decide)]
    exact hsd
  · unfold Rfl
    rw [h1 56 (by decide) (by decide), h3 35 (by decide) (by decide) (by decide), h4 33 (by decide) (by decide), h4 34 (by decide) (by decide)]
    exact hfl
/-- a new script's answer: the heap has grown by G -/
theorem op_script {n : Nat} (hn : b + 101 ≤ n) (hfr : ∀ q, n ≤ q → g q = none) (hfr1 : ∀ q, n ≤ q → g1 q = none) (h : Rel b S V Q g Sm Vm) : ∃ (r : Int32) (S' : Nat → Nat → Int32) (Q' : Nat → Option Nat) (Sm' : Nat → Int32) (Vm' : Nat → Nat → Int32) (G : ZH → ZH) (n' : Nat), (n' = n ∧ G = id ∨ n' = n + 2 ∧ ∃ t src, G = fun g => Hc g n t t src) ∧ f_X11_script (Cl b S V Q g1) n b = some (r, Cl b S' V Q' (G g1), n') ∧ f_X12_script (Rm m Sm Vm g2) m = some (r, Rm m Sm' Vm' g2) ∧ Rel b S' V Q' (G g) Sm' Vm' := by
  obtain ⟨nr, nw, nt, t, ns, nf, p, hst, hct, hmo, h27, hpl, htp, hwd, htx, hsd, hsc, hfl⟩ := id h
  obtain ⟨t1, t2, t3, t4⟩ := id htp
  obtain ⟨s1, s2, s3, s4⟩ := id hsc
  have hB := Byt_tape (b := b) (S := S) (V := V) (Q := Q) (g := g1) t1 t3
  have eM : zz_loop (fun st : (Int32 × Int32 × Int32) => f_X12_script_L11 (Rm m Sm Vm g2) m (Rm m (va_up Sm 0 0) Vm g2) (st.1) (st.2.1) (st.2.2)) (-1, 0, 0) = f_X12_script_J84 (Rm m Sm Vm g2) m (mE (wsc (mb (Vm 1) t) t 601 0 1)) (Rm m (va_up Sm 0 0) Vm g2) := X12_scr (S := va_up Sm 0 0) t2 t3 601 0 0 (by omega) (by omega) (by omega)
  rw [mb_mby t4] at eM
  have eC : f_X0_copy (Cl b S V Q g1) n (b + 1) = some (n, Cl b S V Q (Hc g1 n t t (fun k => vp_nar .byte ((bt (V 2) t k).toInt8.toInt32))), n + 2) := by
    rw [X0_copy hB (fun q hq => by rw [Cl_out (by omega)]; exact hfr1 q hq), Cl_Hc hn]
  have hO : ∀ (β : Type) (x : Option β), zz_isO (Cl b S V Q (Hc g1 n t t (fun k => vp_nar .byte ((bt (V 2) t k).toInt8.toInt32)))) n 0 x = x := fun β x => zz_isO_of (by rw [Cl_out (by omega)]; exact Hc_n)
  unfold f_X11_script f_X11_addScript f_X12_script
  simp only [cO_0, cgI_0_6, cgR_0_5, cgR_0_0, cN_3, cO_1, Option.bind_some, s1, rp_0, X2_wrongInScript hB, eM, bud_t (show 0 ≤ 2 ∧ 0 ≤ 602 by decide), bud_t (show 2 ≤ 2 ∧ 602 ≤ 602 by decide)]
  rw [if_neg (zi_neg (by omega))]
  unfold f_X12_script_J84
  simp only [rgI_2, Option.bind_some, rp_2, rgI_30, show va_up Sm 0 0 2 = Sm 2 from rfl, t2, show va_up (va_up Sm 0 0) 2 0 30 = Sm 30 from rfl, s2]
  by_cases h10 : ns = 10
  · subst h10
    rw [if_neg (fun q => absurd ((zi_lt (by decide) (by decide)).mp q) (by decide)), if_pos (show zi 10 = (10 : Int32) from rfl)]
    simp only [Option.bind_some, cgR_0_0, cO_1, X0_clear_tape, bud_t (show 2 ≤ 2 ∧ 602 ≤ 602 by decide)]
    exact ⟨_, _, _, _, _, id, n, Or.inl ⟨rfl, rfl⟩, rfl, rfl, h.clr⟩
  · rw [if_pos ((zi_lt (by omega) (by decide)).mpr (by omega)), if_neg (fun q => h10 ((zi_eqL (by omega) (by decide)).mp q))]
    cases hw : wsc (mby (V 2) t) t 601 0 1 with
    | some p =>
      have hp := wsc_le _ _ _ _ hw
      have n1 : ¬ mE (some p) = (-1 : Int32) := fun q => by
        have := zi_neg (n := p) (by omega)
        rw [show zi p = -1 from q] at this
        exact this (by decide)
      have n2 : ¬ mE (some p) < (0 : Int32) := zi_neg (n := p) (by omega)
      rw [if_neg n1, if_neg n2]
      simp only [Option.bind_some, cgR_0_0, cO_1, X0_clear_tape, bud_t (show 2 ≤ 2 ∧ 602 ≤ 602 by decide)]
      exact ⟨_, _, _, _, _, id, n, Or.inl ⟨rfl, rfl⟩, rfl, rfl, h.clr⟩
    | none =>
      rw [if_pos (show mE none = (-1 : Int32) from rfl), if_pos (show mE none < (0 : Int32) by decide), X12_scr_cp (S1 := va_up (va_up Sm 0 0) 2 0) s2 (by omega) t3]
      simp only [eC, Option.bind_some, hO, cs_3 (show ns < 10 by omega), cgI_0_6, s1, zi_one, cp_0_6, cgR_0_0, cO_1, X0_clear_tape, bud_t (show 2 ≤ 2 ∧ 602 ≤ 602 by decide), up_self, show zi (ns + 1) - (1 : Int32) = zi ns from zi_sub (b := 1) (by omega)]
      refine ⟨_, _, _, _, _, fun g => Hc g n t t (fun k => vp_nar .byte ((bt (V 2) t k).toInt8.toInt32)), n + 2, Or.inr ⟨rfl, t, _, rfl⟩, rfl, rfl, ?_⟩
      refine script_fin hst hct hmo h27 hpl ⟨htp, hwd, htx, hsd, hsc, hfl⟩ (fun q n0 n1 => by rw [up_ne _ _ n1, up_ne _ _ n0]) rfl (fun k n0 n2 n3 => by rw [up_ne _ _ n3, up_ne _ _ n2, up_ne _ _ n0]) rfl (fun k n1 n2 => by rw [up_ne _ _ n2, up_ne _ _ n1]) (ns' := ns + 1) ?_
      refine ⟨rfl, rfl, by omega, fun i hi => ?_⟩
      by_cases hin : i = ns
      · subst hin
        refine ⟨n, n + 1, t, bw (fun _ => 0) 0 t (fun k => vp_nar .byte ((bt (V 2) t k).toInt8.toInt32)), up_self _ _ _, by omega, by omega, Hc_n, Hc_n1, t3, ?_, fun k hk => ?_, ?_⟩
        · show va_up (Vm 32) i (zi t) i = _
          rw [up_self]
        · rw [up_ne _ _ (show 31 ≠ 32 by decide), up_self, bw_in hk]
          have e := bw_in (f := fun _ => (0 : Int32)) (lo := 0) (src := fun k => vp_nar .byte ((bt (V 2) t k).toInt8.toInt32)) hk
          rw [Nat.zero_add] at e
          rw [e, nar_and, bt_tape t4 hk, ← t4 k hk, and255]
        · have em : mby (bw (fun _ => 0) 0 t (fun k => vp_nar .byte ((bt (V 2) t k).toInt8.toInt32))) t = mby (V 2) t := by
            funext k
            unfold mby
            by_cases hk : k < t
            · have e := bw_in (f := fun _ => (0 : Int32)) (lo := 0) (src := fun k => vp_nar .byte ((bt (V 2) t k).toInt8.toInt32)) hk
              rw [Nat.zero_add] at e
              rw [if_pos hk, if_pos hk, e, nar_and, bt_tape t4 hk, ← t4 k hk, and255]
            · rw [if_neg hk, if_neg hk]
          rw [em]
          exact hw
      · obtain ⟨a, r, L, f, q1, q2, q3, q4, q5, q6, q7, q8, q9⟩ := s4 i (by omega)
        have ha : a < n := by
          rcases Nat.lt_or_ge a n with q | q
          · exact q
          · rw [hfr a q] at q4
            cases q4
        have hr : r < n := by
          rcases Nat.lt_or_ge r n with q | q
          · exact q
          · rw [hfr r q] at q5
            cases q5
        refine ⟨a, r, L, f, (up_ne _ _ hin).trans q1, q2, q3, (Hc_o (by omega) (by omega)).trans q4, (Hc_o (by omega) (by omega)).trans q5, q6, ?_, fun k hk => ?_, q9⟩
        · show va_up (Vm 32) ns (zi t) i = _
          rw [up_ne _ _ hin]
          exact q7
        · rw [up_ne _ _ (show 31 ≠ 32 by decide), up_self, bw_out (by omega)]
          exact q8 k hk
end
