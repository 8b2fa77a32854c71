/-! ===== share, in step ===== -/
def tot (f : Nat → Int32) : Nat → Int32
  | 0 => 0
  | j + 1 => tot f j + f j
def cnt (f : Nat → Int32) : Nat → Nat
  | 0 => 0
  | j + 1 => cnt f j + (if f j ≤ 0 then 0 else 1)
theorem cnt_le (f : Nat → Int32) : ∀ j, cnt f j ≤ j
  | 0 => Nat.le_refl _
  | j + 1 => by
    have := cnt_le f j
    unfold cnt
    split <;> omega
theorem tot_congr {f f' : Nat → Int32} : ∀ j, (∀ k, k < j → f k = f' k) → tot f j = tot f' j ∧ cnt f j = cnt f' j
  | 0, _ => ⟨rfl, rfl⟩
  | j + 1, h => by
    obtain ⟨h1, h2⟩ := tot_congr j (fun k hk => h k (by omega))
    unfold tot cnt
    rw [h1, h2, h j (by omega)]
    exact ⟨rfl, rfl⟩
section
variable {b m : Nat} {S V : Nat → Nat → Int32} {Q : Nat → Option Nat} {g g1 g2 : ZH} {Sm : Nat → Int32} {Vm : Nat → Nat → Int32} {nr : Nat}
theorem X11_shareR (hn : S 4 4 = zi nr) (h30 : nr ≤ 30) (h0 : cnt (V 54) nr ≠ 0) : f_X11_share (Cl b S V Q g1) b = some (tot (V 54) nr / zi (cnt (V 54) nr)) := by
  have hc := cnt_le (V 54)
  unfold f_X11_share
  have key := loop_to (b := fun st : (Int32 × Int32 × Int32) => f_X11_share_L6 (Cl b S V Q g1) b (st.1) (st.2.1) (st.2.2)) (fun j => (tot (V 54) j, zi (cnt (V 54) j), zi j)) 0 nr (Nat.zero_le _) (fun j _ hj => by
    show f_X11_share_L6 (Cl b S V Q g1) b (tot (V 54) j) (zi (cnt (V 54) j)) (zi j) = _
    unfold f_X11_share_L6
    simp only [cgR_0_1, cgI_4_4, cgR_0_2, cgR_51_2, Option.bind_some, hn, cl_54 (show j < 30 by omega), zz_let]
    rw [if_neg (fun q => absurd ((zi_le (by omega) (by omega)).mp q) (by omega)), zi_one, zi_one]
    show _ = some (Sum.inl (tot (V 54) j + V 54 j, zi (cnt (V 54) j + (if V 54 j ≤ 0 then 0 else 1)), zi (j + 1)))
    by_cases q : V 54 j ≤ 0
    · rw [if_pos q, if_pos q]
      rfl
    · rw [if_neg q, if_neg q])
  refine Eq.trans key (zz_loop_map ?_)
  show f_X11_share_L6 (Cl b S V Q g1) b (tot (V 54) nr) (zi (cnt (V 54) nr)) (zi nr) = _
  unfold f_X11_share_L6
  have hz : ¬ zi (cnt (V 54) nr) = 0 := fun q => h0 ((zi_eqL (by have := hc nr; omega) (by decide)).mp q)
  simp only [cgR_0_1, cgI_4_4, Option.bind_some, hn]
  rw [if_pos ((zi_le (by omega) (by omega)).mpr (Nat.le_refl _)), if_neg hz, zz_ne, if_neg hz]
theorem X11_shareThr (hn : S 4 4 = zi nr) (h30 : nr ≤ 30) (h0 : cnt (V 54) nr = 0) : f_X11_shareT (Cl b S V Q g1) b = some 1 := by
  have hc := cnt_le (V 54)
  unfold f_X11_shareT
  have key := loop_to (b := fun st : (Int32 × Int32 × Int32) => f_X11_shareT_L6 (Cl b S V Q g1) b (st.1) (st.2.1) (st.2.2)) (fun j => (tot (V 54) j, zi (cnt (V 54) j), zi j)) 0 nr (Nat.zero_le _) (fun j _ hj => by
    show f_X11_shareT_L6 (Cl b S V Q g1) b (tot (V 54) j) (zi (cnt (V 54) j)) (zi j) = _
    unfold f_X11_shareT_L6
    simp only [cgR_0_1, cgI_4_4, cgR_0_2, cgR_51_2, Option.bind_some, hn, cl_54 (show j < 30 by omega), zz_let]
    rw [if_neg (fun q => absurd ((zi_le (by omega) (by omega)).mp q) (by omega)), zi_one, zi_one]
    show _ = some (Sum.inl (tot (V 54) j + V 54 j, zi (cnt (V 54) j + (if V 54 j ≤ 0 then 0 else 1)), zi (j + 1)))
    by_cases q : V 54 j ≤ 0
    · rw [if_pos q, if_pos q]
      rfl
    · rw [if_neg q, if_neg q])
  refine Eq.trans key (zz_loop_map ?_)
  show f_X11_shareT_L6 (Cl b S V Q g1) b (tot (V 54) nr) (zi (cnt (V 54) nr)) (zi nr) = _
  unfold f_X11_shareT_L6
  simp only [cgR_0_1, cgI_4_4, Option.bind_some, hn]
  rw [if_pos ((zi_le (by omega) (by omega)).mpr (Nat.le_refl _)), h0, if_pos (show zi 0 = 0 from rfl)]
theorem X12_share (hn : Sm 10 = zi nr) (h30 : nr ≤ 30) : f_X12_share (Rm m Sm Vm g2) m = some (if cnt (Vm 20) nr = 0 then (0, Rm m (va_up Sm 0 1) Vm g2) else (tot (Vm 20) nr / zi (cnt (Vm 20) nr), Rm m (va_up Sm 0 0) Vm g2)) := by
  have hc := cnt_le (Vm 20)
  unfold f_X12_share
  have key := loop_to (b := fun st : (Int32 × Int32 × Int32) => f_X12_share_L6 (Rm m Sm Vm g2) m (Rm m Sm Vm g2) (st.1) (st.2.1) (st.2.2)) (fun j => (tot (Vm 20) j, zi (cnt (Vm 20) j), zi j)) 0 nr (Nat.zero_le _) (fun j _ hj => by
    show f_X12_share_L6 (Rm m Sm Vm g2) m (Rm m Sm Vm g2) (tot (Vm 20) j) (zi (cnt (Vm 20) j)) (zi j) = _
    unfold f_X12_share_L6 f_X12_share_J38
    simp only [rgI_10, rgR_20, Option.bind_some, hn, rl_20 (show j < 30 by omega), zz_let]
    rw [if_neg (fun q => absurd ((zi_le (by omega) (by omega)).mp q) (by omega)), zi_one, zi_one]
    show _ = some (Sum.inl (tot (Vm 20) j + Vm 20 j, zi (cnt (Vm 20) j + (if Vm 20 j ≤ 0 then 0 else 1)), zi (j + 1)))
    by_cases q : Vm 20 j ≤ 0
    · rw [if_pos q, if_pos q, Int32.add_zero]
      rfl
    · rw [if_neg q, if_neg q])
  refine Eq.trans key (zz_loop_map ?_)
  show f_X12_share_L6 (Rm m Sm Vm g2) m (Rm m Sm Vm g2) (tot (Vm 20) nr) (zi (cnt (Vm 20) nr)) (zi nr) = _
  unfold f_X12_share_L6 f_X12_share_J56
  rw [rgI_10, Option.bind_some, hn, if_pos ((zi_le (by omega) (by omega)).mpr (Nat.le_refl _))]
  by_cases h0 : cnt (Vm 20) nr = 0
  · rw [if_pos h0, h0, if_pos (show zi 0 = 0 from rfl), rp_0, Option.bind_some, if_pos (show zi 0 = 0 from rfl)]
  · have hz : ¬ zi (cnt (Vm 20) nr) = 0 := fun q => h0 ((zi_eqL (by have := hc nr; omega) (by decide)).mp q)
    rw [if_neg h0, if_neg hz, rp_0, Option.bind_some, if_neg hz, zz_ne, if_neg hz]
theorem lo_share (h : Rel b S V Q g Sm Vm) : ∃ (k r : Int32), ((k = 0 ∧ ∀ lo, f_X11_share (HH b S V Q Sm Vm lo g) b = some r) ∨ (k = 1 ∧ ∀ lo, f_X11_shareT (HH b S V Q Sm Vm lo g) b = some 1)) ∧ (∀ lo, f_X12_share (HH b S V Q Sm Vm lo g) (b + 73) = some (r, HH b S V Q (va_up Sm 0 k) Vm lo g)) ∧ (∀ lo, f_X12_thrown (HH b S V Q (va_up Sm 0 k) Vm lo g) (b + 73) = some k) ∧ Rel b S V Q g (va_up Sm 0 k) Vm := by
  obtain ⟨nr, nw, nt, t, ns, nf, p, hst, hct, -⟩ := id h
  obtain ⟨⟨a1, a2, a3⟩, -⟩ := hst
  obtain ⟨e1, e2⟩ := tot_congr (f := V 54) (f' := Vm 20) nr (fun k hk => hct.2.2.1 k (by omega))
  have th : ∀ (k : Int32) lo, f_X12_thrown (HH b S V Q (va_up Sm 0 k) Vm lo g) (b + 73) = some k := fun k lo => by
    unfold f_X12_thrown
    rw [HH_m, rgI_0, Option.bind_some, up_self]
  by_cases h0 : cnt (Vm 20) nr = 0
  · refine ⟨1, 0, Or.inr ⟨rfl, fun lo => X11_shareThr a1 a3 (by rw [e2]; exact h0)⟩, fun lo => ?_, th 1, h.thr 1⟩
    rw [HH_m, X12_share a2 a3, if_pos h0, HH_m]
  · refine ⟨0, tot (V 54) nr / zi (cnt (V 54) nr), Or.inl ⟨rfl, fun lo => X11_shareR a1 a3 (by rw [e2]; exact h0)⟩, fun lo => ?_, th 0, h.thr 0⟩
    rw [HH_m, X12_share a2 a3, if_neg h0, HH_m, e1, e2]
end
