/-! ===== the law: its cases ===== -/
abbrev LA (s : State) : Nat → Prop := fun q => s.heap.size ≤ q
/-- what stays while the law runs -/
def LC (p : Program) (s : State) (m : MethodId) (c : Code) (D : va_G) (dA : Nat → ClassId) (b0 L : Nat) (xs : Nat → Int32) : Prop := CallFix p m c cL_law 7 s #[Value.ref b0] GW RL ∧ zz_K D dA s ∧ va_X b0 L xs s s.heap ∧ b0 < s.heap.size
/-- what holds at the head of the law's loop, behind k calls -/
def LI (s : State) (D : va_G) (dA : Nat → ClassId) (b : Nat) (S V : Nat → Nat → Int32) (Q : Nat → Option Nat) (Sm : Nat → Int32) (Vm : Nat → Nat → Int32) (lo : Nat → Int64) (g : ZH) (n : Nat) (H : Heap) (locs : List Loc) (cells slots k : Nat) : Prop := zz_B D dA (LA s) (HH b S V Q Sm Vm lo g) n s.heap H locs ∧ Rel b S V Q g Sm Vm ∧ b + 101 ≤ n ∧ (∀ q, n ≤ q → g q = none) ∧ cells ≤ 101 + 2 * k ∧ slots ≤ 10288 + 602 * k
theorem HH_b {b : Nat} {S V : Nat → Nat → Int32} {Q : Nat → Option Nat} {Sm : Nat → Int32} {Vm : Nat → Nat → Int32} {lo : Nat → Int64} {g : ZH} : ∃ fs, HH b S V Q Sm Vm lo g b = some (.inr (9, fs)) := ⟨_, cel_0⟩
theorem HH_r {b : Nat} {S V : Nat → Nat → Int32} {Q : Nat → Option Nat} {Sm : Nat → Int32} {Vm : Nat → Nat → Int32} {lo : Nat → Int64} {g : ZH} : ∃ fs, HH b S V Q Sm Vm lo g (b + 73) = some (.inr (10, fs)) := ⟨_, by rw [HH_m]; exact Rm_0⟩
/-- where a case goes on -/
abbrev LK (p : Program) (l : Launch) (e : Env) (s : State) (m : MethodId) (below : List Frame) (meth : Method) (c : Code) (D : va_G) (dA : Nat → ClassId) (b0 b i k : Nat) (Z9 : State → Prop) : Prop := ∀ (S V : Nat → Nat → Int32) (Q : Nat → Option Nat) (Sm : Nat → Int32) (Vm : Nat → Nat → Int32) (lo : Nat → Int64) (g : ZH) (n : Nat) (H : Heap) (locs : List Loc) (cells slots : Nat) (ls : Array Slot), LI s D dA b S V Q Sm Vm lo g n H locs cells slots (k + 1) → lv_has ls 7 [(0, .ref b0), (1, .ref b), (2, .ref (b + 73)), (3, .ref (b + 100)), (4, .int (zi i))] → W p l e room_1 s m #[Value.ref b0] below meth c H locs cells slots Z9 (F0 m 799 ls [])
theorem LX {L i : Nat} (hi : i + 10 ≤ L) (hL : L ≤ 5121) (j : Nat) (hj : j ≤ 9) : vp_in (zi i + zi j) L := by
  rw [zi_add]
  unfold vp_in
  rw [zi_nat (by omega)]
  exact fun q => q.elim (zi_neg (by omega)) (by omega)
section
variable {p : Program} {l : Launch} {e : Env} {s : State} {m : MethodId} {below : List Frame} {meth : Method} {c : Code} {D : va_G} {dA : Nat → ClassId} {b0 L b i k : Nat} {xs : Nat → Int32} {Z9 : State → Prop} {S V : Nat → Nat → Int32} {Q : Nat → Option Nat} {Sm : Nat → Int32} {Vm : Nat → Nat → Int32} {lo : Nat → Int64} {g : ZH} {n : Nat} {H : Heap} {locs : List Loc} {cells slots : Nat} {ls : Array Slot}
set_option maxRecDepth 100000 in
set_option maxHeartbeats 4000000 in
theorem lc_feed (C : LC p s m c D dA b0 L xs) (hi : i + 10 ≤ L) (hL : L ≤ 5121) (hk : k < 512) (I : LI s D dA b S V Q Sm Vm lo g n H locs cells slots k) (hl : lv_has ls 7 [(0, .ref b0), (1, .ref b), (2, .ref (b + 73)), (3, .ref (b + 100)), (4, .int (zi i))]) (kk : LK p l e s m below meth c D dA b0 b i k Z9) : W p l e room_1 s m #[Value.ref b0] below meth c H locs cells slots Z9 (F0 m 144 ls []) := by
  obtain ⟨S9, K, hX, hbl⟩ := C
  obtain ⟨Z, hR, hn, hfr, hc1, hc2⟩ := I
  have hbA : ¬ LA s b0 := Nat.not_le.mpr hbl
  refine lv_aload_n S9.1 S9.2.1 dL_law_144 rfl (lv_at hl 1 rfl) ?_
  refine lv_aload_n S9.1 S9.2.1 dL_law_145 rfl (lv_at hl 0 rfl) ?_
  refine lv_iload S9.1 S9.2.1 dL_law_146 (lv_at hl 4 rfl) ?_
  refine lv_iconst (v := (1 : Int32)) S9.1 S9.2.1 dL_law_148 (by decide) ?_
  refine lv_iadd S9.1 S9.2.1 dL_law_149 ?_
  refine va_sld S9.1 S9.2.1 hX hbl hbA Z.2 (i := zi i + (1 : Int32)) (LX hi hL 1 (by decide)) dL_law_150 ?_
  refine lv_i2l S9.1 S9.2.1 dL_law_151 rfl ?_
  refine lv_bipush (v := (32 : Int32)) S9.1 S9.2.1 dL_law_152 (by decide) ?_
  refine lv_lshl S9.1 S9.2.1 dL_law_154 rfl ?_
  refine lv_aload_n S9.1 S9.2.1 dL_law_155 rfl (lv_at hl 0 rfl) ?_
  refine lv_iload S9.1 S9.2.1 dL_law_156 (lv_at hl 4 rfl) ?_
  refine lv_iconst (v := (2 : Int32)) S9.1 S9.2.1 dL_law_158 (by decide) ?_
  refine lv_iadd S9.1 S9.2.1 dL_law_159 ?_
  refine va_sld S9.1 S9.2.1 hX hbl hbA Z.2 (i := zi i + (2 : Int32)) (LX hi hL 2 (by decide)) dL_law_160 ?_
  refine lv_i2l S9.1 S9.2.1 dL_law_161 rfl ?_
  refine lv_ldc2 (v := (4294967295 : Int64)) S9.1 S9.2.1 S9.2.2.2.1 (S9.2.2.2.2 _ gk_L_27) dL_law_162 ?_
  refine lv_land S9.1 S9.2.1 dL_law_165 ?_
  refine lv_lor S9.1 S9.2.1 dL_law_166 ?_
  refine lv_aload_n S9.1 S9.2.1 dL_law_167 rfl (lv_at hl 0 rfl) ?_
  refine lv_iload S9.1 S9.2.1 dL_law_168 (lv_at hl 4 rfl) ?_
  refine lv_iconst (v := (3 : Int32)) S9.1 S9.2.1 dL_law_170 (by decide) ?_
  refine lv_iadd S9.1 S9.2.1 dL_law_171 ?_
  refine va_sld S9.1 S9.2.1 hX hbl hbA Z.2 (i := zi i + (3 : Int32)) (LX hi hL 3 (by decide)) dL_law_172 ?_
  obtain ⟨r, S', V', Sm', Vm', e1, e2, hR'⟩ := lo_feed (lo := lo) (w := ((xs (zi i + (1 : Int32)).toNatClampNeg).toInt64 <<< ((32 : Int32).toInt64 &&& 63)) ||| (((xs (zi i + (2 : Int32)).toNatClampNeg).toInt64) &&& ((4294967295 : Int64)))) (x := xs (zi i + (3 : Int32)).toNatClampNeg) hR
  refine zz_V [.long (((xs (zi i + (1 : Int32)).toNatClampNeg).toInt64 <<< ((32 : Int32).toInt64 &&& 63)) ||| (((xs (zi i + (2 : Int32)).toNatClampNeg).toInt64) &&& ((4294967295 : Int64)))), .int (xs (zi i + (3 : Int32)).toNatClampNeg)] S9 K Z HH_b zc_9 rfl (c_X11_feed b (((xs (zi i + (1 : Int32)).toNatClampNeg).toInt64 <<< ((32 : Int32).toInt64 &&& 63)) ||| (((xs (zi i + (2 : Int32)).toNatClampNeg).toInt64) &&& ((4294967295 : Int64)))) (xs (zi i + (3 : Int32)).toNatClampNeg) e1) ⟨rfl, rfl⟩ gm_X11_feed gmv_X11_feed gl_L_29 ⟨by decide, by decide⟩ rfl hl.1 rfl (Nat.le_of_ble_eq_true rfl) dL_law_173 ⟨by show cells + 0 ≤ 601024; omega, by show slots + 0 ≤ 7293000; omega⟩ (fun H locs Z => ?_)
  show W _ _ _ _ _ _ _ _ _ _ _ _ _ _ _ (F0 m 176 ls [.int (r)])
  refine lv_aload_n S9.1 S9.2.1 dL_law_176 rfl (lv_at hl 2 rfl) ?_
  refine lv_aload_n S9.1 S9.2.1 dL_law_177 rfl (lv_at hl 0 rfl) ?_
  refine lv_iload S9.1 S9.2.1 dL_law_178 (lv_at hl 4 rfl) ?_
  refine lv_iconst (v := (1 : Int32)) S9.1 S9.2.1 dL_law_180 (by decide) ?_
  refine lv_iadd S9.1 S9.2.1 dL_law_181 ?_
  refine va_sld S9.1 S9.2.1 hX hbl hbA Z.2 (i := zi i + (1 : Int32)) (LX hi hL 1 (by decide)) dL_law_182 ?_
  refine lv_i2l S9.1 S9.2.1 dL_law_183 rfl ?_
  refine lv_bipush (v := (32 : Int32)) S9.1 S9.2.1 dL_law_184 (by decide) ?_
  refine lv_lshl S9.1 S9.2.1 dL_law_186 rfl ?_
  refine lv_aload_n S9.1 S9.2.1 dL_law_187 rfl (lv_at hl 0 rfl) ?_
  refine lv_iload S9.1 S9.2.1 dL_law_188 (lv_at hl 4 rfl) ?_
  refine lv_iconst (v := (2 : Int32)) S9.1 S9.2.1 dL_law_190 (by decide) ?_
  refine lv_iadd S9.1 S9.2.1 dL_law_191 ?_
  refine va_sld S9.1 S9.2.1 hX hbl hbA Z.2 (i := zi i + (2 : Int32)) (LX hi hL 2 (by decide)) dL_law_192 ?_
  refine lv_i2l S9.1 S9.2.1 dL_law_193 rfl ?_
  refine lv_ldc2 (v := (4294967295 : Int64)) S9.1 S9.2.1 S9.2.2.2.1 (S9.2.2.2.2 _ gk_L_27) dL_law_194 ?_
  refine lv_land S9.1 S9.2.1 dL_law_197 ?_
  refine lv_lor S9.1 S9.2.1 dL_law_198 ?_
  refine lv_aload_n S9.1 S9.2.1 dL_law_199 rfl (lv_at hl 0 rfl) ?_
  refine lv_iload S9.1 S9.2.1 dL_law_200 (lv_at hl 4 rfl) ?_
  refine lv_iconst (v := (3 : Int32)) S9.1 S9.2.1 dL_law_202 (by decide) ?_
  refine lv_iadd S9.1 S9.2.1 dL_law_203 ?_
  refine va_sld S9.1 S9.2.1 hX hbl hbA Z.2 (i := zi i + (3 : Int32)) (LX hi hL 3 (by decide)) dL_law_204 ?_
  refine zz_V [.long (((xs (zi i + (1 : Int32)).toNatClampNeg).toInt64 <<< ((32 : Int32).toInt64 &&& 63)) ||| (((xs (zi i + (2 : Int32)).toNatClampNeg).toInt64) &&& ((4294967295 : Int64)))), .int (xs (zi i + (3 : Int32)).toNatClampNeg)] S9 K Z HH_r zc_10 rfl (c_X12_feed (b + 73) (((xs (zi i + (1 : Int32)).toNatClampNeg).toInt64 <<< ((32 : Int32).toInt64 &&& 63)) ||| (((xs (zi i + (2 : Int32)).toNatClampNeg).toInt64) &&& ((4294967295 : Int64)))) (xs (zi i + (3 : Int32)).toNatClampNeg) e2) ⟨rfl, rfl⟩ gm_X12_feed gmv_X12_feed gl_L_33 ⟨by decide, by decide⟩ rfl hl.1 rfl (Nat.le_of_ble_eq_true rfl) dL_law_205 ⟨by show cells + 0 + 0 ≤ 601024; omega, by show slots + 0 + 0 ≤ 7293000; omega⟩ (fun H locs Z => ?_)
  show W _ _ _ _ _ _ _ _ _ _ _ _ _ _ _ (F0 m 208 ls [.int (r), .int (r)])
  refine lv_icmp_eq (tgt := 799) S9.1 S9.2.1 dL_law_208 (by decide) (fun hc => ?_) (fun hc => absurd rfl hc)
  exact kk _ _ _ _ _ _ _ _ _ _ _ _ _ ⟨Z, hR', hn, hfr, by omega, by omega⟩ hl
set_option maxRecDepth 100000 in
set_option maxHeartbeats 4000000 in
theorem lc_word (C : LC p s m c D dA b0 L xs) (hi : i + 10 ≤ L) (hL : L ≤ 5121) (hk : k < 512) (I : LI s D dA b S V Q Sm Vm lo g n H locs cells slots k) (hl : lv_has ls 7 [(0, .ref b0), (1, .ref b), (2, .ref (b + 73)), (3, .ref (b + 100)), (4, .int (zi i))]) (kk : LK p l e s m below meth c D dA b0 b i k Z9) : W p l e room_1 s m #[Value.ref b0] below meth c H locs cells slots Z9 (F0 m 213 ls []) := by
  obtain ⟨S9, K, hX, hbl⟩ := C
  obtain ⟨Z, hR, hn, hfr, hc1, hc2⟩ := I
  have hbA : ¬ LA s b0 := Nat.not_le.mpr hbl
  refine lv_aload_n S9.1 S9.2.1 dL_law_213 rfl (lv_at hl 1 rfl) ?_
  obtain ⟨r, S', V', Sm', Vm', e1, e2, hR'⟩ := lo_word (lo := lo) hR
  refine zz_V [] S9 K Z HH_b zc_9 rfl (c_X11_word b e1) ⟨rfl, rfl⟩ gm_X11_word gmv_X11_word gl_L_34 ⟨by decide, by decide⟩ rfl hl.1 rfl (Nat.le_of_ble_eq_true rfl) dL_law_214 ⟨by show cells + 0 ≤ 601024; omega, by show slots + 0 ≤ 7293000; omega⟩ (fun H locs Z => ?_)
  show W _ _ _ _ _ _ _ _ _ _ _ _ _ _ _ (F0 m 217 ls [.int (r)])
  refine lv_aload_n S9.1 S9.2.1 dL_law_217 rfl (lv_at hl 2 rfl) ?_
  refine zz_V [] S9 K Z HH_r zc_10 rfl (c_X12_word (b + 73) e2) ⟨rfl, rfl⟩ gm_X12_word gmv_X12_word gl_L_37 ⟨by decide, by decide⟩ rfl hl.1 rfl (Nat.le_of_ble_eq_true rfl) dL_law_218 ⟨by show cells + 0 + 0 ≤ 601024; omega, by show slots + 0 + 0 ≤ 7293000; omega⟩ (fun H locs Z => ?_)
  show W _ _ _ _ _ _ _ _ _ _ _ _ _ _ _ (F0 m 221 ls [.int (r), .int (r)])
  refine lv_icmp_eq (tgt := 799) S9.1 S9.2.1 dL_law_221 (by decide) (fun hc => ?_) (fun hc => absurd rfl hc)
  exact kk _ _ _ _ _ _ _ _ _ _ _ _ _ ⟨Z, hR', hn, hfr, by omega, by omega⟩ hl
set_option maxRecDepth 100000 in
set_option maxHeartbeats 4000000 in
theorem lc_text (C : LC p s m c D dA b0 L xs) (hi : i + 10 ≤ L) (hL : L ≤ 5121) (hk : k < 512) (I : LI s D dA b S V Q Sm Vm lo g n H locs cells slots k) (hl : lv_has ls 7 [(0, .ref b0), (1, .ref b), (2, .ref (b + 73)), (3, .ref (b + 100)), (4, .int (zi i))]) (kk : LK p l e s m below meth c D dA b0 b i k Z9) : W p l e room_1 s m #[Value.ref b0] below meth c H locs cells slots Z9 (F0 m 226 ls []) := by
  obtain ⟨S9, K, hX, hbl⟩ := C
  obtain ⟨Z, hR, hn, hfr, hc1, hc2⟩ := I
  have hbA : ¬ LA s b0 := Nat.not_le.mpr hbl
  refine lv_aload_n S9.1 S9.2.1 dL_law_226 rfl (lv_at hl 1 rfl) ?_
  obtain ⟨r, S', V', Sm', Vm', e1, e2, hR'⟩ := lo_text (lo := lo) hR
  refine zz_V [] S9 K Z HH_b zc_9 rfl (c_X11_text b e1) ⟨rfl, rfl⟩ gm_X11_text gmv_X11_text gl_L_38 ⟨by decide, by decide⟩ rfl hl.1 rfl (Nat.le_of_ble_eq_true rfl) dL_law_227 ⟨by show cells + 0 ≤ 601024; omega, by show slots + 0 ≤ 7293000; omega⟩ (fun H locs Z => ?_)
  show W _ _ _ _ _ _ _ _ _ _ _ _ _ _ _ (F0 m 230 ls [.int (r)])
  refine lv_aload_n S9.1 S9.2.1 dL_law_230 rfl (lv_at hl 2 rfl) ?_
  refine zz_V [] S9 K Z HH_r zc_10 rfl (c_X12_text (b + 73) e2) ⟨rfl, rfl⟩ gm_X12_text gmv_X12_text gl_L_41 ⟨by decide, by decide⟩ rfl hl.1 rfl (Nat.le_of_ble_eq_true rfl) dL_law_231 ⟨by show cells + 0 + 0 ≤ 601024; omega, by show slots + 0 + 0 ≤ 7293000; omega⟩ (fun H locs Z => ?_)
  show W _ _ _ _ _ _ _ _ _ _ _ _ _ _ _ (F0 m 234 ls [.int (r), .int (r)])
  refine lv_icmp_eq (tgt := 799) S9.1 S9.2.1 dL_law_234 (by decide) (fun hc => ?_) (fun hc => absurd rfl hc)
  exact kk _ _ _ _ _ _ _ _ _ _ _ _ _ ⟨Z, hR', hn, hfr, by omega, by omega⟩ hl
set_option maxRecDepth 100000 in
set_option maxHeartbeats 4000000 in
theorem lc_rule (C : LC p s m c D dA b0 L xs) (hi : i + 10 ≤ L) (hL : L ≤ 5121) (hk : k < 512) (I : LI s D dA b S V Q Sm Vm lo g n H locs cells slots k) (hl : lv_has ls 7 [(0, .ref b0), (1, .ref b), (2, .ref (b + 73)), (3, .ref (b + 100)), (4, .int (zi i))]) (kk : LK p l e s m below meth c D dA b0 b i k Z9) : W p l e room_1 s m #[Value.ref b0] below meth c H locs cells slots Z9 (F0 m 239 ls []) := by
  obtain ⟨S9, K, hX, hbl⟩ := C
  obtain ⟨Z, hR, hn, hfr, hc1, hc2⟩ := I
  have hbA : ¬ LA s b0 := Nat.not_le.mpr hbl
  refine lv_aload_n S9.1 S9.2.1 dL_law_239 rfl (lv_at hl 1 rfl) ?_
  refine lv_aload_n S9.1 S9.2.1 dL_law_240 rfl (lv_at hl 0 rfl) ?_
  refine lv_iload S9.1 S9.2.1 dL_law_241 (lv_at hl 4 rfl) ?_
  refine lv_iconst (v := (1 : Int32)) S9.1 S9.2.1 dL_law_243 (by decide) ?_
  refine lv_iadd S9.1 S9.2.1 dL_law_244 ?_
  refine va_sld S9.1 S9.2.1 hX hbl hbA Z.2 (i := zi i + (1 : Int32)) (LX hi hL 1 (by decide)) dL_law_245 ?_
  refine lv_aload_n S9.1 S9.2.1 dL_law_246 rfl (lv_at hl 0 rfl) ?_
  refine lv_iload S9.1 S9.2.1 dL_law_247 (lv_at hl 4 rfl) ?_
  refine lv_iconst (v := (2 : Int32)) S9.1 S9.2.1 dL_law_249 (by decide) ?_
  refine lv_iadd S9.1 S9.2.1 dL_law_250 ?_
  refine va_sld S9.1 S9.2.1 hX hbl hbA Z.2 (i := zi i + (2 : Int32)) (LX hi hL 2 (by decide)) dL_law_251 ?_
  refine lv_aload_n S9.1 S9.2.1 dL_law_252 rfl (lv_at hl 0 rfl) ?_
  refine lv_iload S9.1 S9.2.1 dL_law_253 (lv_at hl 4 rfl) ?_
  refine lv_iconst (v := (3 : Int32)) S9.1 S9.2.1 dL_law_255 (by decide) ?_
  refine lv_iadd S9.1 S9.2.1 dL_law_256 ?_
  refine va_sld S9.1 S9.2.1 hX hbl hbA Z.2 (i := zi i + (3 : Int32)) (LX hi hL 3 (by decide)) dL_law_257 ?_
  refine lv_aload_n S9.1 S9.2.1 dL_law_258 rfl (lv_at hl 0 rfl) ?_
  refine lv_iload S9.1 S9.2.1 dL_law_259 (lv_at hl 4 rfl) ?_
  refine lv_iconst (v := (4 : Int32)) S9.1 S9.2.1 dL_law_261 (by decide) ?_
  refine lv_iadd S9.1 S9.2.1 dL_law_262 ?_
  refine va_sld S9.1 S9.2.1 hX hbl hbA Z.2 (i := zi i + (4 : Int32)) (LX hi hL 4 (by decide)) dL_law_263 ?_
  refine lv_aload_n S9.1 S9.2.1 dL_law_264 rfl (lv_at hl 0 rfl) ?_
  refine lv_iload S9.1 S9.2.1 dL_law_265 (lv_at hl 4 rfl) ?_
  refine lv_iconst (v := (5 : Int32)) S9.1 S9.2.1 dL_law_267 (by decide) ?_
  refine lv_iadd S9.1 S9.2.1 dL_law_268 ?_
  refine va_sld S9.1 S9.2.1 hX hbl hbA Z.2 (i := zi i + (5 : Int32)) (LX hi hL 5 (by decide)) dL_law_269 ?_
  refine lv_aload_n S9.1 S9.2.1 dL_law_270 rfl (lv_at hl 0 rfl) ?_
  refine lv_iload S9.1 S9.2.1 dL_law_271 (lv_at hl 4 rfl) ?_
  refine lv_bipush (v := (6 : Int32)) S9.1 S9.2.1 dL_law_273 (by decide) ?_
  refine lv_iadd S9.1 S9.2.1 dL_law_275 ?_
  refine va_sld S9.1 S9.2.1 hX hbl hbA Z.2 (i := zi i + (6 : Int32)) (LX hi hL 6 (by decide)) dL_law_276 ?_
  refine lv_aload_n S9.1 S9.2.1 dL_law_277 rfl (lv_at hl 0 rfl) ?_
  refine lv_iload S9.1 S9.2.1 dL_law_278 (lv_at hl 4 rfl) ?_
  refine lv_bipush (v := (7 : Int32)) S9.1 S9.2.1 dL_law_280 (by decide) ?_
  refine lv_iadd S9.1 S9.2.1 dL_law_282 ?_
  refine va_sld S9.1 S9.2.1 hX hbl hbA Z.2 (i := zi i + (7 : Int32)) (LX hi hL 7 (by decide)) dL_law_283 ?_
  refine lv_aload_n S9.1 S9.2.1 dL_law_284 rfl (lv_at hl 0 rfl) ?_
  refine lv_iload S9.1 S9.2.1 dL_law_285 (lv_at hl 4 rfl) ?_
  refine lv_bipush (v := (8 : Int32)) S9.1 S9.2.1 dL_law_287 (by decide) ?_
  refine lv_iadd S9.1 S9.2.1 dL_law_289 ?_
  refine va_sld S9.1 S9.2.1 hX hbl hbA Z.2 (i := zi i + (8 : Int32)) (LX hi hL 8 (by decide)) dL_law_290 ?_
  refine lv_aload_n S9.1 S9.2.1 dL_law_291 rfl (lv_at hl 0 rfl) ?_
  refine lv_iload S9.1 S9.2.1 dL_law_292 (lv_at hl 4 rfl) ?_
  refine lv_bipush (v := (9 : Int32)) S9.1 S9.2.1 dL_law_294 (by decide) ?_
  refine lv_iadd S9.1 S9.2.1 dL_law_296 ?_
  refine va_sld S9.1 S9.2.1 hX hbl hbA Z.2 (i := zi i + (9 : Int32)) (LX hi hL 9 (by decide)) dL_law_297 ?_
  obtain ⟨r, S', V', Sm', Vm', e1, e2, hR'⟩ := lo_rule (lo := lo) (a1 := xs (zi i + (1 : Int32)).toNatClampNeg) (a2 := xs (zi i + (2 : Int32)).toNatClampNeg) (a3 := xs (zi i + (3 : Int32)).toNatClampNeg) (a4 := xs (zi i + (4 : Int32)).toNatClampNeg) (a5 := xs (zi i + (5 : Int32)).toNatClampNeg) (a6 := xs (zi i + (6 : Int32)).toNatClampNeg) (a7 := xs (zi i + (7 : Int32)).toNatClampNeg) (a8 := xs (zi i + (8 : Int32)).toNatClampNeg) (a9 := xs (zi i + (9 : Int32)).toNatClampNeg) hR
  refine zz_V [.int (xs (zi i + (1 : Int32)).toNatClampNeg), .int (xs (zi i + (2 : Int32)).toNatClampNeg), .int (xs (zi i + (3 : Int32)).toNatClampNeg), .int (xs (zi i + (4 : Int32)).toNatClampNeg), .int (xs (zi i + (5 : Int32)).toNatClampNeg), .int (xs (zi i + (6 : Int32)).toNatClampNeg), .int (xs (zi i + (7 : Int32)).toNatClampNeg), .int (xs (zi i + (8 : Int32)).toNatClampNeg), .int (xs (zi i + (9 : Int32)).toNatClampNeg)] S9 K Z HH_b zc_9 rfl (c_X11_rule b (xs (zi i + (1 : Int32)).toNatClampNeg) (xs (zi i + (2 : Int32)).toNatClampNeg) (xs (zi i + (3 : Int32)).toNatClampNeg) (xs (zi i + (4 : Int32)).toNatClampNeg) (xs (zi i + (5 : Int32)).toNatClampNeg) (xs (zi i + (6 : Int32)).toNatClampNeg) (xs (zi i + (7 : Int32)).toNatClampNeg) (xs (zi i + (8 : Int32)).toNatClampNeg) (xs (zi i + (9 : Int32)).toNatClampNeg) e1) ⟨rfl, rfl⟩ gm_X11_rule gmv_X11_rule gl_L_42 ⟨by decide, by decide⟩ rfl hl.1 rfl (Nat.le_of_ble_eq_true rfl) dL_law_298 ⟨by show cells + 0 ≤ 601024; omega, by show slots + 0 ≤ 7293000; omega⟩ (fun H locs Z => ?_)
  show W _ _ _ _ _ _ _ _ _ _ _ _ _ _ _ (F0 m 301 ls [.int (r)])
  refine lv_aload_n S9.1 S9.2.1 dL_law_301 rfl (lv_at hl 2 rfl) ?_
  refine lv_aload_n S9.1 S9.2.1 dL_law_302 rfl (lv_at hl 0 rfl) ?_
  refine lv_iload S9.1 S9.2.1 dL_law_303 (lv_at hl 4 rfl) ?_
  refine lv_iconst (v := (1 : Int32)) S9.1 S9.2.1 dL_law_305 (by decide) ?_
  refine lv_iadd S9.1 S9.2.1 dL_law_306 ?_
  refine va_sld S9.1 S9.2.1 hX hbl hbA Z.2 (i := zi i + (1 : Int32)) (LX hi hL 1 (by decide)) dL_law_307 ?_
  refine lv_aload_n S9.1 S9.2.1 dL_law_308 rfl (lv_at hl 0 rfl) ?_
  refine lv_iload S9.1 S9.2.1 dL_law_309 (lv_at hl 4 rfl) ?_
  refine lv_iconst (v := (2 : Int32)) S9.1 S9.2.1 dL_law_311 (by decide) ?_
  refine lv_iadd S9.1 S9.2.1 dL_law_312 ?_
  refine va_sld S9.1 S9.2.1 hX hbl hbA Z.2 (i := zi i + (2 : Int32)) (LX hi hL 2 (by decide)) dL_law_313 ?_
  refine lv_aload_n S9.1 S9.2.1 dL_law_314 rfl (lv_at hl 0 rfl) ?_
  refine lv_iload S9.1 S9.2.1 dL_law_315 (lv_at hl 4 rfl) ?_
  refine lv_iconst (v := (3 : Int32)) S9.1 S9.2.1 dL_law_317 (by decide) ?_
  refine lv_iadd S9.1 S9.2.1 dL_law_318 ?_
  refine va_sld S9.1 S9.2.1 hX hbl hbA Z.2 (i := zi i + (3 : Int32)) (LX hi hL 3 (by decide)) dL_law_319 ?_
  refine lv_aload_n S9.1 S9.2.1 dL_law_320 rfl (lv_at hl 0 rfl) ?_
  refine lv_iload S9.1 S9.2.1 dL_law_321 (lv_at hl 4 rfl) ?_
  refine lv_iconst (v := (4 : Int32)) S9.1 S9.2.1 dL_law_323 (by decide) ?_
  refine lv_iadd S9.1 S9.2.1 dL_law_324 ?_
  refine va_sld S9.1 S9.2.1 hX hbl hbA Z.2 (i := zi i + (4 : Int32)) (LX hi hL 4 (by decide)) dL_law_325 ?_
  refine lv_aload_n S9.1 S9.2.1 dL_law_326 rfl (lv_at hl 0 rfl) ?_
  refine lv_iload S9.1 S9.2.1 dL_law_327 (lv_at hl 4 rfl) ?_
  refine lv_iconst (v := (5 : Int32)) S9.1 S9.2.1 dL_law_329 (by decide) ?_
  refine lv_iadd S9.1 S9.2.1 dL_law_330 ?_
  refine va_sld S9.1 S9.2.1 hX hbl hbA Z.2 (i := zi i + (5 : Int32)) (LX hi hL 5 (by decide)) dL_law_331 ?_
  refine lv_aload_n S9.1 S9.2.1 dL_law_332 rfl (lv_at hl 0 rfl) ?_
  refine lv_iload S9.1 S9.2.1 dL_law_333 (lv_at hl 4 rfl) ?_
  refine lv_bipush (v := (6 : Int32)) S9.1 S9.2.1 dL_law_335 (by decide) ?_
  refine lv_iadd S9.1 S9.2.1 dL_law_337 ?_
  refine va_sld S9.1 S9.2.1 hX hbl hbA Z.2 (i := zi i + (6 : Int32)) (LX hi hL 6 (by decide)) dL_law_338 ?_
  refine lv_aload_n S9.1 S9.2.1 dL_law_339 rfl (lv_at hl 0 rfl) ?_
  refine lv_iload S9.1 S9.2.1 dL_law_340 (lv_at hl 4 rfl) ?_
  refine lv_bipush (v := (7 : Int32)) S9.1 S9.2.1 dL_law_342 (by decide) ?_
  refine lv_iadd S9.1 S9.2.1 dL_law_344 ?_
  refine va_sld S9.1 S9.2.1 hX hbl hbA Z.2 (i := zi i + (7 : Int32)) (LX hi hL 7 (by decide)) dL_law_345 ?_
  refine lv_aload_n S9.1 S9.2.1 dL_law_346 rfl (lv_at hl 0 rfl) ?_
  refine lv_iload S9.1 S9.2.1 dL_law_347 (lv_at hl 4 rfl) ?_
  refine lv_bipush (v := (8 : Int32)) S9.1 S9.2.1 dL_law_349 (by decide) ?_
  refine lv_iadd S9.1 S9.2.1 dL_law_351 ?_
  refine va_sld S9.1 S9.2.1 hX hbl hbA Z.2 (i := zi i + (8 : Int32)) (LX hi hL 8 (by decide)) dL_law_352 ?_
  refine lv_aload_n S9.1 S9.2.1 dL_law_353 rfl (lv_at hl 0 rfl) ?_
  refine lv_iload S9.1 S9.2.1 dL_law_354 (lv_at hl 4 rfl) ?_
  refine lv_bipush (v := (9 : Int32)) S9.1 S9.2.1 dL_law_356 (by decide) ?_
  refine lv_iadd S9.1 S9.2.1 dL_law_358 ?_
  refine va_sld S9.1 S9.2.1 hX hbl hbA Z.2 (i := zi i + (9 : Int32)) (LX hi hL 9 (by decide)) dL_law_359 ?_
  refine zz_V [.int (xs (zi i + (1 : Int32)).toNatClampNeg), .int (xs (zi i + (2 : Int32)).toNatClampNeg), .int (xs (zi i + (3 : Int32)).toNatClampNeg), .int (xs (zi i + (4 : Int32)).toNatClampNeg), .int (xs (zi i + (5 : Int32)).toNatClampNeg), .int (xs (zi i + (6 : Int32)).toNatClampNeg), .int (xs (zi i + (7 : Int32)).toNatClampNeg), .int (xs (zi i + (8 : Int32)).toNatClampNeg), .int (xs (zi i + (9 : Int32)).toNatClampNeg)] S9 K Z HH_r zc_10 rfl (c_X12_rule (b + 73) (xs (zi i + (1 : Int32)).toNatClampNeg) (xs (zi i + (2 : Int32)).toNatClampNeg) (xs (zi i + (3 : Int32)).toNatClampNeg) (xs (zi i + (4 : Int32)).toNatClampNeg) (xs (zi i + (5 : Int32)).toNatClampNeg) (xs (zi i + (6 : Int32)).toNatClampNeg) (xs (zi i + (7 : Int32)).toNatClampNeg) (xs (zi i + (8 : Int32)).toNatClampNeg) (xs (zi i + (9 : Int32)).toNatClampNeg) e2) ⟨rfl, rfl⟩ gm_X12_rule gmv_X12_rule gl_L_46 ⟨by decide, by decide⟩ rfl hl.1 rfl (Nat.le_of_ble_eq_true rfl) dL_law_360 ⟨by show cells + 0 + 0 ≤ 601024; omega, by show slots + 0 + 0 ≤ 7293000; omega⟩ (fun H locs Z => ?_)
  show W _ _ _ _ _ _ _ _ _ _ _ _ _ _ _ (F0 m 363 ls [.int (r), .int (r)])
  refine lv_icmp_eq (tgt := 799) S9.1 S9.2.1 dL_law_363 (by decide) (fun hc => ?_) (fun hc => absurd rfl hc)
  exact kk _ _ _ _ _ _ _ _ _ _ _ _ _ ⟨Z, hR', hn, hfr, by omega, by omega⟩ hl
set_option maxRecDepth 100000 in
set_option maxHeartbeats 4000000 in
theorem lc_holder (C : LC p s m c D dA b0 L xs) (hi : i + 10 ≤ L) (hL : L ≤ 5121) (hk : k < 512) (I : LI s D dA b S V Q Sm Vm lo g n H locs cells slots k) (hl : lv_has ls 7 [(0, .ref b0), (1, .ref b), (2, .ref (b + 73)), (3, .ref (b + 100)), (4, .int (zi i))]) (kk : LK p l e s m below meth c D dA b0 b i k Z9) : W p l e room_1 s m #[Value.ref b0] below meth c H locs cells slots Z9 (F0 m 368 ls []) := by
  obtain ⟨S9, K, hX, hbl⟩ := C
  obtain ⟨Z, hR, hn, hfr, hc1, hc2⟩ := I
  have hbA : ¬ LA s b0 := Nat.not_le.mpr hbl
  refine lv_aload_n S9.1 S9.2.1 dL_law_368 rfl (lv_at hl 1 rfl) ?_
  refine lv_aload_n S9.1 S9.2.1 dL_law_369 rfl (lv_at hl 0 rfl) ?_
  refine lv_iload S9.1 S9.2.1 dL_law_370 (lv_at hl 4 rfl) ?_
  refine lv_iconst (v := (1 : Int32)) S9.1 S9.2.1 dL_law_372 (by decide) ?_
  refine lv_iadd S9.1 S9.2.1 dL_law_373 ?_
  refine va_sld S9.1 S9.2.1 hX hbl hbA Z.2 (i := zi i + (1 : Int32)) (LX hi hL 1 (by decide)) dL_law_374 ?_
  refine lv_aload_n S9.1 S9.2.1 dL_law_375 rfl (lv_at hl 0 rfl) ?_
  refine lv_iload S9.1 S9.2.1 dL_law_376 (lv_at hl 4 rfl) ?_
  refine lv_iconst (v := (2 : Int32)) S9.1 S9.2.1 dL_law_378 (by decide) ?_
  refine lv_iadd S9.1 S9.2.1 dL_law_379 ?_
  refine va_sld S9.1 S9.2.1 hX hbl hbA Z.2 (i := zi i + (2 : Int32)) (LX hi hL 2 (by decide)) dL_law_380 ?_
  refine lv_aload_n S9.1 S9.2.1 dL_law_381 rfl (lv_at hl 0 rfl) ?_
  refine lv_iload S9.1 S9.2.1 dL_law_382 (lv_at hl 4 rfl) ?_
  refine lv_iconst (v := (3 : Int32)) S9.1 S9.2.1 dL_law_384 (by decide) ?_
  refine lv_iadd S9.1 S9.2.1 dL_law_385 ?_
  refine va_sld S9.1 S9.2.1 hX hbl hbA Z.2 (i := zi i + (3 : Int32)) (LX hi hL 3 (by decide)) dL_law_386 ?_
  refine lv_aload_n S9.1 S9.2.1 dL_law_387 rfl (lv_at hl 0 rfl) ?_
  refine lv_iload S9.1 S9.2.1 dL_law_388 (lv_at hl 4 rfl) ?_
  refine lv_iconst (v := (4 : Int32)) S9.1 S9.2.1 dL_law_390 (by decide) ?_
  refine lv_iadd S9.1 S9.2.1 dL_law_391 ?_
  refine va_sld S9.1 S9.2.1 hX hbl hbA Z.2 (i := zi i + (4 : Int32)) (LX hi hL 4 (by decide)) dL_law_392 ?_
  obtain ⟨r, S', V', Sm', Vm', e1, e2, hR'⟩ := lo_holder (lo := lo) (x := xs (zi i + (1 : Int32)).toNatClampNeg) (s := xs (zi i + (2 : Int32)).toNatClampNeg) (n := xs (zi i + (3 : Int32)).toNatClampNeg) (v := xs (zi i + (4 : Int32)).toNatClampNeg) hR
  refine zz_V [.int (xs (zi i + (1 : Int32)).toNatClampNeg), .int (xs (zi i + (2 : Int32)).toNatClampNeg), .int (xs (zi i + (3 : Int32)).toNatClampNeg), .int (xs (zi i + (4 : Int32)).toNatClampNeg)] S9 K Z HH_b zc_9 rfl (c_X11_holder b (xs (zi i + (1 : Int32)).toNatClampNeg) (xs (zi i + (2 : Int32)).toNatClampNeg) (xs (zi i + (3 : Int32)).toNatClampNeg) (xs (zi i + (4 : Int32)).toNatClampNeg) e1) ⟨rfl, rfl⟩ gm_X11_holder gmv_X11_holder gl_L_47 ⟨by decide, by decide⟩ rfl hl.1 rfl (Nat.le_of_ble_eq_true rfl) dL_law_393 ⟨by show cells + 0 ≤ 601024; omega, by show slots + 0 ≤ 7293000; omega⟩ (fun H locs Z => ?_)
  show W _ _ _ _ _ _ _ _ _ _ _ _ _ _ _ (F0 m 396 ls [.int (r)])
  refine lv_aload_n S9.1 S9.2.1 dL_law_396 rfl (lv_at hl 2 rfl) ?_
  refine lv_aload_n S9.1 S9.2.1 dL_law_397 rfl (lv_at hl 0 rfl) ?_
  refine lv_iload S9.1 S9.2.1 dL_law_398 (lv_at hl 4 rfl) ?_
  refine lv_iconst (v := (1 : Int32)) S9.1 S9.2.1 dL_law_400 (by decide) ?_
  refine lv_iadd S9.1 S9.2.1 dL_law_401 ?_
  refine va_sld S9.1 S9.2.1 hX hbl hbA Z.2 (i := zi i + (1 : Int32)) (LX hi hL 1 (by decide)) dL_law_402 ?_
  refine lv_aload_n S9.1 S9.2.1 dL_law_403 rfl (lv_at hl 0 rfl) ?_
  refine lv_iload S9.1 S9.2.1 dL_law_404 (lv_at hl 4 rfl) ?_
  refine lv_iconst (v := (2 : Int32)) S9.1 S9.2.1 dL_law_406 (by decide) ?_
  refine lv_iadd S9.1 S9.2.1 dL_law_407 ?_
  refine va_sld S9.1 S9.2.1 hX hbl hbA Z.2 (i := zi i + (2 : Int32)) (LX hi hL 2 (by decide)) dL_law_408 ?_
  refine lv_aload_n S9.1 S9.2.1 dL_law_409 rfl (lv_at hl 0 rfl) ?_
  refine lv_iload S9.1 S9.2.1 dL_law_410 (lv_at hl 4 rfl) ?_
  refine lv_iconst (v := (3 : Int32)) S9.1 S9.2.1 dL_law_412 (by decide) ?_
  refine lv_iadd S9.1 S9.2.1 dL_law_413 ?_
  refine va_sld S9.1 S9.2.1 hX hbl hbA Z.2 (i := zi i + (3 : Int32)) (LX hi hL 3 (by decide)) dL_law_414 ?_
  refine lv_aload_n S9.1 S9.2.1 dL_law_415 rfl (lv_at hl 0 rfl) ?_
  refine lv_iload S9.1 S9.2.1 dL_law_416 (lv_at hl 4 rfl) ?_
  refine lv_iconst (v := (4 : Int32)) S9.1 S9.2.1 dL_law_418 (by decide) ?_
  refine lv_iadd S9.1 S9.2.1 dL_law_419 ?_
  refine va_sld S9.1 S9.2.1 hX hbl hbA Z.2 (i := zi i + (4 : Int32)) (LX hi hL 4 (by decide)) dL_law_420 ?_
  refine zz_V [.int (xs (zi i + (1 : Int32)).toNatClampNeg), .int (xs (zi i + (2 : Int32)).toNatClampNeg), .int (xs (zi i + (3 : Int32)).toNatClampNeg), .int (xs (zi i + (4 : Int32)).toNatClampNeg)] S9 K Z HH_r zc_10 rfl (c_X12_holder (b + 73) (xs (zi i + (1 : Int32)).toNatClampNeg) (xs (zi i + (2 : Int32)).toNatClampNeg) (xs (zi i + (3 : Int32)).toNatClampNeg) (xs (zi i + (4 : Int32)).toNatClampNeg) e2) ⟨rfl, rfl⟩ gm_X12_holder gmv_X12_holder gl_L_51 ⟨by decide, by decide⟩ rfl hl.1 rfl (Nat.le_of_ble_eq_true rfl) dL_law_421 ⟨by show cells + 0 + 0 ≤ 601024; omega, by show slots + 0 + 0 ≤ 7293000; omega⟩ (fun H locs Z => ?_)
  show W _ _ _ _ _ _ _ _ _ _ _ _ _ _ _ (F0 m 424 ls [.int (r), .int (r)])
  refine lv_icmp_eq (tgt := 799) S9.1 S9.2.1 dL_law_424 (by decide) (fun hc => ?_) (fun hc => absurd rfl hc)
  exact kk _ _ _ _ _ _ _ _ _ _ _ _ _ ⟨Z, hR', hn, hfr, by omega, by omega⟩ hl
set_option maxRecDepth 100000 in
set_option maxHeartbeats 4000000 in
theorem lc_seed (C : LC p s m c D dA b0 L xs) (hi : i + 10 ≤ L) (hL : L ≤ 5121) (hk : k < 512) (I : LI s D dA b S V Q Sm Vm lo g n H locs cells slots k) (hl : lv_has ls 7 [(0, .ref b0), (1, .ref b), (2, .ref (b + 73)), (3, .ref (b + 100)), (4, .int (zi i))]) (kk : LK p l e s m below meth c D dA b0 b i k Z9) : W p l e room_1 s m #[Value.ref b0] below meth c H locs cells slots Z9 (F0 m 429 ls []) := by
  obtain ⟨S9, K, hX, hbl⟩ := C
  obtain ⟨Z, hR, hn, hfr, hc1, hc2⟩ := I
  have hbA : ¬ LA s b0 := Nat.not_le.mpr hbl
  refine lv_aload_n S9.1 S9.2.1 dL_law_429 rfl (lv_at hl 1 rfl) ?_
  refine lv_aload_n S9.1 S9.2.1 dL_law_430 rfl (lv_at hl 0 rfl) ?_
  refine lv_iload S9.1 S9.2.1 dL_law_431 (lv_at hl 4 rfl) ?_
  refine lv_iconst (v := (1 : Int32)) S9.1 S9.2.1 dL_law_433 (by decide) ?_
  refine lv_iadd S9.1 S9.2.1 dL_law_434 ?_
  refine va_sld S9.1 S9.2.1 hX hbl hbA Z.2 (i := zi i + (1 : Int32)) (LX hi hL 1 (by decide)) dL_law_435 ?_
  obtain ⟨r, S', V', Sm', Vm', e1, e2, hR'⟩ := lo_seed (lo := lo) (x := xs (zi i + (1 : Int32)).toNatClampNeg) hR
  refine zz_V [.int (xs (zi i + (1 : Int32)).toNatClampNeg)] S9 K Z HH_b zc_9 rfl (c_X11_seed b (xs (zi i + (1 : Int32)).toNatClampNeg) e1) ⟨rfl, rfl⟩ gm_X11_seed gmv_X11_seed gl_L_52 ⟨by decide, by decide⟩ rfl hl.1 rfl (Nat.le_of_ble_eq_true rfl) dL_law_436 ⟨by show cells + 0 ≤ 601024; omega, by show slots + 0 ≤ 7293000; omega⟩ (fun H locs Z => ?_)
  show W _ _ _ _ _ _ _ _ _ _ _ _ _ _ _ (F0 m 439 ls [.int (r)])
  refine lv_aload_n S9.1 S9.2.1 dL_law_439 rfl (lv_at hl 2 rfl) ?_
  refine lv_aload_n S9.1 S9.2.1 dL_law_440 rfl (lv_at hl 0 rfl) ?_
  refine lv_iload S9.1 S9.2.1 dL_law_441 (lv_at hl 4 rfl) ?_
  refine lv_iconst (v := (1 : Int32)) S9.1 S9.2.1 dL_law_443 (by decide) ?_
  refine lv_iadd S9.1 S9.2.1 dL_law_444 ?_
  refine va_sld S9.1 S9.2.1 hX hbl hbA Z.2 (i := zi i + (1 : Int32)) (LX hi hL 1 (by decide)) dL_law_445 ?_
  refine zz_V [.int (xs (zi i + (1 : Int32)).toNatClampNeg)] S9 K Z HH_r zc_10 rfl (c_X12_seed (b + 73) (xs (zi i + (1 : Int32)).toNatClampNeg) e2) ⟨rfl, rfl⟩ gm_X12_seed gmv_X12_seed gl_L_56 ⟨by decide, by decide⟩ rfl hl.1 rfl (Nat.le_of_ble_eq_true rfl) dL_law_446 ⟨by show cells + 0 + 0 ≤ 601024; omega, by show slots + 0 + 0 ≤ 7293000; omega⟩ (fun H locs Z => ?_)
  show W _ _ _ _ _ _ _ _ _ _ _ _ _ _ _ (F0 m 449 ls [.int (r), .int (r)])
  refine lv_icmp_eq (tgt := 799) S9.1 S9.2.1 dL_law_449 (by decide) (fun hc => ?_) (fun hc => absurd rfl hc)
  exact kk _ _ _ _ _ _ _ _ _ _ _ _ _ ⟨Z, hR', hn, hfr, by omega, by omega⟩ hl
set_option maxRecDepth 100000 in
set_option maxHeartbeats 4000000 in
theorem lc_script (C : LC p s m c D dA b0 L xs) (hi : i + 10 ≤ L) (hL : L ≤ 5121) (hk : k < 512) (I : LI s D dA b S V Q Sm Vm lo g n H locs cells slots k) (hl : lv_has ls 7 [(0, .ref b0), (1, .ref b), (2, .ref (b + 73)), (3, .ref (b + 100)), (4, .int (zi i))]) (kk : LK p l e s m below meth c D dA b0 b i k Z9) : W p l e room_1 s m #[Value.ref b0] below meth c H locs cells slots Z9 (F0 m 454 ls []) := by
  obtain ⟨S9, K, hX, hbl⟩ := C
  obtain ⟨Z, hR, hn, hfr, hc1, hc2⟩ := I
  have hbA : ¬ LA s b0 := Nat.not_le.mpr hbl
  refine lv_aload_n S9.1 S9.2.1 dL_law_454 rfl (lv_at hl 1 rfl) ?_
  obtain ⟨r, S', Q', Sm', Vm', g', n', e1, e2, hR', hn', hfr'⟩ := lo_script (lo := lo) hn hfr hR
  refine zz_V [] S9 K Z HH_b zc_9 rfl (c_X11_script b e1) ⟨rfl, rfl⟩ gm_X11_script gmv_X11_script gl_L_57 ⟨by decide, by decide⟩ rfl hl.1 rfl (Nat.le_of_ble_eq_true rfl) dL_law_455 ⟨by show cells + 2 ≤ 601024; omega, by show slots + 602 ≤ 7293000; omega⟩ (fun H locs Z => ?_)
  show W _ _ _ _ _ _ _ _ _ _ _ _ _ _ _ (F0 m 458 ls [.int (r)])
  refine lv_aload_n S9.1 S9.2.1 dL_law_458 rfl (lv_at hl 2 rfl) ?_
  refine zz_V [] S9 K Z HH_r zc_10 rfl (c_X12_script (b + 73) e2) ⟨rfl, rfl⟩ gm_X12_script gmv_X12_script gl_L_60 ⟨by decide, by decide⟩ rfl hl.1 rfl (Nat.le_of_ble_eq_true rfl) dL_law_459 ⟨by show cells + 2 + 0 ≤ 601024; omega, by show slots + 602 + 0 ≤ 7293000; omega⟩ (fun H locs Z => ?_)
  show W _ _ _ _ _ _ _ _ _ _ _ _ _ _ _ (F0 m 462 ls [.int (r), .int (r)])
  refine lv_icmp_eq (tgt := 799) S9.1 S9.2.1 dL_law_462 (by decide) (fun hc => ?_) (fun hc => absurd rfl hc)
  exact kk _ _ _ _ _ _ _ _ _ _ _ _ _ ⟨Z, hR', by omega, hfr', by omega, by omega⟩ hl
set_option maxRecDepth 100000 in
set_option maxHeartbeats 4000000 in
theorem lc_run (C : LC p s m c D dA b0 L xs) (hi : i + 10 ≤ L) (hL : L ≤ 5121) (hk : k < 512) (I : LI s D dA b S V Q Sm Vm lo g n H locs cells slots k) (hl : lv_has ls 7 [(0, .ref b0), (1, .ref b), (2, .ref (b + 73)), (3, .ref (b + 100)), (4, .int (zi i))]) (kk : LK p l e s m below meth c D dA b0 b i k Z9) : W p l e room_1 s m #[Value.ref b0] below meth c H locs cells slots Z9 (F0 m 467 ls []) := by
  obtain ⟨S9, K, hX, hbl⟩ := C
  obtain ⟨Z, hR, hn, hfr, hc1, hc2⟩ := I
  have hbA : ¬ LA s b0 := Nat.not_le.mpr hbl
  refine lv_aload_n S9.1 S9.2.1 dL_law_467 rfl (lv_at hl 1 rfl) ?_
  refine lv_aload_n S9.1 S9.2.1 dL_law_468 rfl (lv_at hl 0 rfl) ?_
  refine lv_iload S9.1 S9.2.1 dL_law_469 (lv_at hl 4 rfl) ?_
  refine lv_iconst (v := (1 : Int32)) S9.1 S9.2.1 dL_law_471 (by decide) ?_
  refine lv_iadd S9.1 S9.2.1 dL_law_472 ?_
  refine va_sld S9.1 S9.2.1 hX hbl hbA Z.2 (i := zi i + (1 : Int32)) (LX hi hL 1 (by decide)) dL_law_473 ?_
  obtain ⟨r, S', V', Sm', Vm', e1, e2, hR'⟩ := lo_run (lo := lo) (x := xs (zi i + (1 : Int32)).toNatClampNeg) hR
  refine zz_V [.int (xs (zi i + (1 : Int32)).toNatClampNeg)] S9 K Z HH_b zc_9 rfl (c_X11_run b (xs (zi i + (1 : Int32)).toNatClampNeg) e1) ⟨rfl, rfl⟩ gm_X11_run gmv_X11_run gl_L_61 ⟨by decide, by decide⟩ rfl hl.1 rfl (Nat.le_of_ble_eq_true rfl) dL_law_474 ⟨by show cells + 0 ≤ 601024; omega, by show slots + 0 ≤ 7293000; omega⟩ (fun H locs Z => ?_)
  show W _ _ _ _ _ _ _ _ _ _ _ _ _ _ _ (F0 m 477 ls [.int (r)])
  refine lv_aload_n S9.1 S9.2.1 dL_law_477 rfl (lv_at hl 2 rfl) ?_
  refine lv_aload_n S9.1 S9.2.1 dL_law_478 rfl (lv_at hl 0 rfl) ?_
  refine lv_iload S9.1 S9.2.1 dL_law_479 (lv_at hl 4 rfl) ?_
  refine lv_iconst (v := (1 : Int32)) S9.1 S9.2.1 dL_law_481 (by decide) ?_
  refine lv_iadd S9.1 S9.2.1 dL_law_482 ?_
  refine va_sld S9.1 S9.2.1 hX hbl hbA Z.2 (i := zi i + (1 : Int32)) (LX hi hL 1 (by decide)) dL_law_483 ?_
  refine zz_V [.int (xs (zi i + (1 : Int32)).toNatClampNeg)] S9 K Z HH_r zc_10 rfl (c_X12_run (b + 73) (xs (zi i + (1 : Int32)).toNatClampNeg) e2) ⟨rfl, rfl⟩ gm_X12_run gmv_X12_run gl_L_64 ⟨by decide, by decide⟩ rfl hl.1 rfl (Nat.le_of_ble_eq_true rfl) dL_law_484 ⟨by show cells + 0 + 0 ≤ 601024; omega, by show slots + 0 + 0 ≤ 7293000; omega⟩ (fun H locs Z => ?_)
  show W _ _ _ _ _ _ _ _ _ _ _ _ _ _ _ (F0 m 487 ls [.int (r), .int (r)])
  refine lv_icmp_eq (tgt := 799) S9.1 S9.2.1 dL_law_487 (by decide) (fun hc => ?_) (fun hc => absurd rfl hc)
  exact kk _ _ _ _ _ _ _ _ _ _ _ _ _ ⟨Z, hR', hn, hfr, by omega, by omega⟩ hl
set_option maxRecDepth 100000 in
set_option maxHeartbeats 4000000 in
theorem lc_failed (C : LC p s m c D dA b0 L xs) (hi : i + 10 ≤ L) (hL : L ≤ 5121) (hk : k < 512) (I : LI s D dA b S V Q Sm Vm lo g n H locs cells slots k) (hl : lv_has ls 7 [(0, .ref b0), (1, .ref b), (2, .ref (b + 73)), (3, .ref (b + 100)), (4, .int (zi i))]) (kk : LK p l e s m below meth c D dA b0 b i k Z9) : W p l e room_1 s m #[Value.ref b0] below meth c H locs cells slots Z9 (F0 m 492 ls []) := by
  obtain ⟨S9, K, hX, hbl⟩ := C
  obtain ⟨Z, hR, hn, hfr, hc1, hc2⟩ := I
  have hbA : ¬ LA s b0 := Nat.not_le.mpr hbl
  refine lv_aload_n S9.1 S9.2.1 dL_law_492 rfl (lv_at hl 1 rfl) ?_
  refine lv_aload_n S9.1 S9.2.1 dL_law_493 rfl (lv_at hl 0 rfl) ?_
  refine lv_iload S9.1 S9.2.1 dL_law_494 (lv_at hl 4 rfl) ?_
  refine lv_iconst (v := (1 : Int32)) S9.1 S9.2.1 dL_law_496 (by decide) ?_
  refine lv_iadd S9.1 S9.2.1 dL_law_497 ?_
  refine va_sld S9.1 S9.2.1 hX hbl hbA Z.2 (i := zi i + (1 : Int32)) (LX hi hL 1 (by decide)) dL_law_498 ?_
  refine lv_aload_n S9.1 S9.2.1 dL_law_499 rfl (lv_at hl 0 rfl) ?_
  refine lv_iload S9.1 S9.2.1 dL_law_500 (lv_at hl 4 rfl) ?_
  refine lv_iconst (v := (2 : Int32)) S9.1 S9.2.1 dL_law_502 (by decide) ?_
  refine lv_iadd S9.1 S9.2.1 dL_law_503 ?_
  refine va_sld S9.1 S9.2.1 hX hbl hbA Z.2 (i := zi i + (2 : Int32)) (LX hi hL 2 (by decide)) dL_law_504 ?_
  obtain ⟨r, Sm', e1, e2, hR'⟩ := lo_failed (lo := lo) (x := xs (zi i + (1 : Int32)).toNatClampNeg) (y := xs (zi i + (2 : Int32)).toNatClampNeg) hR
  refine zz_V [.int (xs (zi i + (1 : Int32)).toNatClampNeg), .int (xs (zi i + (2 : Int32)).toNatClampNeg)] S9 K Z HH_b zc_9 rfl (c_X11_failed b (xs (zi i + (1 : Int32)).toNatClampNeg) (xs (zi i + (2 : Int32)).toNatClampNeg) e1) ⟨rfl, rfl⟩ gm_X11_failed gmv_X11_failed gl_L_65 ⟨by decide, by decide⟩ rfl hl.1 rfl (Nat.le_of_ble_eq_true rfl) dL_law_505 ⟨by show cells + 0 ≤ 601024; omega, by show slots + 0 ≤ 7293000; omega⟩ (fun H locs Z => ?_)
  show W _ _ _ _ _ _ _ _ _ _ _ _ _ _ _ (F0 m 508 ls [.int (r)])
  refine lv_aload_n S9.1 S9.2.1 dL_law_508 rfl (lv_at hl 2 rfl) ?_
  refine lv_aload_n S9.1 S9.2.1 dL_law_509 rfl (lv_at hl 0 rfl) ?_
  refine lv_iload S9.1 S9.2.1 dL_law_510 (lv_at hl 4 rfl) ?_
  refine lv_iconst (v := (1 : Int32)) S9.1 S9.2.1 dL_law_512 (by decide) ?_
  refine lv_iadd S9.1 S9.2.1 dL_law_513 ?_
  refine va_sld S9.1 S9.2.1 hX hbl hbA Z.2 (i := zi i + (1 : Int32)) (LX hi hL 1 (by decide)) dL_law_514 ?_
  refine lv_aload_n S9.1 S9.2.1 dL_law_515 rfl (lv_at hl 0 rfl) ?_
  refine lv_iload S9.1 S9.2.1 dL_law_516 (lv_at hl 4 rfl) ?_
  refine lv_iconst (v := (2 : Int32)) S9.1 S9.2.1 dL_law_518 (by decide) ?_
  refine lv_iadd S9.1 S9.2.1 dL_law_519 ?_
  refine va_sld S9.1 S9.2.1 hX hbl hbA Z.2 (i := zi i + (2 : Int32)) (LX hi hL 2 (by decide)) dL_law_520 ?_
  refine zz_V [.int (xs (zi i + (1 : Int32)).toNatClampNeg), .int (xs (zi i + (2 : Int32)).toNatClampNeg)] S9 K Z HH_r zc_10 rfl (c_X12_failed (b + 73) (xs (zi i + (1 : Int32)).toNatClampNeg) (xs (zi i + (2 : Int32)).toNatClampNeg) e2) ⟨rfl, rfl⟩ gm_X12_failed gmv_X12_failed gl_L_69 ⟨by decide, by decide⟩ rfl hl.1 rfl (Nat.le_of_ble_eq_true rfl) dL_law_521 ⟨by show cells + 0 + 0 ≤ 601024; omega, by show slots + 0 + 0 ≤ 7293000; omega⟩ (fun H locs Z => ?_)
  show W _ _ _ _ _ _ _ _ _ _ _ _ _ _ _ (F0 m 524 ls [.int (r), .int (r)])
  refine lv_icmp_eq (tgt := 799) S9.1 S9.2.1 dL_law_524 (by decide) (fun hc => ?_) (fun hc => absurd rfl hc)
  exact kk _ _ _ _ _ _ _ _ _ _ _ _ _ ⟨Z, hR', hn, hfr, by omega, by omega⟩ hl
set_option maxRecDepth 100000 in
set_option maxHeartbeats 4000000 in
theorem lc_replay (C : LC p s m c D dA b0 L xs) (hi : i + 10 ≤ L) (hL : L ≤ 5121) (hk : k < 512) (I : LI s D dA b S V Q Sm Vm lo g n H locs cells slots k) (hl : lv_has ls 7 [(0, .ref b0), (1, .ref b), (2, .ref (b + 73)), (3, .ref (b + 100)), (4, .int (zi i))]) (kk : LK p l e s m below meth c D dA b0 b i k Z9) : W p l e room_1 s m #[Value.ref b0] below meth c H locs cells slots Z9 (F0 m 529 ls []) := by
  obtain ⟨S9, K, hX, hbl⟩ := C
  obtain ⟨Z, hR, hn, hfr, hc1, hc2⟩ := I
  have hbA : ¬ LA s b0 := Nat.not_le.mpr hbl
  refine lv_aload_n S9.1 S9.2.1 dL_law_529 rfl (lv_at hl 1 rfl) ?_
  obtain ⟨r, S', V', Sm', Vm', e1, e2, hR'⟩ := lo_replay (lo := lo) hR
  refine zz_V [] S9 K Z HH_b zc_9 rfl (c_X11_replay b e1) ⟨rfl, rfl⟩ gm_X11_replay gmv_X11_replay gl_L_70 ⟨by decide, by decide⟩ rfl hl.1 rfl (Nat.le_of_ble_eq_true rfl) dL_law_530 ⟨by show cells + 0 ≤ 601024; omega, by show slots + 0 ≤ 7293000; omega⟩ (fun H locs Z => ?_)
  show W _ _ _ _ _ _ _ _ _ _ _ _ _ _ _ (F0 m 533 ls [.int (r)])
  refine lv_aload_n S9.1 S9.2.1 dL_law_533 rfl (lv_at hl 2 rfl) ?_
  refine zz_V [] S9 K Z HH_r zc_10 rfl (c_X12_replay (b + 73) e2) ⟨rfl, rfl⟩ gm_X12_replay gmv_X12_replay gl_L_73 ⟨by decide, by decide⟩ rfl hl.1 rfl (Nat.le_of_ble_eq_true rfl) dL_law_534 ⟨by show cells + 0 + 0 ≤ 601024; omega, by show slots + 0 + 0 ≤ 7293000; omega⟩ (fun H locs Z => ?_)
  show W _ _ _ _ _ _ _ _ _ _ _ _ _ _ _ (F0 m 537 ls [.int (r), .int (r)])
  refine lv_icmp_eq (tgt := 799) S9.1 S9.2.1 dL_law_537 (by decide) (fun hc => ?_) (fun hc => absurd rfl hc)
  exact kk _ _ _ _ _ _ _ _ _ _ _ _ _ ⟨Z, hR', hn, hfr, by omega, by omega⟩ hl
set_option maxRecDepth 100000 in
set_option maxHeartbeats 4000000 in
theorem lc_storm (C : LC p s m c D dA b0 L xs) (hi : i + 10 ≤ L) (hL : L ≤ 5121) (hk : k < 512) (I : LI s D dA b S V Q Sm Vm lo g n H locs cells slots k) (hl : lv_has ls 7 [(0, .ref b0), (1, .ref b), (2, .ref (b + 73)), (3, .ref (b + 100)), (4, .int (zi i))]) (kk : LK p l e s m below meth c D dA b0 b i k Z9) : W p l e room_1 s m #[Value.ref b0] below meth c H locs cells slots Z9 (F0 m 542 ls []) := by
  obtain ⟨S9, K, hX, hbl⟩ := C
  obtain ⟨Z, hR, hn, hfr, hc1, hc2⟩ := I
  have hbA : ¬ LA s b0 := Nat.not_le.mpr hbl
  refine lv_aload_n S9.1 S9.2.1 dL_law_542 rfl (lv_at hl 1 rfl) ?_
  refine lv_aload_n S9.1 S9.2.1 dL_law_543 rfl (lv_at hl 0 rfl) ?_
  refine lv_iload S9.1 S9.2.1 dL_law_544 (lv_at hl 4 rfl) ?_
  refine lv_iconst (v := (1 : Int32)) S9.1 S9.2.1 dL_law_546 (by decide) ?_
  refine lv_iadd S9.1 S9.2.1 dL_law_547 ?_
  refine va_sld S9.1 S9.2.1 hX hbl hbA Z.2 (i := zi i + (1 : Int32)) (LX hi hL 1 (by decide)) dL_law_548 ?_
  refine lv_aload_n S9.1 S9.2.1 dL_law_549 rfl (lv_at hl 0 rfl) ?_
  refine lv_iload S9.1 S9.2.1 dL_law_550 (lv_at hl 4 rfl) ?_
  refine lv_iconst (v := (2 : Int32)) S9.1 S9.2.1 dL_law_552 (by decide) ?_
  refine lv_iadd S9.1 S9.2.1 dL_law_553 ?_
  refine va_sld S9.1 S9.2.1 hX hbl hbA Z.2 (i := zi i + (2 : Int32)) (LX hi hL 2 (by decide)) dL_law_554 ?_
  obtain ⟨r, S', V', Sm', Vm', e1, e2, hR'⟩ := lo_storm (lo := lo) (x := xs (zi i + (1 : Int32)).toNatClampNeg) (n := xs (zi i + (2 : Int32)).toNatClampNeg) hR
  refine zz_V [.int (xs (zi i + (1 : Int32)).toNatClampNeg), .int (xs (zi i + (2 : Int32)).toNatClampNeg)] S9 K Z HH_b zc_9 rfl (c_X11_storm b (xs (zi i + (1 : Int32)).toNatClampNeg) (xs (zi i + (2 : Int32)).toNatClampNeg) e1) ⟨rfl, rfl⟩ gm_X11_storm gmv_X11_storm gl_L_74 ⟨by decide, by decide⟩ rfl hl.1 rfl (Nat.le_of_ble_eq_true rfl) dL_law_555 ⟨by show cells + 0 ≤ 601024; omega, by show slots + 0 ≤ 7293000; omega⟩ (fun H locs Z => ?_)
  show W _ _ _ _ _ _ _ _ _ _ _ _ _ _ _ (F0 m 558 ls [.int (r)])
  refine lv_aload_n S9.1 S9.2.1 dL_law_558 rfl (lv_at hl 2 rfl) ?_
  refine lv_aload_n S9.1 S9.2.1 dL_law_559 rfl (lv_at hl 0 rfl) ?_
  refine lv_iload S9.1 S9.2.1 dL_law_560 (lv_at hl 4 rfl) ?_
  refine lv_iconst (v := (1 : Int32)) S9.1 S9.2.1 dL_law_562 (by decide) ?_
  refine lv_iadd S9.1 S9.2.1 dL_law_563 ?_
  refine va_sld S9.1 S9.2.1 hX hbl hbA Z.2 (i := zi i + (1 : Int32)) (LX hi hL 1 (by decide)) dL_law_564 ?_
  refine lv_aload_n S9.1 S9.2.1 dL_law_565 rfl (lv_at hl 0 rfl) ?_
  refine lv_iload S9.1 S9.2.1 dL_law_566 (lv_at hl 4 rfl) ?_
  refine lv_iconst (v := (2 : Int32)) S9.1 S9.2.1 dL_law_568 (by decide) ?_
  refine lv_iadd S9.1 S9.2.1 dL_law_569 ?_
  refine va_sld S9.1 S9.2.1 hX hbl hbA Z.2 (i := zi i + (2 : Int32)) (LX hi hL 2 (by decide)) dL_law_570 ?_
  refine zz_V [.int (xs (zi i + (1 : Int32)).toNatClampNeg), .int (xs (zi i + (2 : Int32)).toNatClampNeg)] S9 K Z HH_r zc_10 rfl (c_X12_storm (b + 73) (xs (zi i + (1 : Int32)).toNatClampNeg) (xs (zi i + (2 : Int32)).toNatClampNeg) e2) ⟨rfl, rfl⟩ gm_X12_storm gmv_X12_storm gl_L_77 ⟨by decide, by decide⟩ rfl hl.1 rfl (Nat.le_of_ble_eq_true rfl) dL_law_571 ⟨by show cells + 0 + 0 ≤ 601024; omega, by show slots + 0 + 0 ≤ 7293000; omega⟩ (fun H locs Z => ?_)
  show W _ _ _ _ _ _ _ _ _ _ _ _ _ _ _ (F0 m 574 ls [.int (r), .int (r)])
  refine lv_icmp_eq (tgt := 799) S9.1 S9.2.1 dL_law_574 (by decide) (fun hc => ?_) (fun hc => absurd rfl hc)
  exact kk _ _ _ _ _ _ _ _ _ _ _ _ _ ⟨Z, hR', hn, hfr, by omega, by omega⟩ hl
set_option maxRecDepth 100000 in
set_option maxHeartbeats 4000000 in
theorem lc_play (C : LC p s m c D dA b0 L xs) (hi : i + 10 ≤ L) (hL : L ≤ 5121) (hk : k < 512) (I : LI s D dA b S V Q Sm Vm lo g n H locs cells slots k) (hl : lv_has ls 7 [(0, .ref b0), (1, .ref b), (2, .ref (b + 73)), (3, .ref (b + 100)), (4, .int (zi i))]) (kk : LK p l e s m below meth c D dA b0 b i k Z9) : W p l e room_1 s m #[Value.ref b0] below meth c H locs cells slots Z9 (F0 m 579 ls []) := by
  obtain ⟨S9, K, hX, hbl⟩ := C
  obtain ⟨Z, hR, hn, hfr, hc1, hc2⟩ := I
  have hbA : ¬ LA s b0 := Nat.not_le.mpr hbl
  refine lv_aload_n S9.1 S9.2.1 dL_law_579 rfl (lv_at hl 1 rfl) ?_
  obtain ⟨r, Sm', e1, e2, hR'⟩ := lo_play (lo := lo) hR
  refine zz_V [] S9 K Z HH_b zc_9 rfl (c_X11_play b e1) ⟨rfl, rfl⟩ gm_X11_play gmv_X11_play gl_L_78 ⟨by decide, by decide⟩ rfl hl.1 rfl (Nat.le_of_ble_eq_true rfl) dL_law_580 ⟨by show cells + 0 ≤ 601024; omega, by show slots + 0 ≤ 7293000; omega⟩ (fun H locs Z => ?_)
  show W _ _ _ _ _ _ _ _ _ _ _ _ _ _ _ (F0 m 583 ls [.int (r)])
  refine lv_aload_n S9.1 S9.2.1 dL_law_583 rfl (lv_at hl 2 rfl) ?_
  refine zz_V [] S9 K Z HH_r zc_10 rfl (c_X12_play (b + 73) e2) ⟨rfl, rfl⟩ gm_X12_play gmv_X12_play gl_L_81 ⟨by decide, by decide⟩ rfl hl.1 rfl (Nat.le_of_ble_eq_true rfl) dL_law_584 ⟨by show cells + 0 + 0 ≤ 601024; omega, by show slots + 0 + 0 ≤ 7293000; omega⟩ (fun H locs Z => ?_)
  show W _ _ _ _ _ _ _ _ _ _ _ _ _ _ _ (F0 m 587 ls [.int (r), .int (r)])
  refine lv_icmp_eq (tgt := 799) S9.1 S9.2.1 dL_law_587 (by decide) (fun hc => ?_) (fun hc => absurd rfl hc)
  exact kk _ _ _ _ _ _ _ _ _ _ _ _ _ ⟨Z, hR', hn, hfr, by omega, by omega⟩ hl
set_option maxRecDepth 100000 in
set_option maxHeartbeats 4000000 in
theorem lc_played (C : LC p s m c D dA b0 L xs) (hi : i + 10 ≤ L) (hL : L ≤ 5121) (hk : k < 512) (I : LI s D dA b S V Q Sm Vm lo g n H locs cells slots k) (hl : lv_has ls 7 [(0, .ref b0), (1, .ref b), (2, .ref (b + 73)), (3, .ref (b + 100)), (4, .int (zi i))]) (kk : LK p l e s m below meth c D dA b0 b i k Z9) : W p l e room_1 s m #[Value.ref b0] below meth c H locs cells slots Z9 (F0 m 592 ls []) := by
  obtain ⟨S9, K, hX, hbl⟩ := C
  obtain ⟨Z, hR, hn, hfr, hc1, hc2⟩ := I
  have hbA : ¬ LA s b0 := Nat.not_le.mpr hbl
  refine lv_aload_n S9.1 S9.2.1 dL_law_592 rfl (lv_at hl 1 rfl) ?_
  refine lv_aload_n S9.1 S9.2.1 dL_law_593 rfl (lv_at hl 0 rfl) ?_
  refine lv_iload S9.1 S9.2.1 dL_law_594 (lv_at hl 4 rfl) ?_
  refine lv_iconst (v := (1 : Int32)) S9.1 S9.2.1 dL_law_596 (by decide) ?_
  refine lv_iadd S9.1 S9.2.1 dL_law_597 ?_
  refine va_sld S9.1 S9.2.1 hX hbl hbA Z.2 (i := zi i + (1 : Int32)) (LX hi hL 1 (by decide)) dL_law_598 ?_
  obtain ⟨r, Sm', e1, e2, hR'⟩ := lo_played (lo := lo) (x := xs (zi i + (1 : Int32)).toNatClampNeg) hR
  refine zz_V [.int (xs (zi i + (1 : Int32)).toNatClampNeg)] S9 K Z HH_b zc_9 rfl (c_X11_played b (xs (zi i + (1 : Int32)).toNatClampNeg) e1) ⟨rfl, rfl⟩ gm_X11_played gmv_X11_played gl_L_82 ⟨by decide, by decide⟩ rfl hl.1 rfl (Nat.le_of_ble_eq_true rfl) dL_law_599 ⟨by show cells + 0 ≤ 601024; omega, by show slots + 0 ≤ 7293000; omega⟩ (fun H locs Z => ?_)
  show W _ _ _ _ _ _ _ _ _ _ _ _ _ _ _ (F0 m 602 ls [.int (r)])
  refine lv_aload_n S9.1 S9.2.1 dL_law_602 rfl (lv_at hl 2 rfl) ?_
  refine lv_aload_n S9.1 S9.2.1 dL_law_603 rfl (lv_at hl 0 rfl) ?_
  refine lv_iload S9.1 S9.2.1 dL_law_604 (lv_at hl 4 rfl) ?_
  refine lv_iconst (v := (1 : Int32)) S9.1 S9.2.1 dL_law_606 (by decide) ?_
  refine lv_iadd S9.1 S9.2.1 dL_law_607 ?_
  refine va_sld S9.1 S9.2.1 hX hbl hbA Z.2 (i := zi i + (1 : Int32)) (LX hi hL 1 (by decide)) dL_law_608 ?_
  refine zz_V [.int (xs (zi i + (1 : Int32)).toNatClampNeg)] S9 K Z HH_r zc_10 rfl (c_X12_played (b + 73) (xs (zi i + (1 : Int32)).toNatClampNeg) e2) ⟨rfl, rfl⟩ gm_X12_played gmv_X12_played gl_L_85 ⟨by decide, by decide⟩ rfl hl.1 rfl (Nat.le_of_ble_eq_true rfl) dL_law_609 ⟨by show cells + 0 + 0 ≤ 601024; omega, by show slots + 0 + 0 ≤ 7293000; omega⟩ (fun H locs Z => ?_)
  show W _ _ _ _ _ _ _ _ _ _ _ _ _ _ _ (F0 m 612 ls [.int (r), .int (r)])
  refine lv_icmp_eq (tgt := 799) S9.1 S9.2.1 dL_law_612 (by decide) (fun hc => ?_) (fun hc => absurd rfl hc)
  exact kk _ _ _ _ _ _ _ _ _ _ _ _ _ ⟨Z, hR', hn, hfr, by omega, by omega⟩ hl
set_option maxRecDepth 100000 in
set_option maxHeartbeats 4000000 in
theorem lc_shrink (C : LC p s m c D dA b0 L xs) (hi : i + 10 ≤ L) (hL : L ≤ 5121) (hk : k < 512) (I : LI s D dA b S V Q Sm Vm lo g n H locs cells slots k) (hl : lv_has ls 7 [(0, .ref b0), (1, .ref b), (2, .ref (b + 73)), (3, .ref (b + 100)), (4, .int (zi i))]) (kk : LK p l e s m below meth c D dA b0 b i k Z9) : W p l e room_1 s m #[Value.ref b0] below meth c H locs cells slots Z9 (F0 m 617 ls []) := by
  obtain ⟨S9, K, hX, hbl⟩ := C
  obtain ⟨Z, hR, hn, hfr, hc1, hc2⟩ := I
  have hbA : ¬ LA s b0 := Nat.not_le.mpr hbl
  refine lv_aload_n S9.1 S9.2.1 dL_law_617 rfl (lv_at hl 1 rfl) ?_
  obtain ⟨r, S', V', Sm', Vm', e1, e2, hR'⟩ := lo_shrink (lo := lo) hR
  refine zz_V [] S9 K Z HH_b zc_9 rfl (c_X11_shrink b e1) ⟨rfl, rfl⟩ gm_X11_shrink gmv_X11_shrink gl_L_86 ⟨by decide, by decide⟩ rfl hl.1 rfl (Nat.le_of_ble_eq_true rfl) dL_law_618 ⟨by show cells + 0 ≤ 601024; omega, by show slots + 0 ≤ 7293000; omega⟩ (fun H locs Z => ?_)
  show W _ _ _ _ _ _ _ _ _ _ _ _ _ _ _ (F0 m 621 ls [.int (r)])
  refine lv_aload_n S9.1 S9.2.1 dL_law_621 rfl (lv_at hl 2 rfl) ?_
  refine zz_V [] S9 K Z HH_r zc_10 rfl (c_X12_shrink (b + 73) e2) ⟨rfl, rfl⟩ gm_X12_shrink gmv_X12_shrink gl_L_89 ⟨by decide, by decide⟩ rfl hl.1 rfl (Nat.le_of_ble_eq_true rfl) dL_law_622 ⟨by show cells + 0 + 0 ≤ 601024; omega, by show slots + 0 + 0 ≤ 7293000; omega⟩ (fun H locs Z => ?_)
  show W _ _ _ _ _ _ _ _ _ _ _ _ _ _ _ (F0 m 625 ls [.int (r), .int (r)])
  refine lv_icmp_eq (tgt := 799) S9.1 S9.2.1 dL_law_625 (by decide) (fun hc => ?_) (fun hc => absurd rfl hc)
  exact kk _ _ _ _ _ _ _ _ _ _ _ _ _ ⟨Z, hR', hn, hfr, by omega, by omega⟩ hl
set_option maxRecDepth 100000 in
set_option maxHeartbeats 4000000 in
theorem lc_state (C : LC p s m c D dA b0 L xs) (hi : i + 10 ≤ L) (hL : L ≤ 5121) (hk : k < 512) (I : LI s D dA b S V Q Sm Vm lo g n H locs cells slots k) (hl : lv_has ls 7 [(0, .ref b0), (1, .ref b), (2, .ref (b + 73)), (3, .ref (b + 100)), (4, .int (zi i))]) (kk : LK p l e s m below meth c D dA b0 b i k Z9) : W p l e room_1 s m #[Value.ref b0] below meth c H locs cells slots Z9 (F0 m 630 ls []) := by
  obtain ⟨S9, K, hX, hbl⟩ := C
  obtain ⟨Z, hR, hn, hfr, hc1, hc2⟩ := I
  have hbA : ¬ LA s b0 := Nat.not_le.mpr hbl
  refine lv_aload_n S9.1 S9.2.1 dL_law_630 rfl (lv_at hl 1 rfl) ?_
  refine lv_aload_n S9.1 S9.2.1 dL_law_631 rfl (lv_at hl 0 rfl) ?_
  refine lv_iload S9.1 S9.2.1 dL_law_632 (lv_at hl 4 rfl) ?_
  refine lv_iconst (v := (1 : Int32)) S9.1 S9.2.1 dL_law_634 (by decide) ?_
  refine lv_iadd S9.1 S9.2.1 dL_law_635 ?_
  refine va_sld S9.1 S9.2.1 hX hbl hbA Z.2 (i := zi i + (1 : Int32)) (LX hi hL 1 (by decide)) dL_law_636 ?_
  obtain ⟨r, Sm', e1, e2, hR'⟩ := lo_state (lo := lo) (x := xs (zi i + (1 : Int32)).toNatClampNeg) hR
  refine zz_V [.int (xs (zi i + (1 : Int32)).toNatClampNeg)] S9 K Z HH_b zc_9 rfl (c_X11_state b (xs (zi i + (1 : Int32)).toNatClampNeg) e1) ⟨rfl, rfl⟩ gm_X11_state gmv_X11_state gl_L_90 ⟨by decide, by decide⟩ rfl hl.1 rfl (Nat.le_of_ble_eq_true rfl) dL_law_637 ⟨by show cells + 0 ≤ 601024; omega, by show slots + 0 ≤ 7293000; omega⟩ (fun H locs Z => ?_)
  show W _ _ _ _ _ _ _ _ _ _ _ _ _ _ _ (F0 m 640 ls [.int (r)])
  refine lv_aload_n S9.1 S9.2.1 dL_law_640 rfl (lv_at hl 2 rfl) ?_
  refine lv_aload_n S9.1 S9.2.1 dL_law_641 rfl (lv_at hl 0 rfl) ?_
  refine lv_iload S9.1 S9.2.1 dL_law_642 (lv_at hl 4 rfl) ?_
  refine lv_iconst (v := (1 : Int32)) S9.1 S9.2.1 dL_law_644 (by decide) ?_
  refine lv_iadd S9.1 S9.2.1 dL_law_645 ?_
  refine va_sld S9.1 S9.2.1 hX hbl hbA Z.2 (i := zi i + (1 : Int32)) (LX hi hL 1 (by decide)) dL_law_646 ?_
  refine zz_V [.int (xs (zi i + (1 : Int32)).toNatClampNeg)] S9 K Z HH_r zc_10 rfl (c_X12_state (b + 73) (xs (zi i + (1 : Int32)).toNatClampNeg) e2) ⟨rfl, rfl⟩ gm_X12_state gmv_X12_state gl_L_93 ⟨by decide, by decide⟩ rfl hl.1 rfl (Nat.le_of_ble_eq_true rfl) dL_law_647 ⟨by show cells + 0 + 0 ≤ 601024; omega, by show slots + 0 + 0 ≤ 7293000; omega⟩ (fun H locs Z => ?_)
  show W _ _ _ _ _ _ _ _ _ _ _ _ _ _ _ (F0 m 650 ls [.int (r), .int (r)])
  refine lv_icmp_eq (tgt := 799) S9.1 S9.2.1 dL_law_650 (by decide) (fun hc => ?_) (fun hc => absurd rfl hc)
  exact kk _ _ _ _ _ _ _ _ _ _ _ _ _ ⟨Z, hR', hn, hfr, by omega, by omega⟩ hl
set_option maxRecDepth 100000 in
set_option maxHeartbeats 4000000 in
theorem lc_done (C : LC p s m c D dA b0 L xs) (hi : i + 10 ≤ L) (hL : L ≤ 5121) (hk : k < 512) (I : LI s D dA b S V Q Sm Vm lo g n H locs cells slots k) (hl : lv_has ls 7 [(0, .ref b0), (1, .ref b), (2, .ref (b + 73)), (3, .ref (b + 100)), (4, .int (zi i))]) (kk : LK p l e s m below meth c D dA b0 b i k Z9) : W p l e room_1 s m #[Value.ref b0] below meth c H locs cells slots Z9 (F0 m 655 ls []) := by
  obtain ⟨S9, K, hX, hbl⟩ := C
  obtain ⟨Z, hR, hn, hfr, hc1, hc2⟩ := I
  have hbA : ¬ LA s b0 := Nat.not_le.mpr hbl
  refine lv_aload_n S9.1 S9.2.1 dL_law_655 rfl (lv_at hl 1 rfl) ?_
  refine lv_aload_n S9.1 S9.2.1 dL_law_656 rfl (lv_at hl 0 rfl) ?_
  refine lv_iload S9.1 S9.2.1 dL_law_657 (lv_at hl 4 rfl) ?_
  refine lv_iconst (v := (1 : Int32)) S9.1 S9.2.1 dL_law_659 (by decide) ?_
  refine lv_iadd S9.1 S9.2.1 dL_law_660 ?_
  refine va_sld S9.1 S9.2.1 hX hbl hbA Z.2 (i := zi i + (1 : Int32)) (LX hi hL 1 (by decide)) dL_law_661 ?_
  obtain ⟨r, Sm', e1, e2, hR'⟩ := lo_done (lo := lo) (x := xs (zi i + (1 : Int32)).toNatClampNeg) hR
  refine zz_V [.int (xs (zi i + (1 : Int32)).toNatClampNeg)] S9 K Z HH_b zc_9 rfl (c_X11_done b (xs (zi i + (1 : Int32)).toNatClampNeg) e1) ⟨rfl, rfl⟩ gm_X11_done gmv_X11_done gl_L_94 ⟨by decide, by decide⟩ rfl hl.1 rfl (Nat.le_of_ble_eq_true rfl) dL_law_662 ⟨by show cells + 0 ≤ 601024; omega, by show slots + 0 ≤ 7293000; omega⟩ (fun H locs Z => ?_)
  show W _ _ _ _ _ _ _ _ _ _ _ _ _ _ _ (F0 m 665 ls [.int (r)])
  refine lv_aload_n S9.1 S9.2.1 dL_law_665 rfl (lv_at hl 2 rfl) ?_
  refine lv_aload_n S9.1 S9.2.1 dL_law_666 rfl (lv_at hl 0 rfl) ?_
  refine lv_iload S9.1 S9.2.1 dL_law_667 (lv_at hl 4 rfl) ?_
  refine lv_iconst (v := (1 : Int32)) S9.1 S9.2.1 dL_law_669 (by decide) ?_
  refine lv_iadd S9.1 S9.2.1 dL_law_670 ?_
  refine va_sld S9.1 S9.2.1 hX hbl hbA Z.2 (i := zi i + (1 : Int32)) (LX hi hL 1 (by decide)) dL_law_671 ?_
  refine zz_V [.int (xs (zi i + (1 : Int32)).toNatClampNeg)] S9 K Z HH_r zc_10 rfl (c_X12_done (b + 73) (xs (zi i + (1 : Int32)).toNatClampNeg) e2) ⟨rfl, rfl⟩ gm_X12_done gmv_X12_done gl_L_97 ⟨by decide, by decide⟩ rfl hl.1 rfl (Nat.le_of_ble_eq_true rfl) dL_law_672 ⟨by show cells + 0 + 0 ≤ 601024; omega, by show slots + 0 + 0 ≤ 7293000; omega⟩ (fun H locs Z => ?_)
  show W _ _ _ _ _ _ _ _ _ _ _ _ _ _ _ (F0 m 675 ls [.int (r), .int (r)])
  refine lv_icmp_eq (tgt := 799) S9.1 S9.2.1 dL_law_675 (by decide) (fun hc => ?_) (fun hc => absurd rfl hc)
  exact kk _ _ _ _ _ _ _ _ _ _ _ _ _ ⟨Z, hR', hn, hfr, by omega, by omega⟩ hl
set_option maxRecDepth 100000 in
set_option maxHeartbeats 4000000 in
theorem lc_shown (C : LC p s m c D dA b0 L xs) (hi : i + 10 ≤ L) (hL : L ≤ 5121) (hk : k < 512) (I : LI s D dA b S V Q Sm Vm lo g n H locs cells slots k) (hl : lv_has ls 7 [(0, .ref b0), (1, .ref b), (2, .ref (b + 73)), (3, .ref (b + 100)), (4, .int (zi i))]) (kk : LK p l e s m below meth c D dA b0 b i k Z9) : W p l e room_1 s m #[Value.ref b0] below meth c H locs cells slots Z9 (F0 m 680 ls []) := by
  obtain ⟨S9, K, hX, hbl⟩ := C
  obtain ⟨Z, hR, hn, hfr, hc1, hc2⟩ := I
  have hbA : ¬ LA s b0 := Nat.not_le.mpr hbl
  refine lv_aload_n S9.1 S9.2.1 dL_law_680 rfl (lv_at hl 1 rfl) ?_
  refine lv_aload_n S9.1 S9.2.1 dL_law_681 rfl (lv_at hl 0 rfl) ?_
  refine lv_iload S9.1 S9.2.1 dL_law_682 (lv_at hl 4 rfl) ?_
  refine lv_iconst (v := (1 : Int32)) S9.1 S9.2.1 dL_law_684 (by decide) ?_
  refine lv_iadd S9.1 S9.2.1 dL_law_685 ?_
  refine va_sld S9.1 S9.2.1 hX hbl hbA Z.2 (i := zi i + (1 : Int32)) (LX hi hL 1 (by decide)) dL_law_686 ?_
  obtain ⟨r, Sm', e1, e2, hR'⟩ := lo_shown (lo := lo) (x := xs (zi i + (1 : Int32)).toNatClampNeg) hR
  refine zz_V [.int (xs (zi i + (1 : Int32)).toNatClampNeg)] S9 K Z HH_b zc_9 rfl (c_X11_shown b (xs (zi i + (1 : Int32)).toNatClampNeg) e1) ⟨rfl, rfl⟩ gm_X11_shown gmv_X11_shown gl_L_98 ⟨by decide, by decide⟩ rfl hl.1 rfl (Nat.le_of_ble_eq_true rfl) dL_law_687 ⟨by show cells + 0 ≤ 601024; omega, by show slots + 0 ≤ 7293000; omega⟩ (fun H locs Z => ?_)
  show W _ _ _ _ _ _ _ _ _ _ _ _ _ _ _ (F0 m 690 ls [.int (r)])
  refine lv_aload_n S9.1 S9.2.1 dL_law_690 rfl (lv_at hl 2 rfl) ?_
  refine lv_aload_n S9.1 S9.2.1 dL_law_691 rfl (lv_at hl 0 rfl) ?_
  refine lv_iload S9.1 S9.2.1 dL_law_692 (lv_at hl 4 rfl) ?_
  refine lv_iconst (v := (1 : Int32)) S9.1 S9.2.1 dL_law_694 (by decide) ?_
  refine lv_iadd S9.1 S9.2.1 dL_law_695 ?_
  refine va_sld S9.1 S9.2.1 hX hbl hbA Z.2 (i := zi i + (1 : Int32)) (LX hi hL 1 (by decide)) dL_law_696 ?_
  refine zz_V [.int (xs (zi i + (1 : Int32)).toNatClampNeg)] S9 K Z HH_r zc_10 rfl (c_X12_shown (b + 73) (xs (zi i + (1 : Int32)).toNatClampNeg) e2) ⟨rfl, rfl⟩ gm_X12_shown gmv_X12_shown gl_L_101 ⟨by decide, by decide⟩ rfl hl.1 rfl (Nat.le_of_ble_eq_true rfl) dL_law_697 ⟨by show cells + 0 + 0 ≤ 601024; omega, by show slots + 0 + 0 ≤ 7293000; omega⟩ (fun H locs Z => ?_)
  show W _ _ _ _ _ _ _ _ _ _ _ _ _ _ _ (F0 m 700 ls [.int (r), .int (r)])
  refine lv_icmp_eq (tgt := 799) S9.1 S9.2.1 dL_law_700 (by decide) (fun hc => ?_) (fun hc => absurd rfl hc)
  exact kk _ _ _ _ _ _ _ _ _ _ _ _ _ ⟨Z, hR', hn, hfr, by omega, by omega⟩ hl
set_option maxRecDepth 100000 in
set_option maxHeartbeats 4000000 in
theorem lc_never (C : LC p s m c D dA b0 L xs) (hi : i + 10 ≤ L) (hL : L ≤ 5121) (hk : k < 512) (I : LI s D dA b S V Q Sm Vm lo g n H locs cells slots k) (hl : lv_has ls 7 [(0, .ref b0), (1, .ref b), (2, .ref (b + 73)), (3, .ref (b + 100)), (4, .int (zi i))]) (kk : LK p l e s m below meth c D dA b0 b i k Z9) : W p l e room_1 s m #[Value.ref b0] below meth c H locs cells slots Z9 (F0 m 705 ls []) := by
  obtain ⟨S9, K, hX, hbl⟩ := C
  obtain ⟨Z, hR, hn, hfr, hc1, hc2⟩ := I
  have hbA : ¬ LA s b0 := Nat.not_le.mpr hbl
  refine lv_aload_n S9.1 S9.2.1 dL_law_705 rfl (lv_at hl 1 rfl) ?_
  refine lv_aload_n S9.1 S9.2.1 dL_law_706 rfl (lv_at hl 0 rfl) ?_
  refine lv_iload S9.1 S9.2.1 dL_law_707 (lv_at hl 4 rfl) ?_
  refine lv_iconst (v := (1 : Int32)) S9.1 S9.2.1 dL_law_709 (by decide) ?_
  refine lv_iadd S9.1 S9.2.1 dL_law_710 ?_
  refine va_sld S9.1 S9.2.1 hX hbl hbA Z.2 (i := zi i + (1 : Int32)) (LX hi hL 1 (by decide)) dL_law_711 ?_
  obtain ⟨r, Sm', e1, e2, hR'⟩ := lo_never (lo := lo) (x := xs (zi i + (1 : Int32)).toNatClampNeg) hR
  refine zz_V [.int (xs (zi i + (1 : Int32)).toNatClampNeg)] S9 K Z HH_b zc_9 rfl (c_X11_never b (xs (zi i + (1 : Int32)).toNatClampNeg) e1) ⟨rfl, rfl⟩ gm_X11_never gmv_X11_never gl_L_102 ⟨by decide, by decide⟩ rfl hl.1 rfl (Nat.le_of_ble_eq_true rfl) dL_law_712 ⟨by show cells + 0 ≤ 601024; omega, by show slots + 0 ≤ 7293000; omega⟩ (fun H locs Z => ?_)
  show W _ _ _ _ _ _ _ _ _ _ _ _ _ _ _ (F0 m 715 ls [.int (r)])
  refine lv_aload_n S9.1 S9.2.1 dL_law_715 rfl (lv_at hl 2 rfl) ?_
  refine lv_aload_n S9.1 S9.2.1 dL_law_716 rfl (lv_at hl 0 rfl) ?_
  refine lv_iload S9.1 S9.2.1 dL_law_717 (lv_at hl 4 rfl) ?_
  refine lv_iconst (v := (1 : Int32)) S9.1 S9.2.1 dL_law_719 (by decide) ?_
  refine lv_iadd S9.1 S9.2.1 dL_law_720 ?_
  refine va_sld S9.1 S9.2.1 hX hbl hbA Z.2 (i := zi i + (1 : Int32)) (LX hi hL 1 (by decide)) dL_law_721 ?_
  refine zz_V [.int (xs (zi i + (1 : Int32)).toNatClampNeg)] S9 K Z HH_r zc_10 rfl (c_X12_never (b + 73) (xs (zi i + (1 : Int32)).toNatClampNeg) e2) ⟨rfl, rfl⟩ gm_X12_never gmv_X12_never gl_L_105 ⟨by decide, by decide⟩ rfl hl.1 rfl (Nat.le_of_ble_eq_true rfl) dL_law_722 ⟨by show cells + 0 + 0 ≤ 601024; omega, by show slots + 0 + 0 ≤ 7293000; omega⟩ (fun H locs Z => ?_)
  show W _ _ _ _ _ _ _ _ _ _ _ _ _ _ _ (F0 m 725 ls [.int (r), .int (r)])
  refine lv_icmp_eq (tgt := 799) S9.1 S9.2.1 dL_law_725 (by decide) (fun hc => ?_) (fun hc => absurd rfl hc)
  exact kk _ _ _ _ _ _ _ _ _ _ _ _ _ ⟨Z, hR', hn, hfr, by omega, by omega⟩ hl
set_option maxRecDepth 100000 in
set_option maxHeartbeats 4000000 in
theorem lc_told (C : LC p s m c D dA b0 L xs) (hi : i + 10 ≤ L) (hL : L ≤ 5121) (hk : k < 512) (I : LI s D dA b S V Q Sm Vm lo g n H locs cells slots k) (hl : lv_has ls 7 [(0, .ref b0), (1, .ref b), (2, .ref (b + 73)), (3, .ref (b + 100)), (4, .int (zi i))]) (kk : LK p l e s m below meth c D dA b0 b i k Z9) : W p l e room_1 s m #[Value.ref b0] below meth c H locs cells slots Z9 (F0 m 774 ls []) := by
  obtain ⟨S9, K, hX, hbl⟩ := C
  obtain ⟨Z, hR, hn, hfr, hc1, hc2⟩ := I
  have hbA : ¬ LA s b0 := Nat.not_le.mpr hbl
  refine lv_aload_n S9.1 S9.2.1 dL_law_774 rfl (lv_at hl 1 rfl) ?_
  refine lv_aload_n S9.1 S9.2.1 dL_law_775 rfl (lv_at hl 0 rfl) ?_
  refine lv_iload S9.1 S9.2.1 dL_law_776 (lv_at hl 4 rfl) ?_
  refine lv_iconst (v := (1 : Int32)) S9.1 S9.2.1 dL_law_778 (by decide) ?_
  refine lv_iadd S9.1 S9.2.1 dL_law_779 ?_
  refine va_sld S9.1 S9.2.1 hX hbl hbA Z.2 (i := zi i + (1 : Int32)) (LX hi hL 1 (by decide)) dL_law_780 ?_
  obtain ⟨r, Sm', e1, e2, hR'⟩ := lo_told (lo := lo) (x := xs (zi i + (1 : Int32)).toNatClampNeg) hR
  refine zz_V [.int (xs (zi i + (1 : Int32)).toNatClampNeg)] S9 K Z HH_b zc_9 rfl (c_X11_told b (xs (zi i + (1 : Int32)).toNatClampNeg) e1) ⟨rfl, rfl⟩ gm_X11_told gmv_X11_told gl_L_113 ⟨by decide, by decide⟩ rfl hl.1 rfl (Nat.le_of_ble_eq_true rfl) dL_law_781 ⟨by show cells + 0 ≤ 601024; omega, by show slots + 0 ≤ 7293000; omega⟩ (fun H locs Z => ?_)
  show W _ _ _ _ _ _ _ _ _ _ _ _ _ _ _ (F0 m 784 ls [.int (r)])
  refine lv_aload_n S9.1 S9.2.1 dL_law_784 rfl (lv_at hl 2 rfl) ?_
  refine lv_aload_n S9.1 S9.2.1 dL_law_785 rfl (lv_at hl 0 rfl) ?_
  refine lv_iload S9.1 S9.2.1 dL_law_786 (lv_at hl 4 rfl) ?_
  refine lv_iconst (v := (1 : Int32)) S9.1 S9.2.1 dL_law_788 (by decide) ?_
  refine lv_iadd S9.1 S9.2.1 dL_law_789 ?_
  refine va_sld S9.1 S9.2.1 hX hbl hbA Z.2 (i := zi i + (1 : Int32)) (LX hi hL 1 (by decide)) dL_law_790 ?_
  refine zz_V [.int (xs (zi i + (1 : Int32)).toNatClampNeg)] S9 K Z HH_r zc_10 rfl (c_X12_told (b + 73) (xs (zi i + (1 : Int32)).toNatClampNeg) e2) ⟨rfl, rfl⟩ gm_X12_told gmv_X12_told gl_L_116 ⟨by decide, by decide⟩ rfl hl.1 rfl (Nat.le_of_ble_eq_true rfl) dL_law_791 ⟨by show cells + 0 + 0 ≤ 601024; omega, by show slots + 0 + 0 ≤ 7293000; omega⟩ (fun H locs Z => ?_)
  show W _ _ _ _ _ _ _ _ _ _ _ _ _ _ _ (F0 m 794 ls [.int (r), .int (r)])
  refine lv_icmp_eq (tgt := 799) S9.1 S9.2.1 dL_law_794 (by decide) (fun hc => ?_) (fun hc => absurd rfl hc)
  exact kk _ _ _ _ _ _ _ _ _ _ _ _ _ ⟨Z, hR', hn, hfr, by omega, by omega⟩ hl
end
