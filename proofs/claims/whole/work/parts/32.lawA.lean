/-! THE LAW, its cases -/
section LC
variable {p : Program} {l : Launch} {e : Env} {s : State} {m : MethodId} {below : List Frame} {meth : Method} {c : Code} {Q : State → Prop} {dC : Nat → ClassId} {dI : Nat → Nat → Nat} {cI cJ cT : ClassId} {pt b L : Nat} {xs : Nat → Int32} {aB aM : Nat → Nat}
set_option maxHeartbeats 4000000 in
theorem law_rank {i : Nat} (hi : i + 6 ≤ L) {IB : SI} {JB : SJ} {IM : SI} {JM : SJ} {H : Heap} {locs : List Loc} {ls : Array Slot} (hl : lv_has ls 4 [(0, .ref b), (1, .ref (aB 38)), (2, .ref (aM 13)), (3, .int (nI i))]) (S : LI s (dC, dI) cI cJ cT aB aM IB JB IM JM H locs) (F : LFx p s m c (dC, dI) cI cJ cT pt b L xs)
    (kk : ∀ (IB : SI) (JB : SJ) (IM : SI) (JM : SJ) (H : Heap) (locs : List Loc), LI s (dC, dI) cI cJ cT aB aM IB JB IM JM H locs → W p l e room_1 s m #[Value.ref b] below meth c H locs 53 3544 Q (F0 m 1056 ls [])) : W p l e room_1 s m #[Value.ref b] below meth c H locs 53 3544 Q (F0 m 148 ls []) := by
  obtain ⟨hx, hb, hfix, hts, hX, hbl, hK, hpr, hL⟩ := F
  obtain ⟨hR, hPB, hDB, hPM, hDM, hap, hS⟩ := S
  have hA : ∀ q : Nat, s.heap.size ≤ q → lwA s q := fun _ h => h
  have hbA : ¬ lwA s b := Nat.not_le.mpr hbl
  have h_1 : vp_in (nI i + (1 : Int32)) L := in_i (a := 1) (by omega) hL
  have h_2 : vp_in (nI i + (2 : Int32)) L := in_i (a := 2) (by omega) hL
  obtain ⟨v, IB', IM', eB, eM, hR'⟩ := op_rank LstOK_fr hR (xs (nI i + (1 : Int32)).toNatClampNeg) (xs (nI i + (2 : Int32)).toNatClampNeg)
  refine lv_aload_n hx hb dL_law_148 rfl (lv_at hl 1 rfl) ?_
  refine lv_aload_n hx hb dL_law_149 rfl (lv_at hl 0 rfl) ?_
  refine lv_iload_n hx hb dL_law_150 rfl (lv_at hl 3 rfl) ?_
  refine lv_iconst (v := (1 : Int32)) hx hb dL_law_151 (by decide) ?_
  refine lv_iadd hx hb dL_law_152 ?_
  refine va_sld hx hb hX hbl hbA hS h_1 dL_law_153 ?_
  refine lv_aload_n hx hb dL_law_154 rfl (lv_at hl 0 rfl) ?_
  refine lv_iload_n hx hb dL_law_155 rfl (lv_at hl 3 rfl) ?_
  refine lv_iconst (v := (2 : Int32)) hx hb dL_law_156 (by decide) ?_
  refine lv_iadd hx hb dL_law_157 ?_
  refine va_sld hx hb hX hbl hbA hS h_2 dL_law_158 ?_
  refine xLi (rest := []) (c_X8_rank l dC dI aB cI cJ cT (xs (nI i + (1 : Int32)).toNatClampNeg) (xs (nI i + (2 : Int32)).toNatClampNeg) IB JB eB) hfix (cwV 2 hts gL_law_X8_rank rfl rfl rfl (by decide +kernel) ⟨Nat.le_of_ble_eq_true rfl, Nat.le_of_ble_eq_true rfl⟩) hK hPB hDB hPM hap hS hA (va_recv hK hPB (ci := 7) (q0 := 38) rfl (obB_38 aB cI cJ cT IB JB)) rfl hl.1 rfl (Nat.le_of_ble_eq_true rfl) ⟨Nat.le_of_ble_eq_true rfl, Nat.le_of_ble_eq_true rfl⟩ dL_law_159 (fun H locs hPB hDB hPM hap hS => ?_)
  refine lv_aload_n hx hb dL_law_162 rfl (lv_at hl 2 rfl) ?_
  refine lv_aload_n hx hb dL_law_163 rfl (lv_at hl 0 rfl) ?_
  refine lv_iload_n hx hb dL_law_164 rfl (lv_at hl 3 rfl) ?_
  refine lv_iconst (v := (1 : Int32)) hx hb dL_law_165 (by decide) ?_
  refine lv_iadd hx hb dL_law_166 ?_
  refine va_sld hx hb hX hbl hbA hS h_1 dL_law_167 ?_
  refine lv_aload_n hx hb dL_law_168 rfl (lv_at hl 0 rfl) ?_
  refine lv_iload_n hx hb dL_law_169 rfl (lv_at hl 3 rfl) ?_
  refine lv_iconst (v := (2 : Int32)) hx hb dL_law_170 (by decide) ?_
  refine lv_iadd hx hb dL_law_171 ?_
  refine va_sld hx hb hX hbl hbA hS h_2 dL_law_172 ?_
  refine xLi (rest := [.int v]) (c_X9_rank l dC dI aM cI cJ cT (xs (nI i + (1 : Int32)).toNatClampNeg) (xs (nI i + (2 : Int32)).toNatClampNeg) IM JM eM) hfix (cwV 2 hts gL_law_X9_rank rfl rfl rfl (by decide +kernel) ⟨Nat.le_of_ble_eq_true rfl, Nat.le_of_ble_eq_true rfl⟩) hK hPM hDM hPB hap.sm hS hA (va_recv hK hPM (ci := 8) (q0 := 13) rfl (obM_13 aM cI cJ IM JM)) rfl hl.1 rfl (Nat.le_of_ble_eq_true rfl) ⟨Nat.le_of_ble_eq_true rfl, Nat.le_of_ble_eq_true rfl⟩ dL_law_173 (fun H locs hPM hDM hPB hap hS => ?_)
  exact lv_icmp_eq (tgt := 1056) hx hb dL_law_176 (by decide) (fun _ => kk IB' JB IM' JM H locs ⟨hR', hPB, hDB, hPM, hDM, hap.sm, hS⟩) (fun c9 => absurd rfl c9)
set_option maxHeartbeats 4000000 in
theorem law_put {i : Nat} (hi : i + 6 ≤ L) {IB : SI} {JB : SJ} {IM : SI} {JM : SJ} {H : Heap} {locs : List Loc} {ls : Array Slot} (hl : lv_has ls 4 [(0, .ref b), (1, .ref (aB 38)), (2, .ref (aM 13)), (3, .int (nI i))]) (S : LI s (dC, dI) cI cJ cT aB aM IB JB IM JM H locs) (F : LFx p s m c (dC, dI) cI cJ cT pt b L xs)
    (kk : ∀ (IB : SI) (JB : SJ) (IM : SI) (JM : SJ) (H : Heap) (locs : List Loc), LI s (dC, dI) cI cJ cT aB aM IB JB IM JM H locs → W p l e room_1 s m #[Value.ref b] below meth c H locs 53 3544 Q (F0 m 1056 ls [])) : W p l e room_1 s m #[Value.ref b] below meth c H locs 53 3544 Q (F0 m 181 ls []) := by
  obtain ⟨hx, hb, hfix, hts, hX, hbl, hK, hpr, hL⟩ := F
  obtain ⟨hR, hPB, hDB, hPM, hDM, hap, hS⟩ := S
  have hA : ∀ q : Nat, s.heap.size ≤ q → lwA s q := fun _ h => h
  have hbA : ¬ lwA s b := Nat.not_le.mpr hbl
  have h_1 : vp_in (nI i + (1 : Int32)) L := in_i (a := 1) (by omega) hL
  have h_2 : vp_in (nI i + (2 : Int32)) L := in_i (a := 2) (by omega) hL
  have h_3 : vp_in (nI i + (3 : Int32)) L := in_i (a := 3) (by omega) hL
  have h_4 : vp_in (nI i + (4 : Int32)) L := in_i (a := 4) (by omega) hL
  have h_5 : vp_in (nI i + (5 : Int32)) L := in_i (a := 5) (by omega) hL
  obtain ⟨v, IB', IM', eB, eM, hR'⟩ := op_put LstOK_fr hR (xs (nI i + (1 : Int32)).toNatClampNeg) (xs (nI i + (2 : Int32)).toNatClampNeg) (xs (nI i + (3 : Int32)).toNatClampNeg) (xs (nI i + (4 : Int32)).toNatClampNeg) (xs (nI i + (5 : Int32)).toNatClampNeg)
  refine lv_aload_n hx hb dL_law_181 rfl (lv_at hl 1 rfl) ?_
  refine lv_aload_n hx hb dL_law_182 rfl (lv_at hl 0 rfl) ?_
  refine lv_iload_n hx hb dL_law_183 rfl (lv_at hl 3 rfl) ?_
  refine lv_iconst (v := (1 : Int32)) hx hb dL_law_184 (by decide) ?_
  refine lv_iadd hx hb dL_law_185 ?_
  refine va_sld hx hb hX hbl hbA hS h_1 dL_law_186 ?_
  refine lv_aload_n hx hb dL_law_187 rfl (lv_at hl 0 rfl) ?_
  refine lv_iload_n hx hb dL_law_188 rfl (lv_at hl 3 rfl) ?_
  refine lv_iconst (v := (2 : Int32)) hx hb dL_law_189 (by decide) ?_
  refine lv_iadd hx hb dL_law_190 ?_
  refine va_sld hx hb hX hbl hbA hS h_2 dL_law_191 ?_
  refine lv_aload_n hx hb dL_law_192 rfl (lv_at hl 0 rfl) ?_
  refine lv_iload_n hx hb dL_law_193 rfl (lv_at hl 3 rfl) ?_
  refine lv_iconst (v := (3 : Int32)) hx hb dL_law_194 (by decide) ?_
  refine lv_iadd hx hb dL_law_195 ?_
  refine va_sld hx hb hX hbl hbA hS h_3 dL_law_196 ?_
  refine lv_aload_n hx hb dL_law_197 rfl (lv_at hl 0 rfl) ?_
  refine lv_iload_n hx hb dL_law_198 rfl (lv_at hl 3 rfl) ?_
  refine lv_iconst (v := (4 : Int32)) hx hb dL_law_199 (by decide) ?_
  refine lv_iadd hx hb dL_law_200 ?_
  refine va_sld hx hb hX hbl hbA hS h_4 dL_law_201 ?_
  refine lv_aload_n hx hb dL_law_202 rfl (lv_at hl 0 rfl) ?_
  refine lv_iload_n hx hb dL_law_203 rfl (lv_at hl 3 rfl) ?_
  refine lv_iconst (v := (5 : Int32)) hx hb dL_law_204 (by decide) ?_
  refine lv_iadd hx hb dL_law_205 ?_
  refine va_sld hx hb hX hbl hbA hS h_5 dL_law_206 ?_
  refine xLi (rest := []) (c_X8_put l dC dI aB cI cJ cT (xs (nI i + (1 : Int32)).toNatClampNeg) (xs (nI i + (2 : Int32)).toNatClampNeg) (xs (nI i + (3 : Int32)).toNatClampNeg) (xs (nI i + (4 : Int32)).toNatClampNeg) (xs (nI i + (5 : Int32)).toNatClampNeg) IB JB eB) hfix (cwV 5 hts gL_law_X8_put rfl rfl rfl (by decide +kernel) ⟨Nat.le_of_ble_eq_true rfl, Nat.le_of_ble_eq_true rfl⟩) hK hPB hDB hPM hap hS hA (va_recv hK hPB (ci := 7) (q0 := 38) rfl (obB_38 aB cI cJ cT IB JB)) rfl hl.1 rfl (Nat.le_of_ble_eq_true rfl) ⟨Nat.le_of_ble_eq_true rfl, Nat.le_of_ble_eq_true rfl⟩ dL_law_207 (fun H locs hPB hDB hPM hap hS => ?_)
  refine lv_aload_n hx hb dL_law_210 rfl (lv_at hl 2 rfl) ?_
  refine lv_aload_n hx hb dL_law_211 rfl (lv_at hl 0 rfl) ?_
  refine lv_iload_n hx hb dL_law_212 rfl (lv_at hl 3 rfl) ?_
  refine lv_iconst (v := (1 : Int32)) hx hb dL_law_213 (by decide) ?_
  refine lv_iadd hx hb dL_law_214 ?_
  refine va_sld hx hb hX hbl hbA hS h_1 dL_law_215 ?_
  refine lv_aload_n hx hb dL_law_216 rfl (lv_at hl 0 rfl) ?_
  refine lv_iload_n hx hb dL_law_217 rfl (lv_at hl 3 rfl) ?_
  refine lv_iconst (v := (2 : Int32)) hx hb dL_law_218 (by decide) ?_
  refine lv_iadd hx hb dL_law_219 ?_
  refine va_sld hx hb hX hbl hbA hS h_2 dL_law_220 ?_
  refine lv_aload_n hx hb dL_law_221 rfl (lv_at hl 0 rfl) ?_
  refine lv_iload_n hx hb dL_law_222 rfl (lv_at hl 3 rfl) ?_
  refine lv_iconst (v := (3 : Int32)) hx hb dL_law_223 (by decide) ?_
  refine lv_iadd hx hb dL_law_224 ?_
  refine va_sld hx hb hX hbl hbA hS h_3 dL_law_225 ?_
  refine lv_aload_n hx hb dL_law_226 rfl (lv_at hl 0 rfl) ?_
  refine lv_iload_n hx hb dL_law_227 rfl (lv_at hl 3 rfl) ?_
  refine lv_iconst (v := (4 : Int32)) hx hb dL_law_228 (by decide) ?_
  refine lv_iadd hx hb dL_law_229 ?_
  refine va_sld hx hb hX hbl hbA hS h_4 dL_law_230 ?_
  refine lv_aload_n hx hb dL_law_231 rfl (lv_at hl 0 rfl) ?_
  refine lv_iload_n hx hb dL_law_232 rfl (lv_at hl 3 rfl) ?_
  refine lv_iconst (v := (5 : Int32)) hx hb dL_law_233 (by decide) ?_
  refine lv_iadd hx hb dL_law_234 ?_
  refine va_sld hx hb hX hbl hbA hS h_5 dL_law_235 ?_
  refine xLi (rest := [.int v]) (c_X9_put l dC dI aM cI cJ cT (xs (nI i + (1 : Int32)).toNatClampNeg) (xs (nI i + (2 : Int32)).toNatClampNeg) (xs (nI i + (3 : Int32)).toNatClampNeg) (xs (nI i + (4 : Int32)).toNatClampNeg) (xs (nI i + (5 : Int32)).toNatClampNeg) IM JM eM) hfix (cwV 5 hts gL_law_X9_put rfl rfl rfl (by decide +kernel) ⟨Nat.le_of_ble_eq_true rfl, Nat.le_of_ble_eq_true rfl⟩) hK hPM hDM hPB hap.sm hS hA (va_recv hK hPM (ci := 8) (q0 := 13) rfl (obM_13 aM cI cJ IM JM)) rfl hl.1 rfl (Nat.le_of_ble_eq_true rfl) ⟨Nat.le_of_ble_eq_true rfl, Nat.le_of_ble_eq_true rfl⟩ dL_law_236 (fun H locs hPM hDM hPB hap hS => ?_)
  exact lv_icmp_eq (tgt := 1056) hx hb dL_law_239 (by decide) (fun _ => kk IB' JB IM' JM H locs ⟨hR', hPB, hDB, hPM, hDM, hap.sm, hS⟩) (fun c9 => absurd rfl c9)
set_option maxHeartbeats 4000000 in
theorem law_at {i : Nat} (hi : i + 6 ≤ L) {IB : SI} {JB : SJ} {IM : SI} {JM : SJ} {H : Heap} {locs : List Loc} {ls : Array Slot} (hl : lv_has ls 4 [(0, .ref b), (1, .ref (aB 38)), (2, .ref (aM 13)), (3, .int (nI i))]) (S : LI s (dC, dI) cI cJ cT aB aM IB JB IM JM H locs) (F : LFx p s m c (dC, dI) cI cJ cT pt b L xs)
    (kk : ∀ (IB : SI) (JB : SJ) (IM : SI) (JM : SJ) (H : Heap) (locs : List Loc), LI s (dC, dI) cI cJ cT aB aM IB JB IM JM H locs → W p l e room_1 s m #[Value.ref b] below meth c H locs 53 3544 Q (F0 m 1056 ls [])) : W p l e room_1 s m #[Value.ref b] below meth c H locs 53 3544 Q (F0 m 244 ls []) := by
  obtain ⟨hx, hb, hfix, hts, hX, hbl, hK, hpr, hL⟩ := F
  obtain ⟨hR, hPB, hDB, hPM, hDM, hap, hS⟩ := S
  have hA : ∀ q : Nat, s.heap.size ≤ q → lwA s q := fun _ h => h
  have hbA : ¬ lwA s b := Nat.not_le.mpr hbl
  have h_1 : vp_in (nI i + (1 : Int32)) L := in_i (a := 1) (by omega) hL
  have h_2 : vp_in (nI i + (2 : Int32)) L := in_i (a := 2) (by omega) hL
  have h_3 : vp_in (nI i + (3 : Int32)) L := in_i (a := 3) (by omega) hL
  have h_4 : vp_in (nI i + (4 : Int32)) L := in_i (a := 4) (by omega) hL
  obtain ⟨v, eB, eM⟩ := op_at hR (xs (nI i + (1 : Int32)).toNatClampNeg) (xs (nI i + (2 : Int32)).toNatClampNeg) (xs (nI i + (3 : Int32)).toNatClampNeg) (xs (nI i + (4 : Int32)).toNatClampNeg)
  refine lv_aload_n hx hb dL_law_244 rfl (lv_at hl 1 rfl) ?_
  refine lv_aload_n hx hb dL_law_245 rfl (lv_at hl 0 rfl) ?_
  refine lv_iload_n hx hb dL_law_246 rfl (lv_at hl 3 rfl) ?_
  refine lv_iconst (v := (1 : Int32)) hx hb dL_law_247 (by decide) ?_
  refine lv_iadd hx hb dL_law_248 ?_
  refine va_sld hx hb hX hbl hbA hS h_1 dL_law_249 ?_
  refine lv_aload_n hx hb dL_law_250 rfl (lv_at hl 0 rfl) ?_
  refine lv_iload_n hx hb dL_law_251 rfl (lv_at hl 3 rfl) ?_
  refine lv_iconst (v := (2 : Int32)) hx hb dL_law_252 (by decide) ?_
  refine lv_iadd hx hb dL_law_253 ?_
  refine va_sld hx hb hX hbl hbA hS h_2 dL_law_254 ?_
  refine lv_aload_n hx hb dL_law_255 rfl (lv_at hl 0 rfl) ?_
  refine lv_iload_n hx hb dL_law_256 rfl (lv_at hl 3 rfl) ?_
  refine lv_iconst (v := (3 : Int32)) hx hb dL_law_257 (by decide) ?_
  refine lv_iadd hx hb dL_law_258 ?_
  refine va_sld hx hb hX hbl hbA hS h_3 dL_law_259 ?_
  refine lv_aload_n hx hb dL_law_260 rfl (lv_at hl 0 rfl) ?_
  refine lv_iload_n hx hb dL_law_261 rfl (lv_at hl 3 rfl) ?_
  refine lv_iconst (v := (4 : Int32)) hx hb dL_law_262 (by decide) ?_
  refine lv_iadd hx hb dL_law_263 ?_
  refine va_sld hx hb hX hbl hbA hS h_4 dL_law_264 ?_
  refine xLi (rest := []) (c_X8_at l dC dI aB cI cJ cT (xs (nI i + (1 : Int32)).toNatClampNeg) (xs (nI i + (2 : Int32)).toNatClampNeg) (xs (nI i + (3 : Int32)).toNatClampNeg) (xs (nI i + (4 : Int32)).toNatClampNeg) IB JB eB) hfix (cwV 4 hts gL_law_X8_at rfl rfl rfl (by decide +kernel) ⟨Nat.le_of_ble_eq_true rfl, Nat.le_of_ble_eq_true rfl⟩) hK hPB hDB hPM hap hS hA (va_recv hK hPB (ci := 7) (q0 := 38) rfl (obB_38 aB cI cJ cT IB JB)) rfl hl.1 rfl (Nat.le_of_ble_eq_true rfl) ⟨Nat.le_of_ble_eq_true rfl, Nat.le_of_ble_eq_true rfl⟩ dL_law_265 (fun H locs hPB hDB hPM hap hS => ?_)
  refine lv_aload_n hx hb dL_law_268 rfl (lv_at hl 2 rfl) ?_
  refine lv_aload_n hx hb dL_law_269 rfl (lv_at hl 0 rfl) ?_
  refine lv_iload_n hx hb dL_law_270 rfl (lv_at hl 3 rfl) ?_
  refine lv_iconst (v := (1 : Int32)) hx hb dL_law_271 (by decide) ?_
  refine lv_iadd hx hb dL_law_272 ?_
  refine va_sld hx hb hX hbl hbA hS h_1 dL_law_273 ?_
  refine lv_aload_n hx hb dL_law_274 rfl (lv_at hl 0 rfl) ?_
  refine lv_iload_n hx hb dL_law_275 rfl (lv_at hl 3 rfl) ?_
  refine lv_iconst (v := (2 : Int32)) hx hb dL_law_276 (by decide) ?_
  refine lv_iadd hx hb dL_law_277 ?_
  refine va_sld hx hb hX hbl hbA hS h_2 dL_law_278 ?_
  refine lv_aload_n hx hb dL_law_279 rfl (lv_at hl 0 rfl) ?_
  refine lv_iload_n hx hb dL_law_280 rfl (lv_at hl 3 rfl) ?_
  refine lv_iconst (v := (3 : Int32)) hx hb dL_law_281 (by decide) ?_
  refine lv_iadd hx hb dL_law_282 ?_
  refine va_sld hx hb hX hbl hbA hS h_3 dL_law_283 ?_
  refine lv_aload_n hx hb dL_law_284 rfl (lv_at hl 0 rfl) ?_
  refine lv_iload_n hx hb dL_law_285 rfl (lv_at hl 3 rfl) ?_
  refine lv_iconst (v := (4 : Int32)) hx hb dL_law_286 (by decide) ?_
  refine lv_iadd hx hb dL_law_287 ?_
  refine va_sld hx hb hX hbl hbA hS h_4 dL_law_288 ?_
  refine xLi (rest := [.int v]) (c_X9_at l dC dI aM cI cJ cT (xs (nI i + (1 : Int32)).toNatClampNeg) (xs (nI i + (2 : Int32)).toNatClampNeg) (xs (nI i + (3 : Int32)).toNatClampNeg) (xs (nI i + (4 : Int32)).toNatClampNeg) IM JM eM) hfix (cwV 4 hts gL_law_X9_at rfl rfl rfl (by decide +kernel) ⟨Nat.le_of_ble_eq_true rfl, Nat.le_of_ble_eq_true rfl⟩) hK hPM hDM hPB hap.sm hS hA (va_recv hK hPM (ci := 8) (q0 := 13) rfl (obM_13 aM cI cJ IM JM)) rfl hl.1 rfl (Nat.le_of_ble_eq_true rfl) ⟨Nat.le_of_ble_eq_true rfl, Nat.le_of_ble_eq_true rfl⟩ dL_law_289 (fun H locs hPM hDM hPB hap hS => ?_)
  exact lv_icmp_eq (tgt := 1056) hx hb dL_law_292 (by decide) (fun _ => kk IB JB IM JM H locs ⟨hR, hPB, hDB, hPM, hDM, hap.sm, hS⟩) (fun c9 => absurd rfl c9)
set_option maxHeartbeats 4000000 in
theorem law_fault {i : Nat} (hi : i + 6 ≤ L) {IB : SI} {JB : SJ} {IM : SI} {JM : SJ} {H : Heap} {locs : List Loc} {ls : Array Slot} (hl : lv_has ls 4 [(0, .ref b), (1, .ref (aB 38)), (2, .ref (aM 13)), (3, .int (nI i))]) (S : LI s (dC, dI) cI cJ cT aB aM IB JB IM JM H locs) (F : LFx p s m c (dC, dI) cI cJ cT pt b L xs)
    (kk : ∀ (IB : SI) (JB : SJ) (IM : SI) (JM : SJ) (H : Heap) (locs : List Loc), LI s (dC, dI) cI cJ cT aB aM IB JB IM JM H locs → W p l e room_1 s m #[Value.ref b] below meth c H locs 53 3544 Q (F0 m 1056 ls [])) : W p l e room_1 s m #[Value.ref b] below meth c H locs 53 3544 Q (F0 m 297 ls []) := by
  obtain ⟨hx, hb, hfix, hts, hX, hbl, hK, hpr, hL⟩ := F
  obtain ⟨hR, hPB, hDB, hPM, hDM, hap, hS⟩ := S
  have hA : ∀ q : Nat, s.heap.size ≤ q → lwA s q := fun _ h => h
  have hbA : ¬ lwA s b := Nat.not_le.mpr hbl
  have h_1 : vp_in (nI i + (1 : Int32)) L := in_i (a := 1) (by omega) hL
  have h_2 : vp_in (nI i + (2 : Int32)) L := in_i (a := 2) (by omega) hL
  obtain ⟨v, IB', IM', eB, eM, hR'⟩ := op_fault LstOK_fr hR (xs (nI i + (1 : Int32)).toNatClampNeg) (xs (nI i + (2 : Int32)).toNatClampNeg)
  refine lv_aload_n hx hb dL_law_297 rfl (lv_at hl 1 rfl) ?_
  refine lv_aload_n hx hb dL_law_298 rfl (lv_at hl 0 rfl) ?_
  refine lv_iload_n hx hb dL_law_299 rfl (lv_at hl 3 rfl) ?_
  refine lv_iconst (v := (1 : Int32)) hx hb dL_law_300 (by decide) ?_
  refine lv_iadd hx hb dL_law_301 ?_
  refine va_sld hx hb hX hbl hbA hS h_1 dL_law_302 ?_
  refine lv_aload_n hx hb dL_law_303 rfl (lv_at hl 0 rfl) ?_
  refine lv_iload_n hx hb dL_law_304 rfl (lv_at hl 3 rfl) ?_
  refine lv_iconst (v := (2 : Int32)) hx hb dL_law_305 (by decide) ?_
  refine lv_iadd hx hb dL_law_306 ?_
  refine va_sld hx hb hX hbl hbA hS h_2 dL_law_307 ?_
  refine xLi (rest := []) (c_X8_fault l dC dI aB cI cJ cT (xs (nI i + (1 : Int32)).toNatClampNeg) (xs (nI i + (2 : Int32)).toNatClampNeg) IB JB eB) hfix (cwV 2 hts gL_law_X8_fault rfl rfl rfl (by decide +kernel) ⟨Nat.le_of_ble_eq_true rfl, Nat.le_of_ble_eq_true rfl⟩) hK hPB hDB hPM hap hS hA (va_recv hK hPB (ci := 7) (q0 := 38) rfl (obB_38 aB cI cJ cT IB JB)) rfl hl.1 rfl (Nat.le_of_ble_eq_true rfl) ⟨Nat.le_of_ble_eq_true rfl, Nat.le_of_ble_eq_true rfl⟩ dL_law_308 (fun H locs hPB hDB hPM hap hS => ?_)
  refine lv_aload_n hx hb dL_law_311 rfl (lv_at hl 2 rfl) ?_
  refine lv_aload_n hx hb dL_law_312 rfl (lv_at hl 0 rfl) ?_
  refine lv_iload_n hx hb dL_law_313 rfl (lv_at hl 3 rfl) ?_
  refine lv_iconst (v := (1 : Int32)) hx hb dL_law_314 (by decide) ?_
  refine lv_iadd hx hb dL_law_315 ?_
  refine va_sld hx hb hX hbl hbA hS h_1 dL_law_316 ?_
  refine lv_aload_n hx hb dL_law_317 rfl (lv_at hl 0 rfl) ?_
  refine lv_iload_n hx hb dL_law_318 rfl (lv_at hl 3 rfl) ?_
  refine lv_iconst (v := (2 : Int32)) hx hb dL_law_319 (by decide) ?_
  refine lv_iadd hx hb dL_law_320 ?_
  refine va_sld hx hb hX hbl hbA hS h_2 dL_law_321 ?_
  refine xLi (rest := [.int v]) (c_X9_fault l dC dI aM cI cJ cT (xs (nI i + (1 : Int32)).toNatClampNeg) (xs (nI i + (2 : Int32)).toNatClampNeg) IM JM eM) hfix (cwV 2 hts gL_law_X9_fault rfl rfl rfl (by decide +kernel) ⟨Nat.le_of_ble_eq_true rfl, Nat.le_of_ble_eq_true rfl⟩) hK hPM hDM hPB hap.sm hS hA (va_recv hK hPM (ci := 8) (q0 := 13) rfl (obM_13 aM cI cJ IM JM)) rfl hl.1 rfl (Nat.le_of_ble_eq_true rfl) ⟨Nat.le_of_ble_eq_true rfl, Nat.le_of_ble_eq_true rfl⟩ dL_law_322 (fun H locs hPM hDM hPB hap hS => ?_)
  exact lv_icmp_eq (tgt := 1056) hx hb dL_law_325 (by decide) (fun _ => kk IB' JB IM' JM H locs ⟨hR', hPB, hDB, hPM, hDM, hap.sm, hS⟩) (fun c9 => absurd rfl c9)
set_option maxHeartbeats 4000000 in
theorem law_partner {i : Nat} (hi : i + 6 ≤ L) {IB : SI} {JB : SJ} {IM : SI} {JM : SJ} {H : Heap} {locs : List Loc} {ls : Array Slot} (hl : lv_has ls 4 [(0, .ref b), (1, .ref (aB 38)), (2, .ref (aM 13)), (3, .int (nI i))]) (S : LI s (dC, dI) cI cJ cT aB aM IB JB IM JM H locs) (F : LFx p s m c (dC, dI) cI cJ cT pt b L xs)
    (kk : ∀ (IB : SI) (JB : SJ) (IM : SI) (JM : SJ) (H : Heap) (locs : List Loc), LI s (dC, dI) cI cJ cT aB aM IB JB IM JM H locs → W p l e room_1 s m #[Value.ref b] below meth c H locs 53 3544 Q (F0 m 1056 ls [])) : W p l e room_1 s m #[Value.ref b] below meth c H locs 53 3544 Q (F0 m 330 ls []) := by
  obtain ⟨hx, hb, hfix, hts, hX, hbl, hK, hpr, hL⟩ := F
  obtain ⟨hR, hPB, hDB, hPM, hDM, hap, hS⟩ := S
  have hA : ∀ q : Nat, s.heap.size ≤ q → lwA s q := fun _ h => h
  have hbA : ¬ lwA s b := Nat.not_le.mpr hbl
  have h_1 : vp_in (nI i + (1 : Int32)) L := in_i (a := 1) (by omega) hL
  have h_2 : vp_in (nI i + (2 : Int32)) L := in_i (a := 2) (by omega) hL
  obtain ⟨v, IB', IM', eB, eM, hR'⟩ := op_partner LstOK_fr hR (xs (nI i + (1 : Int32)).toNatClampNeg) (xs (nI i + (2 : Int32)).toNatClampNeg)
  refine lv_aload_n hx hb dL_law_330 rfl (lv_at hl 1 rfl) ?_
  refine lv_aload_n hx hb dL_law_331 rfl (lv_at hl 0 rfl) ?_
  refine lv_iload_n hx hb dL_law_332 rfl (lv_at hl 3 rfl) ?_
  refine lv_iconst (v := (1 : Int32)) hx hb dL_law_333 (by decide) ?_
  refine lv_iadd hx hb dL_law_334 ?_
  refine va_sld hx hb hX hbl hbA hS h_1 dL_law_335 ?_
  refine lv_aload_n hx hb dL_law_336 rfl (lv_at hl 0 rfl) ?_
  refine lv_iload_n hx hb dL_law_337 rfl (lv_at hl 3 rfl) ?_
  refine lv_iconst (v := (2 : Int32)) hx hb dL_law_338 (by decide) ?_
  refine lv_iadd hx hb dL_law_339 ?_
  refine va_sld hx hb hX hbl hbA hS h_2 dL_law_340 ?_
  refine xLi (rest := []) (c_X8_partner l dC dI aB cI cJ cT (xs (nI i + (1 : Int32)).toNatClampNeg) (xs (nI i + (2 : Int32)).toNatClampNeg) IB JB eB) hfix (cwV 2 hts gL_law_X8_partner rfl rfl rfl (by decide +kernel) ⟨Nat.le_of_ble_eq_true rfl, Nat.le_of_ble_eq_true rfl⟩) hK hPB hDB hPM hap hS hA (va_recv hK hPB (ci := 7) (q0 := 38) rfl (obB_38 aB cI cJ cT IB JB)) rfl hl.1 rfl (Nat.le_of_ble_eq_true rfl) ⟨Nat.le_of_ble_eq_true rfl, Nat.le_of_ble_eq_true rfl⟩ dL_law_341 (fun H locs hPB hDB hPM hap hS => ?_)
  refine lv_aload_n hx hb dL_law_344 rfl (lv_at hl 2 rfl) ?_
  refine lv_aload_n hx hb dL_law_345 rfl (lv_at hl 0 rfl) ?_
  refine lv_iload_n hx hb dL_law_346 rfl (lv_at hl 3 rfl) ?_
  refine lv_iconst (v := (1 : Int32)) hx hb dL_law_347 (by decide) ?_
  refine lv_iadd hx hb dL_law_348 ?_
  refine va_sld hx hb hX hbl hbA hS h_1 dL_law_349 ?_
  refine lv_aload_n hx hb dL_law_350 rfl (lv_at hl 0 rfl) ?_
  refine lv_iload_n hx hb dL_law_351 rfl (lv_at hl 3 rfl) ?_
  refine lv_iconst (v := (2 : Int32)) hx hb dL_law_352 (by decide) ?_
  refine lv_iadd hx hb dL_law_353 ?_
  refine va_sld hx hb hX hbl hbA hS h_2 dL_law_354 ?_
  refine xLi (rest := [.int v]) (c_X9_partner l dC dI aM cI cJ cT (xs (nI i + (1 : Int32)).toNatClampNeg) (xs (nI i + (2 : Int32)).toNatClampNeg) IM JM eM) hfix (cwV 2 hts gL_law_X9_partner rfl rfl rfl (by decide +kernel) ⟨Nat.le_of_ble_eq_true rfl, Nat.le_of_ble_eq_true rfl⟩) hK hPM hDM hPB hap.sm hS hA (va_recv hK hPM (ci := 8) (q0 := 13) rfl (obM_13 aM cI cJ IM JM)) rfl hl.1 rfl (Nat.le_of_ble_eq_true rfl) ⟨Nat.le_of_ble_eq_true rfl, Nat.le_of_ble_eq_true rfl⟩ dL_law_355 (fun H locs hPM hDM hPB hap hS => ?_)
  exact lv_icmp_eq (tgt := 1056) hx hb dL_law_358 (by decide) (fun _ => kk IB' JB IM' JM H locs ⟨hR', hPB, hDB, hPM, hDM, hap.sm, hS⟩) (fun c9 => absurd rfl c9)
set_option maxHeartbeats 4000000 in
theorem law_copy {i : Nat} (hi : i + 6 ≤ L) {IB : SI} {JB : SJ} {IM : SI} {JM : SJ} {H : Heap} {locs : List Loc} {ls : Array Slot} (hl : lv_has ls 4 [(0, .ref b), (1, .ref (aB 38)), (2, .ref (aM 13)), (3, .int (nI i))]) (S : LI s (dC, dI) cI cJ cT aB aM IB JB IM JM H locs) (F : LFx p s m c (dC, dI) cI cJ cT pt b L xs)
    (kk : ∀ (IB : SI) (JB : SJ) (IM : SI) (JM : SJ) (H : Heap) (locs : List Loc), LI s (dC, dI) cI cJ cT aB aM IB JB IM JM H locs → W p l e room_1 s m #[Value.ref b] below meth c H locs 53 3544 Q (F0 m 1056 ls [])) : W p l e room_1 s m #[Value.ref b] below meth c H locs 53 3544 Q (F0 m 363 ls []) := by
  obtain ⟨hx, hb, hfix, hts, hX, hbl, hK, hpr, hL⟩ := F
  obtain ⟨hR, hPB, hDB, hPM, hDM, hap, hS⟩ := S
  have hA : ∀ q : Nat, s.heap.size ≤ q → lwA s q := fun _ h => h
  have hbA : ¬ lwA s b := Nat.not_le.mpr hbl
  have h_1 : vp_in (nI i + (1 : Int32)) L := in_i (a := 1) (by omega) hL
  have h_2 : vp_in (nI i + (2 : Int32)) L := in_i (a := 2) (by omega) hL
  obtain ⟨v, IB', IM', eB, eM, hR'⟩ := op_copy LstOK_fr hR (xs (nI i + (1 : Int32)).toNatClampNeg) (xs (nI i + (2 : Int32)).toNatClampNeg)
  refine lv_aload_n hx hb dL_law_363 rfl (lv_at hl 1 rfl) ?_
  refine lv_aload_n hx hb dL_law_364 rfl (lv_at hl 0 rfl) ?_
  refine lv_iload_n hx hb dL_law_365 rfl (lv_at hl 3 rfl) ?_
  refine lv_iconst (v := (1 : Int32)) hx hb dL_law_366 (by decide) ?_
  refine lv_iadd hx hb dL_law_367 ?_
  refine va_sld hx hb hX hbl hbA hS h_1 dL_law_368 ?_
  refine lv_aload_n hx hb dL_law_369 rfl (lv_at hl 0 rfl) ?_
  refine lv_iload_n hx hb dL_law_370 rfl (lv_at hl 3 rfl) ?_
  refine lv_iconst (v := (2 : Int32)) hx hb dL_law_371 (by decide) ?_
  refine lv_iadd hx hb dL_law_372 ?_
  refine va_sld hx hb hX hbl hbA hS h_2 dL_law_373 ?_
  refine xLi (rest := []) (c_X8_copy l dC dI aB cI cJ cT (xs (nI i + (1 : Int32)).toNatClampNeg) (xs (nI i + (2 : Int32)).toNatClampNeg) IB JB eB) hfix (cwV 2 hts gL_law_X8_copy rfl rfl rfl (by decide +kernel) ⟨Nat.le_of_ble_eq_true rfl, Nat.le_of_ble_eq_true rfl⟩) hK hPB hDB hPM hap hS hA (va_recv hK hPB (ci := 7) (q0 := 38) rfl (obB_38 aB cI cJ cT IB JB)) rfl hl.1 rfl (Nat.le_of_ble_eq_true rfl) ⟨Nat.le_of_ble_eq_true rfl, Nat.le_of_ble_eq_true rfl⟩ dL_law_374 (fun H locs hPB hDB hPM hap hS => ?_)
  refine lv_aload_n hx hb dL_law_377 rfl (lv_at hl 2 rfl) ?_
  refine lv_aload_n hx hb dL_law_378 rfl (lv_at hl 0 rfl) ?_
  refine lv_iload_n hx hb dL_law_379 rfl (lv_at hl 3 rfl) ?_
  refine lv_iconst (v := (1 : Int32)) hx hb dL_law_380 (by decide) ?_
  refine lv_iadd hx hb dL_law_381 ?_
  refine va_sld hx hb hX hbl hbA hS h_1 dL_law_382 ?_
  refine lv_aload_n hx hb dL_law_383 rfl (lv_at hl 0 rfl) ?_
  refine lv_iload_n hx hb dL_law_384 rfl (lv_at hl 3 rfl) ?_
  refine lv_iconst (v := (2 : Int32)) hx hb dL_law_385 (by decide) ?_
  refine lv_iadd hx hb dL_law_386 ?_
  refine va_sld hx hb hX hbl hbA hS h_2 dL_law_387 ?_
  refine xLi (rest := [.int v]) (c_X9_copy l dC dI aM cI cJ cT (xs (nI i + (1 : Int32)).toNatClampNeg) (xs (nI i + (2 : Int32)).toNatClampNeg) IM JM eM) hfix (cwV 2 hts gL_law_X9_copy rfl rfl rfl (by decide +kernel) ⟨Nat.le_of_ble_eq_true rfl, Nat.le_of_ble_eq_true rfl⟩) hK hPM hDM hPB hap.sm hS hA (va_recv hK hPM (ci := 8) (q0 := 13) rfl (obM_13 aM cI cJ IM JM)) rfl hl.1 rfl (Nat.le_of_ble_eq_true rfl) ⟨Nat.le_of_ble_eq_true rfl, Nat.le_of_ble_eq_true rfl⟩ dL_law_388 (fun H locs hPM hDM hPB hap hS => ?_)
  exact lv_icmp_eq (tgt := 1056) hx hb dL_law_391 (by decide) (fun _ => kk IB' JB IM' JM H locs ⟨hR', hPB, hDB, hPM, hDM, hap.sm, hS⟩) (fun c9 => absurd rfl c9)
set_option maxHeartbeats 4000000 in
theorem law_group {i : Nat} (hi : i + 6 ≤ L) {IB : SI} {JB : SJ} {IM : SI} {JM : SJ} {H : Heap} {locs : List Loc} {ls : Array Slot} (hl : lv_has ls 4 [(0, .ref b), (1, .ref (aB 38)), (2, .ref (aM 13)), (3, .int (nI i))]) (S : LI s (dC, dI) cI cJ cT aB aM IB JB IM JM H locs) (F : LFx p s m c (dC, dI) cI cJ cT pt b L xs)
    (kk : ∀ (IB : SI) (JB : SJ) (IM : SI) (JM : SJ) (H : Heap) (locs : List Loc), LI s (dC, dI) cI cJ cT aB aM IB JB IM JM H locs → W p l e room_1 s m #[Value.ref b] below meth c H locs 53 3544 Q (F0 m 1056 ls [])) : W p l e room_1 s m #[Value.ref b] below meth c H locs 53 3544 Q (F0 m 396 ls []) := by
  obtain ⟨hx, hb, hfix, hts, hX, hbl, hK, hpr, hL⟩ := F
  obtain ⟨hR, hPB, hDB, hPM, hDM, hap, hS⟩ := S
  have hA : ∀ q : Nat, s.heap.size ≤ q → lwA s q := fun _ h => h
  have hbA : ¬ lwA s b := Nat.not_le.mpr hbl
  have h_1 : vp_in (nI i + (1 : Int32)) L := in_i (a := 1) (by omega) hL
  have h_2 : vp_in (nI i + (2 : Int32)) L := in_i (a := 2) (by omega) hL
  obtain ⟨v, IB', IM', eB, eM, hR'⟩ := op_group LstOK_fr hR (xs (nI i + (1 : Int32)).toNatClampNeg) (xs (nI i + (2 : Int32)).toNatClampNeg)
  refine lv_aload_n hx hb dL_law_396 rfl (lv_at hl 1 rfl) ?_
  refine lv_aload_n hx hb dL_law_397 rfl (lv_at hl 0 rfl) ?_
  refine lv_iload_n hx hb dL_law_398 rfl (lv_at hl 3 rfl) ?_
  refine lv_iconst (v := (1 : Int32)) hx hb dL_law_399 (by decide) ?_
  refine lv_iadd hx hb dL_law_400 ?_
  refine va_sld hx hb hX hbl hbA hS h_1 dL_law_401 ?_
  refine lv_aload_n hx hb dL_law_402 rfl (lv_at hl 0 rfl) ?_
  refine lv_iload_n hx hb dL_law_403 rfl (lv_at hl 3 rfl) ?_
  refine lv_iconst (v := (2 : Int32)) hx hb dL_law_404 (by decide) ?_
  refine lv_iadd hx hb dL_law_405 ?_
  refine va_sld hx hb hX hbl hbA hS h_2 dL_law_406 ?_
  refine xLi (rest := []) (c_X8_group l dC dI aB cI cJ cT (xs (nI i + (1 : Int32)).toNatClampNeg) (xs (nI i + (2 : Int32)).toNatClampNeg) IB JB eB) hfix (cwV 2 hts gL_law_X8_group rfl rfl rfl (by decide +kernel) ⟨Nat.le_of_ble_eq_true rfl, Nat.le_of_ble_eq_true rfl⟩) hK hPB hDB hPM hap hS hA (va_recv hK hPB (ci := 7) (q0 := 38) rfl (obB_38 aB cI cJ cT IB JB)) rfl hl.1 rfl (Nat.le_of_ble_eq_true rfl) ⟨Nat.le_of_ble_eq_true rfl, Nat.le_of_ble_eq_true rfl⟩ dL_law_407 (fun H locs hPB hDB hPM hap hS => ?_)
  refine lv_aload_n hx hb dL_law_410 rfl (lv_at hl 2 rfl) ?_
  refine lv_aload_n hx hb dL_law_411 rfl (lv_at hl 0 rfl) ?_
  refine lv_iload_n hx hb dL_law_412 rfl (lv_at hl 3 rfl) ?_
  refine lv_iconst (v := (1 : Int32)) hx hb dL_law_413 (by decide) ?_
  refine lv_iadd hx hb dL_law_414 ?_
  refine va_sld hx hb hX hbl hbA hS h_1 dL_law_415 ?_
  refine lv_aload_n hx hb dL_law_416 rfl (lv_at hl 0 rfl) ?_
  refine lv_iload_n hx hb dL_law_417 rfl (lv_at hl 3 rfl) ?_
  refine lv_iconst (v := (2 : Int32)) hx hb dL_law_418 (by decide) ?_
  refine lv_iadd hx hb dL_law_419 ?_
  refine va_sld hx hb hX hbl hbA hS h_2 dL_law_420 ?_
  refine xLi (rest := [.int v]) (c_X9_group l dC dI aM cI cJ cT (xs (nI i + (1 : Int32)).toNatClampNeg) (xs (nI i + (2 : Int32)).toNatClampNeg) IM JM eM) hfix (cwV 2 hts gL_law_X9_group rfl rfl rfl (by decide +kernel) ⟨Nat.le_of_ble_eq_true rfl, Nat.le_of_ble_eq_true rfl⟩) hK hPM hDM hPB hap.sm hS hA (va_recv hK hPM (ci := 8) (q0 := 13) rfl (obM_13 aM cI cJ IM JM)) rfl hl.1 rfl (Nat.le_of_ble_eq_true rfl) ⟨Nat.le_of_ble_eq_true rfl, Nat.le_of_ble_eq_true rfl⟩ dL_law_421 (fun H locs hPM hDM hPB hap hS => ?_)
  exact lv_icmp_eq (tgt := 1056) hx hb dL_law_424 (by decide) (fun _ => kk IB' JB IM' JM H locs ⟨hR', hPB, hDB, hPM, hDM, hap.sm, hS⟩) (fun c9 => absurd rfl c9)
set_option maxHeartbeats 4000000 in
theorem law_near {i : Nat} (hi : i + 6 ≤ L) {IB : SI} {JB : SJ} {IM : SI} {JM : SJ} {H : Heap} {locs : List Loc} {ls : Array Slot} (hl : lv_has ls 4 [(0, .ref b), (1, .ref (aB 38)), (2, .ref (aM 13)), (3, .int (nI i))]) (S : LI s (dC, dI) cI cJ cT aB aM IB JB IM JM H locs) (F : LFx p s m c (dC, dI) cI cJ cT pt b L xs)
    (kk : ∀ (IB : SI) (JB : SJ) (IM : SI) (JM : SJ) (H : Heap) (locs : List Loc), LI s (dC, dI) cI cJ cT aB aM IB JB IM JM H locs → W p l e room_1 s m #[Value.ref b] below meth c H locs 53 3544 Q (F0 m 1056 ls [])) : W p l e room_1 s m #[Value.ref b] below meth c H locs 53 3544 Q (F0 m 429 ls []) := by
  obtain ⟨hx, hb, hfix, hts, hX, hbl, hK, hpr, hL⟩ := F
  obtain ⟨hR, hPB, hDB, hPM, hDM, hap, hS⟩ := S
  have hA : ∀ q : Nat, s.heap.size ≤ q → lwA s q := fun _ h => h
  have hbA : ¬ lwA s b := Nat.not_le.mpr hbl
  have h_1 : vp_in (nI i + (1 : Int32)) L := in_i (a := 1) (by omega) hL
  have h_2 : vp_in (nI i + (2 : Int32)) L := in_i (a := 2) (by omega) hL
  have h_3 : vp_in (nI i + (3 : Int32)) L := in_i (a := 3) (by omega) hL
  obtain ⟨v, IB', IM', eB, eM, hR'⟩ := op_near LstOK_fr hR (xs (nI i + (1 : Int32)).toNatClampNeg) (xs (nI i + (2 : Int32)).toNatClampNeg) (xs (nI i + (3 : Int32)).toNatClampNeg)
  refine lv_aload_n hx hb dL_law_429 rfl (lv_at hl 1 rfl) ?_
  refine lv_aload_n hx hb dL_law_430 rfl (lv_at hl 0 rfl) ?_
  refine lv_iload_n hx hb dL_law_431 rfl (lv_at hl 3 rfl) ?_
  refine lv_iconst (v := (1 : Int32)) hx hb dL_law_432 (by decide) ?_
  refine lv_iadd hx hb dL_law_433 ?_
  refine va_sld hx hb hX hbl hbA hS h_1 dL_law_434 ?_
  refine lv_aload_n hx hb dL_law_435 rfl (lv_at hl 0 rfl) ?_
  refine lv_iload_n hx hb dL_law_436 rfl (lv_at hl 3 rfl) ?_
  refine lv_iconst (v := (2 : Int32)) hx hb dL_law_437 (by decide) ?_
  refine lv_iadd hx hb dL_law_438 ?_
  refine va_sld hx hb hX hbl hbA hS h_2 dL_law_439 ?_
  refine lv_aload_n hx hb dL_law_440 rfl (lv_at hl 0 rfl) ?_
  refine lv_iload_n hx hb dL_law_441 rfl (lv_at hl 3 rfl) ?_
  refine lv_iconst (v := (3 : Int32)) hx hb dL_law_442 (by decide) ?_
  refine lv_iadd hx hb dL_law_443 ?_
  refine va_sld hx hb hX hbl hbA hS h_3 dL_law_444 ?_
  refine xLi (rest := []) (c_X8_near l dC dI aB cI cJ cT (xs (nI i + (1 : Int32)).toNatClampNeg) (xs (nI i + (2 : Int32)).toNatClampNeg) (xs (nI i + (3 : Int32)).toNatClampNeg) IB JB eB) hfix (cwV 3 hts gL_law_X8_near rfl rfl rfl (by decide +kernel) ⟨Nat.le_of_ble_eq_true rfl, Nat.le_of_ble_eq_true rfl⟩) hK hPB hDB hPM hap hS hA (va_recv hK hPB (ci := 7) (q0 := 38) rfl (obB_38 aB cI cJ cT IB JB)) rfl hl.1 rfl (Nat.le_of_ble_eq_true rfl) ⟨Nat.le_of_ble_eq_true rfl, Nat.le_of_ble_eq_true rfl⟩ dL_law_445 (fun H locs hPB hDB hPM hap hS => ?_)
  refine lv_aload_n hx hb dL_law_448 rfl (lv_at hl 2 rfl) ?_
  refine lv_aload_n hx hb dL_law_449 rfl (lv_at hl 0 rfl) ?_
  refine lv_iload_n hx hb dL_law_450 rfl (lv_at hl 3 rfl) ?_
  refine lv_iconst (v := (1 : Int32)) hx hb dL_law_451 (by decide) ?_
  refine lv_iadd hx hb dL_law_452 ?_
  refine va_sld hx hb hX hbl hbA hS h_1 dL_law_453 ?_
  refine lv_aload_n hx hb dL_law_454 rfl (lv_at hl 0 rfl) ?_
  refine lv_iload_n hx hb dL_law_455 rfl (lv_at hl 3 rfl) ?_
  refine lv_iconst (v := (2 : Int32)) hx hb dL_law_456 (by decide) ?_
  refine lv_iadd hx hb dL_law_457 ?_
  refine va_sld hx hb hX hbl hbA hS h_2 dL_law_458 ?_
  refine lv_aload_n hx hb dL_law_459 rfl (lv_at hl 0 rfl) ?_
  refine lv_iload_n hx hb dL_law_460 rfl (lv_at hl 3 rfl) ?_
  refine lv_iconst (v := (3 : Int32)) hx hb dL_law_461 (by decide) ?_
  refine lv_iadd hx hb dL_law_462 ?_
  refine va_sld hx hb hX hbl hbA hS h_3 dL_law_463 ?_
  refine xLi (rest := [.int v]) (c_X9_near l dC dI aM cI cJ cT (xs (nI i + (1 : Int32)).toNatClampNeg) (xs (nI i + (2 : Int32)).toNatClampNeg) (xs (nI i + (3 : Int32)).toNatClampNeg) IM JM eM) hfix (cwV 3 hts gL_law_X9_near rfl rfl rfl (by decide +kernel) ⟨Nat.le_of_ble_eq_true rfl, Nat.le_of_ble_eq_true rfl⟩) hK hPM hDM hPB hap.sm hS hA (va_recv hK hPM (ci := 8) (q0 := 13) rfl (obM_13 aM cI cJ IM JM)) rfl hl.1 rfl (Nat.le_of_ble_eq_true rfl) ⟨Nat.le_of_ble_eq_true rfl, Nat.le_of_ble_eq_true rfl⟩ dL_law_464 (fun H locs hPM hDM hPB hap hS => ?_)
  exact lv_icmp_eq (tgt := 1056) hx hb dL_law_467 (by decide) (fun _ => kk IB' JB IM' JM H locs ⟨hR', hPB, hDB, hPM, hDM, hap.sm, hS⟩) (fun c9 => absurd rfl c9)
set_option maxHeartbeats 4000000 in
theorem law_together {i : Nat} (hi : i + 6 ≤ L) {IB : SI} {JB : SJ} {IM : SI} {JM : SJ} {H : Heap} {locs : List Loc} {ls : Array Slot} (hl : lv_has ls 4 [(0, .ref b), (1, .ref (aB 38)), (2, .ref (aM 13)), (3, .int (nI i))]) (S : LI s (dC, dI) cI cJ cT aB aM IB JB IM JM H locs) (F : LFx p s m c (dC, dI) cI cJ cT pt b L xs)
    (kk : ∀ (IB : SI) (JB : SJ) (IM : SI) (JM : SJ) (H : Heap) (locs : List Loc), LI s (dC, dI) cI cJ cT aB aM IB JB IM JM H locs → W p l e room_1 s m #[Value.ref b] below meth c H locs 53 3544 Q (F0 m 1056 ls [])) : W p l e room_1 s m #[Value.ref b] below meth c H locs 53 3544 Q (F0 m 472 ls []) := by
  obtain ⟨hx, hb, hfix, hts, hX, hbl, hK, hpr, hL⟩ := F
  obtain ⟨hR, hPB, hDB, hPM, hDM, hap, hS⟩ := S
  have hA : ∀ q : Nat, s.heap.size ≤ q → lwA s q := fun _ h => h
  have hbA : ¬ lwA s b := Nat.not_le.mpr hbl
  have h_1 : vp_in (nI i + (1 : Int32)) L := in_i (a := 1) (by omega) hL
  have h_2 : vp_in (nI i + (2 : Int32)) L := in_i (a := 2) (by omega) hL
  have h_3 : vp_in (nI i + (3 : Int32)) L := in_i (a := 3) (by omega) hL
  obtain ⟨v, IB', IM', eB, eM, hR'⟩ := op_together LstOK_fr hR (xs (nI i + (1 : Int32)).toNatClampNeg) (xs (nI i + (2 : Int32)).toNatClampNeg) (xs (nI i + (3 : Int32)).toNatClampNeg)
  refine lv_aload_n hx hb dL_law_472 rfl (lv_at hl 1 rfl) ?_
  refine lv_aload_n hx hb dL_law_473 rfl (lv_at hl 0 rfl) ?_
  refine lv_iload_n hx hb dL_law_474 rfl (lv_at hl 3 rfl) ?_
  refine lv_iconst (v := (1 : Int32)) hx hb dL_law_475 (by decide) ?_
  refine lv_iadd hx hb dL_law_476 ?_
  refine va_sld hx hb hX hbl hbA hS h_1 dL_law_477 ?_
  refine lv_aload_n hx hb dL_law_478 rfl (lv_at hl 0 rfl) ?_
  refine lv_iload_n hx hb dL_law_479 rfl (lv_at hl 3 rfl) ?_
  refine lv_iconst (v := (2 : Int32)) hx hb dL_law_480 (by decide) ?_
  refine lv_iadd hx hb dL_law_481 ?_
  refine va_sld hx hb hX hbl hbA hS h_2 dL_law_482 ?_
  refine lv_aload_n hx hb dL_law_483 rfl (lv_at hl 0 rfl) ?_
  refine lv_iload_n hx hb dL_law_484 rfl (lv_at hl 3 rfl) ?_
  refine lv_iconst (v := (3 : Int32)) hx hb dL_law_485 (by decide) ?_
  refine lv_iadd hx hb dL_law_486 ?_
  refine va_sld hx hb hX hbl hbA hS h_3 dL_law_487 ?_
  refine xLi (rest := []) (c_X8_together l dC dI aB cI cJ cT (xs (nI i + (1 : Int32)).toNatClampNeg) (xs (nI i + (2 : Int32)).toNatClampNeg) (xs (nI i + (3 : Int32)).toNatClampNeg) IB JB eB) hfix (cwV 3 hts gL_law_X8_together rfl rfl rfl (by decide +kernel) ⟨Nat.le_of_ble_eq_true rfl, Nat.le_of_ble_eq_true rfl⟩) hK hPB hDB hPM hap hS hA (va_recv hK hPB (ci := 7) (q0 := 38) rfl (obB_38 aB cI cJ cT IB JB)) rfl hl.1 rfl (Nat.le_of_ble_eq_true rfl) ⟨Nat.le_of_ble_eq_true rfl, Nat.le_of_ble_eq_true rfl⟩ dL_law_488 (fun H locs hPB hDB hPM hap hS => ?_)
  refine lv_aload_n hx hb dL_law_491 rfl (lv_at hl 2 rfl) ?_
  refine lv_aload_n hx hb dL_law_492 rfl (lv_at hl 0 rfl) ?_
  refine lv_iload_n hx hb dL_law_493 rfl (lv_at hl 3 rfl) ?_
  refine lv_iconst (v := (1 : Int32)) hx hb dL_law_494 (by decide) ?_
  refine lv_iadd hx hb dL_law_495 ?_
  refine va_sld hx hb hX hbl hbA hS h_1 dL_law_496 ?_
  refine lv_aload_n hx hb dL_law_497 rfl (lv_at hl 0 rfl) ?_
  refine lv_iload_n hx hb dL_law_498 rfl (lv_at hl 3 rfl) ?_
  refine lv_iconst (v := (2 : Int32)) hx hb dL_law_499 (by decide) ?_
  refine lv_iadd hx hb dL_law_500 ?_
  refine va_sld hx hb hX hbl hbA hS h_2 dL_law_501 ?_
  refine lv_aload_n hx hb dL_law_502 rfl (lv_at hl 0 rfl) ?_
  refine lv_iload_n hx hb dL_law_503 rfl (lv_at hl 3 rfl) ?_
  refine lv_iconst (v := (3 : Int32)) hx hb dL_law_504 (by decide) ?_
  refine lv_iadd hx hb dL_law_505 ?_
  refine va_sld hx hb hX hbl hbA hS h_3 dL_law_506 ?_
  refine xLi (rest := [.int v]) (c_X9_together l dC dI aM cI cJ cT (xs (nI i + (1 : Int32)).toNatClampNeg) (xs (nI i + (2 : Int32)).toNatClampNeg) (xs (nI i + (3 : Int32)).toNatClampNeg) IM JM eM) hfix (cwV 3 hts gL_law_X9_together rfl rfl rfl (by decide +kernel) ⟨Nat.le_of_ble_eq_true rfl, Nat.le_of_ble_eq_true rfl⟩) hK hPM hDM hPB hap.sm hS hA (va_recv hK hPM (ci := 8) (q0 := 13) rfl (obM_13 aM cI cJ IM JM)) rfl hl.1 rfl (Nat.le_of_ble_eq_true rfl) ⟨Nat.le_of_ble_eq_true rfl, Nat.le_of_ble_eq_true rfl⟩ dL_law_507 (fun H locs hPM hDM hPB hap hS => ?_)
  exact lv_icmp_eq (tgt := 1056) hx hb dL_law_510 (by decide) (fun _ => kk IB' JB IM' JM H locs ⟨hR', hPB, hDB, hPM, hDM, hap.sm, hS⟩) (fun c9 => absurd rfl c9)
set_option maxHeartbeats 4000000 in
theorem law_list {i : Nat} (hi : i + 6 ≤ L) {IB : SI} {JB : SJ} {IM : SI} {JM : SJ} {H : Heap} {locs : List Loc} {ls : Array Slot} (hl : lv_has ls 4 [(0, .ref b), (1, .ref (aB 38)), (2, .ref (aM 13)), (3, .int (nI i))]) (S : LI s (dC, dI) cI cJ cT aB aM IB JB IM JM H locs) (F : LFx p s m c (dC, dI) cI cJ cT pt b L xs)
    (kk : ∀ (IB : SI) (JB : SJ) (IM : SI) (JM : SJ) (H : Heap) (locs : List Loc), LI s (dC, dI) cI cJ cT aB aM IB JB IM JM H locs → W p l e room_1 s m #[Value.ref b] below meth c H locs 53 3544 Q (F0 m 1056 ls [])) : W p l e room_1 s m #[Value.ref b] below meth c H locs 53 3544 Q (F0 m 515 ls []) := by
  obtain ⟨hx, hb, hfix, hts, hX, hbl, hK, hpr, hL⟩ := F
  obtain ⟨hR, hPB, hDB, hPM, hDM, hap, hS⟩ := S
  have hA : ∀ q : Nat, s.heap.size ≤ q → lwA s q := fun _ h => h
  have hbA : ¬ lwA s b := Nat.not_le.mpr hbl
  have h_1 : vp_in (nI i + (1 : Int32)) L := in_i (a := 1) (by omega) hL
  have h_2 : vp_in (nI i + (2 : Int32)) L := in_i (a := 2) (by omega) hL
  have h_3 : vp_in (nI i + (3 : Int32)) L := in_i (a := 3) (by omega) hL
  obtain ⟨v, IB', IM', eB, eM, hR'⟩ := op_list hR (xs (nI i + (1 : Int32)).toNatClampNeg) (xs (nI i + (2 : Int32)).toNatClampNeg) (xs (nI i + (3 : Int32)).toNatClampNeg)
  refine lv_aload_n hx hb dL_law_515 rfl (lv_at hl 1 rfl) ?_
  refine lv_aload_n hx hb dL_law_516 rfl (lv_at hl 0 rfl) ?_
  refine lv_iload_n hx hb dL_law_517 rfl (lv_at hl 3 rfl) ?_
  refine lv_iconst (v := (1 : Int32)) hx hb dL_law_518 (by decide) ?_
  refine lv_iadd hx hb dL_law_519 ?_
  refine va_sld hx hb hX hbl hbA hS h_1 dL_law_520 ?_
  refine lv_aload_n hx hb dL_law_521 rfl (lv_at hl 0 rfl) ?_
  refine lv_iload_n hx hb dL_law_522 rfl (lv_at hl 3 rfl) ?_
  refine lv_iconst (v := (2 : Int32)) hx hb dL_law_523 (by decide) ?_
  refine lv_iadd hx hb dL_law_524 ?_
  refine va_sld hx hb hX hbl hbA hS h_2 dL_law_525 ?_
  refine lv_aload_n hx hb dL_law_526 rfl (lv_at hl 0 rfl) ?_
  refine lv_iload_n hx hb dL_law_527 rfl (lv_at hl 3 rfl) ?_
  refine lv_iconst (v := (3 : Int32)) hx hb dL_law_528 (by decide) ?_
  refine lv_iadd hx hb dL_law_529 ?_
  refine va_sld hx hb hX hbl hbA hS h_3 dL_law_530 ?_
  refine xLi (rest := []) (c_X8_list l dC dI aB cI cJ cT (xs (nI i + (1 : Int32)).toNatClampNeg) (xs (nI i + (2 : Int32)).toNatClampNeg) (xs (nI i + (3 : Int32)).toNatClampNeg) IB JB eB) hfix (cwV 3 hts gL_law_X8_list rfl rfl rfl (by decide +kernel) ⟨Nat.le_of_ble_eq_true rfl, Nat.le_of_ble_eq_true rfl⟩) hK hPB hDB hPM hap hS hA (va_recv hK hPB (ci := 7) (q0 := 38) rfl (obB_38 aB cI cJ cT IB JB)) rfl hl.1 rfl (Nat.le_of_ble_eq_true rfl) ⟨Nat.le_of_ble_eq_true rfl, Nat.le_of_ble_eq_true rfl⟩ dL_law_531 (fun H locs hPB hDB hPM hap hS => ?_)
  refine lv_aload_n hx hb dL_law_534 rfl (lv_at hl 2 rfl) ?_
  refine lv_aload_n hx hb dL_law_535 rfl (lv_at hl 0 rfl) ?_
  refine lv_iload_n hx hb dL_law_536 rfl (lv_at hl 3 rfl) ?_
  refine lv_iconst (v := (1 : Int32)) hx hb dL_law_537 (by decide) ?_
  refine lv_iadd hx hb dL_law_538 ?_
  refine va_sld hx hb hX hbl hbA hS h_1 dL_law_539 ?_
  refine lv_aload_n hx hb dL_law_540 rfl (lv_at hl 0 rfl) ?_
  refine lv_iload_n hx hb dL_law_541 rfl (lv_at hl 3 rfl) ?_
  refine lv_iconst (v := (2 : Int32)) hx hb dL_law_542 (by decide) ?_
  refine lv_iadd hx hb dL_law_543 ?_
  refine va_sld hx hb hX hbl hbA hS h_2 dL_law_544 ?_
  refine lv_aload_n hx hb dL_law_545 rfl (lv_at hl 0 rfl) ?_
  refine lv_iload_n hx hb dL_law_546 rfl (lv_at hl 3 rfl) ?_
  refine lv_iconst (v := (3 : Int32)) hx hb dL_law_547 (by decide) ?_
  refine lv_iadd hx hb dL_law_548 ?_
  refine va_sld hx hb hX hbl hbA hS h_3 dL_law_549 ?_
  refine xLi (rest := [.int v]) (c_X9_list l dC dI aM cI cJ cT (xs (nI i + (1 : Int32)).toNatClampNeg) (xs (nI i + (2 : Int32)).toNatClampNeg) (xs (nI i + (3 : Int32)).toNatClampNeg) IM JM eM) hfix (cwV 3 hts gL_law_X9_list rfl rfl rfl (by decide +kernel) ⟨Nat.le_of_ble_eq_true rfl, Nat.le_of_ble_eq_true rfl⟩) hK hPM hDM hPB hap.sm hS hA (va_recv hK hPM (ci := 8) (q0 := 13) rfl (obM_13 aM cI cJ IM JM)) rfl hl.1 rfl (Nat.le_of_ble_eq_true rfl) ⟨Nat.le_of_ble_eq_true rfl, Nat.le_of_ble_eq_true rfl⟩ dL_law_550 (fun H locs hPM hDM hPB hap hS => ?_)
  exact lv_icmp_eq (tgt := 1056) hx hb dL_law_553 (by decide) (fun _ => kk IB' JB IM' JM H locs ⟨hR', hPB, hDB, hPM, hDM, hap.sm, hS⟩) (fun c9 => absurd rfl c9)
set_option maxHeartbeats 4000000 in
theorem law_take {i : Nat} (hi : i + 6 ≤ L) {IB : SI} {JB : SJ} {IM : SI} {JM : SJ} {H : Heap} {locs : List Loc} {ls : Array Slot} (hl : lv_has ls 4 [(0, .ref b), (1, .ref (aB 38)), (2, .ref (aM 13)), (3, .int (nI i))]) (S : LI s (dC, dI) cI cJ cT aB aM IB JB IM JM H locs) (F : LFx p s m c (dC, dI) cI cJ cT pt b L xs)
    (kk : ∀ (IB : SI) (JB : SJ) (IM : SI) (JM : SJ) (H : Heap) (locs : List Loc), LI s (dC, dI) cI cJ cT aB aM IB JB IM JM H locs → W p l e room_1 s m #[Value.ref b] below meth c H locs 53 3544 Q (F0 m 1056 ls [])) : W p l e room_1 s m #[Value.ref b] below meth c H locs 53 3544 Q (F0 m 558 ls []) := by
  obtain ⟨hx, hb, hfix, hts, hX, hbl, hK, hpr, hL⟩ := F
  obtain ⟨hR, hPB, hDB, hPM, hDM, hap, hS⟩ := S
  have hA : ∀ q : Nat, s.heap.size ≤ q → lwA s q := fun _ h => h
  have hbA : ¬ lwA s b := Nat.not_le.mpr hbl
  have h_1 : vp_in (nI i + (1 : Int32)) L := in_i (a := 1) (by omega) hL
  have h_2 : vp_in (nI i + (2 : Int32)) L := in_i (a := 2) (by omega) hL
  have h_3 : vp_in (nI i + (3 : Int32)) L := in_i (a := 3) (by omega) hL
  have h_4 : vp_in (nI i + (4 : Int32)) L := in_i (a := 4) (by omega) hL
  have h_5 : vp_in (nI i + (5 : Int32)) L := in_i (a := 5) (by omega) hL
  obtain ⟨v, IB', IM', eB, eM, hR'⟩ := op_take hR (xs (nI i + (1 : Int32)).toNatClampNeg) (xs (nI i + (2 : Int32)).toNatClampNeg) (xs (nI i + (3 : Int32)).toNatClampNeg) (xs (nI i + (4 : Int32)).toNatClampNeg) (xs (nI i + (5 : Int32)).toNatClampNeg)
  refine lv_aload_n hx hb dL_law_558 rfl (lv_at hl 1 rfl) ?_
  refine lv_aload_n hx hb dL_law_559 rfl (lv_at hl 0 rfl) ?_
  refine lv_iload_n hx hb dL_law_560 rfl (lv_at hl 3 rfl) ?_
  refine lv_iconst (v := (1 : Int32)) hx hb dL_law_561 (by decide) ?_
  refine lv_iadd hx hb dL_law_562 ?_
  refine va_sld hx hb hX hbl hbA hS h_1 dL_law_563 ?_
  refine lv_aload_n hx hb dL_law_564 rfl (lv_at hl 0 rfl) ?_
  refine lv_iload_n hx hb dL_law_565 rfl (lv_at hl 3 rfl) ?_
  refine lv_iconst (v := (2 : Int32)) hx hb dL_law_566 (by decide) ?_
  refine lv_iadd hx hb dL_law_567 ?_
  refine va_sld hx hb hX hbl hbA hS h_2 dL_law_568 ?_
  refine lv_aload_n hx hb dL_law_569 rfl (lv_at hl 0 rfl) ?_
  refine lv_iload_n hx hb dL_law_570 rfl (lv_at hl 3 rfl) ?_
  refine lv_iconst (v := (3 : Int32)) hx hb dL_law_571 (by decide) ?_
  refine lv_iadd hx hb dL_law_572 ?_
  refine va_sld hx hb hX hbl hbA hS h_3 dL_law_573 ?_
  refine lv_aload_n hx hb dL_law_574 rfl (lv_at hl 0 rfl) ?_
  refine lv_iload_n hx hb dL_law_575 rfl (lv_at hl 3 rfl) ?_
  refine lv_iconst (v := (4 : Int32)) hx hb dL_law_576 (by decide) ?_
  refine lv_iadd hx hb dL_law_577 ?_
  refine va_sld hx hb hX hbl hbA hS h_4 dL_law_578 ?_
  refine lv_aload_n hx hb dL_law_579 rfl (lv_at hl 0 rfl) ?_
  refine lv_iload_n hx hb dL_law_580 rfl (lv_at hl 3 rfl) ?_
  refine lv_iconst (v := (5 : Int32)) hx hb dL_law_581 (by decide) ?_
  refine lv_iadd hx hb dL_law_582 ?_
  refine va_sld hx hb hX hbl hbA hS h_5 dL_law_583 ?_
  refine xLi (rest := []) (c_X8_take l dC dI aB cI cJ cT (xs (nI i + (1 : Int32)).toNatClampNeg) (xs (nI i + (2 : Int32)).toNatClampNeg) (xs (nI i + (3 : Int32)).toNatClampNeg) (xs (nI i + (4 : Int32)).toNatClampNeg) (xs (nI i + (5 : Int32)).toNatClampNeg) IB JB eB) hfix (cwV 5 hts gL_law_X8_take rfl rfl rfl (by decide +kernel) ⟨Nat.le_of_ble_eq_true rfl, Nat.le_of_ble_eq_true rfl⟩) hK hPB hDB hPM hap hS hA (va_recv hK hPB (ci := 7) (q0 := 38) rfl (obB_38 aB cI cJ cT IB JB)) rfl hl.1 rfl (Nat.le_of_ble_eq_true rfl) ⟨Nat.le_of_ble_eq_true rfl, Nat.le_of_ble_eq_true rfl⟩ dL_law_584 (fun H locs hPB hDB hPM hap hS => ?_)
  refine lv_aload_n hx hb dL_law_587 rfl (lv_at hl 2 rfl) ?_
  refine lv_aload_n hx hb dL_law_588 rfl (lv_at hl 0 rfl) ?_
  refine lv_iload_n hx hb dL_law_589 rfl (lv_at hl 3 rfl) ?_
  refine lv_iconst (v := (1 : Int32)) hx hb dL_law_590 (by decide) ?_
  refine lv_iadd hx hb dL_law_591 ?_
  refine va_sld hx hb hX hbl hbA hS h_1 dL_law_592 ?_
  refine lv_aload_n hx hb dL_law_593 rfl (lv_at hl 0 rfl) ?_
  refine lv_iload_n hx hb dL_law_594 rfl (lv_at hl 3 rfl) ?_
  refine lv_iconst (v := (2 : Int32)) hx hb dL_law_595 (by decide) ?_
  refine lv_iadd hx hb dL_law_596 ?_
  refine va_sld hx hb hX hbl hbA hS h_2 dL_law_597 ?_
  refine lv_aload_n hx hb dL_law_598 rfl (lv_at hl 0 rfl) ?_
  refine lv_iload_n hx hb dL_law_599 rfl (lv_at hl 3 rfl) ?_
  refine lv_iconst (v := (3 : Int32)) hx hb dL_law_600 (by decide) ?_
  refine lv_iadd hx hb dL_law_601 ?_
  refine va_sld hx hb hX hbl hbA hS h_3 dL_law_602 ?_
  refine lv_aload_n hx hb dL_law_603 rfl (lv_at hl 0 rfl) ?_
  refine lv_iload_n hx hb dL_law_604 rfl (lv_at hl 3 rfl) ?_
  refine lv_iconst (v := (4 : Int32)) hx hb dL_law_605 (by decide) ?_
  refine lv_iadd hx hb dL_law_606 ?_
  refine va_sld hx hb hX hbl hbA hS h_4 dL_law_607 ?_
  refine lv_aload_n hx hb dL_law_608 rfl (lv_at hl 0 rfl) ?_
  refine lv_iload_n hx hb dL_law_609 rfl (lv_at hl 3 rfl) ?_
  refine lv_iconst (v := (5 : Int32)) hx hb dL_law_610 (by decide) ?_
  refine lv_iadd hx hb dL_law_611 ?_
  refine va_sld hx hb hX hbl hbA hS h_5 dL_law_612 ?_
  refine xLi (rest := [.int v]) (c_X9_take l dC dI aM cI cJ cT (xs (nI i + (1 : Int32)).toNatClampNeg) (xs (nI i + (2 : Int32)).toNatClampNeg) (xs (nI i + (3 : Int32)).toNatClampNeg) (xs (nI i + (4 : Int32)).toNatClampNeg) (xs (nI i + (5 : Int32)).toNatClampNeg) IM JM eM) hfix (cwV 5 hts gL_law_X9_take rfl rfl rfl (by decide +kernel) ⟨Nat.le_of_ble_eq_true rfl, Nat.le_of_ble_eq_true rfl⟩) hK hPM hDM hPB hap.sm hS hA (va_recv hK hPM (ci := 8) (q0 := 13) rfl (obM_13 aM cI cJ IM JM)) rfl hl.1 rfl (Nat.le_of_ble_eq_true rfl) ⟨Nat.le_of_ble_eq_true rfl, Nat.le_of_ble_eq_true rfl⟩ dL_law_613 (fun H locs hPM hDM hPB hap hS => ?_)
  exact lv_icmp_eq (tgt := 1056) hx hb dL_law_616 (by decide) (fun _ => kk IB' JB IM' JM H locs ⟨hR', hPB, hDB, hPM, hDM, hap.sm, hS⟩) (fun c9 => absurd rfl c9)
set_option maxHeartbeats 4000000 in
theorem law_letter {i : Nat} (hi : i + 6 ≤ L) {IB : SI} {JB : SJ} {IM : SI} {JM : SJ} {H : Heap} {locs : List Loc} {ls : Array Slot} (hl : lv_has ls 4 [(0, .ref b), (1, .ref (aB 38)), (2, .ref (aM 13)), (3, .int (nI i))]) (S : LI s (dC, dI) cI cJ cT aB aM IB JB IM JM H locs) (F : LFx p s m c (dC, dI) cI cJ cT pt b L xs)
    (kk : ∀ (IB : SI) (JB : SJ) (IM : SI) (JM : SJ) (H : Heap) (locs : List Loc), LI s (dC, dI) cI cJ cT aB aM IB JB IM JM H locs → W p l e room_1 s m #[Value.ref b] below meth c H locs 53 3544 Q (F0 m 1056 ls [])) : W p l e room_1 s m #[Value.ref b] below meth c H locs 53 3544 Q (F0 m 621 ls []) := by
  obtain ⟨hx, hb, hfix, hts, hX, hbl, hK, hpr, hL⟩ := F
  obtain ⟨hR, hPB, hDB, hPM, hDM, hap, hS⟩ := S
  have hA : ∀ q : Nat, s.heap.size ≤ q → lwA s q := fun _ h => h
  have hbA : ¬ lwA s b := Nat.not_le.mpr hbl
  have h_1 : vp_in (nI i + (1 : Int32)) L := in_i (a := 1) (by omega) hL
  obtain ⟨v, IB', IM', eB, eM, hR'⟩ := op_letter LstOK_fr hR (xs (nI i + (1 : Int32)).toNatClampNeg)
  refine lv_aload_n hx hb dL_law_621 rfl (lv_at hl 1 rfl) ?_
  refine lv_aload_n hx hb dL_law_622 rfl (lv_at hl 0 rfl) ?_
  refine lv_iload_n hx hb dL_law_623 rfl (lv_at hl 3 rfl) ?_
  refine lv_iconst (v := (1 : Int32)) hx hb dL_law_624 (by decide) ?_
  refine lv_iadd hx hb dL_law_625 ?_
  refine va_sld hx hb hX hbl hbA hS h_1 dL_law_626 ?_
  refine xLi (rest := []) (c_X8_letter l dC dI aB cI cJ cT (xs (nI i + (1 : Int32)).toNatClampNeg) IB JB eB) hfix (cwV 1 hts gL_law_X8_letter rfl rfl rfl (by decide +kernel) ⟨Nat.le_of_ble_eq_true rfl, Nat.le_of_ble_eq_true rfl⟩) hK hPB hDB hPM hap hS hA (va_recv hK hPB (ci := 7) (q0 := 38) rfl (obB_38 aB cI cJ cT IB JB)) rfl hl.1 rfl (Nat.le_of_ble_eq_true rfl) ⟨Nat.le_of_ble_eq_true rfl, Nat.le_of_ble_eq_true rfl⟩ dL_law_627 (fun H locs hPB hDB hPM hap hS => ?_)
  refine lv_aload_n hx hb dL_law_630 rfl (lv_at hl 2 rfl) ?_
  refine lv_aload_n hx hb dL_law_631 rfl (lv_at hl 0 rfl) ?_
  refine lv_iload_n hx hb dL_law_632 rfl (lv_at hl 3 rfl) ?_
  refine lv_iconst (v := (1 : Int32)) hx hb dL_law_633 (by decide) ?_
  refine lv_iadd hx hb dL_law_634 ?_
  refine va_sld hx hb hX hbl hbA hS h_1 dL_law_635 ?_
  refine xLi (rest := [.int v]) (c_X9_letter l dC dI aM cI cJ cT (xs (nI i + (1 : Int32)).toNatClampNeg) IM JM eM) hfix (cwV 1 hts gL_law_X9_letter rfl rfl rfl (by decide +kernel) ⟨Nat.le_of_ble_eq_true rfl, Nat.le_of_ble_eq_true rfl⟩) hK hPM hDM hPB hap.sm hS hA (va_recv hK hPM (ci := 8) (q0 := 13) rfl (obM_13 aM cI cJ IM JM)) rfl hl.1 rfl (Nat.le_of_ble_eq_true rfl) ⟨Nat.le_of_ble_eq_true rfl, Nat.le_of_ble_eq_true rfl⟩ dL_law_636 (fun H locs hPM hDM hPB hap hS => ?_)
  exact lv_icmp_eq (tgt := 1056) hx hb dL_law_639 (by decide) (fun _ => kk IB' JB IM' JM H locs ⟨hR', hPB, hDB, hPM, hDM, hap.sm, hS⟩) (fun c9 => absurd rfl c9)
set_option maxHeartbeats 4000000 in
theorem law_empty {i : Nat} (hi : i + 6 ≤ L) {IB : SI} {JB : SJ} {IM : SI} {JM : SJ} {H : Heap} {locs : List Loc} {ls : Array Slot} (hl : lv_has ls 4 [(0, .ref b), (1, .ref (aB 38)), (2, .ref (aM 13)), (3, .int (nI i))]) (S : LI s (dC, dI) cI cJ cT aB aM IB JB IM JM H locs) (F : LFx p s m c (dC, dI) cI cJ cT pt b L xs)
    (kk : ∀ (IB : SI) (JB : SJ) (IM : SI) (JM : SJ) (H : Heap) (locs : List Loc), LI s (dC, dI) cI cJ cT aB aM IB JB IM JM H locs → W p l e room_1 s m #[Value.ref b] below meth c H locs 53 3544 Q (F0 m 1056 ls [])) : W p l e room_1 s m #[Value.ref b] below meth c H locs 53 3544 Q (F0 m 644 ls []) := by
  obtain ⟨hx, hb, hfix, hts, hX, hbl, hK, hpr, hL⟩ := F
  obtain ⟨hR, hPB, hDB, hPM, hDM, hap, hS⟩ := S
  have hA : ∀ q : Nat, s.heap.size ≤ q → lwA s q := fun _ h => h
  have hbA : ¬ lwA s b := Nat.not_le.mpr hbl
  obtain ⟨v, IB', IM', eB, eM, hR'⟩ := op_empty LstOK_fr hR 
  refine lv_aload_n hx hb dL_law_644 rfl (lv_at hl 1 rfl) ?_
  refine xLi (rest := []) (c_X8_empty l dC dI aB cI cJ cT  IB JB eB) hfix (cwV 0 hts gL_law_X8_empty rfl rfl rfl (by decide +kernel) ⟨Nat.le_of_ble_eq_true rfl, Nat.le_of_ble_eq_true rfl⟩) hK hPB hDB hPM hap hS hA (va_recv hK hPB (ci := 7) (q0 := 38) rfl (obB_38 aB cI cJ cT IB JB)) rfl hl.1 rfl (Nat.le_of_ble_eq_true rfl) ⟨Nat.le_of_ble_eq_true rfl, Nat.le_of_ble_eq_true rfl⟩ dL_law_645 (fun H locs hPB hDB hPM hap hS => ?_)
  refine lv_aload_n hx hb dL_law_648 rfl (lv_at hl 2 rfl) ?_
  refine xLi (rest := [.int v]) (c_X9_empty l dC dI aM cI cJ cT  IM JM eM) hfix (cwV 0 hts gL_law_X9_empty rfl rfl rfl (by decide +kernel) ⟨Nat.le_of_ble_eq_true rfl, Nat.le_of_ble_eq_true rfl⟩) hK hPM hDM hPB hap.sm hS hA (va_recv hK hPM (ci := 8) (q0 := 13) rfl (obM_13 aM cI cJ IM JM)) rfl hl.1 rfl (Nat.le_of_ble_eq_true rfl) ⟨Nat.le_of_ble_eq_true rfl, Nat.le_of_ble_eq_true rfl⟩ dL_law_649 (fun H locs hPM hDM hPB hap hS => ?_)
  exact lv_icmp_eq (tgt := 1056) hx hb dL_law_652 (by decide) (fun _ => kk IB' JB IM' JM H locs ⟨hR', hPB, hDB, hPM, hDM, hap.sm, hS⟩) (fun c9 => absurd rfl c9)
end LC
