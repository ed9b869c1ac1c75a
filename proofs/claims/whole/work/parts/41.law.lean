set_option maxHeartbeats 4000000 in
set_option maxRecDepth 100000 in
theorem law_0 {p : Program} {l : Launch} {e : Env} {s : State} {m : MethodId} {below : List Frame} {meth : Method} {c : Code} {D : va_G} {cA : Nat → ClassId} {b L : Nat} {xs : Nat → Int32} (hX : Cx p m c code 4 s #[Value.ref b] R_law D cA) (hXs : va_X b L xs s s.heap) (hbl : b < s.heap.size) {ax am : Nat} {x3 : Int32} (hi1 : vp_in (x3 + 1) L) (hi2 : vp_in (x3 + 2) L) (hi3 : vp_in (x3 + 3) L) (hi4 : vp_in (x3 + 4) L) (hi5 : vp_in (x3 + 5) L) {σ : Me} {Post : Me → Prop} (hTx : gT σ ax = 11)
    (h : pX11_book σ ax (xs (x3 + 1).toNatClampNeg) (fun r σ1 => gT σ1 am = 12 ∧ pX12_book σ1 am (xs (x3 + 1).toNatClampNeg) (fun r2 σ2 => r = r2 ∧ Post σ2))) {cells slots : Nat} (hcs : cells + 0 ≤ 600000 ∧ slots + 0 ≤ 7302250) {H : Heap} {locs : List Loc} {ls : Array Slot} (hw : wS D cA s.heap.size s σ H locs) (hl : lv_has ls 4 [(0, .ref b), (1, .ref ax), (2, .ref am), (3, .int x3)]) {Q : State → Prop}
    (kk : ∀ (σ2 : Me) (H : Heap) (locs : List Loc), Post σ2 → wS D cA s.heap.size s σ2 H locs → W p l e room_1 s m #[Value.ref b] below meth c H locs cells slots Q (F0 m 1240 ls [])) : W p l e room_1 s m #[Value.ref b] below meth c H locs cells slots Q (F0 m 172 ls []) := by
  have hx := hX.1.1
  have hb := hX.1.2.1
  have hbA : ¬ s.heap.size ≤ b := Nat.not_le.mpr hbl
  refine lv_aload_n hx hb dL_law_172 rfl (lv_at hl 1 rfl) ?_
  refine lv_aload_n hx hb dL_law_173 rfl (lv_at hl 0 rfl) ?_
  refine lv_iload_n hx hb dL_law_174 rfl (lv_at hl 3 rfl) ?_
  refine lv_iconst (v := 1) hx hb dL_law_175 (by decide) ?_
  refine lv_iadd hx hb dL_law_176 ?_
  refine va_sld hx hb hXs hbl hbA hw.2 hi1 dL_law_177 ?_
  refine m_ci (m_runV (rest := []) hX hw (tX11_book h) mtX11_book k_304 ⟨k_305, k_306⟩ cl11 hTx ⟨⟨rfl, rfl, Nat.le_of_ble_eq_true rfl, Nat.le_of_ble_eq_true rfl⟩, hcs.1, hcs.2⟩ rfl hl.1 rfl (Nat.le_of_ble_eq_true rfl) dL_law_178) hw (fun r1 σ2 H locs h hw => ?_)
  obtain ⟨hTm, h⟩ := h
  refine (?_ : W p l e room_1 s m #[Value.ref b] below meth c H locs cells slots Q _)
  refine lv_aload_n hx hb dL_law_181 rfl (lv_at hl 2 rfl) ?_
  refine lv_aload_n hx hb dL_law_182 rfl (lv_at hl 0 rfl) ?_
  refine lv_iload_n hx hb dL_law_183 rfl (lv_at hl 3 rfl) ?_
  refine lv_iconst (v := 1) hx hb dL_law_184 (by decide) ?_
  refine lv_iadd hx hb dL_law_185 ?_
  refine va_sld hx hb hXs hbl hbA hw.2 hi1 dL_law_186 ?_
  refine m_ci (m_runV (rest := [_]) hX hw (tX12_book h) mtX12_book k_1065 ⟨k_1066, k_1067⟩ cl12 hTm ⟨⟨rfl, rfl, Nat.le_of_ble_eq_true rfl, Nat.le_of_ble_eq_true rfl⟩, hcs.1, hcs.2⟩ rfl hl.1 rfl (Nat.le_of_ble_eq_true rfl) dL_law_187) hw (fun r3 σ4 H locs h hw => ?_)
  refine lv_icmp_eq (tgt := 1240) hx hb dL_law_190 (by decide) (fun hq => ?_) (fun hq => ?_)
  · exact kk _ _ _ h.2 hw
  · exact absurd h.1 hq
set_option maxHeartbeats 4000000 in
set_option maxRecDepth 100000 in
theorem law_1 {p : Program} {l : Launch} {e : Env} {s : State} {m : MethodId} {below : List Frame} {meth : Method} {c : Code} {D : va_G} {cA : Nat → ClassId} {b L : Nat} {xs : Nat → Int32} (hX : Cx p m c code 4 s #[Value.ref b] R_law D cA) (hXs : va_X b L xs s s.heap) (hbl : b < s.heap.size) {ax am : Nat} {x3 : Int32} (hi1 : vp_in (x3 + 1) L) (hi2 : vp_in (x3 + 2) L) (hi3 : vp_in (x3 + 3) L) (hi4 : vp_in (x3 + 4) L) (hi5 : vp_in (x3 + 5) L) {σ : Me} {Post : Me → Prop} (hTx : gT σ ax = 11)
    (h : pX11_weigh σ ax (xs (x3 + 1).toNatClampNeg) (xs (x3 + 2).toNatClampNeg) (xs (x3 + 3).toNatClampNeg) (fun r σ1 => gT σ1 am = 12 ∧ pX12_weigh σ1 am (xs (x3 + 1).toNatClampNeg) (xs (x3 + 2).toNatClampNeg) (xs (x3 + 3).toNatClampNeg) (fun r2 σ2 => r = r2 ∧ Post σ2))) {cells slots : Nat} (hcs : cells + 0 ≤ 600000 ∧ slots + 0 ≤ 7302250) {H : Heap} {locs : List Loc} {ls : Array Slot} (hw : wS D cA s.heap.size s σ H locs) (hl : lv_has ls 4 [(0, .ref b), (1, .ref ax), (2, .ref am), (3, .int x3)]) {Q : State → Prop}
    (kk : ∀ (σ2 : Me) (H : Heap) (locs : List Loc), Post σ2 → wS D cA s.heap.size s σ2 H locs → W p l e room_1 s m #[Value.ref b] below meth c H locs cells slots Q (F0 m 1240 ls [])) : W p l e room_1 s m #[Value.ref b] below meth c H locs cells slots Q (F0 m 195 ls []) := by
  have hx := hX.1.1
  have hb := hX.1.2.1
  have hbA : ¬ s.heap.size ≤ b := Nat.not_le.mpr hbl
  refine lv_aload_n hx hb dL_law_195 rfl (lv_at hl 1 rfl) ?_
  refine lv_aload_n hx hb dL_law_196 rfl (lv_at hl 0 rfl) ?_
  refine lv_iload_n hx hb dL_law_197 rfl (lv_at hl 3 rfl) ?_
  refine lv_iconst (v := 1) hx hb dL_law_198 (by decide) ?_
  refine lv_iadd hx hb dL_law_199 ?_
  refine va_sld hx hb hXs hbl hbA hw.2 hi1 dL_law_200 ?_
  refine lv_aload_n hx hb dL_law_201 rfl (lv_at hl 0 rfl) ?_
  refine lv_iload_n hx hb dL_law_202 rfl (lv_at hl 3 rfl) ?_
  refine lv_iconst (v := 2) hx hb dL_law_203 (by decide) ?_
  refine lv_iadd hx hb dL_law_204 ?_
  refine va_sld hx hb hXs hbl hbA hw.2 hi2 dL_law_205 ?_
  refine lv_aload_n hx hb dL_law_206 rfl (lv_at hl 0 rfl) ?_
  refine lv_iload_n hx hb dL_law_207 rfl (lv_at hl 3 rfl) ?_
  refine lv_iconst (v := 3) hx hb dL_law_208 (by decide) ?_
  refine lv_iadd hx hb dL_law_209 ?_
  refine va_sld hx hb hXs hbl hbA hw.2 hi3 dL_law_210 ?_
  refine m_ci (m_runV (rest := []) hX hw (tX11_weigh h) mtX11_weigh k_318 ⟨k_319, k_320⟩ cl11 hTx ⟨⟨rfl, rfl, Nat.le_of_ble_eq_true rfl, Nat.le_of_ble_eq_true rfl⟩, hcs.1, hcs.2⟩ rfl hl.1 rfl (Nat.le_of_ble_eq_true rfl) dL_law_211) hw (fun r1 σ2 H locs h hw => ?_)
  obtain ⟨hTm, h⟩ := h
  refine (?_ : W p l e room_1 s m #[Value.ref b] below meth c H locs cells slots Q _)
  refine lv_aload_n hx hb dL_law_214 rfl (lv_at hl 2 rfl) ?_
  refine lv_aload_n hx hb dL_law_215 rfl (lv_at hl 0 rfl) ?_
  refine lv_iload_n hx hb dL_law_216 rfl (lv_at hl 3 rfl) ?_
  refine lv_iconst (v := 1) hx hb dL_law_217 (by decide) ?_
  refine lv_iadd hx hb dL_law_218 ?_
  refine va_sld hx hb hXs hbl hbA hw.2 hi1 dL_law_219 ?_
  refine lv_aload_n hx hb dL_law_220 rfl (lv_at hl 0 rfl) ?_
  refine lv_iload_n hx hb dL_law_221 rfl (lv_at hl 3 rfl) ?_
  refine lv_iconst (v := 2) hx hb dL_law_222 (by decide) ?_
  refine lv_iadd hx hb dL_law_223 ?_
  refine va_sld hx hb hXs hbl hbA hw.2 hi2 dL_law_224 ?_
  refine lv_aload_n hx hb dL_law_225 rfl (lv_at hl 0 rfl) ?_
  refine lv_iload_n hx hb dL_law_226 rfl (lv_at hl 3 rfl) ?_
  refine lv_iconst (v := 3) hx hb dL_law_227 (by decide) ?_
  refine lv_iadd hx hb dL_law_228 ?_
  refine va_sld hx hb hXs hbl hbA hw.2 hi3 dL_law_229 ?_
  refine m_ci (m_runV (rest := [_]) hX hw (tX12_weigh h) mtX12_weigh k_1072 ⟨k_1073, k_1074⟩ cl12 hTm ⟨⟨rfl, rfl, Nat.le_of_ble_eq_true rfl, Nat.le_of_ble_eq_true rfl⟩, hcs.1, hcs.2⟩ rfl hl.1 rfl (Nat.le_of_ble_eq_true rfl) dL_law_230) hw (fun r3 σ4 H locs h hw => ?_)
  refine lv_icmp_eq (tgt := 1240) hx hb dL_law_233 (by decide) (fun hq => ?_) (fun hq => ?_)
  · exact kk _ _ _ h.2 hw
  · exact absurd h.1 hq
set_option maxHeartbeats 4000000 in
set_option maxRecDepth 100000 in
theorem law_2 {p : Program} {l : Launch} {e : Env} {s : State} {m : MethodId} {below : List Frame} {meth : Method} {c : Code} {D : va_G} {cA : Nat → ClassId} {b L : Nat} {xs : Nat → Int32} (hX : Cx p m c code 4 s #[Value.ref b] R_law D cA) (hXs : va_X b L xs s s.heap) (hbl : b < s.heap.size) {ax am : Nat} {x3 : Int32} (hi1 : vp_in (x3 + 1) L) (hi2 : vp_in (x3 + 2) L) (hi3 : vp_in (x3 + 3) L) (hi4 : vp_in (x3 + 4) L) (hi5 : vp_in (x3 + 5) L) {σ : Me} {Post : Me → Prop} (hTx : gT σ ax = 11)
    (h : pX11_close σ ax (xs (x3 + 1).toNatClampNeg) (fun r σ1 => gT σ1 am = 12 ∧ pX12_close σ1 am (xs (x3 + 1).toNatClampNeg) (fun r2 σ2 => r = r2 ∧ Post σ2))) {cells slots : Nat} (hcs : cells + 0 ≤ 600000 ∧ slots + 0 ≤ 7302250) {H : Heap} {locs : List Loc} {ls : Array Slot} (hw : wS D cA s.heap.size s σ H locs) (hl : lv_has ls 4 [(0, .ref b), (1, .ref ax), (2, .ref am), (3, .int x3)]) {Q : State → Prop}
    (kk : ∀ (σ2 : Me) (H : Heap) (locs : List Loc), Post σ2 → wS D cA s.heap.size s σ2 H locs → W p l e room_1 s m #[Value.ref b] below meth c H locs cells slots Q (F0 m 1240 ls [])) : W p l e room_1 s m #[Value.ref b] below meth c H locs cells slots Q (F0 m 238 ls []) := by
  have hx := hX.1.1
  have hb := hX.1.2.1
  have hbA : ¬ s.heap.size ≤ b := Nat.not_le.mpr hbl
  refine lv_aload_n hx hb dL_law_238 rfl (lv_at hl 1 rfl) ?_
  refine lv_aload_n hx hb dL_law_239 rfl (lv_at hl 0 rfl) ?_
  refine lv_iload_n hx hb dL_law_240 rfl (lv_at hl 3 rfl) ?_
  refine lv_iconst (v := 1) hx hb dL_law_241 (by decide) ?_
  refine lv_iadd hx hb dL_law_242 ?_
  refine va_sld hx hb hXs hbl hbA hw.2 hi1 dL_law_243 ?_
  refine m_ci (m_runV (rest := []) hX hw (tX11_close h) mtX11_close k_329 ⟨k_330, k_331⟩ cl11 hTx ⟨⟨rfl, rfl, Nat.le_of_ble_eq_true rfl, Nat.le_of_ble_eq_true rfl⟩, hcs.1, hcs.2⟩ rfl hl.1 rfl (Nat.le_of_ble_eq_true rfl) dL_law_244) hw (fun r1 σ2 H locs h hw => ?_)
  obtain ⟨hTm, h⟩ := h
  refine (?_ : W p l e room_1 s m #[Value.ref b] below meth c H locs cells slots Q _)
  refine lv_aload_n hx hb dL_law_247 rfl (lv_at hl 2 rfl) ?_
  refine lv_aload_n hx hb dL_law_248 rfl (lv_at hl 0 rfl) ?_
  refine lv_iload_n hx hb dL_law_249 rfl (lv_at hl 3 rfl) ?_
  refine lv_iconst (v := 1) hx hb dL_law_250 (by decide) ?_
  refine lv_iadd hx hb dL_law_251 ?_
  refine va_sld hx hb hXs hbl hbA hw.2 hi1 dL_law_252 ?_
  refine m_ci (m_runV (rest := [_]) hX hw (tX12_close h) mtX12_close k_1080 ⟨k_1081, k_1082⟩ cl12 hTm ⟨⟨rfl, rfl, Nat.le_of_ble_eq_true rfl, Nat.le_of_ble_eq_true rfl⟩, hcs.1, hcs.2⟩ rfl hl.1 rfl (Nat.le_of_ble_eq_true rfl) dL_law_253) hw (fun r3 σ4 H locs h hw => ?_)
  refine lv_icmp_eq (tgt := 1240) hx hb dL_law_256 (by decide) (fun hq => ?_) (fun hq => ?_)
  · exact kk _ _ _ h.2 hw
  · exact absurd h.1 hq
set_option maxHeartbeats 4000000 in
set_option maxRecDepth 100000 in
theorem law_3 {p : Program} {l : Launch} {e : Env} {s : State} {m : MethodId} {below : List Frame} {meth : Method} {c : Code} {D : va_G} {cA : Nat → ClassId} {b L : Nat} {xs : Nat → Int32} (hX : Cx p m c code 4 s #[Value.ref b] R_law D cA) (hXs : va_X b L xs s s.heap) (hbl : b < s.heap.size) {ax am : Nat} {x3 : Int32} (hi1 : vp_in (x3 + 1) L) (hi2 : vp_in (x3 + 2) L) (hi3 : vp_in (x3 + 3) L) (hi4 : vp_in (x3 + 4) L) (hi5 : vp_in (x3 + 5) L) {σ : Me} {Post : Me → Prop} (hTx : gT σ ax = 11)
    (h : pX11_copy σ ax (xs (x3 + 1).toNatClampNeg) (xs (x3 + 2).toNatClampNeg) (xs (x3 + 3).toNatClampNeg) (xs (x3 + 4).toNatClampNeg) (xs (x3 + 5).toNatClampNeg) (fun r σ1 => gT σ1 am = 12 ∧ pX12_copy σ1 am (xs (x3 + 1).toNatClampNeg) (xs (x3 + 2).toNatClampNeg) (xs (x3 + 3).toNatClampNeg) (xs (x3 + 4).toNatClampNeg) (xs (x3 + 5).toNatClampNeg) (fun r2 σ2 => r = r2 ∧ Post σ2))) {cells slots : Nat} (hcs : cells + 0 ≤ 600000 ∧ slots + 0 ≤ 7302250) {H : Heap} {locs : List Loc} {ls : Array Slot} (hw : wS D cA s.heap.size s σ H locs) (hl : lv_has ls 4 [(0, .ref b), (1, .ref ax), (2, .ref am), (3, .int x3)]) {Q : State → Prop}
    (kk : ∀ (σ2 : Me) (H : Heap) (locs : List Loc), Post σ2 → wS D cA s.heap.size s σ2 H locs → W p l e room_1 s m #[Value.ref b] below meth c H locs cells slots Q (F0 m 1240 ls [])) : W p l e room_1 s m #[Value.ref b] below meth c H locs cells slots Q (F0 m 261 ls []) := by
  have hx := hX.1.1
  have hb := hX.1.2.1
  have hbA : ¬ s.heap.size ≤ b := Nat.not_le.mpr hbl
  refine lv_aload_n hx hb dL_law_261 rfl (lv_at hl 1 rfl) ?_
  refine lv_aload_n hx hb dL_law_262 rfl (lv_at hl 0 rfl) ?_
  refine lv_iload_n hx hb dL_law_263 rfl (lv_at hl 3 rfl) ?_
  refine lv_iconst (v := 1) hx hb dL_law_264 (by decide) ?_
  refine lv_iadd hx hb dL_law_265 ?_
  refine va_sld hx hb hXs hbl hbA hw.2 hi1 dL_law_266 ?_
  refine lv_aload_n hx hb dL_law_267 rfl (lv_at hl 0 rfl) ?_
  refine lv_iload_n hx hb dL_law_268 rfl (lv_at hl 3 rfl) ?_
  refine lv_iconst (v := 2) hx hb dL_law_269 (by decide) ?_
  refine lv_iadd hx hb dL_law_270 ?_
  refine va_sld hx hb hXs hbl hbA hw.2 hi2 dL_law_271 ?_
  refine lv_aload_n hx hb dL_law_272 rfl (lv_at hl 0 rfl) ?_
  refine lv_iload_n hx hb dL_law_273 rfl (lv_at hl 3 rfl) ?_
  refine lv_iconst (v := 3) hx hb dL_law_274 (by decide) ?_
  refine lv_iadd hx hb dL_law_275 ?_
  refine va_sld hx hb hXs hbl hbA hw.2 hi3 dL_law_276 ?_
  refine lv_aload_n hx hb dL_law_277 rfl (lv_at hl 0 rfl) ?_
  refine lv_iload_n hx hb dL_law_278 rfl (lv_at hl 3 rfl) ?_
  refine lv_iconst (v := 4) hx hb dL_law_279 (by decide) ?_
  refine lv_iadd hx hb dL_law_280 ?_
  refine va_sld hx hb hXs hbl hbA hw.2 hi4 dL_law_281 ?_
  refine lv_aload_n hx hb dL_law_282 rfl (lv_at hl 0 rfl) ?_
  refine lv_iload_n hx hb dL_law_283 rfl (lv_at hl 3 rfl) ?_
  refine lv_iconst (v := 5) hx hb dL_law_284 (by decide) ?_
  refine lv_iadd hx hb dL_law_285 ?_
  refine va_sld hx hb hXs hbl hbA hw.2 hi5 dL_law_286 ?_
  refine m_ci (m_runV (rest := []) hX hw (tX11_copy h) mtX11_copy k_333 ⟨k_334, k_335⟩ cl11 hTx ⟨⟨rfl, rfl, Nat.le_of_ble_eq_true rfl, Nat.le_of_ble_eq_true rfl⟩, hcs.1, hcs.2⟩ rfl hl.1 rfl (Nat.le_of_ble_eq_true rfl) dL_law_287) hw (fun r1 σ2 H locs h hw => ?_)
  obtain ⟨hTm, h⟩ := h
  refine (?_ : W p l e room_1 s m #[Value.ref b] below meth c H locs cells slots Q _)
  refine lv_aload_n hx hb dL_law_290 rfl (lv_at hl 2 rfl) ?_
  refine lv_aload_n hx hb dL_law_291 rfl (lv_at hl 0 rfl) ?_
  refine lv_iload_n hx hb dL_law_292 rfl (lv_at hl 3 rfl) ?_
  refine lv_iconst (v := 1) hx hb dL_law_293 (by decide) ?_
  refine lv_iadd hx hb dL_law_294 ?_
  refine va_sld hx hb hXs hbl hbA hw.2 hi1 dL_law_295 ?_
  refine lv_aload_n hx hb dL_law_296 rfl (lv_at hl 0 rfl) ?_
  refine lv_iload_n hx hb dL_law_297 rfl (lv_at hl 3 rfl) ?_
  refine lv_iconst (v := 2) hx hb dL_law_298 (by decide) ?_
  refine lv_iadd hx hb dL_law_299 ?_
  refine va_sld hx hb hXs hbl hbA hw.2 hi2 dL_law_300 ?_
  refine lv_aload_n hx hb dL_law_301 rfl (lv_at hl 0 rfl) ?_
  refine lv_iload_n hx hb dL_law_302 rfl (lv_at hl 3 rfl) ?_
  refine lv_iconst (v := 3) hx hb dL_law_303 (by decide) ?_
  refine lv_iadd hx hb dL_law_304 ?_
  refine va_sld hx hb hXs hbl hbA hw.2 hi3 dL_law_305 ?_
  refine lv_aload_n hx hb dL_law_306 rfl (lv_at hl 0 rfl) ?_
  refine lv_iload_n hx hb dL_law_307 rfl (lv_at hl 3 rfl) ?_
  refine lv_iconst (v := 4) hx hb dL_law_308 (by decide) ?_
  refine lv_iadd hx hb dL_law_309 ?_
  refine va_sld hx hb hXs hbl hbA hw.2 hi4 dL_law_310 ?_
  refine lv_aload_n hx hb dL_law_311 rfl (lv_at hl 0 rfl) ?_
  refine lv_iload_n hx hb dL_law_312 rfl (lv_at hl 3 rfl) ?_
  refine lv_iconst (v := 5) hx hb dL_law_313 (by decide) ?_
  refine lv_iadd hx hb dL_law_314 ?_
  refine va_sld hx hb hXs hbl hbA hw.2 hi5 dL_law_315 ?_
  refine m_ci (m_runV (rest := [_]) hX hw (tX12_copy h) mtX12_copy k_1084 ⟨k_1085, k_1086⟩ cl12 hTm ⟨⟨rfl, rfl, Nat.le_of_ble_eq_true rfl, Nat.le_of_ble_eq_true rfl⟩, hcs.1, hcs.2⟩ rfl hl.1 rfl (Nat.le_of_ble_eq_true rfl) dL_law_316) hw (fun r3 σ4 H locs h hw => ?_)
  refine lv_icmp_eq (tgt := 1240) hx hb dL_law_319 (by decide) (fun hq => ?_) (fun hq => ?_)
  · exact kk _ _ _ h.2 hw
  · exact absurd h.1 hq
set_option maxHeartbeats 4000000 in
set_option maxRecDepth 100000 in
theorem law_4 {p : Program} {l : Launch} {e : Env} {s : State} {m : MethodId} {below : List Frame} {meth : Method} {c : Code} {D : va_G} {cA : Nat → ClassId} {b L : Nat} {xs : Nat → Int32} (hX : Cx p m c code 4 s #[Value.ref b] R_law D cA) (hXs : va_X b L xs s s.heap) (hbl : b < s.heap.size) {ax am : Nat} {x3 : Int32} (hi1 : vp_in (x3 + 1) L) (hi2 : vp_in (x3 + 2) L) (hi3 : vp_in (x3 + 3) L) (hi4 : vp_in (x3 + 4) L) (hi5 : vp_in (x3 + 5) L) {σ : Me} {Post : Me → Prop} (hTx : gT σ ax = 11)
    (h : pX11_mean σ ax (xs (x3 + 1).toNatClampNeg) (fun r σ1 => gT σ1 am = 12 ∧ pX12_mean σ1 am (xs (x3 + 1).toNatClampNeg) (fun r2 σ2 => r = r2 ∧ Post σ2))) {cells slots : Nat} (hcs : cells + 0 ≤ 600000 ∧ slots + 0 ≤ 7302250) {H : Heap} {locs : List Loc} {ls : Array Slot} (hw : wS D cA s.heap.size s σ H locs) (hl : lv_has ls 4 [(0, .ref b), (1, .ref ax), (2, .ref am), (3, .int x3)]) {Q : State → Prop}
    (kk : ∀ (σ2 : Me) (H : Heap) (locs : List Loc), Post σ2 → wS D cA s.heap.size s σ2 H locs → W p l e room_1 s m #[Value.ref b] below meth c H locs cells slots Q (F0 m 1240 ls [])) : W p l e room_1 s m #[Value.ref b] below meth c H locs cells slots Q (F0 m 324 ls []) := by
  have hx := hX.1.1
  have hb := hX.1.2.1
  have hbA : ¬ s.heap.size ≤ b := Nat.not_le.mpr hbl
  refine lv_aload_n hx hb dL_law_324 rfl (lv_at hl 1 rfl) ?_
  refine lv_aload_n hx hb dL_law_325 rfl (lv_at hl 0 rfl) ?_
  refine lv_iload_n hx hb dL_law_326 rfl (lv_at hl 3 rfl) ?_
  refine lv_iconst (v := 1) hx hb dL_law_327 (by decide) ?_
  refine lv_iadd hx hb dL_law_328 ?_
  refine va_sld hx hb hXs hbl hbA hw.2 hi1 dL_law_329 ?_
  refine m_ci (m_runV (rest := []) hX hw (tX11_mean h) mtX11_mean k_343 ⟨k_344, k_345⟩ cl11 hTx ⟨⟨rfl, rfl, Nat.le_of_ble_eq_true rfl, Nat.le_of_ble_eq_true rfl⟩, hcs.1, hcs.2⟩ rfl hl.1 rfl (Nat.le_of_ble_eq_true rfl) dL_law_330) hw (fun r1 σ2 H locs h hw => ?_)
  obtain ⟨hTm, h⟩ := h
  refine (?_ : W p l e room_1 s m #[Value.ref b] below meth c H locs cells slots Q _)
  refine lv_aload_n hx hb dL_law_333 rfl (lv_at hl 2 rfl) ?_
  refine lv_aload_n hx hb dL_law_334 rfl (lv_at hl 0 rfl) ?_
  refine lv_iload_n hx hb dL_law_335 rfl (lv_at hl 3 rfl) ?_
  refine lv_iconst (v := 1) hx hb dL_law_336 (by decide) ?_
  refine lv_iadd hx hb dL_law_337 ?_
  refine va_sld hx hb hXs hbl hbA hw.2 hi1 dL_law_338 ?_
  refine m_ci (m_runV (rest := [_]) hX hw (tX12_mean h) mtX12_mean k_1089 ⟨k_1090, k_1091⟩ cl12 hTm ⟨⟨rfl, rfl, Nat.le_of_ble_eq_true rfl, Nat.le_of_ble_eq_true rfl⟩, hcs.1, hcs.2⟩ rfl hl.1 rfl (Nat.le_of_ble_eq_true rfl) dL_law_339) hw (fun r3 σ4 H locs h hw => ?_)
  refine lv_icmp_eq (tgt := 1240) hx hb dL_law_342 (by decide) (fun hq => ?_) (fun hq => ?_)
  · exact kk _ _ _ h.2 hw
  · exact absurd h.1 hq
set_option maxHeartbeats 4000000 in
set_option maxRecDepth 100000 in
theorem law_5 {p : Program} {l : Launch} {e : Env} {s : State} {m : MethodId} {below : List Frame} {meth : Method} {c : Code} {D : va_G} {cA : Nat → ClassId} {b L : Nat} {xs : Nat → Int32} (hX : Cx p m c code 4 s #[Value.ref b] R_law D cA) (hXs : va_X b L xs s s.heap) (hbl : b < s.heap.size) {ax am : Nat} {x3 : Int32} (hi1 : vp_in (x3 + 1) L) (hi2 : vp_in (x3 + 2) L) (hi3 : vp_in (x3 + 3) L) (hi4 : vp_in (x3 + 4) L) (hi5 : vp_in (x3 + 5) L) {σ : Me} {Post : Me → Prop} (hTx : gT σ ax = 11)
    (h : pX11_sheet σ ax (xs (x3 + 1).toNatClampNeg) (xs (x3 + 2).toNatClampNeg) (fun r σ1 => gT σ1 am = 12 ∧ pX12_sheet σ1 am (xs (x3 + 1).toNatClampNeg) (xs (x3 + 2).toNatClampNeg) (fun r2 σ2 => r = r2 ∧ Post σ2))) {cells slots : Nat} (hcs : cells + 0 ≤ 600000 ∧ slots + 0 ≤ 7302250) {H : Heap} {locs : List Loc} {ls : Array Slot} (hw : wS D cA s.heap.size s σ H locs) (hl : lv_has ls 4 [(0, .ref b), (1, .ref ax), (2, .ref am), (3, .int x3)]) {Q : State → Prop}
    (kk : ∀ (σ2 : Me) (H : Heap) (locs : List Loc), Post σ2 → wS D cA s.heap.size s σ2 H locs → W p l e room_1 s m #[Value.ref b] below meth c H locs cells slots Q (F0 m 1240 ls [])) : W p l e room_1 s m #[Value.ref b] below meth c H locs cells slots Q (F0 m 347 ls []) := by
  have hx := hX.1.1
  have hb := hX.1.2.1
  have hbA : ¬ s.heap.size ≤ b := Nat.not_le.mpr hbl
  refine lv_aload_n hx hb dL_law_347 rfl (lv_at hl 1 rfl) ?_
  refine lv_aload_n hx hb dL_law_348 rfl (lv_at hl 0 rfl) ?_
  refine lv_iload_n hx hb dL_law_349 rfl (lv_at hl 3 rfl) ?_
  refine lv_iconst (v := 1) hx hb dL_law_350 (by decide) ?_
  refine lv_iadd hx hb dL_law_351 ?_
  refine va_sld hx hb hXs hbl hbA hw.2 hi1 dL_law_352 ?_
  refine lv_aload_n hx hb dL_law_353 rfl (lv_at hl 0 rfl) ?_
  refine lv_iload_n hx hb dL_law_354 rfl (lv_at hl 3 rfl) ?_
  refine lv_iconst (v := 2) hx hb dL_law_355 (by decide) ?_
  refine lv_iadd hx hb dL_law_356 ?_
  refine va_sld hx hb hXs hbl hbA hw.2 hi2 dL_law_357 ?_
  refine m_ci (m_runV (rest := []) hX hw (tX11_sheet h) mtX11_sheet k_358 ⟨k_359, k_360⟩ cl11 hTx ⟨⟨rfl, rfl, Nat.le_of_ble_eq_true rfl, Nat.le_of_ble_eq_true rfl⟩, hcs.1, hcs.2⟩ rfl hl.1 rfl (Nat.le_of_ble_eq_true rfl) dL_law_358) hw (fun r1 σ2 H locs h hw => ?_)
  obtain ⟨hTm, h⟩ := h
  refine (?_ : W p l e room_1 s m #[Value.ref b] below meth c H locs cells slots Q _)
  refine lv_aload_n hx hb dL_law_361 rfl (lv_at hl 2 rfl) ?_
  refine lv_aload_n hx hb dL_law_362 rfl (lv_at hl 0 rfl) ?_
  refine lv_iload_n hx hb dL_law_363 rfl (lv_at hl 3 rfl) ?_
  refine lv_iconst (v := 1) hx hb dL_law_364 (by decide) ?_
  refine lv_iadd hx hb dL_law_365 ?_
  refine va_sld hx hb hXs hbl hbA hw.2 hi1 dL_law_366 ?_
  refine lv_aload_n hx hb dL_law_367 rfl (lv_at hl 0 rfl) ?_
  refine lv_iload_n hx hb dL_law_368 rfl (lv_at hl 3 rfl) ?_
  refine lv_iconst (v := 2) hx hb dL_law_369 (by decide) ?_
  refine lv_iadd hx hb dL_law_370 ?_
  refine va_sld hx hb hXs hbl hbA hw.2 hi2 dL_law_371 ?_
  refine m_ci (m_runV (rest := [_]) hX hw (tX12_sheet h) mtX12_sheet k_1097 ⟨k_1098, k_1099⟩ cl12 hTm ⟨⟨rfl, rfl, Nat.le_of_ble_eq_true rfl, Nat.le_of_ble_eq_true rfl⟩, hcs.1, hcs.2⟩ rfl hl.1 rfl (Nat.le_of_ble_eq_true rfl) dL_law_372) hw (fun r3 σ4 H locs h hw => ?_)
  refine lv_icmp_eq (tgt := 1240) hx hb dL_law_375 (by decide) (fun hq => ?_) (fun hq => ?_)
  · exact kk _ _ _ h.2 hw
  · exact absurd h.1 hq
set_option maxHeartbeats 4000000 in
set_option maxRecDepth 100000 in
theorem law_6 {p : Program} {l : Launch} {e : Env} {s : State} {m : MethodId} {below : List Frame} {meth : Method} {c : Code} {D : va_G} {cA : Nat → ClassId} {b L : Nat} {xs : Nat → Int32} (hX : Cx p m c code 4 s #[Value.ref b] R_law D cA) (hXs : va_X b L xs s s.heap) (hbl : b < s.heap.size) {ax am : Nat} {x3 : Int32} (hi1 : vp_in (x3 + 1) L) (hi2 : vp_in (x3 + 2) L) (hi3 : vp_in (x3 + 3) L) (hi4 : vp_in (x3 + 4) L) (hi5 : vp_in (x3 + 5) L) {σ : Me} {Post : Me → Prop} (hTx : gT σ ax = 11)
    (h : pX11_lay σ ax (xs (x3 + 1).toNatClampNeg) (xs (x3 + 2).toNatClampNeg) (xs (x3 + 3).toNatClampNeg) (fun r σ1 => gT σ1 am = 12 ∧ pX12_lay σ1 am (xs (x3 + 1).toNatClampNeg) (xs (x3 + 2).toNatClampNeg) (xs (x3 + 3).toNatClampNeg) (fun r2 σ2 => r = r2 ∧ Post σ2))) {cells slots : Nat} (hcs : cells + 0 ≤ 600000 ∧ slots + 0 ≤ 7302250) {H : Heap} {locs : List Loc} {ls : Array Slot} (hw : wS D cA s.heap.size s σ H locs) (hl : lv_has ls 4 [(0, .ref b), (1, .ref ax), (2, .ref am), (3, .int x3)]) {Q : State → Prop}
    (kk : ∀ (σ2 : Me) (H : Heap) (locs : List Loc), Post σ2 → wS D cA s.heap.size s σ2 H locs → W p l e room_1 s m #[Value.ref b] below meth c H locs cells slots Q (F0 m 1240 ls [])) : W p l e room_1 s m #[Value.ref b] below meth c H locs cells slots Q (F0 m 380 ls []) := by
  have hx := hX.1.1
  have hb := hX.1.2.1
  have hbA : ¬ s.heap.size ≤ b := Nat.not_le.mpr hbl
  refine lv_aload_n hx hb dL_law_380 rfl (lv_at hl 1 rfl) ?_
  refine lv_aload_n hx hb dL_law_381 rfl (lv_at hl 0 rfl) ?_
  refine lv_iload_n hx hb dL_law_382 rfl (lv_at hl 3 rfl) ?_
  refine lv_iconst (v := 1) hx hb dL_law_383 (by decide) ?_
  refine lv_iadd hx hb dL_law_384 ?_
  refine va_sld hx hb hXs hbl hbA hw.2 hi1 dL_law_385 ?_
  refine lv_aload_n hx hb dL_law_386 rfl (lv_at hl 0 rfl) ?_
  refine lv_iload_n hx hb dL_law_387 rfl (lv_at hl 3 rfl) ?_
  refine lv_iconst (v := 2) hx hb dL_law_388 (by decide) ?_
  refine lv_iadd hx hb dL_law_389 ?_
  refine va_sld hx hb hXs hbl hbA hw.2 hi2 dL_law_390 ?_
  refine lv_aload_n hx hb dL_law_391 rfl (lv_at hl 0 rfl) ?_
  refine lv_iload_n hx hb dL_law_392 rfl (lv_at hl 3 rfl) ?_
  refine lv_iconst (v := 3) hx hb dL_law_393 (by decide) ?_
  refine lv_iadd hx hb dL_law_394 ?_
  refine va_sld hx hb hXs hbl hbA hw.2 hi3 dL_law_395 ?_
  refine m_ci (m_runV (rest := []) hX hw (tX11_lay h) mtX11_lay k_365 ⟨k_366, k_367⟩ cl11 hTx ⟨⟨rfl, rfl, Nat.le_of_ble_eq_true rfl, Nat.le_of_ble_eq_true rfl⟩, hcs.1, hcs.2⟩ rfl hl.1 rfl (Nat.le_of_ble_eq_true rfl) dL_law_396) hw (fun r1 σ2 H locs h hw => ?_)
  obtain ⟨hTm, h⟩ := h
  refine (?_ : W p l e room_1 s m #[Value.ref b] below meth c H locs cells slots Q _)
  refine lv_aload_n hx hb dL_law_399 rfl (lv_at hl 2 rfl) ?_
  refine lv_aload_n hx hb dL_law_400 rfl (lv_at hl 0 rfl) ?_
  refine lv_iload_n hx hb dL_law_401 rfl (lv_at hl 3 rfl) ?_
  refine lv_iconst (v := 1) hx hb dL_law_402 (by decide) ?_
  refine lv_iadd hx hb dL_law_403 ?_
  refine va_sld hx hb hXs hbl hbA hw.2 hi1 dL_law_404 ?_
  refine lv_aload_n hx hb dL_law_405 rfl (lv_at hl 0 rfl) ?_
  refine lv_iload_n hx hb dL_law_406 rfl (lv_at hl 3 rfl) ?_
  refine lv_iconst (v := 2) hx hb dL_law_407 (by decide) ?_
  refine lv_iadd hx hb dL_law_408 ?_
  refine va_sld hx hb hXs hbl hbA hw.2 hi2 dL_law_409 ?_
  refine lv_aload_n hx hb dL_law_410 rfl (lv_at hl 0 rfl) ?_
  refine lv_iload_n hx hb dL_law_411 rfl (lv_at hl 3 rfl) ?_
  refine lv_iconst (v := 3) hx hb dL_law_412 (by decide) ?_
  refine lv_iadd hx hb dL_law_413 ?_
  refine va_sld hx hb hXs hbl hbA hw.2 hi3 dL_law_414 ?_
  refine m_ci (m_runV (rest := [_]) hX hw (tX12_lay h) mtX12_lay k_1101 ⟨k_1102, k_1103⟩ cl12 hTm ⟨⟨rfl, rfl, Nat.le_of_ble_eq_true rfl, Nat.le_of_ble_eq_true rfl⟩, hcs.1, hcs.2⟩ rfl hl.1 rfl (Nat.le_of_ble_eq_true rfl) dL_law_415) hw (fun r3 σ4 H locs h hw => ?_)
  refine lv_icmp_eq (tgt := 1240) hx hb dL_law_418 (by decide) (fun hq => ?_) (fun hq => ?_)
  · exact kk _ _ _ h.2 hw
  · exact absurd h.1 hq
set_option maxHeartbeats 4000000 in
set_option maxRecDepth 100000 in
theorem law_7 {p : Program} {l : Launch} {e : Env} {s : State} {m : MethodId} {below : List Frame} {meth : Method} {c : Code} {D : va_G} {cA : Nat → ClassId} {b L : Nat} {xs : Nat → Int32} (hX : Cx p m c code 4 s #[Value.ref b] R_law D cA) (hXs : va_X b L xs s s.heap) (hbl : b < s.heap.size) {ax am : Nat} {x3 : Int32} (hi1 : vp_in (x3 + 1) L) (hi2 : vp_in (x3 + 2) L) (hi3 : vp_in (x3 + 3) L) (hi4 : vp_in (x3 + 4) L) (hi5 : vp_in (x3 + 5) L) {σ : Me} {Post : Me → Prop} (hTx : gT σ ax = 11)
    (h : pX11_tear σ ax (xs (x3 + 1).toNatClampNeg) (fun r σ1 => gT σ1 am = 12 ∧ pX12_tear σ1 am (xs (x3 + 1).toNatClampNeg) (fun r2 σ2 => r = r2 ∧ Post σ2))) {cells slots : Nat} (hcs : cells + 0 ≤ 600000 ∧ slots + 0 ≤ 7302250) {H : Heap} {locs : List Loc} {ls : Array Slot} (hw : wS D cA s.heap.size s σ H locs) (hl : lv_has ls 4 [(0, .ref b), (1, .ref ax), (2, .ref am), (3, .int x3)]) {Q : State → Prop}
    (kk : ∀ (σ2 : Me) (H : Heap) (locs : List Loc), Post σ2 → wS D cA s.heap.size s σ2 H locs → W p l e room_1 s m #[Value.ref b] below meth c H locs cells slots Q (F0 m 1240 ls [])) : W p l e room_1 s m #[Value.ref b] below meth c H locs cells slots Q (F0 m 423 ls []) := by
  have hx := hX.1.1
  have hb := hX.1.2.1
  have hbA : ¬ s.heap.size ≤ b := Nat.not_le.mpr hbl
  refine lv_aload_n hx hb dL_law_423 rfl (lv_at hl 1 rfl) ?_
  refine lv_aload_n hx hb dL_law_424 rfl (lv_at hl 0 rfl) ?_
  refine lv_iload_n hx hb dL_law_425 rfl (lv_at hl 3 rfl) ?_
  refine lv_iconst (v := 1) hx hb dL_law_426 (by decide) ?_
  refine lv_iadd hx hb dL_law_427 ?_
  refine va_sld hx hb hXs hbl hbA hw.2 hi1 dL_law_428 ?_
  refine m_ci (m_runV (rest := []) hX hw (tX11_tear h) mtX11_tear k_369 ⟨k_370, k_371⟩ cl11 hTx ⟨⟨rfl, rfl, Nat.le_of_ble_eq_true rfl, Nat.le_of_ble_eq_true rfl⟩, hcs.1, hcs.2⟩ rfl hl.1 rfl (Nat.le_of_ble_eq_true rfl) dL_law_429) hw (fun r1 σ2 H locs h hw => ?_)
  obtain ⟨hTm, h⟩ := h
  refine (?_ : W p l e room_1 s m #[Value.ref b] below meth c H locs cells slots Q _)
  refine lv_aload_n hx hb dL_law_432 rfl (lv_at hl 2 rfl) ?_
  refine lv_aload_n hx hb dL_law_433 rfl (lv_at hl 0 rfl) ?_
  refine lv_iload_n hx hb dL_law_434 rfl (lv_at hl 3 rfl) ?_
  refine lv_iconst (v := 1) hx hb dL_law_435 (by decide) ?_
  refine lv_iadd hx hb dL_law_436 ?_
  refine va_sld hx hb hXs hbl hbA hw.2 hi1 dL_law_437 ?_
  refine m_ci (m_runV (rest := [_]) hX hw (tX12_tear h) mtX12_tear k_1105 ⟨k_1106, k_1107⟩ cl12 hTm ⟨⟨rfl, rfl, Nat.le_of_ble_eq_true rfl, Nat.le_of_ble_eq_true rfl⟩, hcs.1, hcs.2⟩ rfl hl.1 rfl (Nat.le_of_ble_eq_true rfl) dL_law_438) hw (fun r3 σ4 H locs h hw => ?_)
  refine lv_icmp_eq (tgt := 1240) hx hb dL_law_441 (by decide) (fun hq => ?_) (fun hq => ?_)
  · exact kk _ _ _ h.2 hw
  · exact absurd h.1 hq
set_option maxHeartbeats 4000000 in
set_option maxRecDepth 100000 in
theorem law_8 {p : Program} {l : Launch} {e : Env} {s : State} {m : MethodId} {below : List Frame} {meth : Method} {c : Code} {D : va_G} {cA : Nat → ClassId} {b L : Nat} {xs : Nat → Int32} (hX : Cx p m c code 4 s #[Value.ref b] R_law D cA) (hXs : va_X b L xs s s.heap) (hbl : b < s.heap.size) {ax am : Nat} {x3 : Int32} (hi1 : vp_in (x3 + 1) L) (hi2 : vp_in (x3 + 2) L) (hi3 : vp_in (x3 + 3) L) (hi4 : vp_in (x3 + 4) L) (hi5 : vp_in (x3 + 5) L) {σ : Me} {Post : Me → Prop} (hTx : gT σ ax = 11)
    (h : pX11_table σ ax (xs (x3 + 1).toNatClampNeg) (fun r σ1 => gT σ1 am = 12 ∧ pX12_table σ1 am (xs (x3 + 1).toNatClampNeg) (fun r2 σ2 => r = r2 ∧ Post σ2))) {cells slots : Nat} (hcs : cells + 2 ≤ 600000 ∧ slots + 26 ≤ 7302250) {H : Heap} {locs : List Loc} {ls : Array Slot} (hw : wS D cA s.heap.size s σ H locs) (hl : lv_has ls 4 [(0, .ref b), (1, .ref ax), (2, .ref am), (3, .int x3)]) {Q : State → Prop}
    (kk : ∀ (σ2 : Me) (H : Heap) (locs : List Loc), Post σ2 → wS D cA s.heap.size s σ2 H locs → W p l e room_1 s m #[Value.ref b] below meth c H locs (cells + 2) (slots + 26) Q (F0 m 1240 ls [])) : W p l e room_1 s m #[Value.ref b] below meth c H locs cells slots Q (F0 m 446 ls []) := by
  have hx := hX.1.1
  have hb := hX.1.2.1
  have hbA : ¬ s.heap.size ≤ b := Nat.not_le.mpr hbl
  refine lv_aload_n hx hb dL_law_446 rfl (lv_at hl 1 rfl) ?_
  refine lv_aload_n hx hb dL_law_447 rfl (lv_at hl 0 rfl) ?_
  refine lv_iload_n hx hb dL_law_448 rfl (lv_at hl 3 rfl) ?_
  refine lv_iconst (v := 1) hx hb dL_law_449 (by decide) ?_
  refine lv_iadd hx hb dL_law_450 ?_
  refine va_sld hx hb hXs hbl hbA hw.2 hi1 dL_law_451 ?_
  refine m_ci (m_runV (rest := []) hX hw (tX11_table h) mtX11_table k_373 ⟨k_374, k_375⟩ cl11 hTx ⟨⟨rfl, rfl, Nat.le_of_ble_eq_true rfl, Nat.le_of_ble_eq_true rfl⟩, hcs.1, hcs.2⟩ rfl hl.1 rfl (Nat.le_of_ble_eq_true rfl) dL_law_452) hw (fun r1 σ2 H locs h hw => ?_)
  obtain ⟨hTm, h⟩ := h
  refine lv_aload_n hx hb dL_law_455 rfl (lv_at hl 2 rfl) ?_
  refine lv_aload_n hx hb dL_law_456 rfl (lv_at hl 0 rfl) ?_
  refine lv_iload_n hx hb dL_law_457 rfl (lv_at hl 3 rfl) ?_
  refine lv_iconst (v := 1) hx hb dL_law_458 (by decide) ?_
  refine lv_iadd hx hb dL_law_459 ?_
  refine va_sld hx hb hXs hbl hbA hw.2 hi1 dL_law_460 ?_
  refine m_ci (m_runV (rest := [_]) hX hw (tX12_table h) mtX12_table k_1109 ⟨k_1110, k_1111⟩ cl12 hTm ⟨⟨rfl, rfl, Nat.le_of_ble_eq_true rfl, Nat.le_of_ble_eq_true rfl⟩, hcs.1, hcs.2⟩ rfl hl.1 rfl (Nat.le_of_ble_eq_true rfl) dL_law_461) hw (fun r3 σ4 H locs h hw => ?_)
  refine lv_icmp_eq (tgt := 1240) hx hb dL_law_464 (by decide) (fun hq => ?_) (fun hq => ?_)
  · exact kk _ _ _ h.2 hw
  · exact absurd h.1 hq
set_option maxHeartbeats 4000000 in
set_option maxRecDepth 100000 in
theorem law_9 {p : Program} {l : Launch} {e : Env} {s : State} {m : MethodId} {below : List Frame} {meth : Method} {c : Code} {D : va_G} {cA : Nat → ClassId} {b L : Nat} {xs : Nat → Int32} (hX : Cx p m c code 4 s #[Value.ref b] R_law D cA) (hXs : va_X b L xs s s.heap) (hbl : b < s.heap.size) {ax am : Nat} {x3 : Int32} (hi1 : vp_in (x3 + 1) L) (hi2 : vp_in (x3 + 2) L) (hi3 : vp_in (x3 + 3) L) (hi4 : vp_in (x3 + 4) L) (hi5 : vp_in (x3 + 5) L) {σ : Me} {Post : Me → Prop} (hTx : gT σ ax = 11)
    (h : pX11_rule σ ax (xs (x3 + 1).toNatClampNeg) (xs (x3 + 2).toNatClampNeg) (xs (x3 + 3).toNatClampNeg) (fun r σ1 => gT σ1 am = 12 ∧ pX12_rule σ1 am (xs (x3 + 1).toNatClampNeg) (xs (x3 + 2).toNatClampNeg) (xs (x3 + 3).toNatClampNeg) (fun r2 σ2 => r = r2 ∧ Post σ2))) {cells slots : Nat} (hcs : cells + 1 ≤ 600000 ∧ slots + 2 ≤ 7302250) {H : Heap} {locs : List Loc} {ls : Array Slot} (hw : wS D cA s.heap.size s σ H locs) (hl : lv_has ls 4 [(0, .ref b), (1, .ref ax), (2, .ref am), (3, .int x3)]) {Q : State → Prop}
    (kk : ∀ (σ2 : Me) (H : Heap) (locs : List Loc), Post σ2 → wS D cA s.heap.size s σ2 H locs → W p l e room_1 s m #[Value.ref b] below meth c H locs (cells + 1) (slots + 2) Q (F0 m 1240 ls [])) : W p l e room_1 s m #[Value.ref b] below meth c H locs cells slots Q (F0 m 469 ls []) := by
  have hx := hX.1.1
  have hb := hX.1.2.1
  have hbA : ¬ s.heap.size ≤ b := Nat.not_le.mpr hbl
  refine lv_aload_n hx hb dL_law_469 rfl (lv_at hl 1 rfl) ?_
  refine lv_aload_n hx hb dL_law_470 rfl (lv_at hl 0 rfl) ?_
  refine lv_iload_n hx hb dL_law_471 rfl (lv_at hl 3 rfl) ?_
  refine lv_iconst (v := 1) hx hb dL_law_472 (by decide) ?_
  refine lv_iadd hx hb dL_law_473 ?_
  refine va_sld hx hb hXs hbl hbA hw.2 hi1 dL_law_474 ?_
  refine lv_aload_n hx hb dL_law_475 rfl (lv_at hl 0 rfl) ?_
  refine lv_iload_n hx hb dL_law_476 rfl (lv_at hl 3 rfl) ?_
  refine lv_iconst (v := 2) hx hb dL_law_477 (by decide) ?_
  refine lv_iadd hx hb dL_law_478 ?_
  refine va_sld hx hb hXs hbl hbA hw.2 hi2 dL_law_479 ?_
  refine lv_aload_n hx hb dL_law_480 rfl (lv_at hl 0 rfl) ?_
  refine lv_iload_n hx hb dL_law_481 rfl (lv_at hl 3 rfl) ?_
  refine lv_iconst (v := 3) hx hb dL_law_482 (by decide) ?_
  refine lv_iadd hx hb dL_law_483 ?_
  refine va_sld hx hb hXs hbl hbA hw.2 hi3 dL_law_484 ?_
  refine m_ci (m_runV (rest := []) hX hw (tX11_rule h) mtX11_rule k_401 ⟨k_402, k_403⟩ cl11 hTx ⟨⟨rfl, rfl, Nat.le_of_ble_eq_true rfl, Nat.le_of_ble_eq_true rfl⟩, hcs.1, hcs.2⟩ rfl hl.1 rfl (Nat.le_of_ble_eq_true rfl) dL_law_485) hw (fun r1 σ2 H locs h hw => ?_)
  obtain ⟨hTm, h⟩ := h
  refine lv_aload_n hx hb dL_law_488 rfl (lv_at hl 2 rfl) ?_
  refine lv_aload_n hx hb dL_law_489 rfl (lv_at hl 0 rfl) ?_
  refine lv_iload_n hx hb dL_law_490 rfl (lv_at hl 3 rfl) ?_
  refine lv_iconst (v := 1) hx hb dL_law_491 (by decide) ?_
  refine lv_iadd hx hb dL_law_492 ?_
  refine va_sld hx hb hXs hbl hbA hw.2 hi1 dL_law_493 ?_
  refine lv_aload_n hx hb dL_law_494 rfl (lv_at hl 0 rfl) ?_
  refine lv_iload_n hx hb dL_law_495 rfl (lv_at hl 3 rfl) ?_
  refine lv_iconst (v := 2) hx hb dL_law_496 (by decide) ?_
  refine lv_iadd hx hb dL_law_497 ?_
  refine va_sld hx hb hXs hbl hbA hw.2 hi2 dL_law_498 ?_
  refine lv_aload_n hx hb dL_law_499 rfl (lv_at hl 0 rfl) ?_
  refine lv_iload_n hx hb dL_law_500 rfl (lv_at hl 3 rfl) ?_
  refine lv_iconst (v := 3) hx hb dL_law_501 (by decide) ?_
  refine lv_iadd hx hb dL_law_502 ?_
  refine va_sld hx hb hXs hbl hbA hw.2 hi3 dL_law_503 ?_
  refine m_ci (m_runV (rest := [_]) hX hw (tX12_rule h) mtX12_rule k_1117 ⟨k_1118, k_1119⟩ cl12 hTm ⟨⟨rfl, rfl, Nat.le_of_ble_eq_true rfl, Nat.le_of_ble_eq_true rfl⟩, hcs.1, hcs.2⟩ rfl hl.1 rfl (Nat.le_of_ble_eq_true rfl) dL_law_504) hw (fun r3 σ4 H locs h hw => ?_)
  refine lv_icmp_eq (tgt := 1240) hx hb dL_law_507 (by decide) (fun hq => ?_) (fun hq => ?_)
  · exact kk _ _ _ h.2 hw
  · exact absurd h.1 hq
set_option maxHeartbeats 4000000 in
set_option maxRecDepth 100000 in
theorem law_10 {p : Program} {l : Launch} {e : Env} {s : State} {m : MethodId} {below : List Frame} {meth : Method} {c : Code} {D : va_G} {cA : Nat → ClassId} {b L : Nat} {xs : Nat → Int32} (hX : Cx p m c code 4 s #[Value.ref b] R_law D cA) (hXs : va_X b L xs s s.heap) (hbl : b < s.heap.size) {ax am : Nat} {x3 : Int32} (hi1 : vp_in (x3 + 1) L) (hi2 : vp_in (x3 + 2) L) (hi3 : vp_in (x3 + 3) L) (hi4 : vp_in (x3 + 4) L) (hi5 : vp_in (x3 + 5) L) {σ : Me} {Post : Me → Prop} (hTx : gT σ ax = 11)
    (h : pX11_drop σ ax (xs (x3 + 1).toNatClampNeg) (fun r σ1 => gT σ1 am = 12 ∧ pX12_drop σ1 am (xs (x3 + 1).toNatClampNeg) (fun r2 σ2 => r = r2 ∧ Post σ2))) {cells slots : Nat} (hcs : cells + 0 ≤ 600000 ∧ slots + 0 ≤ 7302250) {H : Heap} {locs : List Loc} {ls : Array Slot} (hw : wS D cA s.heap.size s σ H locs) (hl : lv_has ls 4 [(0, .ref b), (1, .ref ax), (2, .ref am), (3, .int x3)]) {Q : State → Prop}
    (kk : ∀ (σ2 : Me) (H : Heap) (locs : List Loc), Post σ2 → wS D cA s.heap.size s σ2 H locs → W p l e room_1 s m #[Value.ref b] below meth c H locs cells slots Q (F0 m 1240 ls [])) : W p l e room_1 s m #[Value.ref b] below meth c H locs cells slots Q (F0 m 512 ls []) := by
  have hx := hX.1.1
  have hb := hX.1.2.1
  have hbA : ¬ s.heap.size ≤ b := Nat.not_le.mpr hbl
  refine lv_aload_n hx hb dL_law_512 rfl (lv_at hl 1 rfl) ?_
  refine lv_aload_n hx hb dL_law_513 rfl (lv_at hl 0 rfl) ?_
  refine lv_iload_n hx hb dL_law_514 rfl (lv_at hl 3 rfl) ?_
  refine lv_iconst (v := 1) hx hb dL_law_515 (by decide) ?_
  refine lv_iadd hx hb dL_law_516 ?_
  refine va_sld hx hb hXs hbl hbA hw.2 hi1 dL_law_517 ?_
  refine m_ci (m_runV (rest := []) hX hw (tX11_drop h) mtX11_drop k_448 ⟨k_449, k_450⟩ cl11 hTx ⟨⟨rfl, rfl, Nat.le_of_ble_eq_true rfl, Nat.le_of_ble_eq_true rfl⟩, hcs.1, hcs.2⟩ rfl hl.1 rfl (Nat.le_of_ble_eq_true rfl) dL_law_518) hw (fun r1 σ2 H locs h hw => ?_)
  obtain ⟨hTm, h⟩ := h
  refine (?_ : W p l e room_1 s m #[Value.ref b] below meth c H locs cells slots Q _)
  refine lv_aload_n hx hb dL_law_521 rfl (lv_at hl 2 rfl) ?_
  refine lv_aload_n hx hb dL_law_522 rfl (lv_at hl 0 rfl) ?_
  refine lv_iload_n hx hb dL_law_523 rfl (lv_at hl 3 rfl) ?_
  refine lv_iconst (v := 1) hx hb dL_law_524 (by decide) ?_
  refine lv_iadd hx hb dL_law_525 ?_
  refine va_sld hx hb hXs hbl hbA hw.2 hi1 dL_law_526 ?_
  refine m_ci (m_runV (rest := [_]) hX hw (tX12_drop h) mtX12_drop k_1121 ⟨k_1122, k_1123⟩ cl12 hTm ⟨⟨rfl, rfl, Nat.le_of_ble_eq_true rfl, Nat.le_of_ble_eq_true rfl⟩, hcs.1, hcs.2⟩ rfl hl.1 rfl (Nat.le_of_ble_eq_true rfl) dL_law_527) hw (fun r3 σ4 H locs h hw => ?_)
  refine lv_icmp_eq (tgt := 1240) hx hb dL_law_530 (by decide) (fun hq => ?_) (fun hq => ?_)
  · exact kk _ _ _ h.2 hw
  · exact absurd h.1 hq
set_option maxHeartbeats 4000000 in
set_option maxRecDepth 100000 in
theorem law_11 {p : Program} {l : Launch} {e : Env} {s : State} {m : MethodId} {below : List Frame} {meth : Method} {c : Code} {D : va_G} {cA : Nat → ClassId} {b L : Nat} {xs : Nat → Int32} (hX : Cx p m c code 4 s #[Value.ref b] R_law D cA) (hXs : va_X b L xs s s.heap) (hbl : b < s.heap.size) {ax am : Nat} {x3 : Int32} (hi1 : vp_in (x3 + 1) L) (hi2 : vp_in (x3 + 2) L) (hi3 : vp_in (x3 + 3) L) (hi4 : vp_in (x3 + 4) L) (hi5 : vp_in (x3 + 5) L) {σ : Me} {Post : Me → Prop} (hTx : gT σ ax = 11)
    (h : pX11_told σ ax (xs (x3 + 1).toNatClampNeg) (xs (x3 + 2).toNatClampNeg) (fun r σ1 => gT σ1 am = 12 ∧ pX12_told σ1 am (xs (x3 + 1).toNatClampNeg) (xs (x3 + 2).toNatClampNeg) (fun r2 σ2 => r = r2 ∧ Post σ2))) {cells slots : Nat} (hcs : cells + 0 ≤ 600000 ∧ slots + 0 ≤ 7302250) {H : Heap} {locs : List Loc} {ls : Array Slot} (hw : wS D cA s.heap.size s σ H locs) (hl : lv_has ls 4 [(0, .ref b), (1, .ref ax), (2, .ref am), (3, .int x3)]) {Q : State → Prop}
    (kk : ∀ (σ2 : Me) (H : Heap) (locs : List Loc), Post σ2 → wS D cA s.heap.size s σ2 H locs → W p l e room_1 s m #[Value.ref b] below meth c H locs cells slots Q (F0 m 1240 ls [])) : W p l e room_1 s m #[Value.ref b] below meth c H locs cells slots Q (F0 m 535 ls []) := by
  have hx := hX.1.1
  have hb := hX.1.2.1
  have hbA : ¬ s.heap.size ≤ b := Nat.not_le.mpr hbl
  refine lv_aload_n hx hb dL_law_535 rfl (lv_at hl 1 rfl) ?_
  refine lv_aload_n hx hb dL_law_536 rfl (lv_at hl 0 rfl) ?_
  refine lv_iload_n hx hb dL_law_537 rfl (lv_at hl 3 rfl) ?_
  refine lv_iconst (v := 1) hx hb dL_law_538 (by decide) ?_
  refine lv_iadd hx hb dL_law_539 ?_
  refine va_sld hx hb hXs hbl hbA hw.2 hi1 dL_law_540 ?_
  refine lv_aload_n hx hb dL_law_541 rfl (lv_at hl 0 rfl) ?_
  refine lv_iload_n hx hb dL_law_542 rfl (lv_at hl 3 rfl) ?_
  refine lv_iconst (v := 2) hx hb dL_law_543 (by decide) ?_
  refine lv_iadd hx hb dL_law_544 ?_
  refine va_sld hx hb hXs hbl hbA hw.2 hi2 dL_law_545 ?_
  refine m_ci (m_runV (rest := []) hX hw (tX11_told h) mtX11_told k_457 ⟨k_458, k_459⟩ cl11 hTx ⟨⟨rfl, rfl, Nat.le_of_ble_eq_true rfl, Nat.le_of_ble_eq_true rfl⟩, hcs.1, hcs.2⟩ rfl hl.1 rfl (Nat.le_of_ble_eq_true rfl) dL_law_546) hw (fun r1 σ2 H locs h hw => ?_)
  obtain ⟨hTm, h⟩ := h
  refine (?_ : W p l e room_1 s m #[Value.ref b] below meth c H locs cells slots Q _)
  refine lv_aload_n hx hb dL_law_549 rfl (lv_at hl 2 rfl) ?_
  refine lv_aload_n hx hb dL_law_550 rfl (lv_at hl 0 rfl) ?_
  refine lv_iload_n hx hb dL_law_551 rfl (lv_at hl 3 rfl) ?_
  refine lv_iconst (v := 1) hx hb dL_law_552 (by decide) ?_
  refine lv_iadd hx hb dL_law_553 ?_
  refine va_sld hx hb hXs hbl hbA hw.2 hi1 dL_law_554 ?_
  refine lv_aload_n hx hb dL_law_555 rfl (lv_at hl 0 rfl) ?_
  refine lv_iload_n hx hb dL_law_556 rfl (lv_at hl 3 rfl) ?_
  refine lv_iconst (v := 2) hx hb dL_law_557 (by decide) ?_
  refine lv_iadd hx hb dL_law_558 ?_
  refine va_sld hx hb hXs hbl hbA hw.2 hi2 dL_law_559 ?_
  refine m_ci (m_runV (rest := [_]) hX hw (tX12_told h) mtX12_told k_1133 ⟨k_1134, k_1135⟩ cl12 hTm ⟨⟨rfl, rfl, Nat.le_of_ble_eq_true rfl, Nat.le_of_ble_eq_true rfl⟩, hcs.1, hcs.2⟩ rfl hl.1 rfl (Nat.le_of_ble_eq_true rfl) dL_law_560) hw (fun r3 σ4 H locs h hw => ?_)
  refine lv_icmp_eq (tgt := 1240) hx hb dL_law_563 (by decide) (fun hq => ?_) (fun hq => ?_)
  · exact kk _ _ _ h.2 hw
  · exact absurd h.1 hq
set_option maxHeartbeats 4000000 in
set_option maxRecDepth 100000 in
theorem law_12 {p : Program} {l : Launch} {e : Env} {s : State} {m : MethodId} {below : List Frame} {meth : Method} {c : Code} {D : va_G} {cA : Nat → ClassId} {b L : Nat} {xs : Nat → Int32} (hX : Cx p m c code 4 s #[Value.ref b] R_law D cA) (hXs : va_X b L xs s s.heap) (hbl : b < s.heap.size) {ax am : Nat} {x3 : Int32} (hi1 : vp_in (x3 + 1) L) (hi2 : vp_in (x3 + 2) L) (hi3 : vp_in (x3 + 3) L) (hi4 : vp_in (x3 + 4) L) (hi5 : vp_in (x3 + 5) L) {σ : Me} {Post : Me → Prop} (hTx : gT σ ax = 11)
    (h : pX11_mark σ ax (xs (x3 + 1).toNatClampNeg) (xs (x3 + 2).toNatClampNeg) (fun r σ1 => gT σ1 am = 12 ∧ pX12_mark σ1 am (xs (x3 + 1).toNatClampNeg) (xs (x3 + 2).toNatClampNeg) (fun r2 σ2 => r = r2 ∧ Post σ2))) {cells slots : Nat} (hcs : cells + 0 ≤ 600000 ∧ slots + 0 ≤ 7302250) {H : Heap} {locs : List Loc} {ls : Array Slot} (hw : wS D cA s.heap.size s σ H locs) (hl : lv_has ls 4 [(0, .ref b), (1, .ref ax), (2, .ref am), (3, .int x3)]) {Q : State → Prop}
    (kk : ∀ (σ2 : Me) (H : Heap) (locs : List Loc), Post σ2 → wS D cA s.heap.size s σ2 H locs → W p l e room_1 s m #[Value.ref b] below meth c H locs cells slots Q (F0 m 1240 ls [])) : W p l e room_1 s m #[Value.ref b] below meth c H locs cells slots Q (F0 m 568 ls []) := by
  have hx := hX.1.1
  have hb := hX.1.2.1
  have hbA : ¬ s.heap.size ≤ b := Nat.not_le.mpr hbl
  refine lv_aload_n hx hb dL_law_568 rfl (lv_at hl 1 rfl) ?_
  refine lv_aload_n hx hb dL_law_569 rfl (lv_at hl 0 rfl) ?_
  refine lv_iload_n hx hb dL_law_570 rfl (lv_at hl 3 rfl) ?_
  refine lv_iconst (v := 1) hx hb dL_law_571 (by decide) ?_
  refine lv_iadd hx hb dL_law_572 ?_
  refine va_sld hx hb hXs hbl hbA hw.2 hi1 dL_law_573 ?_
  refine lv_aload_n hx hb dL_law_574 rfl (lv_at hl 0 rfl) ?_
  refine lv_iload_n hx hb dL_law_575 rfl (lv_at hl 3 rfl) ?_
  refine lv_iconst (v := 2) hx hb dL_law_576 (by decide) ?_
  refine lv_iadd hx hb dL_law_577 ?_
  refine va_sld hx hb hXs hbl hbA hw.2 hi2 dL_law_578 ?_
  refine m_ci (m_runV (rest := []) hX hw (tX11_mark h) mtX11_mark k_521 ⟨k_522, k_523⟩ cl11 hTx ⟨⟨rfl, rfl, Nat.le_of_ble_eq_true rfl, Nat.le_of_ble_eq_true rfl⟩, hcs.1, hcs.2⟩ rfl hl.1 rfl (Nat.le_of_ble_eq_true rfl) dL_law_579) hw (fun r1 σ2 H locs h hw => ?_)
  obtain ⟨hTm, h⟩ := h
  refine (?_ : W p l e room_1 s m #[Value.ref b] below meth c H locs cells slots Q _)
  refine lv_aload_n hx hb dL_law_582 rfl (lv_at hl 2 rfl) ?_
  refine lv_aload_n hx hb dL_law_583 rfl (lv_at hl 0 rfl) ?_
  refine lv_iload_n hx hb dL_law_584 rfl (lv_at hl 3 rfl) ?_
  refine lv_iconst (v := 1) hx hb dL_law_585 (by decide) ?_
  refine lv_iadd hx hb dL_law_586 ?_
  refine va_sld hx hb hXs hbl hbA hw.2 hi1 dL_law_587 ?_
  refine lv_aload_n hx hb dL_law_588 rfl (lv_at hl 0 rfl) ?_
  refine lv_iload_n hx hb dL_law_589 rfl (lv_at hl 3 rfl) ?_
  refine lv_iconst (v := 2) hx hb dL_law_590 (by decide) ?_
  refine lv_iadd hx hb dL_law_591 ?_
  refine va_sld hx hb hXs hbl hbA hw.2 hi2 dL_law_592 ?_
  refine m_ci (m_runV (rest := [_]) hX hw (tX12_mark h) mtX12_mark k_1141 ⟨k_1142, k_1143⟩ cl12 hTm ⟨⟨rfl, rfl, Nat.le_of_ble_eq_true rfl, Nat.le_of_ble_eq_true rfl⟩, hcs.1, hcs.2⟩ rfl hl.1 rfl (Nat.le_of_ble_eq_true rfl) dL_law_593) hw (fun r3 σ4 H locs h hw => ?_)
  refine lv_icmp_eq (tgt := 1240) hx hb dL_law_596 (by decide) (fun hq => ?_) (fun hq => ?_)
  · exact kk _ _ _ h.2 hw
  · exact absurd h.1 hq
set_option maxHeartbeats 4000000 in
set_option maxRecDepth 100000 in
theorem law_13 {p : Program} {l : Launch} {e : Env} {s : State} {m : MethodId} {below : List Frame} {meth : Method} {c : Code} {D : va_G} {cA : Nat → ClassId} {b L : Nat} {xs : Nat → Int32} (hX : Cx p m c code 4 s #[Value.ref b] R_law D cA) (hXs : va_X b L xs s s.heap) (hbl : b < s.heap.size) {ax am : Nat} {x3 : Int32} (hi1 : vp_in (x3 + 1) L) (hi2 : vp_in (x3 + 2) L) (hi3 : vp_in (x3 + 3) L) (hi4 : vp_in (x3 + 4) L) (hi5 : vp_in (x3 + 5) L) {σ : Me} {Post : Me → Prop} (hTx : gT σ ax = 11)
    (h : pX11_order σ ax (xs (x3 + 1).toNatClampNeg) (xs (x3 + 2).toNatClampNeg) (fun r σ1 => gT σ1 am = 12 ∧ pX12_order σ1 am (xs (x3 + 1).toNatClampNeg) (xs (x3 + 2).toNatClampNeg) (fun r2 σ2 => r = r2 ∧ Post σ2))) {cells slots : Nat} (hcs : cells + 0 ≤ 600000 ∧ slots + 0 ≤ 7302250) {H : Heap} {locs : List Loc} {ls : Array Slot} (hw : wS D cA s.heap.size s σ H locs) (hl : lv_has ls 4 [(0, .ref b), (1, .ref ax), (2, .ref am), (3, .int x3)]) {Q : State → Prop}
    (kk : ∀ (σ2 : Me) (H : Heap) (locs : List Loc), Post σ2 → wS D cA s.heap.size s σ2 H locs → W p l e room_1 s m #[Value.ref b] below meth c H locs cells slots Q (F0 m 1240 ls [])) : W p l e room_1 s m #[Value.ref b] below meth c H locs cells slots Q (F0 m 601 ls []) := by
  have hx := hX.1.1
  have hb := hX.1.2.1
  have hbA : ¬ s.heap.size ≤ b := Nat.not_le.mpr hbl
  refine lv_aload_n hx hb dL_law_601 rfl (lv_at hl 1 rfl) ?_
  refine lv_aload_n hx hb dL_law_602 rfl (lv_at hl 0 rfl) ?_
  refine lv_iload_n hx hb dL_law_603 rfl (lv_at hl 3 rfl) ?_
  refine lv_iconst (v := 1) hx hb dL_law_604 (by decide) ?_
  refine lv_iadd hx hb dL_law_605 ?_
  refine va_sld hx hb hXs hbl hbA hw.2 hi1 dL_law_606 ?_
  refine lv_aload_n hx hb dL_law_607 rfl (lv_at hl 0 rfl) ?_
  refine lv_iload_n hx hb dL_law_608 rfl (lv_at hl 3 rfl) ?_
  refine lv_iconst (v := 2) hx hb dL_law_609 (by decide) ?_
  refine lv_iadd hx hb dL_law_610 ?_
  refine va_sld hx hb hXs hbl hbA hw.2 hi2 dL_law_611 ?_
  refine m_ci (m_runV (rest := []) hX hw (tX11_order h) mtX11_order k_525 ⟨k_526, k_527⟩ cl11 hTx ⟨⟨rfl, rfl, Nat.le_of_ble_eq_true rfl, Nat.le_of_ble_eq_true rfl⟩, hcs.1, hcs.2⟩ rfl hl.1 rfl (Nat.le_of_ble_eq_true rfl) dL_law_612) hw (fun r1 σ2 H locs h hw => ?_)
  obtain ⟨hTm, h⟩ := h
  refine (?_ : W p l e room_1 s m #[Value.ref b] below meth c H locs cells slots Q _)
  refine lv_aload_n hx hb dL_law_615 rfl (lv_at hl 2 rfl) ?_
  refine lv_aload_n hx hb dL_law_616 rfl (lv_at hl 0 rfl) ?_
  refine lv_iload_n hx hb dL_law_617 rfl (lv_at hl 3 rfl) ?_
  refine lv_iconst (v := 1) hx hb dL_law_618 (by decide) ?_
  refine lv_iadd hx hb dL_law_619 ?_
  refine va_sld hx hb hXs hbl hbA hw.2 hi1 dL_law_620 ?_
  refine lv_aload_n hx hb dL_law_621 rfl (lv_at hl 0 rfl) ?_
  refine lv_iload_n hx hb dL_law_622 rfl (lv_at hl 3 rfl) ?_
  refine lv_iconst (v := 2) hx hb dL_law_623 (by decide) ?_
  refine lv_iadd hx hb dL_law_624 ?_
  refine va_sld hx hb hXs hbl hbA hw.2 hi2 dL_law_625 ?_
  refine m_ci (m_runV (rest := [_]) hX hw (tX12_order h) mtX12_order k_1145 ⟨k_1146, k_1147⟩ cl12 hTm ⟨⟨rfl, rfl, Nat.le_of_ble_eq_true rfl, Nat.le_of_ble_eq_true rfl⟩, hcs.1, hcs.2⟩ rfl hl.1 rfl (Nat.le_of_ble_eq_true rfl) dL_law_626) hw (fun r3 σ4 H locs h hw => ?_)
  refine lv_icmp_eq (tgt := 1240) hx hb dL_law_629 (by decide) (fun hq => ?_) (fun hq => ?_)
  · exact kk _ _ _ h.2 hw
  · exact absurd h.1 hq
set_option maxHeartbeats 4000000 in
set_option maxRecDepth 100000 in
theorem law_14 {p : Program} {l : Launch} {e : Env} {s : State} {m : MethodId} {below : List Frame} {meth : Method} {c : Code} {D : va_G} {cA : Nat → ClassId} {b L : Nat} {xs : Nat → Int32} (hX : Cx p m c code 4 s #[Value.ref b] R_law D cA) (hXs : va_X b L xs s s.heap) (hbl : b < s.heap.size) {ax am : Nat} {x3 : Int32} (hi1 : vp_in (x3 + 1) L) (hi2 : vp_in (x3 + 2) L) (hi3 : vp_in (x3 + 3) L) (hi4 : vp_in (x3 + 4) L) (hi5 : vp_in (x3 + 5) L) {σ : Me} {Post : Me → Prop} (hTx : gT σ ax = 11)
    (h : pX11_shop σ ax (xs (x3 + 1).toNatClampNeg) (xs (x3 + 2).toNatClampNeg) ((if (xs (x3 + 3).toNatClampNeg) = 0 then (0 : Int32) else (1 : Int32))) (fun r σ1 => gT σ1 am = 12 ∧ pX12_shop σ1 am (xs (x3 + 1).toNatClampNeg) (xs (x3 + 2).toNatClampNeg) ((if (xs (x3 + 3).toNatClampNeg) = 0 then (0 : Int32) else (1 : Int32))) (fun r2 σ2 => r = r2 ∧ Post σ2))) {cells slots : Nat} (hcs : cells + 0 ≤ 600000 ∧ slots + 0 ≤ 7302250) {H : Heap} {locs : List Loc} {ls : Array Slot} (hw : wS D cA s.heap.size s σ H locs) (hl : lv_has ls 4 [(0, .ref b), (1, .ref ax), (2, .ref am), (3, .int x3)]) {Q : State → Prop}
    (kk : ∀ (σ2 : Me) (H : Heap) (locs : List Loc), Post σ2 → wS D cA s.heap.size s σ2 H locs → W p l e room_1 s m #[Value.ref b] below meth c H locs cells slots Q (F0 m 1240 ls [])) : W p l e room_1 s m #[Value.ref b] below meth c H locs cells slots Q (F0 m 634 ls []) := by
  have hx := hX.1.1
  have hb := hX.1.2.1
  have hbA : ¬ s.heap.size ≤ b := Nat.not_le.mpr hbl
  refine lv_aload_n hx hb dL_law_634 rfl (lv_at hl 1 rfl) ?_
  refine lv_aload_n hx hb dL_law_635 rfl (lv_at hl 0 rfl) ?_
  refine lv_iload_n hx hb dL_law_636 rfl (lv_at hl 3 rfl) ?_
  refine lv_iconst (v := 1) hx hb dL_law_637 (by decide) ?_
  refine lv_iadd hx hb dL_law_638 ?_
  refine va_sld hx hb hXs hbl hbA hw.2 hi1 dL_law_639 ?_
  refine lv_aload_n hx hb dL_law_640 rfl (lv_at hl 0 rfl) ?_
  refine lv_iload_n hx hb dL_law_641 rfl (lv_at hl 3 rfl) ?_
  refine lv_iconst (v := 2) hx hb dL_law_642 (by decide) ?_
  refine lv_iadd hx hb dL_law_643 ?_
  refine va_sld hx hb hXs hbl hbA hw.2 hi2 dL_law_644 ?_
  refine lv_aload_n hx hb dL_law_645 rfl (lv_at hl 0 rfl) ?_
  refine lv_iload_n hx hb dL_law_646 rfl (lv_at hl 3 rfl) ?_
  refine lv_iconst (v := 3) hx hb dL_law_647 (by decide) ?_
  refine lv_iadd hx hb dL_law_648 ?_
  refine va_sld hx hb hXs hbl hbA hw.2 hi3 dL_law_649 ?_
  have kM1 : W p l e room_1 s m #[Value.ref b] below meth c H locs cells slots Q (F0 m 658 ls (.int (if (xs (x3 + 3).toNatClampNeg) = 0 then (0 : Int32) else (1 : Int32)) :: [.int (xs (x3 + 2).toNatClampNeg), .int (xs (x3 + 1).toNatClampNeg), .ref ax])) → W p l e room_1 s m #[Value.ref b] below meth c H locs cells slots Q (F0 m 650 ls (.int (xs (x3 + 3).toNatClampNeg) :: [.int (xs (x3 + 2).toNatClampNeg), .int (xs (x3 + 1).toNatClampNeg), .ref ax])) := by
    intro kz
    refine lv_if_eq (tgt := 657) hx hb dL_law_650 (by decide) (fun hc2 => ?_) (fun hc2 => ?_)
    · rw [if_pos hc2] at kz
      exact lv_iconst (v := 0) hx hb dL_law_657 (by decide) kz
    · rw [if_neg hc2] at kz
      exact lv_iconst (v := 1) hx hb dL_law_653 (by decide) (lv_goto (tgt := 658) hx hb dL_law_654 (by decide) kz)
  refine kM1 ?_
  refine m_ci (m_runV (rest := []) hX hw (tX11_shop h) mtX11_shop k_555 ⟨k_556, k_557⟩ cl11 hTx ⟨⟨rfl, rfl, Nat.le_of_ble_eq_true rfl, Nat.le_of_ble_eq_true rfl⟩, hcs.1, hcs.2⟩ rfl hl.1 rfl (Nat.le_of_ble_eq_true rfl) dL_law_658) hw (fun r3 σ4 H locs h hw => ?_)
  obtain ⟨hTm, h⟩ := h
  refine (?_ : W p l e room_1 s m #[Value.ref b] below meth c H locs cells slots Q _)
  refine lv_aload_n hx hb dL_law_661 rfl (lv_at hl 2 rfl) ?_
  refine lv_aload_n hx hb dL_law_662 rfl (lv_at hl 0 rfl) ?_
  refine lv_iload_n hx hb dL_law_663 rfl (lv_at hl 3 rfl) ?_
  refine lv_iconst (v := 1) hx hb dL_law_664 (by decide) ?_
  refine lv_iadd hx hb dL_law_665 ?_
  refine va_sld hx hb hXs hbl hbA hw.2 hi1 dL_law_666 ?_
  refine lv_aload_n hx hb dL_law_667 rfl (lv_at hl 0 rfl) ?_
  refine lv_iload_n hx hb dL_law_668 rfl (lv_at hl 3 rfl) ?_
  refine lv_iconst (v := 2) hx hb dL_law_669 (by decide) ?_
  refine lv_iadd hx hb dL_law_670 ?_
  refine va_sld hx hb hXs hbl hbA hw.2 hi2 dL_law_671 ?_
  refine lv_aload_n hx hb dL_law_672 rfl (lv_at hl 0 rfl) ?_
  refine lv_iload_n hx hb dL_law_673 rfl (lv_at hl 3 rfl) ?_
  refine lv_iconst (v := 3) hx hb dL_law_674 (by decide) ?_
  refine lv_iadd hx hb dL_law_675 ?_
  refine va_sld hx hb hXs hbl hbA hw.2 hi3 dL_law_676 ?_
  have kM5 : W p l e room_1 s m #[Value.ref b] below meth c H locs cells slots Q (F0 m 685 ls (.int (if (xs (x3 + 3).toNatClampNeg) = 0 then (0 : Int32) else (1 : Int32)) :: [.int (xs (x3 + 2).toNatClampNeg), .int (xs (x3 + 1).toNatClampNeg), .ref am, .int r3])) → W p l e room_1 s m #[Value.ref b] below meth c H locs cells slots Q (F0 m 677 ls (.int (xs (x3 + 3).toNatClampNeg) :: [.int (xs (x3 + 2).toNatClampNeg), .int (xs (x3 + 1).toNatClampNeg), .ref am, .int r3])) := by
    intro kz
    refine lv_if_eq (tgt := 684) hx hb dL_law_677 (by decide) (fun hc6 => ?_) (fun hc6 => ?_)
    · rw [if_pos hc6] at kz
      exact lv_iconst (v := 0) hx hb dL_law_684 (by decide) kz
    · rw [if_neg hc6] at kz
      exact lv_iconst (v := 1) hx hb dL_law_680 (by decide) (lv_goto (tgt := 685) hx hb dL_law_681 (by decide) kz)
  refine kM5 ?_
  refine m_ci (m_runV (rest := [_]) hX hw (tX12_shop h) mtX12_shop k_1153 ⟨k_1154, k_1155⟩ cl12 hTm ⟨⟨rfl, rfl, Nat.le_of_ble_eq_true rfl, Nat.le_of_ble_eq_true rfl⟩, hcs.1, hcs.2⟩ rfl hl.1 rfl (Nat.le_of_ble_eq_true rfl) dL_law_685) hw (fun r7 σ8 H locs h hw => ?_)
  refine lv_icmp_eq (tgt := 1240) hx hb dL_law_688 (by decide) (fun hq => ?_) (fun hq => ?_)
  · exact kk _ _ _ h.2 hw
  · exact absurd h.1 hq
set_option maxHeartbeats 4000000 in
set_option maxRecDepth 100000 in
theorem law_15 {p : Program} {l : Launch} {e : Env} {s : State} {m : MethodId} {below : List Frame} {meth : Method} {c : Code} {D : va_G} {cA : Nat → ClassId} {b L : Nat} {xs : Nat → Int32} (hX : Cx p m c code 4 s #[Value.ref b] R_law D cA) (hXs : va_X b L xs s s.heap) (hbl : b < s.heap.size) {ax am : Nat} {x3 : Int32} (hi1 : vp_in (x3 + 1) L) (hi2 : vp_in (x3 + 2) L) (hi3 : vp_in (x3 + 3) L) (hi4 : vp_in (x3 + 4) L) (hi5 : vp_in (x3 + 5) L) {σ : Me} {Post : Me → Prop} (hTx : gT σ ax = 11)
    (h : pX11_costs σ ax (xs (x3 + 1).toNatClampNeg) (xs (x3 + 2).toNatClampNeg) (xs (x3 + 3).toNatClampNeg) (xs (x3 + 4).toNatClampNeg) (fun r σ1 => gT σ1 am = 12 ∧ pX12_costs σ1 am (xs (x3 + 1).toNatClampNeg) (xs (x3 + 2).toNatClampNeg) (xs (x3 + 3).toNatClampNeg) (xs (x3 + 4).toNatClampNeg) (fun r2 σ2 => r = r2 ∧ Post σ2))) {cells slots : Nat} (hcs : cells + 0 ≤ 600000 ∧ slots + 0 ≤ 7302250) {H : Heap} {locs : List Loc} {ls : Array Slot} (hw : wS D cA s.heap.size s σ H locs) (hl : lv_has ls 4 [(0, .ref b), (1, .ref ax), (2, .ref am), (3, .int x3)]) {Q : State → Prop}
    (kk : ∀ (σ2 : Me) (H : Heap) (locs : List Loc), Post σ2 → wS D cA s.heap.size s σ2 H locs → W p l e room_1 s m #[Value.ref b] below meth c H locs cells slots Q (F0 m 1240 ls [])) : W p l e room_1 s m #[Value.ref b] below meth c H locs cells slots Q (F0 m 693 ls []) := by
  have hx := hX.1.1
  have hb := hX.1.2.1
  have hbA : ¬ s.heap.size ≤ b := Nat.not_le.mpr hbl
  refine lv_aload_n hx hb dL_law_693 rfl (lv_at hl 1 rfl) ?_
  refine lv_aload_n hx hb dL_law_694 rfl (lv_at hl 0 rfl) ?_
  refine lv_iload_n hx hb dL_law_695 rfl (lv_at hl 3 rfl) ?_
  refine lv_iconst (v := 1) hx hb dL_law_696 (by decide) ?_
  refine lv_iadd hx hb dL_law_697 ?_
  refine va_sld hx hb hXs hbl hbA hw.2 hi1 dL_law_698 ?_
  refine lv_aload_n hx hb dL_law_699 rfl (lv_at hl 0 rfl) ?_
  refine lv_iload_n hx hb dL_law_700 rfl (lv_at hl 3 rfl) ?_
  refine lv_iconst (v := 2) hx hb dL_law_701 (by decide) ?_
  refine lv_iadd hx hb dL_law_702 ?_
  refine va_sld hx hb hXs hbl hbA hw.2 hi2 dL_law_703 ?_
  refine lv_aload_n hx hb dL_law_704 rfl (lv_at hl 0 rfl) ?_
  refine lv_iload_n hx hb dL_law_705 rfl (lv_at hl 3 rfl) ?_
  refine lv_iconst (v := 3) hx hb dL_law_706 (by decide) ?_
  refine lv_iadd hx hb dL_law_707 ?_
  refine va_sld hx hb hXs hbl hbA hw.2 hi3 dL_law_708 ?_
  refine lv_aload_n hx hb dL_law_709 rfl (lv_at hl 0 rfl) ?_
  refine lv_iload_n hx hb dL_law_710 rfl (lv_at hl 3 rfl) ?_
  refine lv_iconst (v := 4) hx hb dL_law_711 (by decide) ?_
  refine lv_iadd hx hb dL_law_712 ?_
  refine va_sld hx hb hXs hbl hbA hw.2 hi4 dL_law_713 ?_
  refine m_ci (m_runV (rest := []) hX hw (tX11_costs h) mtX11_costs k_559 ⟨k_560, k_561⟩ cl11 hTx ⟨⟨rfl, rfl, Nat.le_of_ble_eq_true rfl, Nat.le_of_ble_eq_true rfl⟩, hcs.1, hcs.2⟩ rfl hl.1 rfl (Nat.le_of_ble_eq_true rfl) dL_law_714) hw (fun r1 σ2 H locs h hw => ?_)
  obtain ⟨hTm, h⟩ := h
  refine (?_ : W p l e room_1 s m #[Value.ref b] below meth c H locs cells slots Q _)
  refine lv_aload_n hx hb dL_law_717 rfl (lv_at hl 2 rfl) ?_
  refine lv_aload_n hx hb dL_law_718 rfl (lv_at hl 0 rfl) ?_
  refine lv_iload_n hx hb dL_law_719 rfl (lv_at hl 3 rfl) ?_
  refine lv_iconst (v := 1) hx hb dL_law_720 (by decide) ?_
  refine lv_iadd hx hb dL_law_721 ?_
  refine va_sld hx hb hXs hbl hbA hw.2 hi1 dL_law_722 ?_
  refine lv_aload_n hx hb dL_law_723 rfl (lv_at hl 0 rfl) ?_
  refine lv_iload_n hx hb dL_law_724 rfl (lv_at hl 3 rfl) ?_
  refine lv_iconst (v := 2) hx hb dL_law_725 (by decide) ?_
  refine lv_iadd hx hb dL_law_726 ?_
  refine va_sld hx hb hXs hbl hbA hw.2 hi2 dL_law_727 ?_
  refine lv_aload_n hx hb dL_law_728 rfl (lv_at hl 0 rfl) ?_
  refine lv_iload_n hx hb dL_law_729 rfl (lv_at hl 3 rfl) ?_
  refine lv_iconst (v := 3) hx hb dL_law_730 (by decide) ?_
  refine lv_iadd hx hb dL_law_731 ?_
  refine va_sld hx hb hXs hbl hbA hw.2 hi3 dL_law_732 ?_
  refine lv_aload_n hx hb dL_law_733 rfl (lv_at hl 0 rfl) ?_
  refine lv_iload_n hx hb dL_law_734 rfl (lv_at hl 3 rfl) ?_
  refine lv_iconst (v := 4) hx hb dL_law_735 (by decide) ?_
  refine lv_iadd hx hb dL_law_736 ?_
  refine va_sld hx hb hXs hbl hbA hw.2 hi4 dL_law_737 ?_
  refine m_ci (m_runV (rest := [_]) hX hw (tX12_costs h) mtX12_costs k_1157 ⟨k_1158, k_1159⟩ cl12 hTm ⟨⟨rfl, rfl, Nat.le_of_ble_eq_true rfl, Nat.le_of_ble_eq_true rfl⟩, hcs.1, hcs.2⟩ rfl hl.1 rfl (Nat.le_of_ble_eq_true rfl) dL_law_738) hw (fun r3 σ4 H locs h hw => ?_)
  refine lv_icmp_eq (tgt := 1240) hx hb dL_law_741 (by decide) (fun hq => ?_) (fun hq => ?_)
  · exact kk _ _ _ h.2 hw
  · exact absurd h.1 hq
set_option maxHeartbeats 4000000 in
set_option maxRecDepth 100000 in
theorem law_16 {p : Program} {l : Launch} {e : Env} {s : State} {m : MethodId} {below : List Frame} {meth : Method} {c : Code} {D : va_G} {cA : Nat → ClassId} {b L : Nat} {xs : Nat → Int32} (hX : Cx p m c code 4 s #[Value.ref b] R_law D cA) (hXs : va_X b L xs s s.heap) (hbl : b < s.heap.size) {ax am : Nat} {x3 : Int32} (hi1 : vp_in (x3 + 1) L) (hi2 : vp_in (x3 + 2) L) (hi3 : vp_in (x3 + 3) L) (hi4 : vp_in (x3 + 4) L) (hi5 : vp_in (x3 + 5) L) {σ : Me} {Post : Me → Prop} (hTx : gT σ ax = 11)
    (h : pX11_cost σ ax (xs (x3 + 1).toNatClampNeg) (xs (x3 + 2).toNatClampNeg) (xs (x3 + 3).toNatClampNeg) (xs (x3 + 4).toNatClampNeg) (fun r σ1 => gT σ1 am = 12 ∧ pX12_cost σ1 am (xs (x3 + 1).toNatClampNeg) (xs (x3 + 2).toNatClampNeg) (xs (x3 + 3).toNatClampNeg) (xs (x3 + 4).toNatClampNeg) (fun r2 σ2 => r = r2 ∧ Post σ2))) {cells slots : Nat} (hcs : cells + 0 ≤ 600000 ∧ slots + 0 ≤ 7302250) {H : Heap} {locs : List Loc} {ls : Array Slot} (hw : wS D cA s.heap.size s σ H locs) (hl : lv_has ls 4 [(0, .ref b), (1, .ref ax), (2, .ref am), (3, .int x3)]) {Q : State → Prop}
    (kk : ∀ (σ2 : Me) (H : Heap) (locs : List Loc), Post σ2 → wS D cA s.heap.size s σ2 H locs → W p l e room_1 s m #[Value.ref b] below meth c H locs cells slots Q (F0 m 1240 ls [])) : W p l e room_1 s m #[Value.ref b] below meth c H locs cells slots Q (F0 m 746 ls []) := by
  have hx := hX.1.1
  have hb := hX.1.2.1
  have hbA : ¬ s.heap.size ≤ b := Nat.not_le.mpr hbl
  refine lv_aload_n hx hb dL_law_746 rfl (lv_at hl 1 rfl) ?_
  refine lv_aload_n hx hb dL_law_747 rfl (lv_at hl 0 rfl) ?_
  refine lv_iload_n hx hb dL_law_748 rfl (lv_at hl 3 rfl) ?_
  refine lv_iconst (v := 1) hx hb dL_law_749 (by decide) ?_
  refine lv_iadd hx hb dL_law_750 ?_
  refine va_sld hx hb hXs hbl hbA hw.2 hi1 dL_law_751 ?_
  refine lv_aload_n hx hb dL_law_752 rfl (lv_at hl 0 rfl) ?_
  refine lv_iload_n hx hb dL_law_753 rfl (lv_at hl 3 rfl) ?_
  refine lv_iconst (v := 2) hx hb dL_law_754 (by decide) ?_
  refine lv_iadd hx hb dL_law_755 ?_
  refine va_sld hx hb hXs hbl hbA hw.2 hi2 dL_law_756 ?_
  refine lv_aload_n hx hb dL_law_757 rfl (lv_at hl 0 rfl) ?_
  refine lv_iload_n hx hb dL_law_758 rfl (lv_at hl 3 rfl) ?_
  refine lv_iconst (v := 3) hx hb dL_law_759 (by decide) ?_
  refine lv_iadd hx hb dL_law_760 ?_
  refine va_sld hx hb hXs hbl hbA hw.2 hi3 dL_law_761 ?_
  refine lv_aload_n hx hb dL_law_762 rfl (lv_at hl 0 rfl) ?_
  refine lv_iload_n hx hb dL_law_763 rfl (lv_at hl 3 rfl) ?_
  refine lv_iconst (v := 4) hx hb dL_law_764 (by decide) ?_
  refine lv_iadd hx hb dL_law_765 ?_
  refine va_sld hx hb hXs hbl hbA hw.2 hi4 dL_law_766 ?_
  refine m_ci (m_runV (rest := []) hX hw (tX11_cost h) mtX11_cost k_566 ⟨k_567, k_568⟩ cl11 hTx ⟨⟨rfl, rfl, Nat.le_of_ble_eq_true rfl, Nat.le_of_ble_eq_true rfl⟩, hcs.1, hcs.2⟩ rfl hl.1 rfl (Nat.le_of_ble_eq_true rfl) dL_law_767) hw (fun r1 σ2 H locs h hw => ?_)
  obtain ⟨hTm, h⟩ := h
  refine (?_ : W p l e room_1 s m #[Value.ref b] below meth c H locs cells slots Q _)
  refine lv_aload_n hx hb dL_law_770 rfl (lv_at hl 2 rfl) ?_
  refine lv_aload_n hx hb dL_law_771 rfl (lv_at hl 0 rfl) ?_
  refine lv_iload_n hx hb dL_law_772 rfl (lv_at hl 3 rfl) ?_
  refine lv_iconst (v := 1) hx hb dL_law_773 (by decide) ?_
  refine lv_iadd hx hb dL_law_774 ?_
  refine va_sld hx hb hXs hbl hbA hw.2 hi1 dL_law_775 ?_
  refine lv_aload_n hx hb dL_law_776 rfl (lv_at hl 0 rfl) ?_
  refine lv_iload_n hx hb dL_law_777 rfl (lv_at hl 3 rfl) ?_
  refine lv_iconst (v := 2) hx hb dL_law_778 (by decide) ?_
  refine lv_iadd hx hb dL_law_779 ?_
  refine va_sld hx hb hXs hbl hbA hw.2 hi2 dL_law_780 ?_
  refine lv_aload_n hx hb dL_law_781 rfl (lv_at hl 0 rfl) ?_
  refine lv_iload_n hx hb dL_law_782 rfl (lv_at hl 3 rfl) ?_
  refine lv_iconst (v := 3) hx hb dL_law_783 (by decide) ?_
  refine lv_iadd hx hb dL_law_784 ?_
  refine va_sld hx hb hXs hbl hbA hw.2 hi3 dL_law_785 ?_
  refine lv_aload_n hx hb dL_law_786 rfl (lv_at hl 0 rfl) ?_
  refine lv_iload_n hx hb dL_law_787 rfl (lv_at hl 3 rfl) ?_
  refine lv_iconst (v := 4) hx hb dL_law_788 (by decide) ?_
  refine lv_iadd hx hb dL_law_789 ?_
  refine va_sld hx hb hXs hbl hbA hw.2 hi4 dL_law_790 ?_
  refine m_ci (m_runV (rest := [_]) hX hw (tX12_cost h) mtX12_cost k_1161 ⟨k_1162, k_1163⟩ cl12 hTm ⟨⟨rfl, rfl, Nat.le_of_ble_eq_true rfl, Nat.le_of_ble_eq_true rfl⟩, hcs.1, hcs.2⟩ rfl hl.1 rfl (Nat.le_of_ble_eq_true rfl) dL_law_791) hw (fun r3 σ4 H locs h hw => ?_)
  refine lv_icmp_eq (tgt := 1240) hx hb dL_law_794 (by decide) (fun hq => ?_) (fun hq => ?_)
  · exact kk _ _ _ h.2 hw
  · exact absurd h.1 hq
set_option maxHeartbeats 4000000 in
set_option maxRecDepth 100000 in
theorem law_17 {p : Program} {l : Launch} {e : Env} {s : State} {m : MethodId} {below : List Frame} {meth : Method} {c : Code} {D : va_G} {cA : Nat → ClassId} {b L : Nat} {xs : Nat → Int32} (hX : Cx p m c code 4 s #[Value.ref b] R_law D cA) (hXs : va_X b L xs s s.heap) (hbl : b < s.heap.size) {ax am : Nat} {x3 : Int32} (hi1 : vp_in (x3 + 1) L) (hi2 : vp_in (x3 + 2) L) (hi3 : vp_in (x3 + 3) L) (hi4 : vp_in (x3 + 4) L) (hi5 : vp_in (x3 + 5) L) {σ : Me} {Post : Me → Prop} (hTx : gT σ ax = 11)
    (h : pX11_service σ ax (xs (x3 + 1).toNatClampNeg) (xs (x3 + 2).toNatClampNeg) (xs (x3 + 3).toNatClampNeg) (xs (x3 + 4).toNatClampNeg) (xs (x3 + 5).toNatClampNeg) (fun r σ1 => gT σ1 am = 12 ∧ pX12_service σ1 am (xs (x3 + 1).toNatClampNeg) (xs (x3 + 2).toNatClampNeg) (xs (x3 + 3).toNatClampNeg) (xs (x3 + 4).toNatClampNeg) (xs (x3 + 5).toNatClampNeg) (fun r2 σ2 => r = r2 ∧ Post σ2))) {cells slots : Nat} (hcs : cells + 0 ≤ 600000 ∧ slots + 0 ≤ 7302250) {H : Heap} {locs : List Loc} {ls : Array Slot} (hw : wS D cA s.heap.size s σ H locs) (hl : lv_has ls 4 [(0, .ref b), (1, .ref ax), (2, .ref am), (3, .int x3)]) {Q : State → Prop}
    (kk : ∀ (σ2 : Me) (H : Heap) (locs : List Loc), Post σ2 → wS D cA s.heap.size s σ2 H locs → W p l e room_1 s m #[Value.ref b] below meth c H locs cells slots Q (F0 m 1240 ls [])) : W p l e room_1 s m #[Value.ref b] below meth c H locs cells slots Q (F0 m 799 ls []) := by
  have hx := hX.1.1
  have hb := hX.1.2.1
  have hbA : ¬ s.heap.size ≤ b := Nat.not_le.mpr hbl
  refine lv_aload_n hx hb dL_law_799 rfl (lv_at hl 1 rfl) ?_
  refine lv_aload_n hx hb dL_law_800 rfl (lv_at hl 0 rfl) ?_
  refine lv_iload_n hx hb dL_law_801 rfl (lv_at hl 3 rfl) ?_
  refine lv_iconst (v := 1) hx hb dL_law_802 (by decide) ?_
  refine lv_iadd hx hb dL_law_803 ?_
  refine va_sld hx hb hXs hbl hbA hw.2 hi1 dL_law_804 ?_
  refine lv_aload_n hx hb dL_law_805 rfl (lv_at hl 0 rfl) ?_
  refine lv_iload_n hx hb dL_law_806 rfl (lv_at hl 3 rfl) ?_
  refine lv_iconst (v := 2) hx hb dL_law_807 (by decide) ?_
  refine lv_iadd hx hb dL_law_808 ?_
  refine va_sld hx hb hXs hbl hbA hw.2 hi2 dL_law_809 ?_
  refine lv_aload_n hx hb dL_law_810 rfl (lv_at hl 0 rfl) ?_
  refine lv_iload_n hx hb dL_law_811 rfl (lv_at hl 3 rfl) ?_
  refine lv_iconst (v := 3) hx hb dL_law_812 (by decide) ?_
  refine lv_iadd hx hb dL_law_813 ?_
  refine va_sld hx hb hXs hbl hbA hw.2 hi3 dL_law_814 ?_
  refine lv_aload_n hx hb dL_law_815 rfl (lv_at hl 0 rfl) ?_
  refine lv_iload_n hx hb dL_law_816 rfl (lv_at hl 3 rfl) ?_
  refine lv_iconst (v := 4) hx hb dL_law_817 (by decide) ?_
  refine lv_iadd hx hb dL_law_818 ?_
  refine va_sld hx hb hXs hbl hbA hw.2 hi4 dL_law_819 ?_
  refine lv_aload_n hx hb dL_law_820 rfl (lv_at hl 0 rfl) ?_
  refine lv_iload_n hx hb dL_law_821 rfl (lv_at hl 3 rfl) ?_
  refine lv_iconst (v := 5) hx hb dL_law_822 (by decide) ?_
  refine lv_iadd hx hb dL_law_823 ?_
  refine va_sld hx hb hXs hbl hbA hw.2 hi5 dL_law_824 ?_
  refine m_ci (m_runV (rest := []) hX hw (tX11_service h) mtX11_service k_702 ⟨k_703, k_704⟩ cl11 hTx ⟨⟨rfl, rfl, Nat.le_of_ble_eq_true rfl, Nat.le_of_ble_eq_true rfl⟩, hcs.1, hcs.2⟩ rfl hl.1 rfl (Nat.le_of_ble_eq_true rfl) dL_law_825) hw (fun r1 σ2 H locs h hw => ?_)
  obtain ⟨hTm, h⟩ := h
  refine (?_ : W p l e room_1 s m #[Value.ref b] below meth c H locs cells slots Q _)
  refine lv_aload_n hx hb dL_law_828 rfl (lv_at hl 2 rfl) ?_
  refine lv_aload_n hx hb dL_law_829 rfl (lv_at hl 0 rfl) ?_
  refine lv_iload_n hx hb dL_law_830 rfl (lv_at hl 3 rfl) ?_
  refine lv_iconst (v := 1) hx hb dL_law_831 (by decide) ?_
  refine lv_iadd hx hb dL_law_832 ?_
  refine va_sld hx hb hXs hbl hbA hw.2 hi1 dL_law_833 ?_
  refine lv_aload_n hx hb dL_law_834 rfl (lv_at hl 0 rfl) ?_
  refine lv_iload_n hx hb dL_law_835 rfl (lv_at hl 3 rfl) ?_
  refine lv_iconst (v := 2) hx hb dL_law_836 (by decide) ?_
  refine lv_iadd hx hb dL_law_837 ?_
  refine va_sld hx hb hXs hbl hbA hw.2 hi2 dL_law_838 ?_
  refine lv_aload_n hx hb dL_law_839 rfl (lv_at hl 0 rfl) ?_
  refine lv_iload_n hx hb dL_law_840 rfl (lv_at hl 3 rfl) ?_
  refine lv_iconst (v := 3) hx hb dL_law_841 (by decide) ?_
  refine lv_iadd hx hb dL_law_842 ?_
  refine va_sld hx hb hXs hbl hbA hw.2 hi3 dL_law_843 ?_
  refine lv_aload_n hx hb dL_law_844 rfl (lv_at hl 0 rfl) ?_
  refine lv_iload_n hx hb dL_law_845 rfl (lv_at hl 3 rfl) ?_
  refine lv_iconst (v := 4) hx hb dL_law_846 (by decide) ?_
  refine lv_iadd hx hb dL_law_847 ?_
  refine va_sld hx hb hXs hbl hbA hw.2 hi4 dL_law_848 ?_
  refine lv_aload_n hx hb dL_law_849 rfl (lv_at hl 0 rfl) ?_
  refine lv_iload_n hx hb dL_law_850 rfl (lv_at hl 3 rfl) ?_
  refine lv_iconst (v := 5) hx hb dL_law_851 (by decide) ?_
  refine lv_iadd hx hb dL_law_852 ?_
  refine va_sld hx hb hXs hbl hbA hw.2 hi5 dL_law_853 ?_
  refine m_ci (m_runV (rest := [_]) hX hw (tX12_service h) mtX12_service k_1203 ⟨k_1204, k_1205⟩ cl12 hTm ⟨⟨rfl, rfl, Nat.le_of_ble_eq_true rfl, Nat.le_of_ble_eq_true rfl⟩, hcs.1, hcs.2⟩ rfl hl.1 rfl (Nat.le_of_ble_eq_true rfl) dL_law_854) hw (fun r3 σ4 H locs h hw => ?_)
  refine lv_icmp_eq (tgt := 1240) hx hb dL_law_857 (by decide) (fun hq => ?_) (fun hq => ?_)
  · exact kk _ _ _ h.2 hw
  · exact absurd h.1 hq
set_option maxHeartbeats 4000000 in
set_option maxRecDepth 100000 in
theorem law_18 {p : Program} {l : Launch} {e : Env} {s : State} {m : MethodId} {below : List Frame} {meth : Method} {c : Code} {D : va_G} {cA : Nat → ClassId} {b L : Nat} {xs : Nat → Int32} (hX : Cx p m c code 4 s #[Value.ref b] R_law D cA) (hXs : va_X b L xs s s.heap) (hbl : b < s.heap.size) {ax am : Nat} {x3 : Int32} (hi1 : vp_in (x3 + 1) L) (hi2 : vp_in (x3 + 2) L) (hi3 : vp_in (x3 + 3) L) (hi4 : vp_in (x3 + 4) L) (hi5 : vp_in (x3 + 5) L) {σ : Me} {Post : Me → Prop} (hTx : gT σ ax = 11)
    (h : pX11_best σ ax (xs (x3 + 1).toNatClampNeg) (xs (x3 + 2).toNatClampNeg) (xs (x3 + 3).toNatClampNeg) (fun r σ1 => gT σ1 am = 12 ∧ pX12_best σ1 am (xs (x3 + 1).toNatClampNeg) (xs (x3 + 2).toNatClampNeg) (xs (x3 + 3).toNatClampNeg) (fun r2 σ2 => r = r2 ∧ Post σ2))) {cells slots : Nat} (hcs : cells + 0 ≤ 600000 ∧ slots + 0 ≤ 7302250) {H : Heap} {locs : List Loc} {ls : Array Slot} (hw : wS D cA s.heap.size s σ H locs) (hl : lv_has ls 4 [(0, .ref b), (1, .ref ax), (2, .ref am), (3, .int x3)]) {Q : State → Prop}
    (kk : ∀ (σ2 : Me) (H : Heap) (locs : List Loc), Post σ2 → wS D cA s.heap.size s σ2 H locs → W p l e room_1 s m #[Value.ref b] below meth c H locs cells slots Q (F0 m 1240 ls [])) : W p l e room_1 s m #[Value.ref b] below meth c H locs cells slots Q (F0 m 862 ls []) := by
  have hx := hX.1.1
  have hb := hX.1.2.1
  have hbA : ¬ s.heap.size ≤ b := Nat.not_le.mpr hbl
  refine lv_aload_n hx hb dL_law_862 rfl (lv_at hl 1 rfl) ?_
  refine lv_aload_n hx hb dL_law_863 rfl (lv_at hl 0 rfl) ?_
  refine lv_iload_n hx hb dL_law_864 rfl (lv_at hl 3 rfl) ?_
  refine lv_iconst (v := 1) hx hb dL_law_865 (by decide) ?_
  refine lv_iadd hx hb dL_law_866 ?_
  refine va_sld hx hb hXs hbl hbA hw.2 hi1 dL_law_867 ?_
  refine lv_aload_n hx hb dL_law_868 rfl (lv_at hl 0 rfl) ?_
  refine lv_iload_n hx hb dL_law_869 rfl (lv_at hl 3 rfl) ?_
  refine lv_iconst (v := 2) hx hb dL_law_870 (by decide) ?_
  refine lv_iadd hx hb dL_law_871 ?_
  refine va_sld hx hb hXs hbl hbA hw.2 hi2 dL_law_872 ?_
  refine lv_aload_n hx hb dL_law_873 rfl (lv_at hl 0 rfl) ?_
  refine lv_iload_n hx hb dL_law_874 rfl (lv_at hl 3 rfl) ?_
  refine lv_iconst (v := 3) hx hb dL_law_875 (by decide) ?_
  refine lv_iadd hx hb dL_law_876 ?_
  refine va_sld hx hb hXs hbl hbA hw.2 hi3 dL_law_877 ?_
  refine m_ci (m_runV (rest := []) hX hw (tX11_best h) mtX11_best k_715 ⟨k_716, k_717⟩ cl11 hTx ⟨⟨rfl, rfl, Nat.le_of_ble_eq_true rfl, Nat.le_of_ble_eq_true rfl⟩, hcs.1, hcs.2⟩ rfl hl.1 rfl (Nat.le_of_ble_eq_true rfl) dL_law_878) hw (fun r1 σ2 H locs h hw => ?_)
  obtain ⟨hTm, h⟩ := h
  refine (?_ : W p l e room_1 s m #[Value.ref b] below meth c H locs cells slots Q _)
  refine lv_aload_n hx hb dL_law_881 rfl (lv_at hl 2 rfl) ?_
  refine lv_aload_n hx hb dL_law_882 rfl (lv_at hl 0 rfl) ?_
  refine lv_iload_n hx hb dL_law_883 rfl (lv_at hl 3 rfl) ?_
  refine lv_iconst (v := 1) hx hb dL_law_884 (by decide) ?_
  refine lv_iadd hx hb dL_law_885 ?_
  refine va_sld hx hb hXs hbl hbA hw.2 hi1 dL_law_886 ?_
  refine lv_aload_n hx hb dL_law_887 rfl (lv_at hl 0 rfl) ?_
  refine lv_iload_n hx hb dL_law_888 rfl (lv_at hl 3 rfl) ?_
  refine lv_iconst (v := 2) hx hb dL_law_889 (by decide) ?_
  refine lv_iadd hx hb dL_law_890 ?_
  refine va_sld hx hb hXs hbl hbA hw.2 hi2 dL_law_891 ?_
  refine lv_aload_n hx hb dL_law_892 rfl (lv_at hl 0 rfl) ?_
  refine lv_iload_n hx hb dL_law_893 rfl (lv_at hl 3 rfl) ?_
  refine lv_iconst (v := 3) hx hb dL_law_894 (by decide) ?_
  refine lv_iadd hx hb dL_law_895 ?_
  refine va_sld hx hb hXs hbl hbA hw.2 hi3 dL_law_896 ?_
  refine m_ci (m_runV (rest := [_]) hX hw (tX12_best h) mtX12_best k_1207 ⟨k_1208, k_1209⟩ cl12 hTm ⟨⟨rfl, rfl, Nat.le_of_ble_eq_true rfl, Nat.le_of_ble_eq_true rfl⟩, hcs.1, hcs.2⟩ rfl hl.1 rfl (Nat.le_of_ble_eq_true rfl) dL_law_897) hw (fun r3 σ4 H locs h hw => ?_)
  refine lv_icmp_eq (tgt := 1240) hx hb dL_law_900 (by decide) (fun hq => ?_) (fun hq => ?_)
  · exact kk _ _ _ h.2 hw
  · exact absurd h.1 hq
set_option maxHeartbeats 4000000 in
set_option maxRecDepth 100000 in
theorem law_19 {p : Program} {l : Launch} {e : Env} {s : State} {m : MethodId} {below : List Frame} {meth : Method} {c : Code} {D : va_G} {cA : Nat → ClassId} {b L : Nat} {xs : Nat → Int32} (hX : Cx p m c code 4 s #[Value.ref b] R_law D cA) (hXs : va_X b L xs s s.heap) (hbl : b < s.heap.size) {ax am : Nat} {x3 : Int32} (hi1 : vp_in (x3 + 1) L) (hi2 : vp_in (x3 + 2) L) (hi3 : vp_in (x3 + 3) L) (hi4 : vp_in (x3 + 4) L) (hi5 : vp_in (x3 + 5) L) {σ : Me} {Post : Me → Prop} (hTx : gT σ ax = 11)
    (h : pX11_bestPair σ ax (xs (x3 + 1).toNatClampNeg) (xs (x3 + 2).toNatClampNeg) (xs (x3 + 3).toNatClampNeg) (fun r σ1 => gT σ1 am = 12 ∧ pX12_bestPair σ1 am (xs (x3 + 1).toNatClampNeg) (xs (x3 + 2).toNatClampNeg) (xs (x3 + 3).toNatClampNeg) (fun r2 σ2 => r = r2 ∧ Post σ2))) {cells slots : Nat} (hcs : cells + 0 ≤ 600000 ∧ slots + 0 ≤ 7302250) {H : Heap} {locs : List Loc} {ls : Array Slot} (hw : wS D cA s.heap.size s σ H locs) (hl : lv_has ls 4 [(0, .ref b), (1, .ref ax), (2, .ref am), (3, .int x3)]) {Q : State → Prop}
    (kk : ∀ (σ2 : Me) (H : Heap) (locs : List Loc), Post σ2 → wS D cA s.heap.size s σ2 H locs → W p l e room_1 s m #[Value.ref b] below meth c H locs cells slots Q (F0 m 1240 ls [])) : W p l e room_1 s m #[Value.ref b] below meth c H locs cells slots Q (F0 m 905 ls []) := by
  have hx := hX.1.1
  have hb := hX.1.2.1
  have hbA : ¬ s.heap.size ≤ b := Nat.not_le.mpr hbl
  refine lv_aload_n hx hb dL_law_905 rfl (lv_at hl 1 rfl) ?_
  refine lv_aload_n hx hb dL_law_906 rfl (lv_at hl 0 rfl) ?_
  refine lv_iload_n hx hb dL_law_907 rfl (lv_at hl 3 rfl) ?_
  refine lv_iconst (v := 1) hx hb dL_law_908 (by decide) ?_
  refine lv_iadd hx hb dL_law_909 ?_
  refine va_sld hx hb hXs hbl hbA hw.2 hi1 dL_law_910 ?_
  refine lv_aload_n hx hb dL_law_911 rfl (lv_at hl 0 rfl) ?_
  refine lv_iload_n hx hb dL_law_912 rfl (lv_at hl 3 rfl) ?_
  refine lv_iconst (v := 2) hx hb dL_law_913 (by decide) ?_
  refine lv_iadd hx hb dL_law_914 ?_
  refine va_sld hx hb hXs hbl hbA hw.2 hi2 dL_law_915 ?_
  refine lv_aload_n hx hb dL_law_916 rfl (lv_at hl 0 rfl) ?_
  refine lv_iload_n hx hb dL_law_917 rfl (lv_at hl 3 rfl) ?_
  refine lv_iconst (v := 3) hx hb dL_law_918 (by decide) ?_
  refine lv_iadd hx hb dL_law_919 ?_
  refine va_sld hx hb hXs hbl hbA hw.2 hi3 dL_law_920 ?_
  refine m_ci (m_runV (rest := []) hX hw (tX11_bestPair h) mtX11_bestPair k_757 ⟨k_758, k_759⟩ cl11 hTx ⟨⟨rfl, rfl, Nat.le_of_ble_eq_true rfl, Nat.le_of_ble_eq_true rfl⟩, hcs.1, hcs.2⟩ rfl hl.1 rfl (Nat.le_of_ble_eq_true rfl) dL_law_921) hw (fun r1 σ2 H locs h hw => ?_)
  obtain ⟨hTm, h⟩ := h
  refine (?_ : W p l e room_1 s m #[Value.ref b] below meth c H locs cells slots Q _)
  refine lv_aload_n hx hb dL_law_924 rfl (lv_at hl 2 rfl) ?_
  refine lv_aload_n hx hb dL_law_925 rfl (lv_at hl 0 rfl) ?_
  refine lv_iload_n hx hb dL_law_926 rfl (lv_at hl 3 rfl) ?_
  refine lv_iconst (v := 1) hx hb dL_law_927 (by decide) ?_
  refine lv_iadd hx hb dL_law_928 ?_
  refine va_sld hx hb hXs hbl hbA hw.2 hi1 dL_law_929 ?_
  refine lv_aload_n hx hb dL_law_930 rfl (lv_at hl 0 rfl) ?_
  refine lv_iload_n hx hb dL_law_931 rfl (lv_at hl 3 rfl) ?_
  refine lv_iconst (v := 2) hx hb dL_law_932 (by decide) ?_
  refine lv_iadd hx hb dL_law_933 ?_
  refine va_sld hx hb hXs hbl hbA hw.2 hi2 dL_law_934 ?_
  refine lv_aload_n hx hb dL_law_935 rfl (lv_at hl 0 rfl) ?_
  refine lv_iload_n hx hb dL_law_936 rfl (lv_at hl 3 rfl) ?_
  refine lv_iconst (v := 3) hx hb dL_law_937 (by decide) ?_
  refine lv_iadd hx hb dL_law_938 ?_
  refine va_sld hx hb hXs hbl hbA hw.2 hi3 dL_law_939 ?_
  refine m_ci (m_runV (rest := [_]) hX hw (tX12_bestPair h) mtX12_bestPair k_1216 ⟨k_1217, k_1218⟩ cl12 hTm ⟨⟨rfl, rfl, Nat.le_of_ble_eq_true rfl, Nat.le_of_ble_eq_true rfl⟩, hcs.1, hcs.2⟩ rfl hl.1 rfl (Nat.le_of_ble_eq_true rfl) dL_law_940) hw (fun r3 σ4 H locs h hw => ?_)
  refine lv_icmp_eq (tgt := 1240) hx hb dL_law_943 (by decide) (fun hq => ?_) (fun hq => ?_)
  · exact kk _ _ _ h.2 hw
  · exact absurd h.1 hq
set_option maxHeartbeats 4000000 in
set_option maxRecDepth 100000 in
theorem law_20 {p : Program} {l : Launch} {e : Env} {s : State} {m : MethodId} {below : List Frame} {meth : Method} {c : Code} {D : va_G} {cA : Nat → ClassId} {b L : Nat} {xs : Nat → Int32} (hX : Cx p m c code 4 s #[Value.ref b] R_law D cA) (hXs : va_X b L xs s s.heap) (hbl : b < s.heap.size) {ax am : Nat} {x3 : Int32} (hi1 : vp_in (x3 + 1) L) (hi2 : vp_in (x3 + 2) L) (hi3 : vp_in (x3 + 3) L) (hi4 : vp_in (x3 + 4) L) (hi5 : vp_in (x3 + 5) L) {σ : Me} {Post : Me → Prop} (hTx : gT σ ax = 11)
    (h : pX11_pairTold σ ax (xs (x3 + 1).toNatClampNeg) (fun r σ1 => gT σ1 am = 12 ∧ pX12_pairTold σ1 am (xs (x3 + 1).toNatClampNeg) (fun r2 σ2 => r = r2 ∧ Post σ2))) {cells slots : Nat} (hcs : cells + 0 ≤ 600000 ∧ slots + 0 ≤ 7302250) {H : Heap} {locs : List Loc} {ls : Array Slot} (hw : wS D cA s.heap.size s σ H locs) (hl : lv_has ls 4 [(0, .ref b), (1, .ref ax), (2, .ref am), (3, .int x3)]) {Q : State → Prop}
    (kk : ∀ (σ2 : Me) (H : Heap) (locs : List Loc), Post σ2 → wS D cA s.heap.size s σ2 H locs → W p l e room_1 s m #[Value.ref b] below meth c H locs cells slots Q (F0 m 1240 ls [])) : W p l e room_1 s m #[Value.ref b] below meth c H locs cells slots Q (F0 m 948 ls []) := by
  have hx := hX.1.1
  have hb := hX.1.2.1
  have hbA : ¬ s.heap.size ≤ b := Nat.not_le.mpr hbl
  refine lv_aload_n hx hb dL_law_948 rfl (lv_at hl 1 rfl) ?_
  refine lv_aload_n hx hb dL_law_949 rfl (lv_at hl 0 rfl) ?_
  refine lv_iload_n hx hb dL_law_950 rfl (lv_at hl 3 rfl) ?_
  refine lv_iconst (v := 1) hx hb dL_law_951 (by decide) ?_
  refine lv_iadd hx hb dL_law_952 ?_
  refine va_sld hx hb hXs hbl hbA hw.2 hi1 dL_law_953 ?_
  refine m_ci (m_runV (rest := []) hX hw (tX11_pairTold h) mtX11_pairTold k_774 ⟨k_775, k_776⟩ cl11 hTx ⟨⟨rfl, rfl, Nat.le_of_ble_eq_true rfl, Nat.le_of_ble_eq_true rfl⟩, hcs.1, hcs.2⟩ rfl hl.1 rfl (Nat.le_of_ble_eq_true rfl) dL_law_954) hw (fun r1 σ2 H locs h hw => ?_)
  obtain ⟨hTm, h⟩ := h
  refine (?_ : W p l e room_1 s m #[Value.ref b] below meth c H locs cells slots Q _)
  refine lv_aload_n hx hb dL_law_957 rfl (lv_at hl 2 rfl) ?_
  refine lv_aload_n hx hb dL_law_958 rfl (lv_at hl 0 rfl) ?_
  refine lv_iload_n hx hb dL_law_959 rfl (lv_at hl 3 rfl) ?_
  refine lv_iconst (v := 1) hx hb dL_law_960 (by decide) ?_
  refine lv_iadd hx hb dL_law_961 ?_
  refine va_sld hx hb hXs hbl hbA hw.2 hi1 dL_law_962 ?_
  refine m_ci (m_runV (rest := [_]) hX hw (tX12_pairTold h) mtX12_pairTold k_1224 ⟨k_1225, k_1226⟩ cl12 hTm ⟨⟨rfl, rfl, Nat.le_of_ble_eq_true rfl, Nat.le_of_ble_eq_true rfl⟩, hcs.1, hcs.2⟩ rfl hl.1 rfl (Nat.le_of_ble_eq_true rfl) dL_law_963) hw (fun r3 σ4 H locs h hw => ?_)
  refine lv_icmp_eq (tgt := 1240) hx hb dL_law_966 (by decide) (fun hq => ?_) (fun hq => ?_)
  · exact kk _ _ _ h.2 hw
  · exact absurd h.1 hq
set_option maxHeartbeats 4000000 in
set_option maxRecDepth 100000 in
theorem law_21 {p : Program} {l : Launch} {e : Env} {s : State} {m : MethodId} {below : List Frame} {meth : Method} {c : Code} {D : va_G} {cA : Nat → ClassId} {b L : Nat} {xs : Nat → Int32} (hX : Cx p m c code 4 s #[Value.ref b] R_law D cA) (hXs : va_X b L xs s s.heap) (hbl : b < s.heap.size) {ax am : Nat} {x3 : Int32} (hi1 : vp_in (x3 + 1) L) (hi2 : vp_in (x3 + 2) L) (hi3 : vp_in (x3 + 3) L) (hi4 : vp_in (x3 + 4) L) (hi5 : vp_in (x3 + 5) L) {σ : Me} {Post : Me → Prop} (hTx : gT σ ax = 11)
    (h : pX11_spoilt σ ax (xs (x3 + 1).toNatClampNeg) (xs (x3 + 2).toNatClampNeg) (xs (x3 + 3).toNatClampNeg) (xs (x3 + 4).toNatClampNeg) ((if (xs (x3 + 5).toNatClampNeg) = 0 then (0 : Int32) else (1 : Int32))) (fun r σ1 => gT σ1 am = 12 ∧ pX12_spoilt σ1 am (xs (x3 + 1).toNatClampNeg) (xs (x3 + 2).toNatClampNeg) (xs (x3 + 3).toNatClampNeg) (xs (x3 + 4).toNatClampNeg) ((if (xs (x3 + 5).toNatClampNeg) = 0 then (0 : Int32) else (1 : Int32))) (fun r2 σ2 => r = r2 ∧ Post σ2))) {cells slots : Nat} (hcs : cells + 0 ≤ 600000 ∧ slots + 0 ≤ 7302250) {H : Heap} {locs : List Loc} {ls : Array Slot} (hw : wS D cA s.heap.size s σ H locs) (hl : lv_has ls 4 [(0, .ref b), (1, .ref ax), (2, .ref am), (3, .int x3)]) {Q : State → Prop}
    (kk : ∀ (σ2 : Me) (H : Heap) (locs : List Loc), Post σ2 → wS D cA s.heap.size s σ2 H locs → W p l e room_1 s m #[Value.ref b] below meth c H locs cells slots Q (F0 m 1240 ls [])) : W p l e room_1 s m #[Value.ref b] below meth c H locs cells slots Q (F0 m 971 ls []) := by
  have hx := hX.1.1
  have hb := hX.1.2.1
  have hbA : ¬ s.heap.size ≤ b := Nat.not_le.mpr hbl
  refine lv_aload_n hx hb dL_law_971 rfl (lv_at hl 1 rfl) ?_
  refine lv_aload_n hx hb dL_law_972 rfl (lv_at hl 0 rfl) ?_
  refine lv_iload_n hx hb dL_law_973 rfl (lv_at hl 3 rfl) ?_
  refine lv_iconst (v := 1) hx hb dL_law_974 (by decide) ?_
  refine lv_iadd hx hb dL_law_975 ?_
  refine va_sld hx hb hXs hbl hbA hw.2 hi1 dL_law_976 ?_
  refine lv_aload_n hx hb dL_law_977 rfl (lv_at hl 0 rfl) ?_
  refine lv_iload_n hx hb dL_law_978 rfl (lv_at hl 3 rfl) ?_
  refine lv_iconst (v := 2) hx hb dL_law_979 (by decide) ?_
  refine lv_iadd hx hb dL_law_980 ?_
  refine va_sld hx hb hXs hbl hbA hw.2 hi2 dL_law_981 ?_
  refine lv_aload_n hx hb dL_law_982 rfl (lv_at hl 0 rfl) ?_
  refine lv_iload_n hx hb dL_law_983 rfl (lv_at hl 3 rfl) ?_
  refine lv_iconst (v := 3) hx hb dL_law_984 (by decide) ?_
  refine lv_iadd hx hb dL_law_985 ?_
  refine va_sld hx hb hXs hbl hbA hw.2 hi3 dL_law_986 ?_
  refine lv_aload_n hx hb dL_law_987 rfl (lv_at hl 0 rfl) ?_
  refine lv_iload_n hx hb dL_law_988 rfl (lv_at hl 3 rfl) ?_
  refine lv_iconst (v := 4) hx hb dL_law_989 (by decide) ?_
  refine lv_iadd hx hb dL_law_990 ?_
  refine va_sld hx hb hXs hbl hbA hw.2 hi4 dL_law_991 ?_
  refine lv_aload_n hx hb dL_law_992 rfl (lv_at hl 0 rfl) ?_
  refine lv_iload_n hx hb dL_law_993 rfl (lv_at hl 3 rfl) ?_
  refine lv_iconst (v := 5) hx hb dL_law_994 (by decide) ?_
  refine lv_iadd hx hb dL_law_995 ?_
  refine va_sld hx hb hXs hbl hbA hw.2 hi5 dL_law_996 ?_
  have kM1 : W p l e room_1 s m #[Value.ref b] below meth c H locs cells slots Q (F0 m 1005 ls (.int (if (xs (x3 + 5).toNatClampNeg) = 0 then (0 : Int32) else (1 : Int32)) :: [.int (xs (x3 + 4).toNatClampNeg), .int (xs (x3 + 3).toNatClampNeg), .int (xs (x3 + 2).toNatClampNeg), .int (xs (x3 + 1).toNatClampNeg), .ref ax])) → W p l e room_1 s m #[Value.ref b] below meth c H locs cells slots Q (F0 m 997 ls (.int (xs (x3 + 5).toNatClampNeg) :: [.int (xs (x3 + 4).toNatClampNeg), .int (xs (x3 + 3).toNatClampNeg), .int (xs (x3 + 2).toNatClampNeg), .int (xs (x3 + 1).toNatClampNeg), .ref ax])) := by
    intro kz
    refine lv_if_eq (tgt := 1004) hx hb dL_law_997 (by decide) (fun hc2 => ?_) (fun hc2 => ?_)
    · rw [if_pos hc2] at kz
      exact lv_iconst (v := 0) hx hb dL_law_1004 (by decide) kz
    · rw [if_neg hc2] at kz
      exact lv_iconst (v := 1) hx hb dL_law_1000 (by decide) (lv_goto (tgt := 1005) hx hb dL_law_1001 (by decide) kz)
  refine kM1 ?_
  refine m_ci (m_runV (rest := []) hX hw (tX11_spoilt h) mtX11_spoilt k_778 ⟨k_779, k_780⟩ cl11 hTx ⟨⟨rfl, rfl, Nat.le_of_ble_eq_true rfl, Nat.le_of_ble_eq_true rfl⟩, hcs.1, hcs.2⟩ rfl hl.1 rfl (Nat.le_of_ble_eq_true rfl) dL_law_1005) hw (fun r3 σ4 H locs h hw => ?_)
  obtain ⟨hTm, h⟩ := h
  refine (?_ : W p l e room_1 s m #[Value.ref b] below meth c H locs cells slots Q _)
  refine lv_aload_n hx hb dL_law_1008 rfl (lv_at hl 2 rfl) ?_
  refine lv_aload_n hx hb dL_law_1009 rfl (lv_at hl 0 rfl) ?_
  refine lv_iload_n hx hb dL_law_1010 rfl (lv_at hl 3 rfl) ?_
  refine lv_iconst (v := 1) hx hb dL_law_1011 (by decide) ?_
  refine lv_iadd hx hb dL_law_1012 ?_
  refine va_sld hx hb hXs hbl hbA hw.2 hi1 dL_law_1013 ?_
  refine lv_aload_n hx hb dL_law_1014 rfl (lv_at hl 0 rfl) ?_
  refine lv_iload_n hx hb dL_law_1015 rfl (lv_at hl 3 rfl) ?_
  refine lv_iconst (v := 2) hx hb dL_law_1016 (by decide) ?_
  refine lv_iadd hx hb dL_law_1017 ?_
  refine va_sld hx hb hXs hbl hbA hw.2 hi2 dL_law_1018 ?_
  refine lv_aload_n hx hb dL_law_1019 rfl (lv_at hl 0 rfl) ?_
  refine lv_iload_n hx hb dL_law_1020 rfl (lv_at hl 3 rfl) ?_
  refine lv_iconst (v := 3) hx hb dL_law_1021 (by decide) ?_
  refine lv_iadd hx hb dL_law_1022 ?_
  refine va_sld hx hb hXs hbl hbA hw.2 hi3 dL_law_1023 ?_
  refine lv_aload_n hx hb dL_law_1024 rfl (lv_at hl 0 rfl) ?_
  refine lv_iload_n hx hb dL_law_1025 rfl (lv_at hl 3 rfl) ?_
  refine lv_iconst (v := 4) hx hb dL_law_1026 (by decide) ?_
  refine lv_iadd hx hb dL_law_1027 ?_
  refine va_sld hx hb hXs hbl hbA hw.2 hi4 dL_law_1028 ?_
  refine lv_aload_n hx hb dL_law_1029 rfl (lv_at hl 0 rfl) ?_
  refine lv_iload_n hx hb dL_law_1030 rfl (lv_at hl 3 rfl) ?_
  refine lv_iconst (v := 5) hx hb dL_law_1031 (by decide) ?_
  refine lv_iadd hx hb dL_law_1032 ?_
  refine va_sld hx hb hXs hbl hbA hw.2 hi5 dL_law_1033 ?_
  have kM5 : W p l e room_1 s m #[Value.ref b] below meth c H locs cells slots Q (F0 m 1042 ls (.int (if (xs (x3 + 5).toNatClampNeg) = 0 then (0 : Int32) else (1 : Int32)) :: [.int (xs (x3 + 4).toNatClampNeg), .int (xs (x3 + 3).toNatClampNeg), .int (xs (x3 + 2).toNatClampNeg), .int (xs (x3 + 1).toNatClampNeg), .ref am, .int r3])) → W p l e room_1 s m #[Value.ref b] below meth c H locs cells slots Q (F0 m 1034 ls (.int (xs (x3 + 5).toNatClampNeg) :: [.int (xs (x3 + 4).toNatClampNeg), .int (xs (x3 + 3).toNatClampNeg), .int (xs (x3 + 2).toNatClampNeg), .int (xs (x3 + 1).toNatClampNeg), .ref am, .int r3])) := by
    intro kz
    refine lv_if_eq (tgt := 1041) hx hb dL_law_1034 (by decide) (fun hc6 => ?_) (fun hc6 => ?_)
    · rw [if_pos hc6] at kz
      exact lv_iconst (v := 0) hx hb dL_law_1041 (by decide) kz
    · rw [if_neg hc6] at kz
      exact lv_iconst (v := 1) hx hb dL_law_1037 (by decide) (lv_goto (tgt := 1042) hx hb dL_law_1038 (by decide) kz)
  refine kM5 ?_
  refine m_ci (m_runV (rest := [_]) hX hw (tX12_spoilt h) mtX12_spoilt k_1228 ⟨k_1229, k_1230⟩ cl12 hTm ⟨⟨rfl, rfl, Nat.le_of_ble_eq_true rfl, Nat.le_of_ble_eq_true rfl⟩, hcs.1, hcs.2⟩ rfl hl.1 rfl (Nat.le_of_ble_eq_true rfl) dL_law_1042) hw (fun r7 σ8 H locs h hw => ?_)
  refine lv_icmp_eq (tgt := 1240) hx hb dL_law_1045 (by decide) (fun hq => ?_) (fun hq => ?_)
  · exact kk _ _ _ h.2 hw
  · exact absurd h.1 hq
set_option maxHeartbeats 4000000 in
set_option maxRecDepth 100000 in
theorem law_22 {p : Program} {l : Launch} {e : Env} {s : State} {m : MethodId} {below : List Frame} {meth : Method} {c : Code} {D : va_G} {cA : Nat → ClassId} {b L : Nat} {xs : Nat → Int32} (hX : Cx p m c code 4 s #[Value.ref b] R_law D cA) (hXs : va_X b L xs s s.heap) (hbl : b < s.heap.size) {ax am : Nat} {x3 : Int32} (hi1 : vp_in (x3 + 1) L) (hi2 : vp_in (x3 + 2) L) (hi3 : vp_in (x3 + 3) L) (hi4 : vp_in (x3 + 4) L) (hi5 : vp_in (x3 + 5) L) {σ : Me} {Post : Me → Prop} (hTx : gT σ ax = 11)
    (h : pX11_see σ ax (xs (x3 + 1).toNatClampNeg) (fun r σ1 => gT σ1 am = 12 ∧ pX12_see σ1 am (xs (x3 + 1).toNatClampNeg) (fun r2 σ2 => r = r2 ∧ Post σ2))) {cells slots : Nat} (hcs : cells + 0 ≤ 600000 ∧ slots + 0 ≤ 7302250) {H : Heap} {locs : List Loc} {ls : Array Slot} (hw : wS D cA s.heap.size s σ H locs) (hl : lv_has ls 4 [(0, .ref b), (1, .ref ax), (2, .ref am), (3, .int x3)]) {Q : State → Prop}
    (kk : ∀ (σ2 : Me) (H : Heap) (locs : List Loc), Post σ2 → wS D cA s.heap.size s σ2 H locs → W p l e room_1 s m #[Value.ref b] below meth c H locs cells slots Q (F0 m 1240 ls [])) : W p l e room_1 s m #[Value.ref b] below meth c H locs cells slots Q (F0 m 1050 ls []) := by
  have hx := hX.1.1
  have hb := hX.1.2.1
  have hbA : ¬ s.heap.size ≤ b := Nat.not_le.mpr hbl
  refine lv_aload_n hx hb dL_law_1050 rfl (lv_at hl 1 rfl) ?_
  refine lv_aload_n hx hb dL_law_1051 rfl (lv_at hl 0 rfl) ?_
  refine lv_iload_n hx hb dL_law_1052 rfl (lv_at hl 3 rfl) ?_
  refine lv_iconst (v := 1) hx hb dL_law_1053 (by decide) ?_
  refine lv_iadd hx hb dL_law_1054 ?_
  refine va_sld hx hb hXs hbl hbA hw.2 hi1 dL_law_1055 ?_
  refine m_ci (m_runV (rest := []) hX hw (tX11_see h) mtX11_see k_808 ⟨k_809, k_810⟩ cl11 hTx ⟨⟨rfl, rfl, Nat.le_of_ble_eq_true rfl, Nat.le_of_ble_eq_true rfl⟩, hcs.1, hcs.2⟩ rfl hl.1 rfl (Nat.le_of_ble_eq_true rfl) dL_law_1056) hw (fun r1 σ2 H locs h hw => ?_)
  obtain ⟨hTm, h⟩ := h
  refine (?_ : W p l e room_1 s m #[Value.ref b] below meth c H locs cells slots Q _)
  refine lv_aload_n hx hb dL_law_1059 rfl (lv_at hl 2 rfl) ?_
  refine lv_aload_n hx hb dL_law_1060 rfl (lv_at hl 0 rfl) ?_
  refine lv_iload_n hx hb dL_law_1061 rfl (lv_at hl 3 rfl) ?_
  refine lv_iconst (v := 1) hx hb dL_law_1062 (by decide) ?_
  refine lv_iadd hx hb dL_law_1063 ?_
  refine va_sld hx hb hXs hbl hbA hw.2 hi1 dL_law_1064 ?_
  refine m_ci (m_runV (rest := [_]) hX hw (tX12_see h) mtX12_see k_1236 ⟨k_1237, k_1238⟩ cl12 hTm ⟨⟨rfl, rfl, Nat.le_of_ble_eq_true rfl, Nat.le_of_ble_eq_true rfl⟩, hcs.1, hcs.2⟩ rfl hl.1 rfl (Nat.le_of_ble_eq_true rfl) dL_law_1065) hw (fun r3 σ4 H locs h hw => ?_)
  refine lv_icmp_eq (tgt := 1240) hx hb dL_law_1068 (by decide) (fun hq => ?_) (fun hq => ?_)
  · exact kk _ _ _ h.2 hw
  · exact absurd h.1 hq
set_option maxHeartbeats 4000000 in
set_option maxRecDepth 100000 in
theorem law_23 {p : Program} {l : Launch} {e : Env} {s : State} {m : MethodId} {below : List Frame} {meth : Method} {c : Code} {D : va_G} {cA : Nat → ClassId} {b L : Nat} {xs : Nat → Int32} (hX : Cx p m c code 4 s #[Value.ref b] R_law D cA) (hXs : va_X b L xs s s.heap) (hbl : b < s.heap.size) {ax am : Nat} {x3 : Int32} (hi1 : vp_in (x3 + 1) L) (hi2 : vp_in (x3 + 2) L) (hi3 : vp_in (x3 + 3) L) (hi4 : vp_in (x3 + 4) L) (hi5 : vp_in (x3 + 5) L) {σ : Me} {Post : Me → Prop} (hTx : gT σ ax = 11)
    (h : pX11_forget σ ax (fun r σ1 => gT σ1 am = 12 ∧ pX12_forget σ1 am (fun r2 σ2 => r = r2 ∧ Post σ2))) {cells slots : Nat} (hcs : cells + 0 ≤ 600000 ∧ slots + 0 ≤ 7302250) {H : Heap} {locs : List Loc} {ls : Array Slot} (hw : wS D cA s.heap.size s σ H locs) (hl : lv_has ls 4 [(0, .ref b), (1, .ref ax), (2, .ref am), (3, .int x3)]) {Q : State → Prop}
    (kk : ∀ (σ2 : Me) (H : Heap) (locs : List Loc), Post σ2 → wS D cA s.heap.size s σ2 H locs → W p l e room_1 s m #[Value.ref b] below meth c H locs cells slots Q (F0 m 1240 ls [])) : W p l e room_1 s m #[Value.ref b] below meth c H locs cells slots Q (F0 m 1073 ls []) := by
  have hx := hX.1.1
  have hb := hX.1.2.1
  have hbA : ¬ s.heap.size ≤ b := Nat.not_le.mpr hbl
  refine lv_aload_n hx hb dL_law_1073 rfl (lv_at hl 1 rfl) ?_
  refine m_ci (m_runV (rest := []) hX hw (tX11_forget h) mtX11_forget k_812 ⟨k_813, k_814⟩ cl11 hTx ⟨⟨rfl, rfl, Nat.le_of_ble_eq_true rfl, Nat.le_of_ble_eq_true rfl⟩, hcs.1, hcs.2⟩ rfl hl.1 rfl (Nat.le_of_ble_eq_true rfl) dL_law_1074) hw (fun r1 σ2 H locs h hw => ?_)
  obtain ⟨hTm, h⟩ := h
  refine (?_ : W p l e room_1 s m #[Value.ref b] below meth c H locs cells slots Q _)
  refine lv_aload_n hx hb dL_law_1077 rfl (lv_at hl 2 rfl) ?_
  refine m_ci (m_runV (rest := [_]) hX hw (tX12_forget h) mtX12_forget k_1240 ⟨k_1241, k_1242⟩ cl12 hTm ⟨⟨rfl, rfl, Nat.le_of_ble_eq_true rfl, Nat.le_of_ble_eq_true rfl⟩, hcs.1, hcs.2⟩ rfl hl.1 rfl (Nat.le_of_ble_eq_true rfl) dL_law_1078) hw (fun r3 σ4 H locs h hw => ?_)
  refine lv_icmp_eq (tgt := 1240) hx hb dL_law_1081 (by decide) (fun hq => ?_) (fun hq => ?_)
  · exact kk _ _ _ h.2 hw
  · exact absurd h.1 hq
set_option maxHeartbeats 4000000 in
set_option maxRecDepth 100000 in
theorem law_24 {p : Program} {l : Launch} {e : Env} {s : State} {m : MethodId} {below : List Frame} {meth : Method} {c : Code} {D : va_G} {cA : Nat → ClassId} {b L : Nat} {xs : Nat → Int32} (hX : Cx p m c code 4 s #[Value.ref b] R_law D cA) (hXs : va_X b L xs s s.heap) (hbl : b < s.heap.size) {ax am : Nat} {x3 : Int32} (hi1 : vp_in (x3 + 1) L) (hi2 : vp_in (x3 + 2) L) (hi3 : vp_in (x3 + 3) L) (hi4 : vp_in (x3 + 4) L) (hi5 : vp_in (x3 + 5) L) {σ : Me} {Post : Me → Prop} (hTx : gT σ ax = 11)
    (h : pX11_doubt σ ax (xs (x3 + 1).toNatClampNeg) (xs (x3 + 2).toNatClampNeg) (xs (x3 + 3).toNatClampNeg) (xs (x3 + 4).toNatClampNeg) (fun r σ1 => gT σ1 am = 12 ∧ pX12_doubt σ1 am (xs (x3 + 1).toNatClampNeg) (xs (x3 + 2).toNatClampNeg) (xs (x3 + 3).toNatClampNeg) (xs (x3 + 4).toNatClampNeg) (fun r2 σ2 => r = r2 ∧ Post σ2))) {cells slots : Nat} (hcs : cells + 0 ≤ 600000 ∧ slots + 0 ≤ 7302250) {H : Heap} {locs : List Loc} {ls : Array Slot} (hw : wS D cA s.heap.size s σ H locs) (hl : lv_has ls 4 [(0, .ref b), (1, .ref ax), (2, .ref am), (3, .int x3)]) {Q : State → Prop}
    (kk : ∀ (σ2 : Me) (H : Heap) (locs : List Loc), Post σ2 → wS D cA s.heap.size s σ2 H locs → W p l e room_1 s m #[Value.ref b] below meth c H locs cells slots Q (F0 m 1240 ls [])) : W p l e room_1 s m #[Value.ref b] below meth c H locs cells slots Q (F0 m 1086 ls []) := by
  have hx := hX.1.1
  have hb := hX.1.2.1
  have hbA : ¬ s.heap.size ≤ b := Nat.not_le.mpr hbl
  refine lv_aload_n hx hb dL_law_1086 rfl (lv_at hl 1 rfl) ?_
  refine lv_aload_n hx hb dL_law_1087 rfl (lv_at hl 0 rfl) ?_
  refine lv_iload_n hx hb dL_law_1088 rfl (lv_at hl 3 rfl) ?_
  refine lv_iconst (v := 1) hx hb dL_law_1089 (by decide) ?_
  refine lv_iadd hx hb dL_law_1090 ?_
  refine va_sld hx hb hXs hbl hbA hw.2 hi1 dL_law_1091 ?_
  refine lv_aload_n hx hb dL_law_1092 rfl (lv_at hl 0 rfl) ?_
  refine lv_iload_n hx hb dL_law_1093 rfl (lv_at hl 3 rfl) ?_
  refine lv_iconst (v := 2) hx hb dL_law_1094 (by decide) ?_
  refine lv_iadd hx hb dL_law_1095 ?_
  refine va_sld hx hb hXs hbl hbA hw.2 hi2 dL_law_1096 ?_
  refine lv_aload_n hx hb dL_law_1097 rfl (lv_at hl 0 rfl) ?_
  refine lv_iload_n hx hb dL_law_1098 rfl (lv_at hl 3 rfl) ?_
  refine lv_iconst (v := 3) hx hb dL_law_1099 (by decide) ?_
  refine lv_iadd hx hb dL_law_1100 ?_
  refine va_sld hx hb hXs hbl hbA hw.2 hi3 dL_law_1101 ?_
  refine lv_aload_n hx hb dL_law_1102 rfl (lv_at hl 0 rfl) ?_
  refine lv_iload_n hx hb dL_law_1103 rfl (lv_at hl 3 rfl) ?_
  refine lv_iconst (v := 4) hx hb dL_law_1104 (by decide) ?_
  refine lv_iadd hx hb dL_law_1105 ?_
  refine va_sld hx hb hXs hbl hbA hw.2 hi4 dL_law_1106 ?_
  refine m_ci (m_runV (rest := []) hX hw (tX11_doubt h) mtX11_doubt k_816 ⟨k_817, k_818⟩ cl11 hTx ⟨⟨rfl, rfl, Nat.le_of_ble_eq_true rfl, Nat.le_of_ble_eq_true rfl⟩, hcs.1, hcs.2⟩ rfl hl.1 rfl (Nat.le_of_ble_eq_true rfl) dL_law_1107) hw (fun r1 σ2 H locs h hw => ?_)
  obtain ⟨hTm, h⟩ := h
  refine (?_ : W p l e room_1 s m #[Value.ref b] below meth c H locs cells slots Q _)
  refine lv_aload_n hx hb dL_law_1110 rfl (lv_at hl 2 rfl) ?_
  refine lv_aload_n hx hb dL_law_1111 rfl (lv_at hl 0 rfl) ?_
  refine lv_iload_n hx hb dL_law_1112 rfl (lv_at hl 3 rfl) ?_
  refine lv_iconst (v := 1) hx hb dL_law_1113 (by decide) ?_
  refine lv_iadd hx hb dL_law_1114 ?_
  refine va_sld hx hb hXs hbl hbA hw.2 hi1 dL_law_1115 ?_
  refine lv_aload_n hx hb dL_law_1116 rfl (lv_at hl 0 rfl) ?_
  refine lv_iload_n hx hb dL_law_1117 rfl (lv_at hl 3 rfl) ?_
  refine lv_iconst (v := 2) hx hb dL_law_1118 (by decide) ?_
  refine lv_iadd hx hb dL_law_1119 ?_
  refine va_sld hx hb hXs hbl hbA hw.2 hi2 dL_law_1120 ?_
  refine lv_aload_n hx hb dL_law_1121 rfl (lv_at hl 0 rfl) ?_
  refine lv_iload_n hx hb dL_law_1122 rfl (lv_at hl 3 rfl) ?_
  refine lv_iconst (v := 3) hx hb dL_law_1123 (by decide) ?_
  refine lv_iadd hx hb dL_law_1124 ?_
  refine va_sld hx hb hXs hbl hbA hw.2 hi3 dL_law_1125 ?_
  refine lv_aload_n hx hb dL_law_1126 rfl (lv_at hl 0 rfl) ?_
  refine lv_iload_n hx hb dL_law_1127 rfl (lv_at hl 3 rfl) ?_
  refine lv_iconst (v := 4) hx hb dL_law_1128 (by decide) ?_
  refine lv_iadd hx hb dL_law_1129 ?_
  refine va_sld hx hb hXs hbl hbA hw.2 hi4 dL_law_1130 ?_
  refine m_ci (m_runV (rest := [_]) hX hw (tX12_doubt h) mtX12_doubt k_1244 ⟨k_1245, k_1246⟩ cl12 hTm ⟨⟨rfl, rfl, Nat.le_of_ble_eq_true rfl, Nat.le_of_ble_eq_true rfl⟩, hcs.1, hcs.2⟩ rfl hl.1 rfl (Nat.le_of_ble_eq_true rfl) dL_law_1131) hw (fun r3 σ4 H locs h hw => ?_)
  refine lv_icmp_eq (tgt := 1240) hx hb dL_law_1134 (by decide) (fun hq => ?_) (fun hq => ?_)
  · exact kk _ _ _ h.2 hw
  · exact absurd h.1 hq
set_option maxHeartbeats 4000000 in
set_option maxRecDepth 100000 in
theorem law_25 {p : Program} {l : Launch} {e : Env} {s : State} {m : MethodId} {below : List Frame} {meth : Method} {c : Code} {D : va_G} {cA : Nat → ClassId} {b L : Nat} {xs : Nat → Int32} (hX : Cx p m c code 4 s #[Value.ref b] R_law D cA) (hXs : va_X b L xs s s.heap) (hbl : b < s.heap.size) {ax am : Nat} {x3 : Int32} (hi1 : vp_in (x3 + 1) L) (hi2 : vp_in (x3 + 2) L) (hi3 : vp_in (x3 + 3) L) (hi4 : vp_in (x3 + 4) L) (hi5 : vp_in (x3 + 5) L) {σ : Me} {Post : Me → Prop} (hTx : gT σ ax = 11)
    (h : pX11_upper σ ax (fun r σ1 => gT σ1 am = 12 ∧ pX12_upper σ1 am (fun r2 σ2 => r = r2 ∧ Post σ2))) {cells slots : Nat} (hcs : cells + 0 ≤ 600000 ∧ slots + 0 ≤ 7302250) {H : Heap} {locs : List Loc} {ls : Array Slot} (hw : wS D cA s.heap.size s σ H locs) (hl : lv_has ls 4 [(0, .ref b), (1, .ref ax), (2, .ref am), (3, .int x3)]) {Q : State → Prop}
    (kk : ∀ (σ2 : Me) (H : Heap) (locs : List Loc), Post σ2 → wS D cA s.heap.size s σ2 H locs → W p l e room_1 s m #[Value.ref b] below meth c H locs cells slots Q (F0 m 1240 ls [])) : W p l e room_1 s m #[Value.ref b] below meth c H locs cells slots Q (F0 m 1139 ls []) := by
  have hx := hX.1.1
  have hb := hX.1.2.1
  have hbA : ¬ s.heap.size ≤ b := Nat.not_le.mpr hbl
  refine lv_aload_n hx hb dL_law_1139 rfl (lv_at hl 1 rfl) ?_
  refine m_cl (m_runV (rest := []) hX hw (tX11_upper h) mtX11_upper k_825 ⟨k_826, k_827⟩ cl11 hTx ⟨⟨rfl, rfl, Nat.le_of_ble_eq_true rfl, Nat.le_of_ble_eq_true rfl⟩, hcs.1, hcs.2⟩ rfl hl.1 rfl (Nat.le_of_ble_eq_true rfl) dL_law_1140) hw (fun r1 σ2 H locs h hw => ?_)
  obtain ⟨hTm, h⟩ := h
  refine (?_ : W p l e room_1 s m #[Value.ref b] below meth c H locs cells slots Q _)
  refine lv_aload_n hx hb dL_law_1143 rfl (lv_at hl 2 rfl) ?_
  refine m_cl (m_runV (rest := [_]) hX hw (tX12_upper h) mtX12_upper k_1057 ⟨k_1058, k_1059⟩ cl12 hTm ⟨⟨rfl, rfl, Nat.le_of_ble_eq_true rfl, Nat.le_of_ble_eq_true rfl⟩, hcs.1, hcs.2⟩ rfl hl.1 rfl (Nat.le_of_ble_eq_true rfl) dL_law_1144) hw (fun r3 σ4 H locs h hw => ?_)
  refine m_leq (tgt := 1240) hX dL_law_1147 dL_law_1148 (by decide) (fun hq => ?_) (fun hq => ?_)
  · exact kk _ _ _ h.2 hw
  · exact absurd h.1 hq
set_option maxHeartbeats 4000000 in
set_option maxRecDepth 100000 in
theorem law_26 {p : Program} {l : Launch} {e : Env} {s : State} {m : MethodId} {below : List Frame} {meth : Method} {c : Code} {D : va_G} {cA : Nat → ClassId} {b L : Nat} {xs : Nat → Int32} (hX : Cx p m c code 4 s #[Value.ref b] R_law D cA) (hXs : va_X b L xs s s.heap) (hbl : b < s.heap.size) {ax am : Nat} {x3 : Int32} (hi1 : vp_in (x3 + 1) L) (hi2 : vp_in (x3 + 2) L) (hi3 : vp_in (x3 + 3) L) (hi4 : vp_in (x3 + 4) L) (hi5 : vp_in (x3 + 5) L) {σ : Me} {Post : Me → Prop} (hTx : gT σ ax = 11)
    (h : pX11_lower σ ax (fun r σ1 => gT σ1 am = 12 ∧ pX12_lower σ1 am (fun r2 σ2 => r = r2 ∧ Post σ2))) {cells slots : Nat} (hcs : cells + 0 ≤ 600000 ∧ slots + 0 ≤ 7302250) {H : Heap} {locs : List Loc} {ls : Array Slot} (hw : wS D cA s.heap.size s σ H locs) (hl : lv_has ls 4 [(0, .ref b), (1, .ref ax), (2, .ref am), (3, .int x3)]) {Q : State → Prop}
    (kk : ∀ (σ2 : Me) (H : Heap) (locs : List Loc), Post σ2 → wS D cA s.heap.size s σ2 H locs → W p l e room_1 s m #[Value.ref b] below meth c H locs cells slots Q (F0 m 1240 ls [])) : W p l e room_1 s m #[Value.ref b] below meth c H locs cells slots Q (F0 m 1153 ls []) := by
  have hx := hX.1.1
  have hb := hX.1.2.1
  have hbA : ¬ s.heap.size ≤ b := Nat.not_le.mpr hbl
  refine lv_aload_n hx hb dL_law_1153 rfl (lv_at hl 1 rfl) ?_
  refine m_cl (m_runV (rest := []) hX hw (tX11_lower h) mtX11_lower k_829 ⟨k_830, k_831⟩ cl11 hTx ⟨⟨rfl, rfl, Nat.le_of_ble_eq_true rfl, Nat.le_of_ble_eq_true rfl⟩, hcs.1, hcs.2⟩ rfl hl.1 rfl (Nat.le_of_ble_eq_true rfl) dL_law_1154) hw (fun r1 σ2 H locs h hw => ?_)
  obtain ⟨hTm, h⟩ := h
  refine (?_ : W p l e room_1 s m #[Value.ref b] below meth c H locs cells slots Q _)
  refine lv_aload_n hx hb dL_law_1157 rfl (lv_at hl 2 rfl) ?_
  refine m_cl (m_runV (rest := [_]) hX hw (tX12_lower h) mtX12_lower k_1061 ⟨k_1062, k_1063⟩ cl12 hTm ⟨⟨rfl, rfl, Nat.le_of_ble_eq_true rfl, Nat.le_of_ble_eq_true rfl⟩, hcs.1, hcs.2⟩ rfl hl.1 rfl (Nat.le_of_ble_eq_true rfl) dL_law_1158) hw (fun r3 σ4 H locs h hw => ?_)
  refine m_leq (tgt := 1240) hX dL_law_1161 dL_law_1162 (by decide) (fun hq => ?_) (fun hq => ?_)
  · exact kk _ _ _ h.2 hw
  · exact absurd h.1 hq
set_option maxHeartbeats 4000000 in
set_option maxRecDepth 100000 in
theorem law_27 {p : Program} {l : Launch} {e : Env} {s : State} {m : MethodId} {below : List Frame} {meth : Method} {c : Code} {D : va_G} {cA : Nat → ClassId} {b L : Nat} {xs : Nat → Int32} (hX : Cx p m c code 4 s #[Value.ref b] R_law D cA) (hXs : va_X b L xs s s.heap) (hbl : b < s.heap.size) {ax am : Nat} {x3 : Int32} (hi1 : vp_in (x3 + 1) L) (hi2 : vp_in (x3 + 2) L) (hi3 : vp_in (x3 + 3) L) (hi4 : vp_in (x3 + 4) L) (hi5 : vp_in (x3 + 5) L) {σ : Me} {Post : Me → Prop} (hTx : gT σ ax = 11)
    (h : pX11_count σ ax (xs (x3 + 1).toNatClampNeg) (fun r σ1 => gT σ1 am = 12 ∧ pX12_count σ1 am (xs (x3 + 1).toNatClampNeg) (fun r2 σ2 => r = r2 ∧ Post σ2))) {cells slots : Nat} (hcs : cells + 0 ≤ 600000 ∧ slots + 0 ≤ 7302250) {H : Heap} {locs : List Loc} {ls : Array Slot} (hw : wS D cA s.heap.size s σ H locs) (hl : lv_has ls 4 [(0, .ref b), (1, .ref ax), (2, .ref am), (3, .int x3)]) {Q : State → Prop}
    (kk : ∀ (σ2 : Me) (H : Heap) (locs : List Loc), Post σ2 → wS D cA s.heap.size s σ2 H locs → W p l e room_1 s m #[Value.ref b] below meth c H locs cells slots Q (F0 m 1240 ls [])) : W p l e room_1 s m #[Value.ref b] below meth c H locs cells slots Q (F0 m 1167 ls []) := by
  have hx := hX.1.1
  have hb := hX.1.2.1
  have hbA : ¬ s.heap.size ≤ b := Nat.not_le.mpr hbl
  refine lv_aload_n hx hb dL_law_1167 rfl (lv_at hl 1 rfl) ?_
  refine lv_aload_n hx hb dL_law_1168 rfl (lv_at hl 0 rfl) ?_
  refine lv_iload_n hx hb dL_law_1169 rfl (lv_at hl 3 rfl) ?_
  refine lv_iconst (v := 1) hx hb dL_law_1170 (by decide) ?_
  refine lv_iadd hx hb dL_law_1171 ?_
  refine va_sld hx hb hXs hbl hbA hw.2 hi1 dL_law_1172 ?_
  refine m_ci (m_runV (rest := []) hX hw (tX11_count h) mtX11_count k_833 ⟨k_834, k_835⟩ cl11 hTx ⟨⟨rfl, rfl, Nat.le_of_ble_eq_true rfl, Nat.le_of_ble_eq_true rfl⟩, hcs.1, hcs.2⟩ rfl hl.1 rfl (Nat.le_of_ble_eq_true rfl) dL_law_1173) hw (fun r1 σ2 H locs h hw => ?_)
  obtain ⟨hTm, h⟩ := h
  refine (?_ : W p l e room_1 s m #[Value.ref b] below meth c H locs cells slots Q _)
  refine lv_aload_n hx hb dL_law_1176 rfl (lv_at hl 2 rfl) ?_
  refine lv_aload_n hx hb dL_law_1177 rfl (lv_at hl 0 rfl) ?_
  refine lv_iload_n hx hb dL_law_1178 rfl (lv_at hl 3 rfl) ?_
  refine lv_iconst (v := 1) hx hb dL_law_1179 (by decide) ?_
  refine lv_iadd hx hb dL_law_1180 ?_
  refine va_sld hx hb hXs hbl hbA hw.2 hi1 dL_law_1181 ?_
  refine m_ci (m_runV (rest := [_]) hX hw (tX12_count h) mtX12_count k_1248 ⟨k_1249, k_1250⟩ cl12 hTm ⟨⟨rfl, rfl, Nat.le_of_ble_eq_true rfl, Nat.le_of_ble_eq_true rfl⟩, hcs.1, hcs.2⟩ rfl hl.1 rfl (Nat.le_of_ble_eq_true rfl) dL_law_1182) hw (fun r3 σ4 H locs h hw => ?_)
  refine lv_icmp_eq (tgt := 1240) hx hb dL_law_1185 (by decide) (fun hq => ?_) (fun hq => ?_)
  · exact kk _ _ _ h.2 hw
  · exact absurd h.1 hq
set_option maxHeartbeats 4000000 in
set_option maxRecDepth 100000 in
theorem law_28 {p : Program} {l : Launch} {e : Env} {s : State} {m : MethodId} {below : List Frame} {meth : Method} {c : Code} {D : va_G} {cA : Nat → ClassId} {b L : Nat} {xs : Nat → Int32} (hX : Cx p m c code 4 s #[Value.ref b] R_law D cA) (hXs : va_X b L xs s s.heap) (hbl : b < s.heap.size) {ax am : Nat} {x3 : Int32} (hi1 : vp_in (x3 + 1) L) (hi2 : vp_in (x3 + 2) L) (hi3 : vp_in (x3 + 3) L) (hi4 : vp_in (x3 + 4) L) (hi5 : vp_in (x3 + 5) L) {σ : Me} {Post : Me → Prop} (hTx : gT σ ax = 11)
    (h : pX11_finding σ ax (fun r σ1 => gT σ1 am = 12 ∧ pX12_finding σ1 am (fun r2 σ2 => r = r2 ∧ Post σ2))) {cells slots : Nat} (hcs : cells + 0 ≤ 600000 ∧ slots + 0 ≤ 7302250) {H : Heap} {locs : List Loc} {ls : Array Slot} (hw : wS D cA s.heap.size s σ H locs) (hl : lv_has ls 4 [(0, .ref b), (1, .ref ax), (2, .ref am), (3, .int x3)]) {Q : State → Prop}
    (kk : ∀ (σ2 : Me) (H : Heap) (locs : List Loc), Post σ2 → wS D cA s.heap.size s σ2 H locs → W p l e room_1 s m #[Value.ref b] below meth c H locs cells slots Q (F0 m 1240 ls [])) : W p l e room_1 s m #[Value.ref b] below meth c H locs cells slots Q (F0 m 1190 ls []) := by
  have hx := hX.1.1
  have hb := hX.1.2.1
  have hbA : ¬ s.heap.size ≤ b := Nat.not_le.mpr hbl
  refine lv_aload_n hx hb dL_law_1190 rfl (lv_at hl 1 rfl) ?_
  refine m_ci (m_runV (rest := []) hX hw (tX11_finding h) mtX11_finding k_841 ⟨k_842, k_843⟩ cl11 hTx ⟨⟨rfl, rfl, Nat.le_of_ble_eq_true rfl, Nat.le_of_ble_eq_true rfl⟩, hcs.1, hcs.2⟩ rfl hl.1 rfl (Nat.le_of_ble_eq_true rfl) dL_law_1191) hw (fun r1 σ2 H locs h hw => ?_)
  obtain ⟨hTm, h⟩ := h
  refine (?_ : W p l e room_1 s m #[Value.ref b] below meth c H locs cells slots Q _)
  refine lv_aload_n hx hb dL_law_1194 rfl (lv_at hl 2 rfl) ?_
  refine m_ci (m_runV (rest := [_]) hX hw (tX12_finding h) mtX12_finding k_1046 ⟨k_1047, k_1048⟩ cl12 hTm ⟨⟨rfl, rfl, Nat.le_of_ble_eq_true rfl, Nat.le_of_ble_eq_true rfl⟩, hcs.1, hcs.2⟩ rfl hl.1 rfl (Nat.le_of_ble_eq_true rfl) dL_law_1195) hw (fun r3 σ4 H locs h hw => ?_)
  refine lv_icmp_eq (tgt := 1240) hx hb dL_law_1198 (by decide) (fun hq => ?_) (fun hq => ?_)
  · exact kk _ _ _ h.2 hw
  · exact absurd h.1 hq
set_option maxHeartbeats 4000000 in
set_option maxRecDepth 100000 in
theorem law_29 {p : Program} {l : Launch} {e : Env} {s : State} {m : MethodId} {below : List Frame} {meth : Method} {c : Code} {D : va_G} {cA : Nat → ClassId} {b L : Nat} {xs : Nat → Int32} (hX : Cx p m c code 4 s #[Value.ref b] R_law D cA) (hXs : va_X b L xs s s.heap) (hbl : b < s.heap.size) {ax am : Nat} {x3 : Int32} (hi1 : vp_in (x3 + 1) L) (hi2 : vp_in (x3 + 2) L) (hi3 : vp_in (x3 + 3) L) (hi4 : vp_in (x3 + 4) L) (hi5 : vp_in (x3 + 5) L) {σ : Me} {Post : Me → Prop} (hTx : gT σ ax = 11)
    (h : pX11_findings σ ax (xs (x3 + 1).toNatClampNeg) (fun r σ1 => gT σ1 am = 12 ∧ pX12_findings σ1 am (xs (x3 + 1).toNatClampNeg) (fun r2 σ2 => r = r2 ∧ Post σ2))) {cells slots : Nat} (hcs : cells + 0 ≤ 600000 ∧ slots + 0 ≤ 7302250) {H : Heap} {locs : List Loc} {ls : Array Slot} (hw : wS D cA s.heap.size s σ H locs) (hl : lv_has ls 4 [(0, .ref b), (1, .ref ax), (2, .ref am), (3, .int x3)]) {Q : State → Prop}
    (kk : ∀ (σ2 : Me) (H : Heap) (locs : List Loc), Post σ2 → wS D cA s.heap.size s σ2 H locs → W p l e room_1 s m #[Value.ref b] below meth c H locs cells slots Q (F0 m 1240 ls [])) : W p l e room_1 s m #[Value.ref b] below meth c H locs cells slots Q (F0 m 1203 ls []) := by
  have hx := hX.1.1
  have hb := hX.1.2.1
  have hbA : ¬ s.heap.size ≤ b := Nat.not_le.mpr hbl
  refine lv_aload_n hx hb dL_law_1203 rfl (lv_at hl 1 rfl) ?_
  refine lv_aload_n hx hb dL_law_1204 rfl (lv_at hl 0 rfl) ?_
  refine lv_iload_n hx hb dL_law_1205 rfl (lv_at hl 3 rfl) ?_
  refine lv_iconst (v := 1) hx hb dL_law_1206 (by decide) ?_
  refine lv_iadd hx hb dL_law_1207 ?_
  refine va_sld hx hb hXs hbl hbA hw.2 hi1 dL_law_1208 ?_
  refine m_ci (m_runV (rest := []) hX hw (tX11_findings h) mtX11_findings k_845 ⟨k_846, k_847⟩ cl11 hTx ⟨⟨rfl, rfl, Nat.le_of_ble_eq_true rfl, Nat.le_of_ble_eq_true rfl⟩, hcs.1, hcs.2⟩ rfl hl.1 rfl (Nat.le_of_ble_eq_true rfl) dL_law_1209) hw (fun r1 σ2 H locs h hw => ?_)
  obtain ⟨hTm, h⟩ := h
  refine (?_ : W p l e room_1 s m #[Value.ref b] below meth c H locs cells slots Q _)
  refine lv_aload_n hx hb dL_law_1212 rfl (lv_at hl 2 rfl) ?_
  refine lv_aload_n hx hb dL_law_1213 rfl (lv_at hl 0 rfl) ?_
  refine lv_iload_n hx hb dL_law_1214 rfl (lv_at hl 3 rfl) ?_
  refine lv_iconst (v := 1) hx hb dL_law_1215 (by decide) ?_
  refine lv_iadd hx hb dL_law_1216 ?_
  refine va_sld hx hb hXs hbl hbA hw.2 hi1 dL_law_1217 ?_
  refine m_ci (m_runV (rest := [_]) hX hw (tX12_findings h) mtX12_findings k_1050 ⟨k_1051, k_1052⟩ cl12 hTm ⟨⟨rfl, rfl, Nat.le_of_ble_eq_true rfl, Nat.le_of_ble_eq_true rfl⟩, hcs.1, hcs.2⟩ rfl hl.1 rfl (Nat.le_of_ble_eq_true rfl) dL_law_1218) hw (fun r3 σ4 H locs h hw => ?_)
  refine lv_icmp_eq (tgt := 1240) hx hb dL_law_1221 (by decide) (fun hq => ?_) (fun hq => ?_)
  · exact kk _ _ _ h.2 hw
  · exact absurd h.1 hq
set_option maxHeartbeats 4000000 in
set_option maxRecDepth 100000 in
theorem law_30 {p : Program} {l : Launch} {e : Env} {s : State} {m : MethodId} {below : List Frame} {meth : Method} {c : Code} {D : va_G} {cA : Nat → ClassId} {b L : Nat} {xs : Nat → Int32} (hX : Cx p m c code 4 s #[Value.ref b] R_law D cA) (hXs : va_X b L xs s s.heap) (hbl : b < s.heap.size) {ax am : Nat} {x3 : Int32} (hi1 : vp_in (x3 + 1) L) (hi2 : vp_in (x3 + 2) L) (hi3 : vp_in (x3 + 3) L) (hi4 : vp_in (x3 + 4) L) (hi5 : vp_in (x3 + 5) L) {σ : Me} {Post : Me → Prop} (hTx : gT σ ax = 11)
    (h : pX11_digest σ ax (fun r σ1 => gT σ1 am = 12 ∧ pX12_digest σ1 am (fun r2 σ2 => r = r2 ∧ Post σ2))) {cells slots : Nat} (hcs : cells + 0 ≤ 600000 ∧ slots + 0 ≤ 7302250) {H : Heap} {locs : List Loc} {ls : Array Slot} (hw : wS D cA s.heap.size s σ H locs) (hl : lv_has ls 4 [(0, .ref b), (1, .ref ax), (2, .ref am), (3, .int x3)]) {Q : State → Prop}
    (kk : ∀ (σ2 : Me) (H : Heap) (locs : List Loc), Post σ2 → wS D cA s.heap.size s σ2 H locs → W p l e room_1 s m #[Value.ref b] below meth c H locs cells slots Q (F0 m 1240 ls [])) : W p l e room_1 s m #[Value.ref b] below meth c H locs cells slots Q (F0 m 1226 ls []) := by
  have hx := hX.1.1
  have hb := hX.1.2.1
  have hbA : ¬ s.heap.size ≤ b := Nat.not_le.mpr hbl
  refine lv_aload_n hx hb dL_law_1226 rfl (lv_at hl 1 rfl) ?_
  refine m_cl (m_runV (rest := []) hX hw (tX11_digest h) mtX11_digest k_849 ⟨k_850, k_851⟩ cl11 hTx ⟨⟨rfl, rfl, Nat.le_of_ble_eq_true rfl, Nat.le_of_ble_eq_true rfl⟩, hcs.1, hcs.2⟩ rfl hl.1 rfl (Nat.le_of_ble_eq_true rfl) dL_law_1227) hw (fun r1 σ2 H locs h hw => ?_)
  obtain ⟨hTm, h⟩ := h
  refine (?_ : W p l e room_1 s m #[Value.ref b] below meth c H locs cells slots Q _)
  refine lv_aload_n hx hb dL_law_1230 rfl (lv_at hl 2 rfl) ?_
  refine m_cl (m_runV (rest := [_]) hX hw (tX12_digest h) mtX12_digest k_1252 ⟨k_1253, k_1254⟩ cl12 hTm ⟨⟨rfl, rfl, Nat.le_of_ble_eq_true rfl, Nat.le_of_ble_eq_true rfl⟩, hcs.1, hcs.2⟩ rfl hl.1 rfl (Nat.le_of_ble_eq_true rfl) dL_law_1231) hw (fun r3 σ4 H locs h hw => ?_)
  refine m_leq (tgt := 1240) hX dL_law_1234 dL_law_1235 (by decide) (fun hq => ?_) (fun hq => ?_)
  · exact kk _ _ _ h.2 hw
  · exact absurd h.1 hq
