set_option maxHeartbeats 4000000 in
set_option maxRecDepth 100000 in
theorem lc_put {p : Program} {l : Launch} {e : Env} {s : State} {m : MethodId} {below : List Frame} {meth : Method} {cd : Code} {D : va_G} {ct : Nat → ClassId} {b L : Nat} {xs : Nat → Int32} {Rel : KS → MS → Prop} (hE0 : ME p s m cd #[Value.ref b] D ct cL_law RL 4) (hX0 : va_X b L xs s s.heap) (hbl : b < s.heap.size) (hs : S_put Rel) {x3 : Int32} (h_1 : vp_in (x3 + (1 : Int32)) L) (h_2 : vp_in (x3 + (2 : Int32)) L) (h_3 : vp_in (x3 + (3 : Int32)) L) (h_4 : vp_in (x3 + (4 : Int32)) L) (h_5 : vp_in (x3 + (5 : Int32)) L) (hn : ∀ (K : KS) (M : MS) (J : List Nat) (ad : Nat → Nat) (c : CF) (H : Heap) (locs : List Loc) (d0 : Drawn) (cells slots : Nat) (ls : Array Slot), LI D ct s Rel K M J ad c H locs d0 cells slots → lv_has ls 4 [(0, .ref b), (1, .ref (ad 0)), (2, .ref (ad 160)), (3, .int x3)] → W p l e room_1 (s.setDrawn d0) m #[Value.ref b] below meth cd H locs cells slots (lw_Z below #[Value.ref b] s) (F0 m 1498 ls [])) {K : KS} {M : MS} {J : List Nat} {ad : Nat → Nat} {c : CF} {H : Heap} {locs : List Loc} {d0 : Drawn} {cells slots : Nat} {ls : Array Slot} (hi : LI D ct s Rel K M J ad c H locs d0 cells slots) (hl : lv_has ls 4 [(0, .ref b), (1, .ref (ad 0)), (2, .ref (ad 160)), (3, .int x3)]) : W p l e room_1 (s.setDrawn d0) m #[Value.ref b] below meth cd H locs cells slots (lw_Z below #[Value.ref b] s) (F0 m 204 ls []) := by
  obtain ⟨hRel, hK, hM, hW, hd, hj1, hj2, hc1, hc2⟩ := hi
  have hx := hE0.1
  have hb := hE0.2.1
  have hE := hE0.dr d0
  have hX : va_X b L xs (s.setDrawn d0) s.heap := hX0
  have hA : ∀ q : Nat, s.heap.size ≤ q → (fun q : Nat => s.heap.size ≤ q) q := fun _ h => h
  have hbA : ¬ (fun q : Nat => s.heap.size ≤ q) b := Nat.not_le.mpr hbl
  have hcs : cells ≤ room_1.cells ∧ slots ≤ room_1.slots := ⟨Nat.le_trans (show cells ≤ 300 by omega) (Nat.le_of_ble_eq_true rfl), Nat.le_trans (show slots ≤ 60000 by omega) (Nat.le_of_ble_eq_true rfl)⟩
  refine lv_aload_n hx hb dL_law_204 rfl (lv_at hl 1 rfl) ?_
  refine lv_aload_n hx hb dL_law_205 rfl (lv_at hl 0 rfl) ?_
  refine lv_iload_n hx hb dL_law_206 rfl (lv_at hl 3 rfl) ?_
  refine lv_iconst (v := (1 : Int32)) hx hb dL_law_207 (by decide) ?_
  refine lv_iadd hx hb dL_law_208 ?_
  refine va_sld hx hb hX hbl hbA hW.2.2 h_1 dL_law_209 ?_
  refine lv_aload_n hx hb dL_law_210 rfl (lv_at hl 0 rfl) ?_
  refine lv_iload_n hx hb dL_law_211 rfl (lv_at hl 3 rfl) ?_
  refine lv_iconst (v := (2 : Int32)) hx hb dL_law_212 (by decide) ?_
  refine lv_iadd hx hb dL_law_213 ?_
  refine va_sld hx hb hX hbl hbA hW.2.2 h_2 dL_law_214 ?_
  refine lv_aload_n hx hb dL_law_215 rfl (lv_at hl 0 rfl) ?_
  refine lv_iload_n hx hb dL_law_216 rfl (lv_at hl 3 rfl) ?_
  refine lv_iconst (v := (3 : Int32)) hx hb dL_law_217 (by decide) ?_
  refine lv_iadd hx hb dL_law_218 ?_
  refine va_sld hx hb hX hbl hbA hW.2.2 h_3 dL_law_219 ?_
  refine lv_aload_n hx hb dL_law_220 rfl (lv_at hl 0 rfl) ?_
  refine lv_iload_n hx hb dL_law_221 rfl (lv_at hl 3 rfl) ?_
  refine lv_iconst (v := (4 : Int32)) hx hb dL_law_222 (by decide) ?_
  refine lv_iadd hx hb dL_law_223 ?_
  refine va_sld hx hb hX hbl hbA hW.2.2 h_4 dL_law_224 ?_
  refine lv_aload_n hx hb dL_law_225 rfl (lv_at hl 0 rfl) ?_
  refine lv_iload_n hx hb dL_law_226 rfl (lv_at hl 3 rfl) ?_
  refine lv_iconst (v := (5 : Int32)) hx hb dL_law_227 (by decide) ?_
  refine lv_iadd hx hb dL_law_228 ?_
  refine va_sld hx hb hX hbl hbA hW.2.2 h_5 dL_law_229 ?_
  obtain ⟨r, K1, M1, h8, h9, hR1, ht⟩ := hs ((xs (x3 + (1 : Int32)).toNatClampNeg)) ((xs (x3 + (2 : Int32)).toNatClampNeg)) ((xs (x3 + (3 : Int32)).toNatClampNeg)) ((xs (x3 + (4 : Int32)).toNatClampNeg)) ((xs (x3 + (5 : Int32)).toNatClampNeg)) K M hRel
  refine g_callVi (rest := []) hE hW (hW.af hA) hl.1 (mX8_put hK h8) hK.o hK.obj rfl q263 q264 q265 q1 q266 hd_X8_put ⟨(Nat.le_of_ble_eq_true rfl), (Nat.le_of_ble_eq_true rfl)⟩ ⟨rfl, rfl⟩ rfl (Nat.le_of_ble_eq_true rfl) dL_law_230 hcs (fun c1 H locs hP hz1 hW => ?_)
  have hM := hM.fr hP.2 (by omega)
  have hK := hP.1
  refine lv_aload_n hx hb dL_law_233 rfl (lv_at hl 2 rfl) ?_
  refine lv_aload_n hx hb dL_law_234 rfl (lv_at hl 0 rfl) ?_
  refine lv_iload_n hx hb dL_law_235 rfl (lv_at hl 3 rfl) ?_
  refine lv_iconst (v := (1 : Int32)) hx hb dL_law_236 (by decide) ?_
  refine lv_iadd hx hb dL_law_237 ?_
  refine va_sld hx hb hX hbl hbA hW.2.2 h_1 dL_law_238 ?_
  refine lv_aload_n hx hb dL_law_239 rfl (lv_at hl 0 rfl) ?_
  refine lv_iload_n hx hb dL_law_240 rfl (lv_at hl 3 rfl) ?_
  refine lv_iconst (v := (2 : Int32)) hx hb dL_law_241 (by decide) ?_
  refine lv_iadd hx hb dL_law_242 ?_
  refine va_sld hx hb hX hbl hbA hW.2.2 h_2 dL_law_243 ?_
  refine lv_aload_n hx hb dL_law_244 rfl (lv_at hl 0 rfl) ?_
  refine lv_iload_n hx hb dL_law_245 rfl (lv_at hl 3 rfl) ?_
  refine lv_iconst (v := (3 : Int32)) hx hb dL_law_246 (by decide) ?_
  refine lv_iadd hx hb dL_law_247 ?_
  refine va_sld hx hb hX hbl hbA hW.2.2 h_3 dL_law_248 ?_
  refine lv_aload_n hx hb dL_law_249 rfl (lv_at hl 0 rfl) ?_
  refine lv_iload_n hx hb dL_law_250 rfl (lv_at hl 3 rfl) ?_
  refine lv_iconst (v := (4 : Int32)) hx hb dL_law_251 (by decide) ?_
  refine lv_iadd hx hb dL_law_252 ?_
  refine va_sld hx hb hX hbl hbA hW.2.2 h_4 dL_law_253 ?_
  refine lv_aload_n hx hb dL_law_254 rfl (lv_at hl 0 rfl) ?_
  refine lv_iload_n hx hb dL_law_255 rfl (lv_at hl 3 rfl) ?_
  refine lv_iconst (v := (5 : Int32)) hx hb dL_law_256 (by decide) ?_
  refine lv_iadd hx hb dL_law_257 ?_
  refine va_sld hx hb hX hbl hbA hW.2.2 h_5 dL_law_258 ?_
  refine g_callViD (rest := [.int r]) hd hE hW (hW.af hA) hl.1 (mX9_put hM h9) hM.o hM.obj rfl q920 q921 q922 q10 q923 hd_X9_put ⟨(Nat.le_of_ble_eq_true rfl), (Nat.le_of_ble_eq_true rfl)⟩ ⟨rfl, rfl⟩ rfl (Nat.le_of_ble_eq_true rfl) dL_law_259 hcs (fun c2 H locs hP2 hz2 hW d0 hd => ?_)
  have hE := hE0.dr d0
  have hX : va_X b L xs (s.setDrawn d0) s.heap := hX0
  have hK := hK.fr hP2.2 (by omega)
  have hM := hP2.1
  refine lv_icmp_eq (tgt := 1498) hx hb dL_law_262 (by decide) (fun _ => ?_) (fun kf => absurd rfl kf)
  exact hn K1 M1 J ad _ _ _ d0 cells slots ls ⟨hR1, hK, hM, hW, hd, by rw [ht]; exact hj1, by rw [ht]; exact hj2, by rw [ht]; exact hc1, by rw [ht]; exact hc2⟩ hl
set_option maxHeartbeats 4000000 in
set_option maxRecDepth 100000 in
theorem lc_tomb {p : Program} {l : Launch} {e : Env} {s : State} {m : MethodId} {below : List Frame} {meth : Method} {cd : Code} {D : va_G} {ct : Nat → ClassId} {b L : Nat} {xs : Nat → Int32} {Rel : KS → MS → Prop} (hE0 : ME p s m cd #[Value.ref b] D ct cL_law RL 4) (hX0 : va_X b L xs s s.heap) (hbl : b < s.heap.size) (hs : S_tomb Rel) {x3 : Int32} (h_1 : vp_in (x3 + (1 : Int32)) L) (h_2 : vp_in (x3 + (2 : Int32)) L) (h_3 : vp_in (x3 + (3 : Int32)) L) (hn : ∀ (K : KS) (M : MS) (J : List Nat) (ad : Nat → Nat) (c : CF) (H : Heap) (locs : List Loc) (d0 : Drawn) (cells slots : Nat) (ls : Array Slot), LI D ct s Rel K M J ad c H locs d0 cells slots → lv_has ls 4 [(0, .ref b), (1, .ref (ad 0)), (2, .ref (ad 160)), (3, .int x3)] → W p l e room_1 (s.setDrawn d0) m #[Value.ref b] below meth cd H locs cells slots (lw_Z below #[Value.ref b] s) (F0 m 1498 ls [])) {K : KS} {M : MS} {J : List Nat} {ad : Nat → Nat} {c : CF} {H : Heap} {locs : List Loc} {d0 : Drawn} {cells slots : Nat} {ls : Array Slot} (hi : LI D ct s Rel K M J ad c H locs d0 cells slots) (hl : lv_has ls 4 [(0, .ref b), (1, .ref (ad 0)), (2, .ref (ad 160)), (3, .int x3)]) : W p l e room_1 (s.setDrawn d0) m #[Value.ref b] below meth cd H locs cells slots (lw_Z below #[Value.ref b] s) (F0 m 267 ls []) := by
  obtain ⟨hRel, hK, hM, hW, hd, hj1, hj2, hc1, hc2⟩ := hi
  have hx := hE0.1
  have hb := hE0.2.1
  have hE := hE0.dr d0
  have hX : va_X b L xs (s.setDrawn d0) s.heap := hX0
  have hA : ∀ q : Nat, s.heap.size ≤ q → (fun q : Nat => s.heap.size ≤ q) q := fun _ h => h
  have hbA : ¬ (fun q : Nat => s.heap.size ≤ q) b := Nat.not_le.mpr hbl
  have hcs : cells ≤ room_1.cells ∧ slots ≤ room_1.slots := ⟨Nat.le_trans (show cells ≤ 300 by omega) (Nat.le_of_ble_eq_true rfl), Nat.le_trans (show slots ≤ 60000 by omega) (Nat.le_of_ble_eq_true rfl)⟩
  refine lv_aload_n hx hb dL_law_267 rfl (lv_at hl 1 rfl) ?_
  refine lv_aload_n hx hb dL_law_268 rfl (lv_at hl 0 rfl) ?_
  refine lv_iload_n hx hb dL_law_269 rfl (lv_at hl 3 rfl) ?_
  refine lv_iconst (v := (1 : Int32)) hx hb dL_law_270 (by decide) ?_
  refine lv_iadd hx hb dL_law_271 ?_
  refine va_sld hx hb hX hbl hbA hW.2.2 h_1 dL_law_272 ?_
  refine lv_aload_n hx hb dL_law_273 rfl (lv_at hl 0 rfl) ?_
  refine lv_iload_n hx hb dL_law_274 rfl (lv_at hl 3 rfl) ?_
  refine lv_iconst (v := (2 : Int32)) hx hb dL_law_275 (by decide) ?_
  refine lv_iadd hx hb dL_law_276 ?_
  refine va_sld hx hb hX hbl hbA hW.2.2 h_2 dL_law_277 ?_
  refine lv_aload_n hx hb dL_law_278 rfl (lv_at hl 0 rfl) ?_
  refine lv_iload_n hx hb dL_law_279 rfl (lv_at hl 3 rfl) ?_
  refine lv_iconst (v := (3 : Int32)) hx hb dL_law_280 (by decide) ?_
  refine lv_iadd hx hb dL_law_281 ?_
  refine va_sld hx hb hX hbl hbA hW.2.2 h_3 dL_law_282 ?_
  obtain ⟨r, K1, M1, h8, h9, hR1, ht⟩ := hs ((xs (x3 + (1 : Int32)).toNatClampNeg)) ((xs (x3 + (2 : Int32)).toNatClampNeg)) ((xs (x3 + (3 : Int32)).toNatClampNeg)) K M hRel
  refine g_callVi (rest := []) hE hW (hW.af hA) hl.1 (mX8_tomb hK h8) hK.o hK.obj rfl q309 q310 q311 q1 q312 hd_X8_tomb ⟨(Nat.le_of_ble_eq_true rfl), (Nat.le_of_ble_eq_true rfl)⟩ ⟨rfl, rfl⟩ rfl (Nat.le_of_ble_eq_true rfl) dL_law_283 hcs (fun c1 H locs hP hz1 hW => ?_)
  have hM := hM.fr hP.2 (by omega)
  have hK := hP.1
  refine lv_aload_n hx hb dL_law_286 rfl (lv_at hl 2 rfl) ?_
  refine lv_aload_n hx hb dL_law_287 rfl (lv_at hl 0 rfl) ?_
  refine lv_iload_n hx hb dL_law_288 rfl (lv_at hl 3 rfl) ?_
  refine lv_iconst (v := (1 : Int32)) hx hb dL_law_289 (by decide) ?_
  refine lv_iadd hx hb dL_law_290 ?_
  refine va_sld hx hb hX hbl hbA hW.2.2 h_1 dL_law_291 ?_
  refine lv_aload_n hx hb dL_law_292 rfl (lv_at hl 0 rfl) ?_
  refine lv_iload_n hx hb dL_law_293 rfl (lv_at hl 3 rfl) ?_
  refine lv_iconst (v := (2 : Int32)) hx hb dL_law_294 (by decide) ?_
  refine lv_iadd hx hb dL_law_295 ?_
  refine va_sld hx hb hX hbl hbA hW.2.2 h_2 dL_law_296 ?_
  refine lv_aload_n hx hb dL_law_297 rfl (lv_at hl 0 rfl) ?_
  refine lv_iload_n hx hb dL_law_298 rfl (lv_at hl 3 rfl) ?_
  refine lv_iconst (v := (3 : Int32)) hx hb dL_law_299 (by decide) ?_
  refine lv_iadd hx hb dL_law_300 ?_
  refine va_sld hx hb hX hbl hbA hW.2.2 h_3 dL_law_301 ?_
  refine g_callVi (rest := [.int r]) hE hW (hW.af hA) hl.1 (mX9_tomb hM h9) hM.o hM.obj rfl q975 q976 q977 q10 q978 hd_X9_tomb ⟨(Nat.le_of_ble_eq_true rfl), (Nat.le_of_ble_eq_true rfl)⟩ ⟨rfl, rfl⟩ rfl (Nat.le_of_ble_eq_true rfl) dL_law_302 hcs (fun c2 H locs hP2 hz2 hW => ?_)
  have hK := hK.fr hP2.2 (by omega)
  have hM := hP2.1
  refine lv_icmp_eq (tgt := 1498) hx hb dL_law_305 (by decide) (fun _ => ?_) (fun kf => absurd rfl kf)
  exact hn K1 M1 J ad _ _ _ d0 cells slots ls ⟨hR1, hK, hM, hW, hd, by rw [ht]; exact hj1, by rw [ht]; exact hj2, by rw [ht]; exact hc1, by rw [ht]; exact hc2⟩ hl
set_option maxHeartbeats 4000000 in
set_option maxRecDepth 100000 in
theorem lc_tick {p : Program} {l : Launch} {e : Env} {s : State} {m : MethodId} {below : List Frame} {meth : Method} {cd : Code} {D : va_G} {ct : Nat → ClassId} {b L : Nat} {xs : Nat → Int32} {Rel : KS → MS → Prop} (hE0 : ME p s m cd #[Value.ref b] D ct cL_law RL 4) (hX0 : va_X b L xs s s.heap) (hbl : b < s.heap.size) (hs : S_tick Rel) {x3 : Int32} (h_1 : vp_in (x3 + (1 : Int32)) L) (hn : ∀ (K : KS) (M : MS) (J : List Nat) (ad : Nat → Nat) (c : CF) (H : Heap) (locs : List Loc) (d0 : Drawn) (cells slots : Nat) (ls : Array Slot), LI D ct s Rel K M J ad c H locs d0 cells slots → lv_has ls 4 [(0, .ref b), (1, .ref (ad 0)), (2, .ref (ad 160)), (3, .int x3)] → W p l e room_1 (s.setDrawn d0) m #[Value.ref b] below meth cd H locs cells slots (lw_Z below #[Value.ref b] s) (F0 m 1498 ls [])) {K : KS} {M : MS} {J : List Nat} {ad : Nat → Nat} {c : CF} {H : Heap} {locs : List Loc} {d0 : Drawn} {cells slots : Nat} {ls : Array Slot} (hi : LI D ct s Rel K M J ad c H locs d0 cells slots) (hl : lv_has ls 4 [(0, .ref b), (1, .ref (ad 0)), (2, .ref (ad 160)), (3, .int x3)]) : W p l e room_1 (s.setDrawn d0) m #[Value.ref b] below meth cd H locs cells slots (lw_Z below #[Value.ref b] s) (F0 m 310 ls []) := by
  obtain ⟨hRel, hK, hM, hW, hd, hj1, hj2, hc1, hc2⟩ := hi
  have hx := hE0.1
  have hb := hE0.2.1
  have hE := hE0.dr d0
  have hX : va_X b L xs (s.setDrawn d0) s.heap := hX0
  have hA : ∀ q : Nat, s.heap.size ≤ q → (fun q : Nat => s.heap.size ≤ q) q := fun _ h => h
  have hbA : ¬ (fun q : Nat => s.heap.size ≤ q) b := Nat.not_le.mpr hbl
  have hcs : cells ≤ room_1.cells ∧ slots ≤ room_1.slots := ⟨Nat.le_trans (show cells ≤ 300 by omega) (Nat.le_of_ble_eq_true rfl), Nat.le_trans (show slots ≤ 60000 by omega) (Nat.le_of_ble_eq_true rfl)⟩
  refine lv_aload_n hx hb dL_law_310 rfl (lv_at hl 1 rfl) ?_
  refine lv_aload_n hx hb dL_law_311 rfl (lv_at hl 0 rfl) ?_
  refine lv_iload_n hx hb dL_law_312 rfl (lv_at hl 3 rfl) ?_
  refine lv_iconst (v := (1 : Int32)) hx hb dL_law_313 (by decide) ?_
  refine lv_iadd hx hb dL_law_314 ?_
  refine va_sld hx hb hX hbl hbA hW.2.2 h_1 dL_law_315 ?_
  obtain ⟨r, K1, M1, h8, h9, hR1, ht⟩ := hs ((xs (x3 + (1 : Int32)).toNatClampNeg)) K M hRel
  refine g_callVi (rest := []) hE hW (hW.af hA) hl.1 (mX8_tick hK h8) hK.o hK.obj rfl q313 q314 q315 q1 q316 hd_X8_tick ⟨(Nat.le_of_ble_eq_true rfl), (Nat.le_of_ble_eq_true rfl)⟩ ⟨rfl, rfl⟩ rfl (Nat.le_of_ble_eq_true rfl) dL_law_316 hcs (fun c1 H locs hP hz1 hW => ?_)
  have hM := hM.fr hP.2 (by omega)
  have hK := hP.1
  refine lv_aload_n hx hb dL_law_319 rfl (lv_at hl 2 rfl) ?_
  refine lv_aload_n hx hb dL_law_320 rfl (lv_at hl 0 rfl) ?_
  refine lv_iload_n hx hb dL_law_321 rfl (lv_at hl 3 rfl) ?_
  refine lv_iconst (v := (1 : Int32)) hx hb dL_law_322 (by decide) ?_
  refine lv_iadd hx hb dL_law_323 ?_
  refine va_sld hx hb hX hbl hbA hW.2.2 h_1 dL_law_324 ?_
  refine g_callVi (rest := [.int r]) hE hW (hW.af hA) hl.1 (mX9_tick hM h9) hM.o hM.obj rfl q979 q980 q981 q10 q982 hd_X9_tick ⟨(Nat.le_of_ble_eq_true rfl), (Nat.le_of_ble_eq_true rfl)⟩ ⟨rfl, rfl⟩ rfl (Nat.le_of_ble_eq_true rfl) dL_law_325 hcs (fun c2 H locs hP2 hz2 hW => ?_)
  have hK := hK.fr hP2.2 (by omega)
  have hM := hP2.1
  refine lv_icmp_eq (tgt := 1498) hx hb dL_law_328 (by decide) (fun _ => ?_) (fun kf => absurd rfl kf)
  exact hn K1 M1 J ad _ _ _ d0 cells slots ls ⟨hR1, hK, hM, hW, hd, by rw [ht]; exact hj1, by rw [ht]; exact hj2, by rw [ht]; exact hc1, by rw [ht]; exact hc2⟩ hl
set_option maxHeartbeats 4000000 in
set_option maxRecDepth 100000 in
theorem lc_set {p : Program} {l : Launch} {e : Env} {s : State} {m : MethodId} {below : List Frame} {meth : Method} {cd : Code} {D : va_G} {ct : Nat → ClassId} {b L : Nat} {xs : Nat → Int32} {Rel : KS → MS → Prop} (hE0 : ME p s m cd #[Value.ref b] D ct cL_law RL 4) (hX0 : va_X b L xs s s.heap) (hbl : b < s.heap.size) (hs : S_set Rel) {x3 : Int32} (h_1 : vp_in (x3 + (1 : Int32)) L) (h_2 : vp_in (x3 + (2 : Int32)) L) (hn : ∀ (K : KS) (M : MS) (J : List Nat) (ad : Nat → Nat) (c : CF) (H : Heap) (locs : List Loc) (d0 : Drawn) (cells slots : Nat) (ls : Array Slot), LI D ct s Rel K M J ad c H locs d0 cells slots → lv_has ls 4 [(0, .ref b), (1, .ref (ad 0)), (2, .ref (ad 160)), (3, .int x3)] → W p l e room_1 (s.setDrawn d0) m #[Value.ref b] below meth cd H locs cells slots (lw_Z below #[Value.ref b] s) (F0 m 1498 ls [])) {K : KS} {M : MS} {J : List Nat} {ad : Nat → Nat} {c : CF} {H : Heap} {locs : List Loc} {d0 : Drawn} {cells slots : Nat} {ls : Array Slot} (hi : LI D ct s Rel K M J ad c H locs d0 cells slots) (hl : lv_has ls 4 [(0, .ref b), (1, .ref (ad 0)), (2, .ref (ad 160)), (3, .int x3)]) : W p l e room_1 (s.setDrawn d0) m #[Value.ref b] below meth cd H locs cells slots (lw_Z below #[Value.ref b] s) (F0 m 333 ls []) := by
  obtain ⟨hRel, hK, hM, hW, hd, hj1, hj2, hc1, hc2⟩ := hi
  have hx := hE0.1
  have hb := hE0.2.1
  have hE := hE0.dr d0
  have hX : va_X b L xs (s.setDrawn d0) s.heap := hX0
  have hA : ∀ q : Nat, s.heap.size ≤ q → (fun q : Nat => s.heap.size ≤ q) q := fun _ h => h
  have hbA : ¬ (fun q : Nat => s.heap.size ≤ q) b := Nat.not_le.mpr hbl
  have hcs : cells ≤ room_1.cells ∧ slots ≤ room_1.slots := ⟨Nat.le_trans (show cells ≤ 300 by omega) (Nat.le_of_ble_eq_true rfl), Nat.le_trans (show slots ≤ 60000 by omega) (Nat.le_of_ble_eq_true rfl)⟩
  refine lv_aload_n hx hb dL_law_333 rfl (lv_at hl 1 rfl) ?_
  refine lv_aload_n hx hb dL_law_334 rfl (lv_at hl 0 rfl) ?_
  refine lv_iload_n hx hb dL_law_335 rfl (lv_at hl 3 rfl) ?_
  refine lv_iconst (v := (1 : Int32)) hx hb dL_law_336 (by decide) ?_
  refine lv_iadd hx hb dL_law_337 ?_
  refine va_sld hx hb hX hbl hbA hW.2.2 h_1 dL_law_338 ?_
  refine lv_aload_n hx hb dL_law_339 rfl (lv_at hl 0 rfl) ?_
  refine lv_iload_n hx hb dL_law_340 rfl (lv_at hl 3 rfl) ?_
  refine lv_iconst (v := (2 : Int32)) hx hb dL_law_341 (by decide) ?_
  refine lv_iadd hx hb dL_law_342 ?_
  refine va_sld hx hb hX hbl hbA hW.2.2 h_2 dL_law_343 ?_
  obtain ⟨r, K1, M1, h8, h9, hR1, ht⟩ := hs ((xs (x3 + (1 : Int32)).toNatClampNeg)) ((xs (x3 + (2 : Int32)).toNatClampNeg)) K M hRel
  refine g_callVi (rest := []) hE hW (hW.af hA) hl.1 (mX8_set hK h8) hK.o hK.obj rfl q317 q318 q319 q1 q320 hd_X8_set ⟨(Nat.le_of_ble_eq_true rfl), (Nat.le_of_ble_eq_true rfl)⟩ ⟨rfl, rfl⟩ rfl (Nat.le_of_ble_eq_true rfl) dL_law_344 hcs (fun c1 H locs hP hz1 hW => ?_)
  have hM := hM.fr hP.2 (by omega)
  have hK := hP.1
  refine lv_aload_n hx hb dL_law_347 rfl (lv_at hl 2 rfl) ?_
  refine lv_aload_n hx hb dL_law_348 rfl (lv_at hl 0 rfl) ?_
  refine lv_iload_n hx hb dL_law_349 rfl (lv_at hl 3 rfl) ?_
  refine lv_iconst (v := (1 : Int32)) hx hb dL_law_350 (by decide) ?_
  refine lv_iadd hx hb dL_law_351 ?_
  refine va_sld hx hb hX hbl hbA hW.2.2 h_1 dL_law_352 ?_
  refine lv_aload_n hx hb dL_law_353 rfl (lv_at hl 0 rfl) ?_
  refine lv_iload_n hx hb dL_law_354 rfl (lv_at hl 3 rfl) ?_
  refine lv_iconst (v := (2 : Int32)) hx hb dL_law_355 (by decide) ?_
  refine lv_iadd hx hb dL_law_356 ?_
  refine va_sld hx hb hX hbl hbA hW.2.2 h_2 dL_law_357 ?_
  refine g_callVi (rest := [.int r]) hE hW (hW.af hA) hl.1 (mX9_set hM h9) hM.o hM.obj rfl q983 q984 q985 q10 q986 hd_X9_set ⟨(Nat.le_of_ble_eq_true rfl), (Nat.le_of_ble_eq_true rfl)⟩ ⟨rfl, rfl⟩ rfl (Nat.le_of_ble_eq_true rfl) dL_law_358 hcs (fun c2 H locs hP2 hz2 hW => ?_)
  have hK := hK.fr hP2.2 (by omega)
  have hM := hP2.1
  refine lv_icmp_eq (tgt := 1498) hx hb dL_law_361 (by decide) (fun _ => ?_) (fun kf => absurd rfl kf)
  exact hn K1 M1 J ad _ _ _ d0 cells slots ls ⟨hR1, hK, hM, hW, hd, by rw [ht]; exact hj1, by rw [ht]; exact hj2, by rw [ht]; exact hc1, by rw [ht]; exact hc2⟩ hl
set_option maxHeartbeats 4000000 in
set_option maxRecDepth 100000 in
theorem lc_compact {p : Program} {l : Launch} {e : Env} {s : State} {m : MethodId} {below : List Frame} {meth : Method} {cd : Code} {D : va_G} {ct : Nat → ClassId} {b L : Nat} {xs : Nat → Int32} {Rel : KS → MS → Prop} (hE0 : ME p s m cd #[Value.ref b] D ct cL_law RL 4) (hX0 : va_X b L xs s s.heap) (hbl : b < s.heap.size) (hs : S_compact Rel) {x3 : Int32} (h_1 : vp_in (x3 + (1 : Int32)) L) (hn : ∀ (K : KS) (M : MS) (J : List Nat) (ad : Nat → Nat) (c : CF) (H : Heap) (locs : List Loc) (d0 : Drawn) (cells slots : Nat) (ls : Array Slot), LI D ct s Rel K M J ad c H locs d0 cells slots → lv_has ls 4 [(0, .ref b), (1, .ref (ad 0)), (2, .ref (ad 160)), (3, .int x3)] → W p l e room_1 (s.setDrawn d0) m #[Value.ref b] below meth cd H locs cells slots (lw_Z below #[Value.ref b] s) (F0 m 1498 ls [])) {K : KS} {M : MS} {J : List Nat} {ad : Nat → Nat} {c : CF} {H : Heap} {locs : List Loc} {d0 : Drawn} {cells slots : Nat} {ls : Array Slot} (hi : LI D ct s Rel K M J ad c H locs d0 cells slots) (hl : lv_has ls 4 [(0, .ref b), (1, .ref (ad 0)), (2, .ref (ad 160)), (3, .int x3)]) : W p l e room_1 (s.setDrawn d0) m #[Value.ref b] below meth cd H locs cells slots (lw_Z below #[Value.ref b] s) (F0 m 366 ls []) := by
  obtain ⟨hRel, hK, hM, hW, hd, hj1, hj2, hc1, hc2⟩ := hi
  have hx := hE0.1
  have hb := hE0.2.1
  have hE := hE0.dr d0
  have hX : va_X b L xs (s.setDrawn d0) s.heap := hX0
  have hA : ∀ q : Nat, s.heap.size ≤ q → (fun q : Nat => s.heap.size ≤ q) q := fun _ h => h
  have hbA : ¬ (fun q : Nat => s.heap.size ≤ q) b := Nat.not_le.mpr hbl
  have hcs : cells ≤ room_1.cells ∧ slots ≤ room_1.slots := ⟨Nat.le_trans (show cells ≤ 300 by omega) (Nat.le_of_ble_eq_true rfl), Nat.le_trans (show slots ≤ 60000 by omega) (Nat.le_of_ble_eq_true rfl)⟩
  refine lv_aload_n hx hb dL_law_366 rfl (lv_at hl 1 rfl) ?_
  refine lv_aload_n hx hb dL_law_367 rfl (lv_at hl 0 rfl) ?_
  refine lv_iload_n hx hb dL_law_368 rfl (lv_at hl 3 rfl) ?_
  refine lv_iconst (v := (1 : Int32)) hx hb dL_law_369 (by decide) ?_
  refine lv_iadd hx hb dL_law_370 ?_
  refine va_sld hx hb hX hbl hbA hW.2.2 h_1 dL_law_371 ?_
  obtain ⟨r, K1, M1, h8, h9, hR1, ht⟩ := hs ((xs (x3 + (1 : Int32)).toNatClampNeg)) K M hRel
  refine g_callVi (rest := []) hE hW (hW.af hA) hl.1 (mX8_compact hK h8) hK.o hK.obj rfl q333 q334 q335 q1 q336 hd_X8_compact ⟨(Nat.le_of_ble_eq_true rfl), (Nat.le_of_ble_eq_true rfl)⟩ ⟨rfl, rfl⟩ rfl (Nat.le_of_ble_eq_true rfl) dL_law_372 hcs (fun c1 H locs hP hz1 hW => ?_)
  have hM := hM.fr hP.2 (by omega)
  have hK := hP.1
  refine lv_aload_n hx hb dL_law_375 rfl (lv_at hl 2 rfl) ?_
  refine lv_aload_n hx hb dL_law_376 rfl (lv_at hl 0 rfl) ?_
  refine lv_iload_n hx hb dL_law_377 rfl (lv_at hl 3 rfl) ?_
  refine lv_iconst (v := (1 : Int32)) hx hb dL_law_378 (by decide) ?_
  refine lv_iadd hx hb dL_law_379 ?_
  refine va_sld hx hb hX hbl hbA hW.2.2 h_1 dL_law_380 ?_
  refine g_callVi (rest := [.int r]) hE hW (hW.af hA) hl.1 (mX9_compact hM h9) hM.o hM.obj rfl q987 q988 q989 q10 q990 hd_X9_compact ⟨(Nat.le_of_ble_eq_true rfl), (Nat.le_of_ble_eq_true rfl)⟩ ⟨rfl, rfl⟩ rfl (Nat.le_of_ble_eq_true rfl) dL_law_381 hcs (fun c2 H locs hP2 hz2 hW => ?_)
  have hK := hK.fr hP2.2 (by omega)
  have hM := hP2.1
  refine lv_icmp_eq (tgt := 1498) hx hb dL_law_384 (by decide) (fun _ => ?_) (fun kf => absurd rfl kf)
  exact hn K1 M1 J ad _ _ _ d0 cells slots ls ⟨hR1, hK, hM, hW, hd, by rw [ht]; exact hj1, by rw [ht]; exact hj2, by rw [ht]; exact hc1, by rw [ht]; exact hc2⟩ hl
set_option maxHeartbeats 4000000 in
set_option maxRecDepth 100000 in
theorem lc_retain {p : Program} {l : Launch} {e : Env} {s : State} {m : MethodId} {below : List Frame} {meth : Method} {cd : Code} {D : va_G} {ct : Nat → ClassId} {b L : Nat} {xs : Nat → Int32} {Rel : KS → MS → Prop} (hE0 : ME p s m cd #[Value.ref b] D ct cL_law RL 4) (hX0 : va_X b L xs s s.heap) (hbl : b < s.heap.size) (hs : S_retain Rel) {x3 : Int32} (h_1 : vp_in (x3 + (1 : Int32)) L) (hn : ∀ (K : KS) (M : MS) (J : List Nat) (ad : Nat → Nat) (c : CF) (H : Heap) (locs : List Loc) (d0 : Drawn) (cells slots : Nat) (ls : Array Slot), LI D ct s Rel K M J ad c H locs d0 cells slots → lv_has ls 4 [(0, .ref b), (1, .ref (ad 0)), (2, .ref (ad 160)), (3, .int x3)] → W p l e room_1 (s.setDrawn d0) m #[Value.ref b] below meth cd H locs cells slots (lw_Z below #[Value.ref b] s) (F0 m 1498 ls [])) {K : KS} {M : MS} {J : List Nat} {ad : Nat → Nat} {c : CF} {H : Heap} {locs : List Loc} {d0 : Drawn} {cells slots : Nat} {ls : Array Slot} (hi : LI D ct s Rel K M J ad c H locs d0 cells slots) (hl : lv_has ls 4 [(0, .ref b), (1, .ref (ad 0)), (2, .ref (ad 160)), (3, .int x3)]) : W p l e room_1 (s.setDrawn d0) m #[Value.ref b] below meth cd H locs cells slots (lw_Z below #[Value.ref b] s) (F0 m 389 ls []) := by
  obtain ⟨hRel, hK, hM, hW, hd, hj1, hj2, hc1, hc2⟩ := hi
  have hx := hE0.1
  have hb := hE0.2.1
  have hE := hE0.dr d0
  have hX : va_X b L xs (s.setDrawn d0) s.heap := hX0
  have hA : ∀ q : Nat, s.heap.size ≤ q → (fun q : Nat => s.heap.size ≤ q) q := fun _ h => h
  have hbA : ¬ (fun q : Nat => s.heap.size ≤ q) b := Nat.not_le.mpr hbl
  have hcs : cells ≤ room_1.cells ∧ slots ≤ room_1.slots := ⟨Nat.le_trans (show cells ≤ 300 by omega) (Nat.le_of_ble_eq_true rfl), Nat.le_trans (show slots ≤ 60000 by omega) (Nat.le_of_ble_eq_true rfl)⟩
  refine lv_aload_n hx hb dL_law_389 rfl (lv_at hl 1 rfl) ?_
  refine lv_aload_n hx hb dL_law_390 rfl (lv_at hl 0 rfl) ?_
  refine lv_iload_n hx hb dL_law_391 rfl (lv_at hl 3 rfl) ?_
  refine lv_iconst (v := (1 : Int32)) hx hb dL_law_392 (by decide) ?_
  refine lv_iadd hx hb dL_law_393 ?_
  refine va_sld hx hb hX hbl hbA hW.2.2 h_1 dL_law_394 ?_
  obtain ⟨r, K1, M1, h8, h9, hR1, ht⟩ := hs ((xs (x3 + (1 : Int32)).toNatClampNeg)) K M hRel
  refine g_callVi (rest := []) hE hW (hW.af hA) hl.1 (mX8_retain hK h8) hK.o hK.obj rfl q369 q370 q371 q1 q372 hd_X8_retain ⟨(Nat.le_of_ble_eq_true rfl), (Nat.le_of_ble_eq_true rfl)⟩ ⟨rfl, rfl⟩ rfl (Nat.le_of_ble_eq_true rfl) dL_law_395 hcs (fun c1 H locs hP hz1 hW => ?_)
  have hM := hM.fr hP.2 (by omega)
  have hK := hP.1
  refine lv_aload_n hx hb dL_law_398 rfl (lv_at hl 2 rfl) ?_
  refine lv_aload_n hx hb dL_law_399 rfl (lv_at hl 0 rfl) ?_
  refine lv_iload_n hx hb dL_law_400 rfl (lv_at hl 3 rfl) ?_
  refine lv_iconst (v := (1 : Int32)) hx hb dL_law_401 (by decide) ?_
  refine lv_iadd hx hb dL_law_402 ?_
  refine va_sld hx hb hX hbl hbA hW.2.2 h_1 dL_law_403 ?_
  refine g_callVi (rest := [.int r]) hE hW (hW.af hA) hl.1 (mX9_retain hM h9) hM.o hM.obj rfl q1003 q1004 q1005 q10 q1006 hd_X9_retain ⟨(Nat.le_of_ble_eq_true rfl), (Nat.le_of_ble_eq_true rfl)⟩ ⟨rfl, rfl⟩ rfl (Nat.le_of_ble_eq_true rfl) dL_law_404 hcs (fun c2 H locs hP2 hz2 hW => ?_)
  have hK := hK.fr hP2.2 (by omega)
  have hM := hP2.1
  refine lv_icmp_eq (tgt := 1498) hx hb dL_law_407 (by decide) (fun _ => ?_) (fun kf => absurd rfl kf)
  exact hn K1 M1 J ad _ _ _ d0 cells slots ls ⟨hR1, hK, hM, hW, hd, by rw [ht]; exact hj1, by rw [ht]; exact hj2, by rw [ht]; exact hc1, by rw [ht]; exact hc2⟩ hl
set_option maxHeartbeats 4000000 in
set_option maxRecDepth 100000 in
theorem lc_feed {p : Program} {l : Launch} {e : Env} {s : State} {m : MethodId} {below : List Frame} {meth : Method} {cd : Code} {D : va_G} {ct : Nat → ClassId} {b L : Nat} {xs : Nat → Int32} {Rel : KS → MS → Prop} (hE0 : ME p s m cd #[Value.ref b] D ct cL_law RL 4) (hX0 : va_X b L xs s s.heap) (hbl : b < s.heap.size) (hs : S_feed Rel) {x3 : Int32} (h_1 : vp_in (x3 + (1 : Int32)) L) (hn : ∀ (K : KS) (M : MS) (J : List Nat) (ad : Nat → Nat) (c : CF) (H : Heap) (locs : List Loc) (d0 : Drawn) (cells slots : Nat) (ls : Array Slot), LI D ct s Rel K M J ad c H locs d0 cells slots → lv_has ls 4 [(0, .ref b), (1, .ref (ad 0)), (2, .ref (ad 160)), (3, .int x3)] → W p l e room_1 (s.setDrawn d0) m #[Value.ref b] below meth cd H locs cells slots (lw_Z below #[Value.ref b] s) (F0 m 1498 ls [])) {K : KS} {M : MS} {J : List Nat} {ad : Nat → Nat} {c : CF} {H : Heap} {locs : List Loc} {d0 : Drawn} {cells slots : Nat} {ls : Array Slot} (hi : LI D ct s Rel K M J ad c H locs d0 cells slots) (hl : lv_has ls 4 [(0, .ref b), (1, .ref (ad 0)), (2, .ref (ad 160)), (3, .int x3)]) : W p l e room_1 (s.setDrawn d0) m #[Value.ref b] below meth cd H locs cells slots (lw_Z below #[Value.ref b] s) (F0 m 412 ls []) := by
  obtain ⟨hRel, hK, hM, hW, hd, hj1, hj2, hc1, hc2⟩ := hi
  have hx := hE0.1
  have hb := hE0.2.1
  have hE := hE0.dr d0
  have hX : va_X b L xs (s.setDrawn d0) s.heap := hX0
  have hA : ∀ q : Nat, s.heap.size ≤ q → (fun q : Nat => s.heap.size ≤ q) q := fun _ h => h
  have hbA : ¬ (fun q : Nat => s.heap.size ≤ q) b := Nat.not_le.mpr hbl
  have hcs : cells ≤ room_1.cells ∧ slots ≤ room_1.slots := ⟨Nat.le_trans (show cells ≤ 300 by omega) (Nat.le_of_ble_eq_true rfl), Nat.le_trans (show slots ≤ 60000 by omega) (Nat.le_of_ble_eq_true rfl)⟩
  refine lv_aload_n hx hb dL_law_412 rfl (lv_at hl 1 rfl) ?_
  refine lv_aload_n hx hb dL_law_413 rfl (lv_at hl 0 rfl) ?_
  refine lv_iload_n hx hb dL_law_414 rfl (lv_at hl 3 rfl) ?_
  refine lv_iconst (v := (1 : Int32)) hx hb dL_law_415 (by decide) ?_
  refine lv_iadd hx hb dL_law_416 ?_
  refine va_sld hx hb hX hbl hbA hW.2.2 h_1 dL_law_417 ?_
  obtain ⟨r, K1, M1, h8, h9, hR1, ht⟩ := hs ((xs (x3 + (1 : Int32)).toNatClampNeg)) K M hRel
  refine g_callVi (rest := []) hE hW (hW.af hA) hl.1 (mX8_feed hK h8) hK.o hK.obj rfl q385 q386 q387 q1 q388 hd_X8_feed ⟨(Nat.le_of_ble_eq_true rfl), (Nat.le_of_ble_eq_true rfl)⟩ ⟨rfl, rfl⟩ rfl (Nat.le_of_ble_eq_true rfl) dL_law_418 hcs (fun c1 H locs hP hz1 hW => ?_)
  have hM := hM.fr hP.2 (by omega)
  have hK := hP.1
  refine lv_aload_n hx hb dL_law_421 rfl (lv_at hl 2 rfl) ?_
  refine lv_aload_n hx hb dL_law_422 rfl (lv_at hl 0 rfl) ?_
  refine lv_iload_n hx hb dL_law_423 rfl (lv_at hl 3 rfl) ?_
  refine lv_iconst (v := (1 : Int32)) hx hb dL_law_424 (by decide) ?_
  refine lv_iadd hx hb dL_law_425 ?_
  refine va_sld hx hb hX hbl hbA hW.2.2 h_1 dL_law_426 ?_
  refine g_callVi (rest := [.int r]) hE hW (hW.af hA) hl.1 (mX9_feed hM h9) hM.o hM.obj rfl q1016 q1017 q1018 q10 q1019 hd_X9_feed ⟨(Nat.le_of_ble_eq_true rfl), (Nat.le_of_ble_eq_true rfl)⟩ ⟨rfl, rfl⟩ rfl (Nat.le_of_ble_eq_true rfl) dL_law_427 hcs (fun c2 H locs hP2 hz2 hW => ?_)
  have hK := hK.fr hP2.2 (by omega)
  have hM := hP2.1
  refine lv_icmp_eq (tgt := 1498) hx hb dL_law_430 (by decide) (fun _ => ?_) (fun kf => absurd rfl kf)
  exact hn K1 M1 J ad _ _ _ d0 cells slots ls ⟨hR1, hK, hM, hW, hd, by rw [ht]; exact hj1, by rw [ht]; exact hj2, by rw [ht]; exact hc1, by rw [ht]; exact hc2⟩ hl
set_option maxHeartbeats 4000000 in
set_option maxRecDepth 100000 in
theorem lc_read {p : Program} {l : Launch} {e : Env} {s : State} {m : MethodId} {below : List Frame} {meth : Method} {cd : Code} {D : va_G} {ct : Nat → ClassId} {b L : Nat} {xs : Nat → Int32} {Rel : KS → MS → Prop} (hE0 : ME p s m cd #[Value.ref b] D ct cL_law RL 4) (hX0 : va_X b L xs s s.heap) (hbl : b < s.heap.size) (hs : S_read Rel) {x3 : Int32} (hn : ∀ (K : KS) (M : MS) (J : List Nat) (ad : Nat → Nat) (c : CF) (H : Heap) (locs : List Loc) (d0 : Drawn) (cells slots : Nat) (ls : Array Slot), LI D ct s Rel K M J ad c H locs d0 cells slots → lv_has ls 4 [(0, .ref b), (1, .ref (ad 0)), (2, .ref (ad 160)), (3, .int x3)] → W p l e room_1 (s.setDrawn d0) m #[Value.ref b] below meth cd H locs cells slots (lw_Z below #[Value.ref b] s) (F0 m 1498 ls [])) {K : KS} {M : MS} {J : List Nat} {ad : Nat → Nat} {c : CF} {H : Heap} {locs : List Loc} {d0 : Drawn} {cells slots : Nat} {ls : Array Slot} (hi : LI D ct s Rel K M J ad c H locs d0 cells slots) (hl : lv_has ls 4 [(0, .ref b), (1, .ref (ad 0)), (2, .ref (ad 160)), (3, .int x3)]) : W p l e room_1 (s.setDrawn d0) m #[Value.ref b] below meth cd H locs cells slots (lw_Z below #[Value.ref b] s) (F0 m 435 ls []) := by
  obtain ⟨hRel, hK, hM, hW, hd, hj1, hj2, hc1, hc2⟩ := hi
  have hx := hE0.1
  have hb := hE0.2.1
  have hE := hE0.dr d0
  have hX : va_X b L xs (s.setDrawn d0) s.heap := hX0
  have hA : ∀ q : Nat, s.heap.size ≤ q → (fun q : Nat => s.heap.size ≤ q) q := fun _ h => h
  have hbA : ¬ (fun q : Nat => s.heap.size ≤ q) b := Nat.not_le.mpr hbl
  have hcs : cells ≤ room_1.cells ∧ slots ≤ room_1.slots := ⟨Nat.le_trans (show cells ≤ 300 by omega) (Nat.le_of_ble_eq_true rfl), Nat.le_trans (show slots ≤ 60000 by omega) (Nat.le_of_ble_eq_true rfl)⟩
  refine lv_aload_n hx hb dL_law_435 rfl (lv_at hl 1 rfl) ?_
  obtain ⟨r, K1, M1, h8, h9, hR1, ht⟩ := hs K M hRel
  refine g_callVi (rest := []) hE hW (hW.af hA) hl.1 (mX8_read hK h8) hK.o hK.obj rfl q397 q398 q399 q1 q400 hd_X8_read ⟨(Nat.le_of_ble_eq_true rfl), (Nat.le_of_ble_eq_true rfl)⟩ ⟨rfl, rfl⟩ rfl (Nat.le_of_ble_eq_true rfl) dL_law_436 hcs (fun c1 H locs hP hz1 hW => ?_)
  have hM := hM.fr hP.2 (by omega)
  have hK := hP.1
  refine lv_aload_n hx hb dL_law_439 rfl (lv_at hl 2 rfl) ?_
  refine g_callViD (rest := [.int r]) hd hE hW (hW.af hA) hl.1 (mX9_read hM h9) hM.o hM.obj rfl q1020 q1021 q1022 q10 q1023 hd_X9_read ⟨(Nat.le_of_ble_eq_true rfl), (Nat.le_of_ble_eq_true rfl)⟩ ⟨rfl, rfl⟩ rfl (Nat.le_of_ble_eq_true rfl) dL_law_440 hcs (fun c2 H locs hP2 hz2 hW d0 hd => ?_)
  have hE := hE0.dr d0
  have hX : va_X b L xs (s.setDrawn d0) s.heap := hX0
  have hK := hK.fr hP2.2 (by omega)
  have hM := hP2.1
  refine lv_icmp_eq (tgt := 1498) hx hb dL_law_443 (by decide) (fun _ => ?_) (fun kf => absurd rfl kf)
  exact hn K1 M1 J ad _ _ _ d0 cells slots ls ⟨hR1, hK, hM, hW, hd, by rw [ht]; exact hj1, by rw [ht]; exact hj2, by rw [ht]; exact hc1, by rw [ht]; exact hc2⟩ hl
set_option maxHeartbeats 4000000 in
set_option maxRecDepth 100000 in
theorem lc_of {p : Program} {l : Launch} {e : Env} {s : State} {m : MethodId} {below : List Frame} {meth : Method} {cd : Code} {D : va_G} {ct : Nat → ClassId} {b L : Nat} {xs : Nat → Int32} {Rel : KS → MS → Prop} (hE0 : ME p s m cd #[Value.ref b] D ct cL_law RL 4) (hX0 : va_X b L xs s s.heap) (hbl : b < s.heap.size) (hs : S_of Rel) {x3 : Int32} (h_1 : vp_in (x3 + (1 : Int32)) L) (h_2 : vp_in (x3 + (2 : Int32)) L) (hn : ∀ (K : KS) (M : MS) (J : List Nat) (ad : Nat → Nat) (c : CF) (H : Heap) (locs : List Loc) (d0 : Drawn) (cells slots : Nat) (ls : Array Slot), LI D ct s Rel K M J ad c H locs d0 cells slots → lv_has ls 4 [(0, .ref b), (1, .ref (ad 0)), (2, .ref (ad 160)), (3, .int x3)] → W p l e room_1 (s.setDrawn d0) m #[Value.ref b] below meth cd H locs cells slots (lw_Z below #[Value.ref b] s) (F0 m 1498 ls [])) {K : KS} {M : MS} {J : List Nat} {ad : Nat → Nat} {c : CF} {H : Heap} {locs : List Loc} {d0 : Drawn} {cells slots : Nat} {ls : Array Slot} (hi : LI D ct s Rel K M J ad c H locs d0 cells slots) (hl : lv_has ls 4 [(0, .ref b), (1, .ref (ad 0)), (2, .ref (ad 160)), (3, .int x3)]) : W p l e room_1 (s.setDrawn d0) m #[Value.ref b] below meth cd H locs cells slots (lw_Z below #[Value.ref b] s) (F0 m 448 ls []) := by
  obtain ⟨hRel, hK, hM, hW, hd, hj1, hj2, hc1, hc2⟩ := hi
  have hx := hE0.1
  have hb := hE0.2.1
  have hE := hE0.dr d0
  have hX : va_X b L xs (s.setDrawn d0) s.heap := hX0
  have hA : ∀ q : Nat, s.heap.size ≤ q → (fun q : Nat => s.heap.size ≤ q) q := fun _ h => h
  have hbA : ¬ (fun q : Nat => s.heap.size ≤ q) b := Nat.not_le.mpr hbl
  have hcs : cells ≤ room_1.cells ∧ slots ≤ room_1.slots := ⟨Nat.le_trans (show cells ≤ 300 by omega) (Nat.le_of_ble_eq_true rfl), Nat.le_trans (show slots ≤ 60000 by omega) (Nat.le_of_ble_eq_true rfl)⟩
  refine lv_aload_n hx hb dL_law_448 rfl (lv_at hl 1 rfl) ?_
  refine lv_aload_n hx hb dL_law_449 rfl (lv_at hl 0 rfl) ?_
  refine lv_iload_n hx hb dL_law_450 rfl (lv_at hl 3 rfl) ?_
  refine lv_iconst (v := (1 : Int32)) hx hb dL_law_451 (by decide) ?_
  refine lv_iadd hx hb dL_law_452 ?_
  refine va_sld hx hb hX hbl hbA hW.2.2 h_1 dL_law_453 ?_
  refine lv_aload_n hx hb dL_law_454 rfl (lv_at hl 0 rfl) ?_
  refine lv_iload_n hx hb dL_law_455 rfl (lv_at hl 3 rfl) ?_
  refine lv_iconst (v := (2 : Int32)) hx hb dL_law_456 (by decide) ?_
  refine lv_iadd hx hb dL_law_457 ?_
  refine va_sld hx hb hX hbl hbA hW.2.2 h_2 dL_law_458 ?_
  obtain ⟨r, K1, M1, h8, h9, hR1, ht⟩ := hs ((xs (x3 + (1 : Int32)).toNatClampNeg)) ((xs (x3 + (2 : Int32)).toNatClampNeg)) K M hRel
  refine g_callVi (rest := []) hE hW (hW.af hA) hl.1 (mX8_of hK h8) hK.o hK.obj rfl q430 q431 q432 q1 q433 hd_X8_of ⟨(Nat.le_of_ble_eq_true rfl), (Nat.le_of_ble_eq_true rfl)⟩ ⟨rfl, rfl⟩ rfl (Nat.le_of_ble_eq_true rfl) dL_law_459 hcs (fun c1 H locs hP hz1 hW => ?_)
  have hM := hM.fr hP.2 (by omega)
  have hK := hP.1
  refine lv_aload_n hx hb dL_law_462 rfl (lv_at hl 2 rfl) ?_
  refine lv_aload_n hx hb dL_law_463 rfl (lv_at hl 0 rfl) ?_
  refine lv_iload_n hx hb dL_law_464 rfl (lv_at hl 3 rfl) ?_
  refine lv_iconst (v := (1 : Int32)) hx hb dL_law_465 (by decide) ?_
  refine lv_iadd hx hb dL_law_466 ?_
  refine va_sld hx hb hX hbl hbA hW.2.2 h_1 dL_law_467 ?_
  refine lv_aload_n hx hb dL_law_468 rfl (lv_at hl 0 rfl) ?_
  refine lv_iload_n hx hb dL_law_469 rfl (lv_at hl 3 rfl) ?_
  refine lv_iconst (v := (2 : Int32)) hx hb dL_law_470 (by decide) ?_
  refine lv_iadd hx hb dL_law_471 ?_
  refine va_sld hx hb hX hbl hbA hW.2.2 h_2 dL_law_472 ?_
  refine g_callVi (rest := [.int r]) hE hW (hW.af hA) hl.1 (mX9_of hM h9) hM.o hM.obj rfl q1040 q1041 q1042 q10 q1043 hd_X9_of ⟨(Nat.le_of_ble_eq_true rfl), (Nat.le_of_ble_eq_true rfl)⟩ ⟨rfl, rfl⟩ rfl (Nat.le_of_ble_eq_true rfl) dL_law_473 hcs (fun c2 H locs hP2 hz2 hW => ?_)
  have hK := hK.fr hP2.2 (by omega)
  have hM := hP2.1
  refine lv_icmp_eq (tgt := 1498) hx hb dL_law_476 (by decide) (fun _ => ?_) (fun kf => absurd rfl kf)
  exact hn K1 M1 J ad _ _ _ d0 cells slots ls ⟨hR1, hK, hM, hW, hd, by rw [ht]; exact hj1, by rw [ht]; exact hj2, by rw [ht]; exact hc1, by rw [ht]; exact hc2⟩ hl
set_option maxHeartbeats 4000000 in
set_option maxRecDepth 100000 in
theorem lc_record {p : Program} {l : Launch} {e : Env} {s : State} {m : MethodId} {below : List Frame} {meth : Method} {cd : Code} {D : va_G} {ct : Nat → ClassId} {b L : Nat} {xs : Nat → Int32} {Rel : KS → MS → Prop} (hE0 : ME p s m cd #[Value.ref b] D ct cL_law RL 4) (hX0 : va_X b L xs s s.heap) (hbl : b < s.heap.size) (hs : S_record Rel) {x3 : Int32} (h_1 : vp_in (x3 + (1 : Int32)) L) (h_2 : vp_in (x3 + (2 : Int32)) L) (h_3 : vp_in (x3 + (3 : Int32)) L) (hn : ∀ (K : KS) (M : MS) (J : List Nat) (ad : Nat → Nat) (c : CF) (H : Heap) (locs : List Loc) (d0 : Drawn) (cells slots : Nat) (ls : Array Slot), LI D ct s Rel K M J ad c H locs d0 cells slots → lv_has ls 4 [(0, .ref b), (1, .ref (ad 0)), (2, .ref (ad 160)), (3, .int x3)] → W p l e room_1 (s.setDrawn d0) m #[Value.ref b] below meth cd H locs cells slots (lw_Z below #[Value.ref b] s) (F0 m 1498 ls [])) {K : KS} {M : MS} {J : List Nat} {ad : Nat → Nat} {c : CF} {H : Heap} {locs : List Loc} {d0 : Drawn} {cells slots : Nat} {ls : Array Slot} (hi : LI D ct s Rel K M J ad c H locs d0 cells slots) (hl : lv_has ls 4 [(0, .ref b), (1, .ref (ad 0)), (2, .ref (ad 160)), (3, .int x3)]) : W p l e room_1 (s.setDrawn d0) m #[Value.ref b] below meth cd H locs cells slots (lw_Z below #[Value.ref b] s) (F0 m 481 ls []) := by
  obtain ⟨hRel, hK, hM, hW, hd, hj1, hj2, hc1, hc2⟩ := hi
  have hx := hE0.1
  have hb := hE0.2.1
  have hE := hE0.dr d0
  have hX : va_X b L xs (s.setDrawn d0) s.heap := hX0
  have hA : ∀ q : Nat, s.heap.size ≤ q → (fun q : Nat => s.heap.size ≤ q) q := fun _ h => h
  have hbA : ¬ (fun q : Nat => s.heap.size ≤ q) b := Nat.not_le.mpr hbl
  have hcs : cells ≤ room_1.cells ∧ slots ≤ room_1.slots := ⟨Nat.le_trans (show cells ≤ 300 by omega) (Nat.le_of_ble_eq_true rfl), Nat.le_trans (show slots ≤ 60000 by omega) (Nat.le_of_ble_eq_true rfl)⟩
  refine lv_aload_n hx hb dL_law_481 rfl (lv_at hl 1 rfl) ?_
  refine lv_aload_n hx hb dL_law_482 rfl (lv_at hl 0 rfl) ?_
  refine lv_iload_n hx hb dL_law_483 rfl (lv_at hl 3 rfl) ?_
  refine lv_iconst (v := (1 : Int32)) hx hb dL_law_484 (by decide) ?_
  refine lv_iadd hx hb dL_law_485 ?_
  refine va_sld hx hb hX hbl hbA hW.2.2 h_1 dL_law_486 ?_
  refine lv_aload_n hx hb dL_law_487 rfl (lv_at hl 0 rfl) ?_
  refine lv_iload_n hx hb dL_law_488 rfl (lv_at hl 3 rfl) ?_
  refine lv_iconst (v := (2 : Int32)) hx hb dL_law_489 (by decide) ?_
  refine lv_iadd hx hb dL_law_490 ?_
  refine va_sld hx hb hX hbl hbA hW.2.2 h_2 dL_law_491 ?_
  refine lv_aload_n hx hb dL_law_492 rfl (lv_at hl 0 rfl) ?_
  refine lv_iload_n hx hb dL_law_493 rfl (lv_at hl 3 rfl) ?_
  refine lv_iconst (v := (3 : Int32)) hx hb dL_law_494 (by decide) ?_
  refine lv_iadd hx hb dL_law_495 ?_
  refine va_sld hx hb hX hbl hbA hW.2.2 h_3 dL_law_496 ?_
  obtain ⟨r, h8, h9, hR1⟩ := hs ((xs (x3 + (1 : Int32)).toNatClampNeg)) ((xs (x3 + (2 : Int32)).toNatClampNeg)) ((xs (x3 + (3 : Int32)).toNatClampNeg)) K M hRel
  refine g_callVl (rest := []) hE hW (hW.af hA) hl.1 (mX8_record hK h8) hK.o hK.obj rfl q462 q463 q464 q1 q465 hd_X8_record ⟨(Nat.le_of_ble_eq_true rfl), (Nat.le_of_ble_eq_true rfl)⟩ ⟨rfl, rfl⟩ rfl (Nat.le_of_ble_eq_true rfl) dL_law_497 hcs (fun c1 H locs hP hz1 hW => ?_)
  rw [hP] at hW
  refine lv_aload_n hx hb dL_law_500 rfl (lv_at hl 2 rfl) ?_
  refine lv_aload_n hx hb dL_law_501 rfl (lv_at hl 0 rfl) ?_
  refine lv_iload_n hx hb dL_law_502 rfl (lv_at hl 3 rfl) ?_
  refine lv_iconst (v := (1 : Int32)) hx hb dL_law_503 (by decide) ?_
  refine lv_iadd hx hb dL_law_504 ?_
  refine va_sld hx hb hX hbl hbA hW.2.2 h_1 dL_law_505 ?_
  refine lv_aload_n hx hb dL_law_506 rfl (lv_at hl 0 rfl) ?_
  refine lv_iload_n hx hb dL_law_507 rfl (lv_at hl 3 rfl) ?_
  refine lv_iconst (v := (2 : Int32)) hx hb dL_law_508 (by decide) ?_
  refine lv_iadd hx hb dL_law_509 ?_
  refine va_sld hx hb hX hbl hbA hW.2.2 h_2 dL_law_510 ?_
  refine lv_aload_n hx hb dL_law_511 rfl (lv_at hl 0 rfl) ?_
  refine lv_iload_n hx hb dL_law_512 rfl (lv_at hl 3 rfl) ?_
  refine lv_iconst (v := (3 : Int32)) hx hb dL_law_513 (by decide) ?_
  refine lv_iadd hx hb dL_law_514 ?_
  refine va_sld hx hb hX hbl hbA hW.2.2 h_3 dL_law_515 ?_
  refine g_callVl (rest := [.long r]) hE hW (hW.af hA) hl.1 (mX9_record hM h9) hM.o hM.obj rfl q1074 q1075 q1076 q10 q1077 hd_X9_record ⟨(Nat.le_of_ble_eq_true rfl), (Nat.le_of_ble_eq_true rfl)⟩ ⟨rfl, rfl⟩ rfl (Nat.le_of_ble_eq_true rfl) dL_law_516 hcs (fun c2 H locs hP2 hz2 hW => ?_)
  rw [hP2] at hW
  refine W.lcmp hx hb dL_law_519 ?_
  rw [lg_same]
  refine lv_if_eq (tgt := 1498) hx hb dL_law_520 (by decide) (fun _ => ?_) (fun kf => absurd rfl kf)
  exact hn K M J ad _ _ _ d0 cells slots ls ⟨hR1, hK, hM, hW, hd, hj1, hj2, hc1, hc2⟩ hl
set_option maxHeartbeats 4000000 in
set_option maxRecDepth 100000 in
theorem lc_segment {p : Program} {l : Launch} {e : Env} {s : State} {m : MethodId} {below : List Frame} {meth : Method} {cd : Code} {D : va_G} {ct : Nat → ClassId} {b L : Nat} {xs : Nat → Int32} {Rel : KS → MS → Prop} (hE0 : ME p s m cd #[Value.ref b] D ct cL_law RL 4) (hX0 : va_X b L xs s s.heap) (hbl : b < s.heap.size) (hs : S_segment Rel) {x3 : Int32} (h_1 : vp_in (x3 + (1 : Int32)) L) (h_2 : vp_in (x3 + (2 : Int32)) L) (h_3 : vp_in (x3 + (3 : Int32)) L) (hn : ∀ (K : KS) (M : MS) (J : List Nat) (ad : Nat → Nat) (c : CF) (H : Heap) (locs : List Loc) (d0 : Drawn) (cells slots : Nat) (ls : Array Slot), LI D ct s Rel K M J ad c H locs d0 cells slots → lv_has ls 4 [(0, .ref b), (1, .ref (ad 0)), (2, .ref (ad 160)), (3, .int x3)] → W p l e room_1 (s.setDrawn d0) m #[Value.ref b] below meth cd H locs cells slots (lw_Z below #[Value.ref b] s) (F0 m 1498 ls [])) {K : KS} {M : MS} {J : List Nat} {ad : Nat → Nat} {c : CF} {H : Heap} {locs : List Loc} {d0 : Drawn} {cells slots : Nat} {ls : Array Slot} (hi : LI D ct s Rel K M J ad c H locs d0 cells slots) (hl : lv_has ls 4 [(0, .ref b), (1, .ref (ad 0)), (2, .ref (ad 160)), (3, .int x3)]) : W p l e room_1 (s.setDrawn d0) m #[Value.ref b] below meth cd H locs cells slots (lw_Z below #[Value.ref b] s) (F0 m 525 ls []) := by
  obtain ⟨hRel, hK, hM, hW, hd, hj1, hj2, hc1, hc2⟩ := hi
  have hx := hE0.1
  have hb := hE0.2.1
  have hE := hE0.dr d0
  have hX : va_X b L xs (s.setDrawn d0) s.heap := hX0
  have hA : ∀ q : Nat, s.heap.size ≤ q → (fun q : Nat => s.heap.size ≤ q) q := fun _ h => h
  have hbA : ¬ (fun q : Nat => s.heap.size ≤ q) b := Nat.not_le.mpr hbl
  have hcs : cells ≤ room_1.cells ∧ slots ≤ room_1.slots := ⟨Nat.le_trans (show cells ≤ 300 by omega) (Nat.le_of_ble_eq_true rfl), Nat.le_trans (show slots ≤ 60000 by omega) (Nat.le_of_ble_eq_true rfl)⟩
  refine lv_aload_n hx hb dL_law_525 rfl (lv_at hl 1 rfl) ?_
  refine lv_aload_n hx hb dL_law_526 rfl (lv_at hl 0 rfl) ?_
  refine lv_iload_n hx hb dL_law_527 rfl (lv_at hl 3 rfl) ?_
  refine lv_iconst (v := (1 : Int32)) hx hb dL_law_528 (by decide) ?_
  refine lv_iadd hx hb dL_law_529 ?_
  refine va_sld hx hb hX hbl hbA hW.2.2 h_1 dL_law_530 ?_
  refine lv_aload_n hx hb dL_law_531 rfl (lv_at hl 0 rfl) ?_
  refine lv_iload_n hx hb dL_law_532 rfl (lv_at hl 3 rfl) ?_
  refine lv_iconst (v := (2 : Int32)) hx hb dL_law_533 (by decide) ?_
  refine lv_iadd hx hb dL_law_534 ?_
  refine va_sld hx hb hX hbl hbA hW.2.2 h_2 dL_law_535 ?_
  refine lv_aload_n hx hb dL_law_536 rfl (lv_at hl 0 rfl) ?_
  refine lv_iload_n hx hb dL_law_537 rfl (lv_at hl 3 rfl) ?_
  refine lv_iconst (v := (3 : Int32)) hx hb dL_law_538 (by decide) ?_
  refine lv_iadd hx hb dL_law_539 ?_
  refine va_sld hx hb hX hbl hbA hW.2.2 h_3 dL_law_540 ?_
  obtain ⟨r, h8, h9, hR1⟩ := hs ((xs (x3 + (1 : Int32)).toNatClampNeg)) ((xs (x3 + (2 : Int32)).toNatClampNeg)) ((xs (x3 + (3 : Int32)).toNatClampNeg)) K M hRel
  refine g_callVi (rest := []) hE hW (hW.af hA) hl.1 (mX8_segment hK h8) hK.o hK.obj rfl q475 q476 q477 q1 q478 hd_X8_segment ⟨(Nat.le_of_ble_eq_true rfl), (Nat.le_of_ble_eq_true rfl)⟩ ⟨rfl, rfl⟩ rfl (Nat.le_of_ble_eq_true rfl) dL_law_541 hcs (fun c1 H locs hP hz1 hW => ?_)
  rw [hP] at hW
  refine lv_aload_n hx hb dL_law_544 rfl (lv_at hl 2 rfl) ?_
  refine lv_aload_n hx hb dL_law_545 rfl (lv_at hl 0 rfl) ?_
  refine lv_iload_n hx hb dL_law_546 rfl (lv_at hl 3 rfl) ?_
  refine lv_iconst (v := (1 : Int32)) hx hb dL_law_547 (by decide) ?_
  refine lv_iadd hx hb dL_law_548 ?_
  refine va_sld hx hb hX hbl hbA hW.2.2 h_1 dL_law_549 ?_
  refine lv_aload_n hx hb dL_law_550 rfl (lv_at hl 0 rfl) ?_
  refine lv_iload_n hx hb dL_law_551 rfl (lv_at hl 3 rfl) ?_
  refine lv_iconst (v := (2 : Int32)) hx hb dL_law_552 (by decide) ?_
  refine lv_iadd hx hb dL_law_553 ?_
  refine va_sld hx hb hX hbl hbA hW.2.2 h_2 dL_law_554 ?_
  refine lv_aload_n hx hb dL_law_555 rfl (lv_at hl 0 rfl) ?_
  refine lv_iload_n hx hb dL_law_556 rfl (lv_at hl 3 rfl) ?_
  refine lv_iconst (v := (3 : Int32)) hx hb dL_law_557 (by decide) ?_
  refine lv_iadd hx hb dL_law_558 ?_
  refine va_sld hx hb hX hbl hbA hW.2.2 h_3 dL_law_559 ?_
  refine g_callVi (rest := [.int r]) hE hW (hW.af hA) hl.1 (mX9_segment hM h9) hM.o hM.obj rfl q1083 q1084 q1085 q10 q1086 hd_X9_segment ⟨(Nat.le_of_ble_eq_true rfl), (Nat.le_of_ble_eq_true rfl)⟩ ⟨rfl, rfl⟩ rfl (Nat.le_of_ble_eq_true rfl) dL_law_560 hcs (fun c2 H locs hP2 hz2 hW => ?_)
  rw [hP2] at hW
  refine lv_icmp_eq (tgt := 1498) hx hb dL_law_563 (by decide) (fun _ => ?_) (fun kf => absurd rfl kf)
  exact hn K M J ad _ _ _ d0 cells slots ls ⟨hR1, hK, hM, hW, hd, hj1, hj2, hc1, hc2⟩ hl
set_option maxHeartbeats 4000000 in
set_option maxRecDepth 100000 in
theorem lc_value {p : Program} {l : Launch} {e : Env} {s : State} {m : MethodId} {below : List Frame} {meth : Method} {cd : Code} {D : va_G} {ct : Nat → ClassId} {b L : Nat} {xs : Nat → Int32} {Rel : KS → MS → Prop} (hE0 : ME p s m cd #[Value.ref b] D ct cL_law RL 4) (hX0 : va_X b L xs s s.heap) (hbl : b < s.heap.size) (hs : S_value Rel) {x3 : Int32} (h_1 : vp_in (x3 + (1 : Int32)) L) (h_2 : vp_in (x3 + (2 : Int32)) L) (hn : ∀ (K : KS) (M : MS) (J : List Nat) (ad : Nat → Nat) (c : CF) (H : Heap) (locs : List Loc) (d0 : Drawn) (cells slots : Nat) (ls : Array Slot), LI D ct s Rel K M J ad c H locs d0 cells slots → lv_has ls 4 [(0, .ref b), (1, .ref (ad 0)), (2, .ref (ad 160)), (3, .int x3)] → W p l e room_1 (s.setDrawn d0) m #[Value.ref b] below meth cd H locs cells slots (lw_Z below #[Value.ref b] s) (F0 m 1498 ls [])) {K : KS} {M : MS} {J : List Nat} {ad : Nat → Nat} {c : CF} {H : Heap} {locs : List Loc} {d0 : Drawn} {cells slots : Nat} {ls : Array Slot} (hi : LI D ct s Rel K M J ad c H locs d0 cells slots) (hl : lv_has ls 4 [(0, .ref b), (1, .ref (ad 0)), (2, .ref (ad 160)), (3, .int x3)]) : W p l e room_1 (s.setDrawn d0) m #[Value.ref b] below meth cd H locs cells slots (lw_Z below #[Value.ref b] s) (F0 m 568 ls []) := by
  obtain ⟨hRel, hK, hM, hW, hd, hj1, hj2, hc1, hc2⟩ := hi
  have hx := hE0.1
  have hb := hE0.2.1
  have hE := hE0.dr d0
  have hX : va_X b L xs (s.setDrawn d0) s.heap := hX0
  have hA : ∀ q : Nat, s.heap.size ≤ q → (fun q : Nat => s.heap.size ≤ q) q := fun _ h => h
  have hbA : ¬ (fun q : Nat => s.heap.size ≤ q) b := Nat.not_le.mpr hbl
  have hcs : cells ≤ room_1.cells ∧ slots ≤ room_1.slots := ⟨Nat.le_trans (show cells ≤ 300 by omega) (Nat.le_of_ble_eq_true rfl), Nat.le_trans (show slots ≤ 60000 by omega) (Nat.le_of_ble_eq_true rfl)⟩
  refine lv_aload_n hx hb dL_law_568 rfl (lv_at hl 1 rfl) ?_
  refine lv_aload_n hx hb dL_law_569 rfl (lv_at hl 0 rfl) ?_
  refine lv_iload_n hx hb dL_law_570 rfl (lv_at hl 3 rfl) ?_
  refine lv_iconst (v := (1 : Int32)) hx hb dL_law_571 (by decide) ?_
  refine lv_iadd hx hb dL_law_572 ?_
  refine va_sld hx hb hX hbl hbA hW.2.2 h_1 dL_law_573 ?_
  refine lv_aload_n hx hb dL_law_574 rfl (lv_at hl 0 rfl) ?_
  refine lv_iload_n hx hb dL_law_575 rfl (lv_at hl 3 rfl) ?_
  refine lv_iconst (v := (2 : Int32)) hx hb dL_law_576 (by decide) ?_
  refine lv_iadd hx hb dL_law_577 ?_
  refine va_sld hx hb hX hbl hbA hW.2.2 h_2 dL_law_578 ?_
  obtain ⟨r, K1, M1, h8, h9, hR1, ht⟩ := hs ((xs (x3 + (1 : Int32)).toNatClampNeg)) ((xs (x3 + (2 : Int32)).toNatClampNeg)) K M hRel
  refine g_callVl (rest := []) hE hW (hW.af hA) hl.1 (mX8_value hK h8) hK.o hK.obj rfl q482 q483 q484 q1 q485 hd_X8_value ⟨(Nat.le_of_ble_eq_true rfl), (Nat.le_of_ble_eq_true rfl)⟩ ⟨rfl, rfl⟩ rfl (Nat.le_of_ble_eq_true rfl) dL_law_579 hcs (fun c1 H locs hP hz1 hW => ?_)
  have hM := hM.fr hP.2 (by omega)
  have hK := hP.1
  refine lv_aload_n hx hb dL_law_582 rfl (lv_at hl 2 rfl) ?_
  refine lv_aload_n hx hb dL_law_583 rfl (lv_at hl 0 rfl) ?_
  refine lv_iload_n hx hb dL_law_584 rfl (lv_at hl 3 rfl) ?_
  refine lv_iconst (v := (1 : Int32)) hx hb dL_law_585 (by decide) ?_
  refine lv_iadd hx hb dL_law_586 ?_
  refine va_sld hx hb hX hbl hbA hW.2.2 h_1 dL_law_587 ?_
  refine lv_aload_n hx hb dL_law_588 rfl (lv_at hl 0 rfl) ?_
  refine lv_iload_n hx hb dL_law_589 rfl (lv_at hl 3 rfl) ?_
  refine lv_iconst (v := (2 : Int32)) hx hb dL_law_590 (by decide) ?_
  refine lv_iadd hx hb dL_law_591 ?_
  refine va_sld hx hb hX hbl hbA hW.2.2 h_2 dL_law_592 ?_
  refine g_callVl (rest := [.long r]) hE hW (hW.af hA) hl.1 (mX9_value hM h9) hM.o hM.obj rfl q1087 q1088 q1089 q10 q1090 hd_X9_value ⟨(Nat.le_of_ble_eq_true rfl), (Nat.le_of_ble_eq_true rfl)⟩ ⟨rfl, rfl⟩ rfl (Nat.le_of_ble_eq_true rfl) dL_law_593 hcs (fun c2 H locs hP2 hz2 hW => ?_)
  have hK := hK.fr hP2.2 (by omega)
  have hM := hP2.1
  refine W.lcmp hx hb dL_law_596 ?_
  rw [lg_same]
  refine lv_if_eq (tgt := 1498) hx hb dL_law_597 (by decide) (fun _ => ?_) (fun kf => absurd rfl kf)
  exact hn K1 M1 J ad _ _ _ d0 cells slots ls ⟨hR1, hK, hM, hW, hd, by rw [ht]; exact hj1, by rw [ht]; exact hj2, by rw [ht]; exact hc1, by rw [ht]; exact hc2⟩ hl
set_option maxHeartbeats 4000000 in
set_option maxRecDepth 100000 in
theorem lc_map {p : Program} {l : Launch} {e : Env} {s : State} {m : MethodId} {below : List Frame} {meth : Method} {cd : Code} {D : va_G} {ct : Nat → ClassId} {b L : Nat} {xs : Nat → Int32} {Rel : KS → MS → Prop} (hE0 : ME p s m cd #[Value.ref b] D ct cL_law RL 4) (hX0 : va_X b L xs s s.heap) (hbl : b < s.heap.size) (hs : S_map Rel) {x3 : Int32} (h_1 : vp_in (x3 + (1 : Int32)) L) (h_2 : vp_in (x3 + (2 : Int32)) L) (hn : ∀ (K : KS) (M : MS) (J : List Nat) (ad : Nat → Nat) (c : CF) (H : Heap) (locs : List Loc) (d0 : Drawn) (cells slots : Nat) (ls : Array Slot), LI D ct s Rel K M J ad c H locs d0 cells slots → lv_has ls 4 [(0, .ref b), (1, .ref (ad 0)), (2, .ref (ad 160)), (3, .int x3)] → W p l e room_1 (s.setDrawn d0) m #[Value.ref b] below meth cd H locs cells slots (lw_Z below #[Value.ref b] s) (F0 m 1498 ls [])) {K : KS} {M : MS} {J : List Nat} {ad : Nat → Nat} {c : CF} {H : Heap} {locs : List Loc} {d0 : Drawn} {cells slots : Nat} {ls : Array Slot} (hi : LI D ct s Rel K M J ad c H locs d0 cells slots) (hl : lv_has ls 4 [(0, .ref b), (1, .ref (ad 0)), (2, .ref (ad 160)), (3, .int x3)]) : W p l e room_1 (s.setDrawn d0) m #[Value.ref b] below meth cd H locs cells slots (lw_Z below #[Value.ref b] s) (F0 m 602 ls []) := by
  obtain ⟨hRel, hK, hM, hW, hd, hj1, hj2, hc1, hc2⟩ := hi
  have hx := hE0.1
  have hb := hE0.2.1
  have hE := hE0.dr d0
  have hX : va_X b L xs (s.setDrawn d0) s.heap := hX0
  have hA : ∀ q : Nat, s.heap.size ≤ q → (fun q : Nat => s.heap.size ≤ q) q := fun _ h => h
  have hbA : ¬ (fun q : Nat => s.heap.size ≤ q) b := Nat.not_le.mpr hbl
  have hcs : cells ≤ room_1.cells ∧ slots ≤ room_1.slots := ⟨Nat.le_trans (show cells ≤ 300 by omega) (Nat.le_of_ble_eq_true rfl), Nat.le_trans (show slots ≤ 60000 by omega) (Nat.le_of_ble_eq_true rfl)⟩
  refine lv_aload_n hx hb dL_law_602 rfl (lv_at hl 1 rfl) ?_
  refine lv_aload_n hx hb dL_law_603 rfl (lv_at hl 0 rfl) ?_
  refine lv_iload_n hx hb dL_law_604 rfl (lv_at hl 3 rfl) ?_
  refine lv_iconst (v := (1 : Int32)) hx hb dL_law_605 (by decide) ?_
  refine lv_iadd hx hb dL_law_606 ?_
  refine va_sld hx hb hX hbl hbA hW.2.2 h_1 dL_law_607 ?_
  refine lv_aload_n hx hb dL_law_608 rfl (lv_at hl 0 rfl) ?_
  refine lv_iload_n hx hb dL_law_609 rfl (lv_at hl 3 rfl) ?_
  refine lv_iconst (v := (2 : Int32)) hx hb dL_law_610 (by decide) ?_
  refine lv_iadd hx hb dL_law_611 ?_
  refine va_sld hx hb hX hbl hbA hW.2.2 h_2 dL_law_612 ?_
  obtain ⟨r, K1, M1, h8, h9, hR1, ht⟩ := hs ((xs (x3 + (1 : Int32)).toNatClampNeg)) ((xs (x3 + (2 : Int32)).toNatClampNeg)) K M hRel
  refine g_callVl (rest := []) hE hW (hW.af hA) hl.1 (mX8_map hK h8) hK.o hK.obj rfl q491 q492 q493 q1 q494 hd_X8_map ⟨(Nat.le_of_ble_eq_true rfl), (Nat.le_of_ble_eq_true rfl)⟩ ⟨rfl, rfl⟩ rfl (Nat.le_of_ble_eq_true rfl) dL_law_613 hcs (fun c1 H locs hP hz1 hW => ?_)
  have hM := hM.fr hP.2 (by omega)
  have hK := hP.1
  refine lv_aload_n hx hb dL_law_616 rfl (lv_at hl 2 rfl) ?_
  refine lv_aload_n hx hb dL_law_617 rfl (lv_at hl 0 rfl) ?_
  refine lv_iload_n hx hb dL_law_618 rfl (lv_at hl 3 rfl) ?_
  refine lv_iconst (v := (1 : Int32)) hx hb dL_law_619 (by decide) ?_
  refine lv_iadd hx hb dL_law_620 ?_
  refine va_sld hx hb hX hbl hbA hW.2.2 h_1 dL_law_621 ?_
  refine lv_aload_n hx hb dL_law_622 rfl (lv_at hl 0 rfl) ?_
  refine lv_iload_n hx hb dL_law_623 rfl (lv_at hl 3 rfl) ?_
  refine lv_iconst (v := (2 : Int32)) hx hb dL_law_624 (by decide) ?_
  refine lv_iadd hx hb dL_law_625 ?_
  refine va_sld hx hb hX hbl hbA hW.2.2 h_2 dL_law_626 ?_
  refine g_callVlD (rest := [.long r]) hd hE hW (hW.af hA) hl.1 (mX9_map hM h9) hM.o hM.obj rfl q1095 q1096 q1097 q10 q1098 hd_X9_map ⟨(Nat.le_of_ble_eq_true rfl), (Nat.le_of_ble_eq_true rfl)⟩ ⟨rfl, rfl⟩ rfl (Nat.le_of_ble_eq_true rfl) dL_law_627 hcs (fun c2 H locs hP2 hz2 hW d0 hd => ?_)
  have hE := hE0.dr d0
  have hX : va_X b L xs (s.setDrawn d0) s.heap := hX0
  have hK := hK.fr hP2.2 (by omega)
  have hM := hP2.1
  refine W.lcmp hx hb dL_law_630 ?_
  rw [lg_same]
  refine lv_if_eq (tgt := 1498) hx hb dL_law_631 (by decide) (fun _ => ?_) (fun kf => absurd rfl kf)
  exact hn K1 M1 J ad _ _ _ d0 cells slots ls ⟨hR1, hK, hM, hW, hd, by rw [ht]; exact hj1, by rw [ht]; exact hj2, by rw [ht]; exact hc1, by rw [ht]; exact hc2⟩ hl
set_option maxHeartbeats 4000000 in
set_option maxRecDepth 100000 in
theorem lc_replay {p : Program} {l : Launch} {e : Env} {s : State} {m : MethodId} {below : List Frame} {meth : Method} {cd : Code} {D : va_G} {ct : Nat → ClassId} {b L : Nat} {xs : Nat → Int32} {Rel : KS → MS → Prop} (hE0 : ME p s m cd #[Value.ref b] D ct cL_law RL 4) (hX0 : va_X b L xs s s.heap) (hbl : b < s.heap.size) (hs : S_replay Rel) {x3 : Int32} (h_1 : vp_in (x3 + (1 : Int32)) L) (h_2 : vp_in (x3 + (2 : Int32)) L) (h_3 : vp_in (x3 + (3 : Int32)) L) (hn : ∀ (K : KS) (M : MS) (J : List Nat) (ad : Nat → Nat) (c : CF) (H : Heap) (locs : List Loc) (d0 : Drawn) (cells slots : Nat) (ls : Array Slot), LI D ct s Rel K M J ad c H locs d0 cells slots → lv_has ls 4 [(0, .ref b), (1, .ref (ad 0)), (2, .ref (ad 160)), (3, .int x3)] → W p l e room_1 (s.setDrawn d0) m #[Value.ref b] below meth cd H locs cells slots (lw_Z below #[Value.ref b] s) (F0 m 1498 ls [])) {K : KS} {M : MS} {J : List Nat} {ad : Nat → Nat} {c : CF} {H : Heap} {locs : List Loc} {d0 : Drawn} {cells slots : Nat} {ls : Array Slot} (hi : LI D ct s Rel K M J ad c H locs d0 cells slots) (hl : lv_has ls 4 [(0, .ref b), (1, .ref (ad 0)), (2, .ref (ad 160)), (3, .int x3)]) : W p l e room_1 (s.setDrawn d0) m #[Value.ref b] below meth cd H locs cells slots (lw_Z below #[Value.ref b] s) (F0 m 636 ls []) := by
  obtain ⟨hRel, hK, hM, hW, hd, hj1, hj2, hc1, hc2⟩ := hi
  have hx := hE0.1
  have hb := hE0.2.1
  have hE := hE0.dr d0
  have hX : va_X b L xs (s.setDrawn d0) s.heap := hX0
  have hA : ∀ q : Nat, s.heap.size ≤ q → (fun q : Nat => s.heap.size ≤ q) q := fun _ h => h
  have hbA : ¬ (fun q : Nat => s.heap.size ≤ q) b := Nat.not_le.mpr hbl
  have hcs : cells ≤ room_1.cells ∧ slots ≤ room_1.slots := ⟨Nat.le_trans (show cells ≤ 300 by omega) (Nat.le_of_ble_eq_true rfl), Nat.le_trans (show slots ≤ 60000 by omega) (Nat.le_of_ble_eq_true rfl)⟩
  refine lv_aload_n hx hb dL_law_636 rfl (lv_at hl 1 rfl) ?_
  refine lv_aload_n hx hb dL_law_637 rfl (lv_at hl 0 rfl) ?_
  refine lv_iload_n hx hb dL_law_638 rfl (lv_at hl 3 rfl) ?_
  refine lv_iconst (v := (1 : Int32)) hx hb dL_law_639 (by decide) ?_
  refine lv_iadd hx hb dL_law_640 ?_
  refine va_sld hx hb hX hbl hbA hW.2.2 h_1 dL_law_641 ?_
  refine lv_aload_n hx hb dL_law_642 rfl (lv_at hl 0 rfl) ?_
  refine lv_iload_n hx hb dL_law_643 rfl (lv_at hl 3 rfl) ?_
  refine lv_iconst (v := (2 : Int32)) hx hb dL_law_644 (by decide) ?_
  refine lv_iadd hx hb dL_law_645 ?_
  refine va_sld hx hb hX hbl hbA hW.2.2 h_2 dL_law_646 ?_
  refine lv_aload_n hx hb dL_law_647 rfl (lv_at hl 0 rfl) ?_
  refine lv_iload_n hx hb dL_law_648 rfl (lv_at hl 3 rfl) ?_
  refine lv_iconst (v := (3 : Int32)) hx hb dL_law_649 (by decide) ?_
  refine lv_iadd hx hb dL_law_650 ?_
  refine va_sld hx hb hX hbl hbA hW.2.2 h_3 dL_law_651 ?_
  obtain ⟨r, K1, M1, h8, h9, hR1, ht⟩ := hs ((xs (x3 + (1 : Int32)).toNatClampNeg)) ((xs (x3 + (2 : Int32)).toNatClampNeg)) ((xs (x3 + (3 : Int32)).toNatClampNeg)) K M hRel
  refine g_callVl (rest := []) hE hW (hW.af hA) hl.1 (mX8_replay hK h8) hK.o hK.obj rfl q551 q552 q553 q1 q554 hd_X8_replay ⟨(Nat.le_of_ble_eq_true rfl), (Nat.le_of_ble_eq_true rfl)⟩ ⟨rfl, rfl⟩ rfl (Nat.le_of_ble_eq_true rfl) dL_law_652 hcs (fun c1 H locs hP hz1 hW => ?_)
  have hM := hM.fr hP.2 (by omega)
  have hK := hP.1
  refine lv_aload_n hx hb dL_law_655 rfl (lv_at hl 2 rfl) ?_
  refine lv_aload_n hx hb dL_law_656 rfl (lv_at hl 0 rfl) ?_
  refine lv_iload_n hx hb dL_law_657 rfl (lv_at hl 3 rfl) ?_
  refine lv_iconst (v := (1 : Int32)) hx hb dL_law_658 (by decide) ?_
  refine lv_iadd hx hb dL_law_659 ?_
  refine va_sld hx hb hX hbl hbA hW.2.2 h_1 dL_law_660 ?_
  refine lv_aload_n hx hb dL_law_661 rfl (lv_at hl 0 rfl) ?_
  refine lv_iload_n hx hb dL_law_662 rfl (lv_at hl 3 rfl) ?_
  refine lv_iconst (v := (2 : Int32)) hx hb dL_law_663 (by decide) ?_
  refine lv_iadd hx hb dL_law_664 ?_
  refine va_sld hx hb hX hbl hbA hW.2.2 h_2 dL_law_665 ?_
  refine lv_aload_n hx hb dL_law_666 rfl (lv_at hl 0 rfl) ?_
  refine lv_iload_n hx hb dL_law_667 rfl (lv_at hl 3 rfl) ?_
  refine lv_iconst (v := (3 : Int32)) hx hb dL_law_668 (by decide) ?_
  refine lv_iadd hx hb dL_law_669 ?_
  refine va_sld hx hb hX hbl hbA hW.2.2 h_3 dL_law_670 ?_
  refine g_callVl (rest := [.long r]) hE hW (hW.af hA) hl.1 (mX9_replay hM h9) hM.o hM.obj rfl q1120 q1121 q1122 q10 q1123 hd_X9_replay ⟨(Nat.le_of_ble_eq_true rfl), (Nat.le_of_ble_eq_true rfl)⟩ ⟨rfl, rfl⟩ rfl (Nat.le_of_ble_eq_true rfl) dL_law_671 hcs (fun c2 H locs hP2 hz2 hW => ?_)
  have hK := hK.fr hP2.2 (by omega)
  have hM := hP2.1
  refine W.lcmp hx hb dL_law_674 ?_
  rw [lg_same]
  refine lv_if_eq (tgt := 1498) hx hb dL_law_675 (by decide) (fun _ => ?_) (fun kf => absurd rfl kf)
  exact hn K1 M1 J ad _ _ _ d0 cells slots ls ⟨hR1, hK, hM, hW, hd, by rw [ht]; exact hj1, by rw [ht]; exact hj2, by rw [ht]; exact hc1, by rw [ht]; exact hc2⟩ hl
set_option maxHeartbeats 4000000 in
set_option maxRecDepth 100000 in
theorem lc_near {p : Program} {l : Launch} {e : Env} {s : State} {m : MethodId} {below : List Frame} {meth : Method} {cd : Code} {D : va_G} {ct : Nat → ClassId} {b L : Nat} {xs : Nat → Int32} {Rel : KS → MS → Prop} (hE0 : ME p s m cd #[Value.ref b] D ct cL_law RL 4) (hX0 : va_X b L xs s s.heap) (hbl : b < s.heap.size) (hs : S_near Rel) {x3 : Int32} (h_1 : vp_in (x3 + (1 : Int32)) L) (h_2 : vp_in (x3 + (2 : Int32)) L) (h_3 : vp_in (x3 + (3 : Int32)) L) (hn : ∀ (K : KS) (M : MS) (J : List Nat) (ad : Nat → Nat) (c : CF) (H : Heap) (locs : List Loc) (d0 : Drawn) (cells slots : Nat) (ls : Array Slot), LI D ct s Rel K M J ad c H locs d0 cells slots → lv_has ls 4 [(0, .ref b), (1, .ref (ad 0)), (2, .ref (ad 160)), (3, .int x3)] → W p l e room_1 (s.setDrawn d0) m #[Value.ref b] below meth cd H locs cells slots (lw_Z below #[Value.ref b] s) (F0 m 1498 ls [])) {K : KS} {M : MS} {J : List Nat} {ad : Nat → Nat} {c : CF} {H : Heap} {locs : List Loc} {d0 : Drawn} {cells slots : Nat} {ls : Array Slot} (hi : LI D ct s Rel K M J ad c H locs d0 cells slots) (hl : lv_has ls 4 [(0, .ref b), (1, .ref (ad 0)), (2, .ref (ad 160)), (3, .int x3)]) : W p l e room_1 (s.setDrawn d0) m #[Value.ref b] below meth cd H locs cells slots (lw_Z below #[Value.ref b] s) (F0 m 680 ls []) := by
  obtain ⟨hRel, hK, hM, hW, hd, hj1, hj2, hc1, hc2⟩ := hi
  have hx := hE0.1
  have hb := hE0.2.1
  have hE := hE0.dr d0
  have hX : va_X b L xs (s.setDrawn d0) s.heap := hX0
  have hA : ∀ q : Nat, s.heap.size ≤ q → (fun q : Nat => s.heap.size ≤ q) q := fun _ h => h
  have hbA : ¬ (fun q : Nat => s.heap.size ≤ q) b := Nat.not_le.mpr hbl
  have hcs : cells ≤ room_1.cells ∧ slots ≤ room_1.slots := ⟨Nat.le_trans (show cells ≤ 300 by omega) (Nat.le_of_ble_eq_true rfl), Nat.le_trans (show slots ≤ 60000 by omega) (Nat.le_of_ble_eq_true rfl)⟩
  refine lv_aload_n hx hb dL_law_680 rfl (lv_at hl 1 rfl) ?_
  refine lv_aload_n hx hb dL_law_681 rfl (lv_at hl 0 rfl) ?_
  refine lv_iload_n hx hb dL_law_682 rfl (lv_at hl 3 rfl) ?_
  refine lv_iconst (v := (1 : Int32)) hx hb dL_law_683 (by decide) ?_
  refine lv_iadd hx hb dL_law_684 ?_
  refine va_sld hx hb hX hbl hbA hW.2.2 h_1 dL_law_685 ?_
  refine lv_aload_n hx hb dL_law_686 rfl (lv_at hl 0 rfl) ?_
  refine lv_iload_n hx hb dL_law_687 rfl (lv_at hl 3 rfl) ?_
  refine lv_iconst (v := (2 : Int32)) hx hb dL_law_688 (by decide) ?_
  refine lv_iadd hx hb dL_law_689 ?_
  refine va_sld hx hb hX hbl hbA hW.2.2 h_2 dL_law_690 ?_
  refine lv_aload_n hx hb dL_law_691 rfl (lv_at hl 0 rfl) ?_
  refine lv_iload_n hx hb dL_law_692 rfl (lv_at hl 3 rfl) ?_
  refine lv_iconst (v := (3 : Int32)) hx hb dL_law_693 (by decide) ?_
  refine lv_iadd hx hb dL_law_694 ?_
  refine va_sld hx hb hX hbl hbA hW.2.2 h_3 dL_law_695 ?_
  obtain ⟨r, h8, h9, hR1⟩ := hs ((xs (x3 + (1 : Int32)).toNatClampNeg)) ((xs (x3 + (2 : Int32)).toNatClampNeg)) ((xs (x3 + (3 : Int32)).toNatClampNeg)) K M hRel
  refine g_callVi (rest := []) hE hW (hW.af hA) hl.1 (mX8_near hK h8) hK.o hK.obj rfl q555 q556 q557 q1 q558 hd_X8_near ⟨(Nat.le_of_ble_eq_true rfl), (Nat.le_of_ble_eq_true rfl)⟩ ⟨rfl, rfl⟩ rfl (Nat.le_of_ble_eq_true rfl) dL_law_696 hcs (fun c1 H locs hP hz1 hW => ?_)
  rw [hP] at hW
  refine lv_aload_n hx hb dL_law_699 rfl (lv_at hl 2 rfl) ?_
  refine lv_aload_n hx hb dL_law_700 rfl (lv_at hl 0 rfl) ?_
  refine lv_iload_n hx hb dL_law_701 rfl (lv_at hl 3 rfl) ?_
  refine lv_iconst (v := (1 : Int32)) hx hb dL_law_702 (by decide) ?_
  refine lv_iadd hx hb dL_law_703 ?_
  refine va_sld hx hb hX hbl hbA hW.2.2 h_1 dL_law_704 ?_
  refine lv_aload_n hx hb dL_law_705 rfl (lv_at hl 0 rfl) ?_
  refine lv_iload_n hx hb dL_law_706 rfl (lv_at hl 3 rfl) ?_
  refine lv_iconst (v := (2 : Int32)) hx hb dL_law_707 (by decide) ?_
  refine lv_iadd hx hb dL_law_708 ?_
  refine va_sld hx hb hX hbl hbA hW.2.2 h_2 dL_law_709 ?_
  refine lv_aload_n hx hb dL_law_710 rfl (lv_at hl 0 rfl) ?_
  refine lv_iload_n hx hb dL_law_711 rfl (lv_at hl 3 rfl) ?_
  refine lv_iconst (v := (3 : Int32)) hx hb dL_law_712 (by decide) ?_
  refine lv_iadd hx hb dL_law_713 ?_
  refine va_sld hx hb hX hbl hbA hW.2.2 h_3 dL_law_714 ?_
  refine g_callVi (rest := [.int r]) hE hW (hW.af hA) hl.1 (mX9_near hM h9) hM.o hM.obj rfl q1124 q1125 q1126 q10 q1127 hd_X9_near ⟨(Nat.le_of_ble_eq_true rfl), (Nat.le_of_ble_eq_true rfl)⟩ ⟨rfl, rfl⟩ rfl (Nat.le_of_ble_eq_true rfl) dL_law_715 hcs (fun c2 H locs hP2 hz2 hW => ?_)
  rw [hP2] at hW
  refine lv_icmp_eq (tgt := 1498) hx hb dL_law_718 (by decide) (fun _ => ?_) (fun kf => absurd rfl kf)
  exact hn K M J ad _ _ _ d0 cells slots ls ⟨hR1, hK, hM, hW, hd, hj1, hj2, hc1, hc2⟩ hl
set_option maxHeartbeats 4000000 in
set_option maxRecDepth 100000 in
theorem lc_oldest {p : Program} {l : Launch} {e : Env} {s : State} {m : MethodId} {below : List Frame} {meth : Method} {cd : Code} {D : va_G} {ct : Nat → ClassId} {b L : Nat} {xs : Nat → Int32} {Rel : KS → MS → Prop} (hE0 : ME p s m cd #[Value.ref b] D ct cL_law RL 4) (hX0 : va_X b L xs s s.heap) (hbl : b < s.heap.size) (hs : S_oldest Rel) {x3 : Int32} (h_1 : vp_in (x3 + (1 : Int32)) L) (h_2 : vp_in (x3 + (2 : Int32)) L) (hn : ∀ (K : KS) (M : MS) (J : List Nat) (ad : Nat → Nat) (c : CF) (H : Heap) (locs : List Loc) (d0 : Drawn) (cells slots : Nat) (ls : Array Slot), LI D ct s Rel K M J ad c H locs d0 cells slots → lv_has ls 4 [(0, .ref b), (1, .ref (ad 0)), (2, .ref (ad 160)), (3, .int x3)] → W p l e room_1 (s.setDrawn d0) m #[Value.ref b] below meth cd H locs cells slots (lw_Z below #[Value.ref b] s) (F0 m 1498 ls [])) {K : KS} {M : MS} {J : List Nat} {ad : Nat → Nat} {c : CF} {H : Heap} {locs : List Loc} {d0 : Drawn} {cells slots : Nat} {ls : Array Slot} (hi : LI D ct s Rel K M J ad c H locs d0 cells slots) (hl : lv_has ls 4 [(0, .ref b), (1, .ref (ad 0)), (2, .ref (ad 160)), (3, .int x3)]) : W p l e room_1 (s.setDrawn d0) m #[Value.ref b] below meth cd H locs cells slots (lw_Z below #[Value.ref b] s) (F0 m 723 ls []) := by
  obtain ⟨hRel, hK, hM, hW, hd, hj1, hj2, hc1, hc2⟩ := hi
  have hx := hE0.1
  have hb := hE0.2.1
  have hE := hE0.dr d0
  have hX : va_X b L xs (s.setDrawn d0) s.heap := hX0
  have hA : ∀ q : Nat, s.heap.size ≤ q → (fun q : Nat => s.heap.size ≤ q) q := fun _ h => h
  have hbA : ¬ (fun q : Nat => s.heap.size ≤ q) b := Nat.not_le.mpr hbl
  have hcs : cells ≤ room_1.cells ∧ slots ≤ room_1.slots := ⟨Nat.le_trans (show cells ≤ 300 by omega) (Nat.le_of_ble_eq_true rfl), Nat.le_trans (show slots ≤ 60000 by omega) (Nat.le_of_ble_eq_true rfl)⟩
  refine lv_aload_n hx hb dL_law_723 rfl (lv_at hl 1 rfl) ?_
  refine lv_aload_n hx hb dL_law_724 rfl (lv_at hl 0 rfl) ?_
  refine lv_iload_n hx hb dL_law_725 rfl (lv_at hl 3 rfl) ?_
  refine lv_iconst (v := (1 : Int32)) hx hb dL_law_726 (by decide) ?_
  refine lv_iadd hx hb dL_law_727 ?_
  refine va_sld hx hb hX hbl hbA hW.2.2 h_1 dL_law_728 ?_
  refine lv_aload_n hx hb dL_law_729 rfl (lv_at hl 0 rfl) ?_
  refine lv_iload_n hx hb dL_law_730 rfl (lv_at hl 3 rfl) ?_
  refine lv_iconst (v := (2 : Int32)) hx hb dL_law_731 (by decide) ?_
  refine lv_iadd hx hb dL_law_732 ?_
  refine va_sld hx hb hX hbl hbA hW.2.2 h_2 dL_law_733 ?_
  obtain ⟨r, h8, h9, hR1⟩ := hs ((xs (x3 + (1 : Int32)).toNatClampNeg)) ((xs (x3 + (2 : Int32)).toNatClampNeg)) K M hRel
  refine g_callVi (rest := []) hE hW (hW.af hA) hl.1 (mX8_oldest hK h8) hK.o hK.obj rfl q559 q560 q561 q1 q562 hd_X8_oldest ⟨(Nat.le_of_ble_eq_true rfl), (Nat.le_of_ble_eq_true rfl)⟩ ⟨rfl, rfl⟩ rfl (Nat.le_of_ble_eq_true rfl) dL_law_734 hcs (fun c1 H locs hP hz1 hW => ?_)
  rw [hP] at hW
  refine lv_aload_n hx hb dL_law_737 rfl (lv_at hl 2 rfl) ?_
  refine lv_aload_n hx hb dL_law_738 rfl (lv_at hl 0 rfl) ?_
  refine lv_iload_n hx hb dL_law_739 rfl (lv_at hl 3 rfl) ?_
  refine lv_iconst (v := (1 : Int32)) hx hb dL_law_740 (by decide) ?_
  refine lv_iadd hx hb dL_law_741 ?_
  refine va_sld hx hb hX hbl hbA hW.2.2 h_1 dL_law_742 ?_
  refine lv_aload_n hx hb dL_law_743 rfl (lv_at hl 0 rfl) ?_
  refine lv_iload_n hx hb dL_law_744 rfl (lv_at hl 3 rfl) ?_
  refine lv_iconst (v := (2 : Int32)) hx hb dL_law_745 (by decide) ?_
  refine lv_iadd hx hb dL_law_746 ?_
  refine va_sld hx hb hX hbl hbA hW.2.2 h_2 dL_law_747 ?_
  refine g_callVi (rest := [.int r]) hE hW (hW.af hA) hl.1 (mX9_oldest hM h9) hM.o hM.obj rfl q1128 q1129 q1130 q10 q1131 hd_X9_oldest ⟨(Nat.le_of_ble_eq_true rfl), (Nat.le_of_ble_eq_true rfl)⟩ ⟨rfl, rfl⟩ rfl (Nat.le_of_ble_eq_true rfl) dL_law_748 hcs (fun c2 H locs hP2 hz2 hW => ?_)
  rw [hP2] at hW
  refine lv_icmp_eq (tgt := 1498) hx hb dL_law_751 (by decide) (fun _ => ?_) (fun kf => absurd rfl kf)
  exact hn K M J ad _ _ _ d0 cells slots ls ⟨hR1, hK, hM, hW, hd, hj1, hj2, hc1, hc2⟩ hl
set_option maxHeartbeats 4000000 in
set_option maxRecDepth 100000 in
theorem lc_would {p : Program} {l : Launch} {e : Env} {s : State} {m : MethodId} {below : List Frame} {meth : Method} {cd : Code} {D : va_G} {ct : Nat → ClassId} {b L : Nat} {xs : Nat → Int32} {Rel : KS → MS → Prop} (hE0 : ME p s m cd #[Value.ref b] D ct cL_law RL 4) (hX0 : va_X b L xs s s.heap) (hbl : b < s.heap.size) (hs : S_would Rel) {x3 : Int32} (h_1 : vp_in (x3 + (1 : Int32)) L) (h_2 : vp_in (x3 + (2 : Int32)) L) (hn : ∀ (K : KS) (M : MS) (J : List Nat) (ad : Nat → Nat) (c : CF) (H : Heap) (locs : List Loc) (d0 : Drawn) (cells slots : Nat) (ls : Array Slot), LI D ct s Rel K M J ad c H locs d0 cells slots → lv_has ls 4 [(0, .ref b), (1, .ref (ad 0)), (2, .ref (ad 160)), (3, .int x3)] → W p l e room_1 (s.setDrawn d0) m #[Value.ref b] below meth cd H locs cells slots (lw_Z below #[Value.ref b] s) (F0 m 1498 ls [])) {K : KS} {M : MS} {J : List Nat} {ad : Nat → Nat} {c : CF} {H : Heap} {locs : List Loc} {d0 : Drawn} {cells slots : Nat} {ls : Array Slot} (hi : LI D ct s Rel K M J ad c H locs d0 cells slots) (hl : lv_has ls 4 [(0, .ref b), (1, .ref (ad 0)), (2, .ref (ad 160)), (3, .int x3)]) : W p l e room_1 (s.setDrawn d0) m #[Value.ref b] below meth cd H locs cells slots (lw_Z below #[Value.ref b] s) (F0 m 756 ls []) := by
  obtain ⟨hRel, hK, hM, hW, hd, hj1, hj2, hc1, hc2⟩ := hi
  have hx := hE0.1
  have hb := hE0.2.1
  have hE := hE0.dr d0
  have hX : va_X b L xs (s.setDrawn d0) s.heap := hX0
  have hA : ∀ q : Nat, s.heap.size ≤ q → (fun q : Nat => s.heap.size ≤ q) q := fun _ h => h
  have hbA : ¬ (fun q : Nat => s.heap.size ≤ q) b := Nat.not_le.mpr hbl
  have hcs : cells ≤ room_1.cells ∧ slots ≤ room_1.slots := ⟨Nat.le_trans (show cells ≤ 300 by omega) (Nat.le_of_ble_eq_true rfl), Nat.le_trans (show slots ≤ 60000 by omega) (Nat.le_of_ble_eq_true rfl)⟩
  refine lv_aload_n hx hb dL_law_756 rfl (lv_at hl 1 rfl) ?_
  refine lv_aload_n hx hb dL_law_757 rfl (lv_at hl 0 rfl) ?_
  refine lv_iload_n hx hb dL_law_758 rfl (lv_at hl 3 rfl) ?_
  refine lv_iconst (v := (1 : Int32)) hx hb dL_law_759 (by decide) ?_
  refine lv_iadd hx hb dL_law_760 ?_
  refine va_sld hx hb hX hbl hbA hW.2.2 h_1 dL_law_761 ?_
  refine lv_aload_n hx hb dL_law_762 rfl (lv_at hl 0 rfl) ?_
  refine lv_iload_n hx hb dL_law_763 rfl (lv_at hl 3 rfl) ?_
  refine lv_iconst (v := (2 : Int32)) hx hb dL_law_764 (by decide) ?_
  refine lv_iadd hx hb dL_law_765 ?_
  refine va_sld hx hb hX hbl hbA hW.2.2 h_2 dL_law_766 ?_
  obtain ⟨r, K1, M1, h8, h9, hR1, ht⟩ := hs ((xs (x3 + (1 : Int32)).toNatClampNeg)) ((xs (x3 + (2 : Int32)).toNatClampNeg)) K M hRel
  refine g_callVi (rest := []) hE hW (hW.af hA) hl.1 (mX8_would hK h8) hK.o hK.obj rfl q575 q576 q577 q1 q578 hd_X8_would ⟨(Nat.le_of_ble_eq_true rfl), (Nat.le_of_ble_eq_true rfl)⟩ ⟨rfl, rfl⟩ rfl (Nat.le_of_ble_eq_true rfl) dL_law_767 hcs (fun c1 H locs hP hz1 hW => ?_)
  have hM := hM.fr hP.2 (by omega)
  have hK := hP.1
  refine lv_aload_n hx hb dL_law_770 rfl (lv_at hl 2 rfl) ?_
  refine lv_aload_n hx hb dL_law_771 rfl (lv_at hl 0 rfl) ?_
  refine lv_iload_n hx hb dL_law_772 rfl (lv_at hl 3 rfl) ?_
  refine lv_iconst (v := (1 : Int32)) hx hb dL_law_773 (by decide) ?_
  refine lv_iadd hx hb dL_law_774 ?_
  refine va_sld hx hb hX hbl hbA hW.2.2 h_1 dL_law_775 ?_
  refine lv_aload_n hx hb dL_law_776 rfl (lv_at hl 0 rfl) ?_
  refine lv_iload_n hx hb dL_law_777 rfl (lv_at hl 3 rfl) ?_
  refine lv_iconst (v := (2 : Int32)) hx hb dL_law_778 (by decide) ?_
  refine lv_iadd hx hb dL_law_779 ?_
  refine va_sld hx hb hX hbl hbA hW.2.2 h_2 dL_law_780 ?_
  refine g_callVi (rest := [.int r]) hE hW (hW.af hA) hl.1 (mX9_would hM h9) hM.o hM.obj rfl q1136 q1137 q1138 q10 q1139 hd_X9_would ⟨(Nat.le_of_ble_eq_true rfl), (Nat.le_of_ble_eq_true rfl)⟩ ⟨rfl, rfl⟩ rfl (Nat.le_of_ble_eq_true rfl) dL_law_781 hcs (fun c2 H locs hP2 hz2 hW => ?_)
  have hK := hK.fr hP2.2 (by omega)
  have hM := hP2.1
  refine lv_icmp_eq (tgt := 1498) hx hb dL_law_784 (by decide) (fun _ => ?_) (fun kf => absurd rfl kf)
  exact hn K1 M1 J ad _ _ _ d0 cells slots ls ⟨hR1, hK, hM, hW, hd, by rw [ht]; exact hj1, by rw [ht]; exact hj2, by rw [ht]; exact hc1, by rw [ht]; exact hc2⟩ hl
set_option maxHeartbeats 4000000 in
set_option maxRecDepth 100000 in
theorem lc_need {p : Program} {l : Launch} {e : Env} {s : State} {m : MethodId} {below : List Frame} {meth : Method} {cd : Code} {D : va_G} {ct : Nat → ClassId} {b L : Nat} {xs : Nat → Int32} {Rel : KS → MS → Prop} (hE0 : ME p s m cd #[Value.ref b] D ct cL_law RL 4) (hX0 : va_X b L xs s s.heap) (hbl : b < s.heap.size) (hs : S_need Rel) {x3 : Int32} (h_1 : vp_in (x3 + (1 : Int32)) L) (h_2 : vp_in (x3 + (2 : Int32)) L) (hn : ∀ (K : KS) (M : MS) (J : List Nat) (ad : Nat → Nat) (c : CF) (H : Heap) (locs : List Loc) (d0 : Drawn) (cells slots : Nat) (ls : Array Slot), LI D ct s Rel K M J ad c H locs d0 cells slots → lv_has ls 4 [(0, .ref b), (1, .ref (ad 0)), (2, .ref (ad 160)), (3, .int x3)] → W p l e room_1 (s.setDrawn d0) m #[Value.ref b] below meth cd H locs cells slots (lw_Z below #[Value.ref b] s) (F0 m 1498 ls [])) {K : KS} {M : MS} {J : List Nat} {ad : Nat → Nat} {c : CF} {H : Heap} {locs : List Loc} {d0 : Drawn} {cells slots : Nat} {ls : Array Slot} (hi : LI D ct s Rel K M J ad c H locs d0 cells slots) (hl : lv_has ls 4 [(0, .ref b), (1, .ref (ad 0)), (2, .ref (ad 160)), (3, .int x3)]) : W p l e room_1 (s.setDrawn d0) m #[Value.ref b] below meth cd H locs cells slots (lw_Z below #[Value.ref b] s) (F0 m 789 ls []) := by
  obtain ⟨hRel, hK, hM, hW, hd, hj1, hj2, hc1, hc2⟩ := hi
  have hx := hE0.1
  have hb := hE0.2.1
  have hE := hE0.dr d0
  have hX : va_X b L xs (s.setDrawn d0) s.heap := hX0
  have hA : ∀ q : Nat, s.heap.size ≤ q → (fun q : Nat => s.heap.size ≤ q) q := fun _ h => h
  have hbA : ¬ (fun q : Nat => s.heap.size ≤ q) b := Nat.not_le.mpr hbl
  have hcs : cells ≤ room_1.cells ∧ slots ≤ room_1.slots := ⟨Nat.le_trans (show cells ≤ 300 by omega) (Nat.le_of_ble_eq_true rfl), Nat.le_trans (show slots ≤ 60000 by omega) (Nat.le_of_ble_eq_true rfl)⟩
  refine lv_aload_n hx hb dL_law_789 rfl (lv_at hl 1 rfl) ?_
  refine lv_aload_n hx hb dL_law_790 rfl (lv_at hl 0 rfl) ?_
  refine lv_iload_n hx hb dL_law_791 rfl (lv_at hl 3 rfl) ?_
  refine lv_iconst (v := (1 : Int32)) hx hb dL_law_792 (by decide) ?_
  refine lv_iadd hx hb dL_law_793 ?_
  refine va_sld hx hb hX hbl hbA hW.2.2 h_1 dL_law_794 ?_
  refine lv_aload_n hx hb dL_law_795 rfl (lv_at hl 0 rfl) ?_
  refine lv_iload_n hx hb dL_law_796 rfl (lv_at hl 3 rfl) ?_
  refine lv_iconst (v := (2 : Int32)) hx hb dL_law_797 (by decide) ?_
  refine lv_iadd hx hb dL_law_798 ?_
  refine va_sld hx hb hX hbl hbA hW.2.2 h_2 dL_law_799 ?_
  obtain ⟨r, M1, h8, h9, hR1⟩ := hs ((xs (x3 + (1 : Int32)).toNatClampNeg)) ((xs (x3 + (2 : Int32)).toNatClampNeg)) K M hRel
  refine g_callVi (rest := []) hE hW (hW.af hA) hl.1 (mX8_need hK h8) hK.o hK.obj rfl q587 q588 q589 q1 q590 hd_X8_need ⟨(Nat.le_of_ble_eq_true rfl), (Nat.le_of_ble_eq_true rfl)⟩ ⟨rfl, rfl⟩ rfl (Nat.le_of_ble_eq_true rfl) dL_law_800 hcs (fun c1 H locs hP hz1 hW => ?_)
  rw [hP] at hW
  refine lv_aload_n hx hb dL_law_803 rfl (lv_at hl 2 rfl) ?_
  refine lv_aload_n hx hb dL_law_804 rfl (lv_at hl 0 rfl) ?_
  refine lv_iload_n hx hb dL_law_805 rfl (lv_at hl 3 rfl) ?_
  refine lv_iconst (v := (1 : Int32)) hx hb dL_law_806 (by decide) ?_
  refine lv_iadd hx hb dL_law_807 ?_
  refine va_sld hx hb hX hbl hbA hW.2.2 h_1 dL_law_808 ?_
  refine lv_aload_n hx hb dL_law_809 rfl (lv_at hl 0 rfl) ?_
  refine lv_iload_n hx hb dL_law_810 rfl (lv_at hl 3 rfl) ?_
  refine lv_iconst (v := (2 : Int32)) hx hb dL_law_811 (by decide) ?_
  refine lv_iadd hx hb dL_law_812 ?_
  refine va_sld hx hb hX hbl hbA hW.2.2 h_2 dL_law_813 ?_
  refine g_callVi (rest := [.int r]) hE hW (hW.af hA) hl.1 (mX9_need hM h9) hM.o hM.obj rfl q1143 q1144 q1145 q10 q1146 hd_X9_need ⟨(Nat.le_of_ble_eq_true rfl), (Nat.le_of_ble_eq_true rfl)⟩ ⟨rfl, rfl⟩ rfl (Nat.le_of_ble_eq_true rfl) dL_law_814 hcs (fun c2 H locs hP2 hz2 hW => ?_)
  have hK := hK.fr hP2.2 (by omega)
  have hM := hP2.1
  refine lv_icmp_eq (tgt := 1498) hx hb dL_law_817 (by decide) (fun _ => ?_) (fun kf => absurd rfl kf)
  exact hn K M1 J ad _ _ _ d0 cells slots ls ⟨hR1, hK, hM, hW, hd, hj1, hj2, hc1, hc2⟩ hl
set_option maxHeartbeats 4000000 in
set_option maxRecDepth 100000 in
theorem lc_join {p : Program} {l : Launch} {e : Env} {s : State} {m : MethodId} {below : List Frame} {meth : Method} {cd : Code} {D : va_G} {ct : Nat → ClassId} {b L : Nat} {xs : Nat → Int32} {Rel : KS → MS → Prop} (hE0 : ME p s m cd #[Value.ref b] D ct cL_law RL 4) (hX0 : va_X b L xs s s.heap) (hbl : b < s.heap.size) (hs : S_join Rel) {x3 : Int32} (h_1 : vp_in (x3 + (1 : Int32)) L) (hn : ∀ (K : KS) (M : MS) (J : List Nat) (ad : Nat → Nat) (c : CF) (H : Heap) (locs : List Loc) (d0 : Drawn) (cells slots : Nat) (ls : Array Slot), LI D ct s Rel K M J ad c H locs d0 cells slots → lv_has ls 4 [(0, .ref b), (1, .ref (ad 0)), (2, .ref (ad 160)), (3, .int x3)] → W p l e room_1 (s.setDrawn d0) m #[Value.ref b] below meth cd H locs cells slots (lw_Z below #[Value.ref b] s) (F0 m 1498 ls [])) {K : KS} {M : MS} {J : List Nat} {ad : Nat → Nat} {c : CF} {H : Heap} {locs : List Loc} {d0 : Drawn} {cells slots : Nat} {ls : Array Slot} (hi : LI D ct s Rel K M J ad c H locs d0 cells slots) (hl : lv_has ls 4 [(0, .ref b), (1, .ref (ad 0)), (2, .ref (ad 160)), (3, .int x3)]) : W p l e room_1 (s.setDrawn d0) m #[Value.ref b] below meth cd H locs cells slots (lw_Z below #[Value.ref b] s) (F0 m 822 ls []) := by
  obtain ⟨hRel, hK, hM, hW, hd, hj1, hj2, hc1, hc2⟩ := hi
  have hx := hE0.1
  have hb := hE0.2.1
  have hE := hE0.dr d0
  have hX : va_X b L xs (s.setDrawn d0) s.heap := hX0
  have hA : ∀ q : Nat, s.heap.size ≤ q → (fun q : Nat => s.heap.size ≤ q) q := fun _ h => h
  have hbA : ¬ (fun q : Nat => s.heap.size ≤ q) b := Nat.not_le.mpr hbl
  have hcs : cells ≤ room_1.cells ∧ slots ≤ room_1.slots := ⟨Nat.le_trans (show cells ≤ 300 by omega) (Nat.le_of_ble_eq_true rfl), Nat.le_trans (show slots ≤ 60000 by omega) (Nat.le_of_ble_eq_true rfl)⟩
  refine lv_aload_n hx hb dL_law_822 rfl (lv_at hl 1 rfl) ?_
  refine lv_aload_n hx hb dL_law_823 rfl (lv_at hl 0 rfl) ?_
  refine lv_iload_n hx hb dL_law_824 rfl (lv_at hl 3 rfl) ?_
  refine lv_iconst (v := (1 : Int32)) hx hb dL_law_825 (by decide) ?_
  refine lv_iadd hx hb dL_law_826 ?_
  refine va_sld hx hb hX hbl hbA hW.2.2 h_1 dL_law_827 ?_
  obtain ⟨r, K1, M1, h8, h9, hR1, ht⟩ := hs ((xs (x3 + (1 : Int32)).toNatClampNeg)) K M hRel
  refine g_callVi (rest := []) hE hW (hW.af hA) hl.1 (mX8_join hK h8) hK.o hK.obj rfl q599 q600 q601 q1 q602 hd_X8_join ⟨(Nat.le_of_ble_eq_true rfl), (Nat.le_of_ble_eq_true rfl)⟩ ⟨rfl, rfl⟩ rfl (Nat.le_of_ble_eq_true rfl) dL_law_828 hcs (fun c1 H locs hP hz1 hW => ?_)
  have hM := hM.fr hP.2 (by omega)
  have hK := hP.1
  refine lv_aload_n hx hb dL_law_831 rfl (lv_at hl 2 rfl) ?_
  refine lv_aload_n hx hb dL_law_832 rfl (lv_at hl 0 rfl) ?_
  refine lv_iload_n hx hb dL_law_833 rfl (lv_at hl 3 rfl) ?_
  refine lv_iconst (v := (1 : Int32)) hx hb dL_law_834 (by decide) ?_
  refine lv_iadd hx hb dL_law_835 ?_
  refine va_sld hx hb hX hbl hbA hW.2.2 h_1 dL_law_836 ?_
  refine g_callVi (rest := [.int r]) hE hW (hW.af hA) hl.1 (mX9_join hM h9) hM.o hM.obj rfl q1147 q1148 q1149 q10 q1150 hd_X9_join ⟨(Nat.le_of_ble_eq_true rfl), (Nat.le_of_ble_eq_true rfl)⟩ ⟨rfl, rfl⟩ rfl (Nat.le_of_ble_eq_true rfl) dL_law_837 hcs (fun c2 H locs hP2 hz2 hW => ?_)
  have hK := hK.fr hP2.2 (by omega)
  have hM := hP2.1
  refine lv_icmp_eq (tgt := 1498) hx hb dL_law_840 (by decide) (fun _ => ?_) (fun kf => absurd rfl kf)
  exact hn K1 M1 J ad _ _ _ d0 cells slots ls ⟨hR1, hK, hM, hW, hd, by rw [ht]; exact hj1, by rw [ht]; exact hj2, by rw [ht]; exact hc1, by rw [ht]; exact hc2⟩ hl
set_option maxHeartbeats 4000000 in
set_option maxRecDepth 100000 in
theorem lc_leave {p : Program} {l : Launch} {e : Env} {s : State} {m : MethodId} {below : List Frame} {meth : Method} {cd : Code} {D : va_G} {ct : Nat → ClassId} {b L : Nat} {xs : Nat → Int32} {Rel : KS → MS → Prop} (hE0 : ME p s m cd #[Value.ref b] D ct cL_law RL 4) (hX0 : va_X b L xs s s.heap) (hbl : b < s.heap.size) (hs : S_leave Rel) {x3 : Int32} (h_1 : vp_in (x3 + (1 : Int32)) L) (hn : ∀ (K : KS) (M : MS) (J : List Nat) (ad : Nat → Nat) (c : CF) (H : Heap) (locs : List Loc) (d0 : Drawn) (cells slots : Nat) (ls : Array Slot), LI D ct s Rel K M J ad c H locs d0 cells slots → lv_has ls 4 [(0, .ref b), (1, .ref (ad 0)), (2, .ref (ad 160)), (3, .int x3)] → W p l e room_1 (s.setDrawn d0) m #[Value.ref b] below meth cd H locs cells slots (lw_Z below #[Value.ref b] s) (F0 m 1498 ls [])) {K : KS} {M : MS} {J : List Nat} {ad : Nat → Nat} {c : CF} {H : Heap} {locs : List Loc} {d0 : Drawn} {cells slots : Nat} {ls : Array Slot} (hi : LI D ct s Rel K M J ad c H locs d0 cells slots) (hl : lv_has ls 4 [(0, .ref b), (1, .ref (ad 0)), (2, .ref (ad 160)), (3, .int x3)]) : W p l e room_1 (s.setDrawn d0) m #[Value.ref b] below meth cd H locs cells slots (lw_Z below #[Value.ref b] s) (F0 m 845 ls []) := by
  obtain ⟨hRel, hK, hM, hW, hd, hj1, hj2, hc1, hc2⟩ := hi
  have hx := hE0.1
  have hb := hE0.2.1
  have hE := hE0.dr d0
  have hX : va_X b L xs (s.setDrawn d0) s.heap := hX0
  have hA : ∀ q : Nat, s.heap.size ≤ q → (fun q : Nat => s.heap.size ≤ q) q := fun _ h => h
  have hbA : ¬ (fun q : Nat => s.heap.size ≤ q) b := Nat.not_le.mpr hbl
  have hcs : cells ≤ room_1.cells ∧ slots ≤ room_1.slots := ⟨Nat.le_trans (show cells ≤ 300 by omega) (Nat.le_of_ble_eq_true rfl), Nat.le_trans (show slots ≤ 60000 by omega) (Nat.le_of_ble_eq_true rfl)⟩
  refine lv_aload_n hx hb dL_law_845 rfl (lv_at hl 1 rfl) ?_
  refine lv_aload_n hx hb dL_law_846 rfl (lv_at hl 0 rfl) ?_
  refine lv_iload_n hx hb dL_law_847 rfl (lv_at hl 3 rfl) ?_
  refine lv_iconst (v := (1 : Int32)) hx hb dL_law_848 (by decide) ?_
  refine lv_iadd hx hb dL_law_849 ?_
  refine va_sld hx hb hX hbl hbA hW.2.2 h_1 dL_law_850 ?_
  obtain ⟨r, K1, M1, h8, h9, hR1, ht⟩ := hs ((xs (x3 + (1 : Int32)).toNatClampNeg)) K M hRel
  refine g_callVi (rest := []) hE hW (hW.af hA) hl.1 (mX8_leave hK h8) hK.o hK.obj rfl q659 q660 q661 q1 q662 hd_X8_leave ⟨(Nat.le_of_ble_eq_true rfl), (Nat.le_of_ble_eq_true rfl)⟩ ⟨rfl, rfl⟩ rfl (Nat.le_of_ble_eq_true rfl) dL_law_851 hcs (fun c1 H locs hP hz1 hW => ?_)
  have hM := hM.fr hP.2 (by omega)
  have hK := hP.1
  refine lv_aload_n hx hb dL_law_854 rfl (lv_at hl 2 rfl) ?_
  refine lv_aload_n hx hb dL_law_855 rfl (lv_at hl 0 rfl) ?_
  refine lv_iload_n hx hb dL_law_856 rfl (lv_at hl 3 rfl) ?_
  refine lv_iconst (v := (1 : Int32)) hx hb dL_law_857 (by decide) ?_
  refine lv_iadd hx hb dL_law_858 ?_
  refine va_sld hx hb hX hbl hbA hW.2.2 h_1 dL_law_859 ?_
  refine g_callVi (rest := [.int r]) hE hW (hW.af hA) hl.1 (mX9_leave hM h9) hM.o hM.obj rfl q1178 q1179 q1180 q10 q1181 hd_X9_leave ⟨(Nat.le_of_ble_eq_true rfl), (Nat.le_of_ble_eq_true rfl)⟩ ⟨rfl, rfl⟩ rfl (Nat.le_of_ble_eq_true rfl) dL_law_860 hcs (fun c2 H locs hP2 hz2 hW => ?_)
  have hK := hK.fr hP2.2 (by omega)
  have hM := hP2.1
  refine lv_icmp_eq (tgt := 1498) hx hb dL_law_863 (by decide) (fun _ => ?_) (fun kf => absurd rfl kf)
  exact hn K1 M1 J ad _ _ _ d0 cells slots ls ⟨hR1, hK, hM, hW, hd, by rw [ht]; exact hj1, by rw [ht]; exact hj2, by rw [ht]; exact hc1, by rw [ht]; exact hc2⟩ hl
set_option maxHeartbeats 4000000 in
set_option maxRecDepth 100000 in
theorem lc_poll {p : Program} {l : Launch} {e : Env} {s : State} {m : MethodId} {below : List Frame} {meth : Method} {cd : Code} {D : va_G} {ct : Nat → ClassId} {b L : Nat} {xs : Nat → Int32} {Rel : KS → MS → Prop} (hE0 : ME p s m cd #[Value.ref b] D ct cL_law RL 4) (hX0 : va_X b L xs s s.heap) (hbl : b < s.heap.size) (hs : S_poll Rel) {x3 : Int32} (h_1 : vp_in (x3 + (1 : Int32)) L) (hn : ∀ (K : KS) (M : MS) (J : List Nat) (ad : Nat → Nat) (c : CF) (H : Heap) (locs : List Loc) (d0 : Drawn) (cells slots : Nat) (ls : Array Slot), LI D ct s Rel K M J ad c H locs d0 cells slots → lv_has ls 4 [(0, .ref b), (1, .ref (ad 0)), (2, .ref (ad 160)), (3, .int x3)] → W p l e room_1 (s.setDrawn d0) m #[Value.ref b] below meth cd H locs cells slots (lw_Z below #[Value.ref b] s) (F0 m 1498 ls [])) {K : KS} {M : MS} {J : List Nat} {ad : Nat → Nat} {c : CF} {H : Heap} {locs : List Loc} {d0 : Drawn} {cells slots : Nat} {ls : Array Slot} (hi : LI D ct s Rel K M J ad c H locs d0 cells slots) (hl : lv_has ls 4 [(0, .ref b), (1, .ref (ad 0)), (2, .ref (ad 160)), (3, .int x3)]) : W p l e room_1 (s.setDrawn d0) m #[Value.ref b] below meth cd H locs cells slots (lw_Z below #[Value.ref b] s) (F0 m 868 ls []) := by
  obtain ⟨hRel, hK, hM, hW, hd, hj1, hj2, hc1, hc2⟩ := hi
  have hx := hE0.1
  have hb := hE0.2.1
  have hE := hE0.dr d0
  have hX : va_X b L xs (s.setDrawn d0) s.heap := hX0
  have hA : ∀ q : Nat, s.heap.size ≤ q → (fun q : Nat => s.heap.size ≤ q) q := fun _ h => h
  have hbA : ¬ (fun q : Nat => s.heap.size ≤ q) b := Nat.not_le.mpr hbl
  have hcs : cells ≤ room_1.cells ∧ slots ≤ room_1.slots := ⟨Nat.le_trans (show cells ≤ 300 by omega) (Nat.le_of_ble_eq_true rfl), Nat.le_trans (show slots ≤ 60000 by omega) (Nat.le_of_ble_eq_true rfl)⟩
  refine lv_aload_n hx hb dL_law_868 rfl (lv_at hl 1 rfl) ?_
  refine lv_aload_n hx hb dL_law_869 rfl (lv_at hl 0 rfl) ?_
  refine lv_iload_n hx hb dL_law_870 rfl (lv_at hl 3 rfl) ?_
  refine lv_iconst (v := (1 : Int32)) hx hb dL_law_871 (by decide) ?_
  refine lv_iadd hx hb dL_law_872 ?_
  refine va_sld hx hb hX hbl hbA hW.2.2 h_1 dL_law_873 ?_
  obtain ⟨r, K1, M1, h8, h9, hR1, ht⟩ := hs ((xs (x3 + (1 : Int32)).toNatClampNeg)) K M hRel
  refine g_callVi (rest := []) hE hW (hW.af hA) hl.1 (mX8_poll hK h8) hK.o hK.obj rfl q663 q664 q665 q1 q666 hd_X8_poll ⟨(Nat.le_of_ble_eq_true rfl), (Nat.le_of_ble_eq_true rfl)⟩ ⟨rfl, rfl⟩ rfl (Nat.le_of_ble_eq_true rfl) dL_law_874 hcs (fun c1 H locs hP hz1 hW => ?_)
  have hM := hM.fr hP.2 (by omega)
  have hK := hP.1
  refine lv_aload_n hx hb dL_law_877 rfl (lv_at hl 2 rfl) ?_
  refine lv_aload_n hx hb dL_law_878 rfl (lv_at hl 0 rfl) ?_
  refine lv_iload_n hx hb dL_law_879 rfl (lv_at hl 3 rfl) ?_
  refine lv_iconst (v := (1 : Int32)) hx hb dL_law_880 (by decide) ?_
  refine lv_iadd hx hb dL_law_881 ?_
  refine va_sld hx hb hX hbl hbA hW.2.2 h_1 dL_law_882 ?_
  refine g_callVi (rest := [.int r]) hE hW (hW.af hA) hl.1 (mX9_poll hM h9) hM.o hM.obj rfl q1182 q1183 q1184 q10 q1185 hd_X9_poll ⟨(Nat.le_of_ble_eq_true rfl), (Nat.le_of_ble_eq_true rfl)⟩ ⟨rfl, rfl⟩ rfl (Nat.le_of_ble_eq_true rfl) dL_law_883 hcs (fun c2 H locs hP2 hz2 hW => ?_)
  have hK := hK.fr hP2.2 (by omega)
  have hM := hP2.1
  refine lv_icmp_eq (tgt := 1498) hx hb dL_law_886 (by decide) (fun _ => ?_) (fun kf => absurd rfl kf)
  exact hn K1 M1 J ad _ _ _ d0 cells slots ls ⟨hR1, hK, hM, hW, hd, by rw [ht]; exact hj1, by rw [ht]; exact hj2, by rw [ht]; exact hc1, by rw [ht]; exact hc2⟩ hl
set_option maxHeartbeats 4000000 in
set_option maxRecDepth 100000 in
theorem lc_seek {p : Program} {l : Launch} {e : Env} {s : State} {m : MethodId} {below : List Frame} {meth : Method} {cd : Code} {D : va_G} {ct : Nat → ClassId} {b L : Nat} {xs : Nat → Int32} {Rel : KS → MS → Prop} (hE0 : ME p s m cd #[Value.ref b] D ct cL_law RL 4) (hX0 : va_X b L xs s s.heap) (hbl : b < s.heap.size) (hs : S_seek Rel) {x3 : Int32} (h_1 : vp_in (x3 + (1 : Int32)) L) (h_2 : vp_in (x3 + (2 : Int32)) L) (hn : ∀ (K : KS) (M : MS) (J : List Nat) (ad : Nat → Nat) (c : CF) (H : Heap) (locs : List Loc) (d0 : Drawn) (cells slots : Nat) (ls : Array Slot), LI D ct s Rel K M J ad c H locs d0 cells slots → lv_has ls 4 [(0, .ref b), (1, .ref (ad 0)), (2, .ref (ad 160)), (3, .int x3)] → W p l e room_1 (s.setDrawn d0) m #[Value.ref b] below meth cd H locs cells slots (lw_Z below #[Value.ref b] s) (F0 m 1498 ls [])) {K : KS} {M : MS} {J : List Nat} {ad : Nat → Nat} {c : CF} {H : Heap} {locs : List Loc} {d0 : Drawn} {cells slots : Nat} {ls : Array Slot} (hi : LI D ct s Rel K M J ad c H locs d0 cells slots) (hl : lv_has ls 4 [(0, .ref b), (1, .ref (ad 0)), (2, .ref (ad 160)), (3, .int x3)]) : W p l e room_1 (s.setDrawn d0) m #[Value.ref b] below meth cd H locs cells slots (lw_Z below #[Value.ref b] s) (F0 m 891 ls []) := by
  obtain ⟨hRel, hK, hM, hW, hd, hj1, hj2, hc1, hc2⟩ := hi
  have hx := hE0.1
  have hb := hE0.2.1
  have hE := hE0.dr d0
  have hX : va_X b L xs (s.setDrawn d0) s.heap := hX0
  have hA : ∀ q : Nat, s.heap.size ≤ q → (fun q : Nat => s.heap.size ≤ q) q := fun _ h => h
  have hbA : ¬ (fun q : Nat => s.heap.size ≤ q) b := Nat.not_le.mpr hbl
  have hcs : cells ≤ room_1.cells ∧ slots ≤ room_1.slots := ⟨Nat.le_trans (show cells ≤ 300 by omega) (Nat.le_of_ble_eq_true rfl), Nat.le_trans (show slots ≤ 60000 by omega) (Nat.le_of_ble_eq_true rfl)⟩
  refine lv_aload_n hx hb dL_law_891 rfl (lv_at hl 1 rfl) ?_
  refine lv_aload_n hx hb dL_law_892 rfl (lv_at hl 0 rfl) ?_
  refine lv_iload_n hx hb dL_law_893 rfl (lv_at hl 3 rfl) ?_
  refine lv_iconst (v := (1 : Int32)) hx hb dL_law_894 (by decide) ?_
  refine lv_iadd hx hb dL_law_895 ?_
  refine va_sld hx hb hX hbl hbA hW.2.2 h_1 dL_law_896 ?_
  refine lv_aload_n hx hb dL_law_897 rfl (lv_at hl 0 rfl) ?_
  refine lv_iload_n hx hb dL_law_898 rfl (lv_at hl 3 rfl) ?_
  refine lv_iconst (v := (2 : Int32)) hx hb dL_law_899 (by decide) ?_
  refine lv_iadd hx hb dL_law_900 ?_
  refine va_sld hx hb hX hbl hbA hW.2.2 h_2 dL_law_901 ?_
  obtain ⟨r, K1, M1, h8, h9, hR1, ht⟩ := hs ((xs (x3 + (1 : Int32)).toNatClampNeg)) ((xs (x3 + (2 : Int32)).toNatClampNeg)) K M hRel
  refine g_callVi (rest := []) hE hW (hW.af hA) hl.1 (mX8_seek hK h8) hK.o hK.obj rfl q672 q673 q674 q1 q675 hd_X8_seek ⟨(Nat.le_of_ble_eq_true rfl), (Nat.le_of_ble_eq_true rfl)⟩ ⟨rfl, rfl⟩ rfl (Nat.le_of_ble_eq_true rfl) dL_law_902 hcs (fun c1 H locs hP hz1 hW => ?_)
  have hM := hM.fr hP.2 (by omega)
  have hK := hP.1
  refine lv_aload_n hx hb dL_law_905 rfl (lv_at hl 2 rfl) ?_
  refine lv_aload_n hx hb dL_law_906 rfl (lv_at hl 0 rfl) ?_
  refine lv_iload_n hx hb dL_law_907 rfl (lv_at hl 3 rfl) ?_
  refine lv_iconst (v := (1 : Int32)) hx hb dL_law_908 (by decide) ?_
  refine lv_iadd hx hb dL_law_909 ?_
  refine va_sld hx hb hX hbl hbA hW.2.2 h_1 dL_law_910 ?_
  refine lv_aload_n hx hb dL_law_911 rfl (lv_at hl 0 rfl) ?_
  refine lv_iload_n hx hb dL_law_912 rfl (lv_at hl 3 rfl) ?_
  refine lv_iconst (v := (2 : Int32)) hx hb dL_law_913 (by decide) ?_
  refine lv_iadd hx hb dL_law_914 ?_
  refine va_sld hx hb hX hbl hbA hW.2.2 h_2 dL_law_915 ?_
  refine g_callVi (rest := [.int r]) hE hW (hW.af hA) hl.1 (mX9_seek hM h9) hM.o hM.obj rfl q1190 q1191 q1192 q10 q1193 hd_X9_seek ⟨(Nat.le_of_ble_eq_true rfl), (Nat.le_of_ble_eq_true rfl)⟩ ⟨rfl, rfl⟩ rfl (Nat.le_of_ble_eq_true rfl) dL_law_916 hcs (fun c2 H locs hP2 hz2 hW => ?_)
  have hK := hK.fr hP2.2 (by omega)
  have hM := hP2.1
  refine lv_icmp_eq (tgt := 1498) hx hb dL_law_919 (by decide) (fun _ => ?_) (fun kf => absurd rfl kf)
  exact hn K1 M1 J ad _ _ _ d0 cells slots ls ⟨hR1, hK, hM, hW, hd, by rw [ht]; exact hj1, by rw [ht]; exact hj2, by rw [ht]; exact hc1, by rw [ht]; exact hc2⟩ hl
set_option maxHeartbeats 4000000 in
set_option maxRecDepth 100000 in
theorem lc_member {p : Program} {l : Launch} {e : Env} {s : State} {m : MethodId} {below : List Frame} {meth : Method} {cd : Code} {D : va_G} {ct : Nat → ClassId} {b L : Nat} {xs : Nat → Int32} {Rel : KS → MS → Prop} (hE0 : ME p s m cd #[Value.ref b] D ct cL_law RL 4) (hX0 : va_X b L xs s s.heap) (hbl : b < s.heap.size) (hs : S_member Rel) {x3 : Int32} (h_1 : vp_in (x3 + (1 : Int32)) L) (h_2 : vp_in (x3 + (2 : Int32)) L) (hn : ∀ (K : KS) (M : MS) (J : List Nat) (ad : Nat → Nat) (c : CF) (H : Heap) (locs : List Loc) (d0 : Drawn) (cells slots : Nat) (ls : Array Slot), LI D ct s Rel K M J ad c H locs d0 cells slots → lv_has ls 4 [(0, .ref b), (1, .ref (ad 0)), (2, .ref (ad 160)), (3, .int x3)] → W p l e room_1 (s.setDrawn d0) m #[Value.ref b] below meth cd H locs cells slots (lw_Z below #[Value.ref b] s) (F0 m 1498 ls [])) {K : KS} {M : MS} {J : List Nat} {ad : Nat → Nat} {c : CF} {H : Heap} {locs : List Loc} {d0 : Drawn} {cells slots : Nat} {ls : Array Slot} (hi : LI D ct s Rel K M J ad c H locs d0 cells slots) (hl : lv_has ls 4 [(0, .ref b), (1, .ref (ad 0)), (2, .ref (ad 160)), (3, .int x3)]) : W p l e room_1 (s.setDrawn d0) m #[Value.ref b] below meth cd H locs cells slots (lw_Z below #[Value.ref b] s) (F0 m 924 ls []) := by
  obtain ⟨hRel, hK, hM, hW, hd, hj1, hj2, hc1, hc2⟩ := hi
  have hx := hE0.1
  have hb := hE0.2.1
  have hE := hE0.dr d0
  have hX : va_X b L xs (s.setDrawn d0) s.heap := hX0
  have hA : ∀ q : Nat, s.heap.size ≤ q → (fun q : Nat => s.heap.size ≤ q) q := fun _ h => h
  have hbA : ¬ (fun q : Nat => s.heap.size ≤ q) b := Nat.not_le.mpr hbl
  have hcs : cells ≤ room_1.cells ∧ slots ≤ room_1.slots := ⟨Nat.le_trans (show cells ≤ 300 by omega) (Nat.le_of_ble_eq_true rfl), Nat.le_trans (show slots ≤ 60000 by omega) (Nat.le_of_ble_eq_true rfl)⟩
  refine lv_aload_n hx hb dL_law_924 rfl (lv_at hl 1 rfl) ?_
  refine lv_aload_n hx hb dL_law_925 rfl (lv_at hl 0 rfl) ?_
  refine lv_iload_n hx hb dL_law_926 rfl (lv_at hl 3 rfl) ?_
  refine lv_iconst (v := (1 : Int32)) hx hb dL_law_927 (by decide) ?_
  refine lv_iadd hx hb dL_law_928 ?_
  refine va_sld hx hb hX hbl hbA hW.2.2 h_1 dL_law_929 ?_
  refine lv_aload_n hx hb dL_law_930 rfl (lv_at hl 0 rfl) ?_
  refine lv_iload_n hx hb dL_law_931 rfl (lv_at hl 3 rfl) ?_
  refine lv_iconst (v := (2 : Int32)) hx hb dL_law_932 (by decide) ?_
  refine lv_iadd hx hb dL_law_933 ?_
  refine va_sld hx hb hX hbl hbA hW.2.2 h_2 dL_law_934 ?_
  obtain ⟨r, h8, h9, hR1⟩ := hs ((xs (x3 + (1 : Int32)).toNatClampNeg)) ((xs (x3 + (2 : Int32)).toNatClampNeg)) K M hRel
  refine g_callVi (rest := []) hE hW (hW.af hA) hl.1 (mX8_member hK h8) hK.o hK.obj rfl q676 q677 q678 q1 q679 hd_X8_member ⟨(Nat.le_of_ble_eq_true rfl), (Nat.le_of_ble_eq_true rfl)⟩ ⟨rfl, rfl⟩ rfl (Nat.le_of_ble_eq_true rfl) dL_law_935 hcs (fun c1 H locs hP hz1 hW => ?_)
  rw [hP] at hW
  refine lv_aload_n hx hb dL_law_938 rfl (lv_at hl 2 rfl) ?_
  refine lv_aload_n hx hb dL_law_939 rfl (lv_at hl 0 rfl) ?_
  refine lv_iload_n hx hb dL_law_940 rfl (lv_at hl 3 rfl) ?_
  refine lv_iconst (v := (1 : Int32)) hx hb dL_law_941 (by decide) ?_
  refine lv_iadd hx hb dL_law_942 ?_
  refine va_sld hx hb hX hbl hbA hW.2.2 h_1 dL_law_943 ?_
  refine lv_aload_n hx hb dL_law_944 rfl (lv_at hl 0 rfl) ?_
  refine lv_iload_n hx hb dL_law_945 rfl (lv_at hl 3 rfl) ?_
  refine lv_iconst (v := (2 : Int32)) hx hb dL_law_946 (by decide) ?_
  refine lv_iadd hx hb dL_law_947 ?_
  refine va_sld hx hb hX hbl hbA hW.2.2 h_2 dL_law_948 ?_
  refine g_callVi (rest := [.int r]) hE hW (hW.af hA) hl.1 (mX9_member hM h9) hM.o hM.obj rfl q1194 q1195 q1196 q10 q1197 hd_X9_member ⟨(Nat.le_of_ble_eq_true rfl), (Nat.le_of_ble_eq_true rfl)⟩ ⟨rfl, rfl⟩ rfl (Nat.le_of_ble_eq_true rfl) dL_law_949 hcs (fun c2 H locs hP2 hz2 hW => ?_)
  rw [hP2] at hW
  refine lv_icmp_eq (tgt := 1498) hx hb dL_law_952 (by decide) (fun _ => ?_) (fun kf => absurd rfl kf)
  exact hn K M J ad _ _ _ d0 cells slots ls ⟨hR1, hK, hM, hW, hd, hj1, hj2, hc1, hc2⟩ hl
set_option maxHeartbeats 4000000 in
set_option maxRecDepth 100000 in
theorem lc_told {p : Program} {l : Launch} {e : Env} {s : State} {m : MethodId} {below : List Frame} {meth : Method} {cd : Code} {D : va_G} {ct : Nat → ClassId} {b L : Nat} {xs : Nat → Int32} {Rel : KS → MS → Prop} (hE0 : ME p s m cd #[Value.ref b] D ct cL_law RL 4) (hX0 : va_X b L xs s s.heap) (hbl : b < s.heap.size) (hs : S_told Rel) {x3 : Int32} (h_1 : vp_in (x3 + (1 : Int32)) L) (hn : ∀ (K : KS) (M : MS) (J : List Nat) (ad : Nat → Nat) (c : CF) (H : Heap) (locs : List Loc) (d0 : Drawn) (cells slots : Nat) (ls : Array Slot), LI D ct s Rel K M J ad c H locs d0 cells slots → lv_has ls 4 [(0, .ref b), (1, .ref (ad 0)), (2, .ref (ad 160)), (3, .int x3)] → W p l e room_1 (s.setDrawn d0) m #[Value.ref b] below meth cd H locs cells slots (lw_Z below #[Value.ref b] s) (F0 m 1498 ls [])) {K : KS} {M : MS} {J : List Nat} {ad : Nat → Nat} {c : CF} {H : Heap} {locs : List Loc} {d0 : Drawn} {cells slots : Nat} {ls : Array Slot} (hi : LI D ct s Rel K M J ad c H locs d0 cells slots) (hl : lv_has ls 4 [(0, .ref b), (1, .ref (ad 0)), (2, .ref (ad 160)), (3, .int x3)]) : W p l e room_1 (s.setDrawn d0) m #[Value.ref b] below meth cd H locs cells slots (lw_Z below #[Value.ref b] s) (F0 m 957 ls []) := by
  obtain ⟨hRel, hK, hM, hW, hd, hj1, hj2, hc1, hc2⟩ := hi
  have hx := hE0.1
  have hb := hE0.2.1
  have hE := hE0.dr d0
  have hX : va_X b L xs (s.setDrawn d0) s.heap := hX0
  have hA : ∀ q : Nat, s.heap.size ≤ q → (fun q : Nat => s.heap.size ≤ q) q := fun _ h => h
  have hbA : ¬ (fun q : Nat => s.heap.size ≤ q) b := Nat.not_le.mpr hbl
  have hcs : cells ≤ room_1.cells ∧ slots ≤ room_1.slots := ⟨Nat.le_trans (show cells ≤ 300 by omega) (Nat.le_of_ble_eq_true rfl), Nat.le_trans (show slots ≤ 60000 by omega) (Nat.le_of_ble_eq_true rfl)⟩
  refine lv_aload_n hx hb dL_law_957 rfl (lv_at hl 1 rfl) ?_
  refine lv_aload_n hx hb dL_law_958 rfl (lv_at hl 0 rfl) ?_
  refine lv_iload_n hx hb dL_law_959 rfl (lv_at hl 3 rfl) ?_
  refine lv_iconst (v := (1 : Int32)) hx hb dL_law_960 (by decide) ?_
  refine lv_iadd hx hb dL_law_961 ?_
  refine va_sld hx hb hX hbl hbA hW.2.2 h_1 dL_law_962 ?_
  obtain ⟨r, h8, h9, hR1⟩ := hs ((xs (x3 + (1 : Int32)).toNatClampNeg)) K M hRel
  refine g_callVi (rest := []) hE hW (hW.af hA) hl.1 (mX8_told hK h8) hK.o hK.obj rfl q686 q687 q688 q1 q689 hd_X8_told ⟨(Nat.le_of_ble_eq_true rfl), (Nat.le_of_ble_eq_true rfl)⟩ ⟨rfl, rfl⟩ rfl (Nat.le_of_ble_eq_true rfl) dL_law_963 hcs (fun c1 H locs hP hz1 hW => ?_)
  rw [hP] at hW
  refine lv_aload_n hx hb dL_law_966 rfl (lv_at hl 2 rfl) ?_
  refine lv_aload_n hx hb dL_law_967 rfl (lv_at hl 0 rfl) ?_
  refine lv_iload_n hx hb dL_law_968 rfl (lv_at hl 3 rfl) ?_
  refine lv_iconst (v := (1 : Int32)) hx hb dL_law_969 (by decide) ?_
  refine lv_iadd hx hb dL_law_970 ?_
  refine va_sld hx hb hX hbl hbA hW.2.2 h_1 dL_law_971 ?_
  refine g_callVi (rest := [.int r]) hE hW (hW.af hA) hl.1 (mX9_told hM h9) hM.o hM.obj rfl q1202 q1203 q1204 q10 q1205 hd_X9_told ⟨(Nat.le_of_ble_eq_true rfl), (Nat.le_of_ble_eq_true rfl)⟩ ⟨rfl, rfl⟩ rfl (Nat.le_of_ble_eq_true rfl) dL_law_972 hcs (fun c2 H locs hP2 hz2 hW => ?_)
  rw [hP2] at hW
  refine lv_icmp_eq (tgt := 1498) hx hb dL_law_975 (by decide) (fun _ => ?_) (fun kf => absurd rfl kf)
  exact hn K M J ad _ _ _ d0 cells slots ls ⟨hR1, hK, hM, hW, hd, hj1, hj2, hc1, hc2⟩ hl
set_option maxHeartbeats 4000000 in
set_option maxRecDepth 100000 in
theorem lc_odds {p : Program} {l : Launch} {e : Env} {s : State} {m : MethodId} {below : List Frame} {meth : Method} {cd : Code} {D : va_G} {ct : Nat → ClassId} {b L : Nat} {xs : Nat → Int32} {Rel : KS → MS → Prop} (hE0 : ME p s m cd #[Value.ref b] D ct cL_law RL 4) (hX0 : va_X b L xs s s.heap) (hbl : b < s.heap.size) (hs : S_odds Rel) {x3 : Int32} (h_1 : vp_in (x3 + (1 : Int32)) L) (h_2 : vp_in (x3 + (2 : Int32)) L) (hn : ∀ (K : KS) (M : MS) (J : List Nat) (ad : Nat → Nat) (c : CF) (H : Heap) (locs : List Loc) (d0 : Drawn) (cells slots : Nat) (ls : Array Slot), LI D ct s Rel K M J ad c H locs d0 cells slots → lv_has ls 4 [(0, .ref b), (1, .ref (ad 0)), (2, .ref (ad 160)), (3, .int x3)] → W p l e room_1 (s.setDrawn d0) m #[Value.ref b] below meth cd H locs cells slots (lw_Z below #[Value.ref b] s) (F0 m 1498 ls [])) {K : KS} {M : MS} {J : List Nat} {ad : Nat → Nat} {c : CF} {H : Heap} {locs : List Loc} {d0 : Drawn} {cells slots : Nat} {ls : Array Slot} (hi : LI D ct s Rel K M J ad c H locs d0 cells slots) (hl : lv_has ls 4 [(0, .ref b), (1, .ref (ad 0)), (2, .ref (ad 160)), (3, .int x3)]) : W p l e room_1 (s.setDrawn d0) m #[Value.ref b] below meth cd H locs cells slots (lw_Z below #[Value.ref b] s) (F0 m 980 ls []) := by
  obtain ⟨hRel, hK, hM, hW, hd, hj1, hj2, hc1, hc2⟩ := hi
  have hx := hE0.1
  have hb := hE0.2.1
  have hE := hE0.dr d0
  have hX : va_X b L xs (s.setDrawn d0) s.heap := hX0
  have hA : ∀ q : Nat, s.heap.size ≤ q → (fun q : Nat => s.heap.size ≤ q) q := fun _ h => h
  have hbA : ¬ (fun q : Nat => s.heap.size ≤ q) b := Nat.not_le.mpr hbl
  have hcs : cells ≤ room_1.cells ∧ slots ≤ room_1.slots := ⟨Nat.le_trans (show cells ≤ 300 by omega) (Nat.le_of_ble_eq_true rfl), Nat.le_trans (show slots ≤ 60000 by omega) (Nat.le_of_ble_eq_true rfl)⟩
  refine lv_aload_n hx hb dL_law_980 rfl (lv_at hl 1 rfl) ?_
  refine lv_aload_n hx hb dL_law_981 rfl (lv_at hl 0 rfl) ?_
  refine lv_iload_n hx hb dL_law_982 rfl (lv_at hl 3 rfl) ?_
  refine lv_iconst (v := (1 : Int32)) hx hb dL_law_983 (by decide) ?_
  refine lv_iadd hx hb dL_law_984 ?_
  refine va_sld hx hb hX hbl hbA hW.2.2 h_1 dL_law_985 ?_
  refine lv_aload_n hx hb dL_law_986 rfl (lv_at hl 0 rfl) ?_
  refine lv_iload_n hx hb dL_law_987 rfl (lv_at hl 3 rfl) ?_
  refine lv_iconst (v := (2 : Int32)) hx hb dL_law_988 (by decide) ?_
  refine lv_iadd hx hb dL_law_989 ?_
  refine va_sld hx hb hX hbl hbA hW.2.2 h_2 dL_law_990 ?_
  obtain ⟨r, M1, h8, h9, hR1⟩ := hs ((xs (x3 + (1 : Int32)).toNatClampNeg)) ((xs (x3 + (2 : Int32)).toNatClampNeg)) K M hRel
  refine g_callVl (rest := []) hE hW (hW.af hA) hl.1 (mX8_odds hK h8) hK.o hK.obj rfl q691 q692 q693 q1 q694 hd_X8_odds ⟨(Nat.le_of_ble_eq_true rfl), (Nat.le_of_ble_eq_true rfl)⟩ ⟨rfl, rfl⟩ rfl (Nat.le_of_ble_eq_true rfl) dL_law_991 hcs (fun c1 H locs hP hz1 hW => ?_)
  rw [hP] at hW
  refine lv_aload_n hx hb dL_law_994 rfl (lv_at hl 2 rfl) ?_
  refine lv_aload_n hx hb dL_law_995 rfl (lv_at hl 0 rfl) ?_
  refine lv_iload_n hx hb dL_law_996 rfl (lv_at hl 3 rfl) ?_
  refine lv_iconst (v := (1 : Int32)) hx hb dL_law_997 (by decide) ?_
  refine lv_iadd hx hb dL_law_998 ?_
  refine va_sld hx hb hX hbl hbA hW.2.2 h_1 dL_law_999 ?_
  refine lv_aload_n hx hb dL_law_1000 rfl (lv_at hl 0 rfl) ?_
  refine lv_iload_n hx hb dL_law_1001 rfl (lv_at hl 3 rfl) ?_
  refine lv_iconst (v := (2 : Int32)) hx hb dL_law_1002 (by decide) ?_
  refine lv_iadd hx hb dL_law_1003 ?_
  refine va_sld hx hb hX hbl hbA hW.2.2 h_2 dL_law_1004 ?_
  refine g_callVl (rest := [.long r]) hE hW (hW.af hA) hl.1 (mX9_odds hM h9) hM.o hM.obj rfl q1206 q1207 q1208 q10 q1209 hd_X9_odds ⟨(Nat.le_of_ble_eq_true rfl), (Nat.le_of_ble_eq_true rfl)⟩ ⟨rfl, rfl⟩ rfl (Nat.le_of_ble_eq_true rfl) dL_law_1005 hcs (fun c2 H locs hP2 hz2 hW => ?_)
  have hK := hK.fr hP2.2 (by omega)
  have hM := hP2.1
  refine W.lcmp hx hb dL_law_1008 ?_
  rw [lg_same]
  refine lv_if_eq (tgt := 1498) hx hb dL_law_1009 (by decide) (fun _ => ?_) (fun kf => absurd rfl kf)
  exact hn K M1 J ad _ _ _ d0 cells slots ls ⟨hR1, hK, hM, hW, hd, hj1, hj2, hc1, hc2⟩ hl
set_option maxHeartbeats 4000000 in
set_option maxRecDepth 100000 in
theorem lc_plan {p : Program} {l : Launch} {e : Env} {s : State} {m : MethodId} {below : List Frame} {meth : Method} {cd : Code} {D : va_G} {ct : Nat → ClassId} {b L : Nat} {xs : Nat → Int32} {Rel : KS → MS → Prop} (hE0 : ME p s m cd #[Value.ref b] D ct cL_law RL 4) (hX0 : va_X b L xs s s.heap) (hbl : b < s.heap.size) (hs : S_plan Rel) {x3 : Int32} (h_1 : vp_in (x3 + (1 : Int32)) L) (h_2 : vp_in (x3 + (2 : Int32)) L) (hn : ∀ (K : KS) (M : MS) (J : List Nat) (ad : Nat → Nat) (c : CF) (H : Heap) (locs : List Loc) (d0 : Drawn) (cells slots : Nat) (ls : Array Slot), LI D ct s Rel K M J ad c H locs d0 cells slots → lv_has ls 4 [(0, .ref b), (1, .ref (ad 0)), (2, .ref (ad 160)), (3, .int x3)] → W p l e room_1 (s.setDrawn d0) m #[Value.ref b] below meth cd H locs cells slots (lw_Z below #[Value.ref b] s) (F0 m 1498 ls [])) {K : KS} {M : MS} {J : List Nat} {ad : Nat → Nat} {c : CF} {H : Heap} {locs : List Loc} {d0 : Drawn} {cells slots : Nat} {ls : Array Slot} (hi : LI D ct s Rel K M J ad c H locs d0 cells slots) (hl : lv_has ls 4 [(0, .ref b), (1, .ref (ad 0)), (2, .ref (ad 160)), (3, .int x3)]) : W p l e room_1 (s.setDrawn d0) m #[Value.ref b] below meth cd H locs cells slots (lw_Z below #[Value.ref b] s) (F0 m 1014 ls []) := by
  obtain ⟨hRel, hK, hM, hW, hd, hj1, hj2, hc1, hc2⟩ := hi
  have hx := hE0.1
  have hb := hE0.2.1
  have hE := hE0.dr d0
  have hX : va_X b L xs (s.setDrawn d0) s.heap := hX0
  have hA : ∀ q : Nat, s.heap.size ≤ q → (fun q : Nat => s.heap.size ≤ q) q := fun _ h => h
  have hbA : ¬ (fun q : Nat => s.heap.size ≤ q) b := Nat.not_le.mpr hbl
  have hcs : cells ≤ room_1.cells ∧ slots ≤ room_1.slots := ⟨Nat.le_trans (show cells ≤ 300 by omega) (Nat.le_of_ble_eq_true rfl), Nat.le_trans (show slots ≤ 60000 by omega) (Nat.le_of_ble_eq_true rfl)⟩
  refine lv_aload_n hx hb dL_law_1014 rfl (lv_at hl 1 rfl) ?_
  refine lv_aload_n hx hb dL_law_1015 rfl (lv_at hl 0 rfl) ?_
  refine lv_iload_n hx hb dL_law_1016 rfl (lv_at hl 3 rfl) ?_
  refine lv_iconst (v := (1 : Int32)) hx hb dL_law_1017 (by decide) ?_
  refine lv_iadd hx hb dL_law_1018 ?_
  refine va_sld hx hb hX hbl hbA hW.2.2 h_1 dL_law_1019 ?_
  refine lv_aload_n hx hb dL_law_1020 rfl (lv_at hl 0 rfl) ?_
  refine lv_iload_n hx hb dL_law_1021 rfl (lv_at hl 3 rfl) ?_
  refine lv_iconst (v := (2 : Int32)) hx hb dL_law_1022 (by decide) ?_
  refine lv_iadd hx hb dL_law_1023 ?_
  refine va_sld hx hb hX hbl hbA hW.2.2 h_2 dL_law_1024 ?_
  obtain ⟨r, K1, M1, h8, h9, hR1, ht⟩ := hs ((xs (x3 + (1 : Int32)).toNatClampNeg)) ((xs (x3 + (2 : Int32)).toNatClampNeg)) K M hRel
  refine g_callVi (rest := []) hE hW (hW.af hA) hl.1 (mX8_plan hK h8) hK.o hK.obj rfl q703 q704 q705 q1 q706 hd_X8_plan ⟨(Nat.le_of_ble_eq_true rfl), (Nat.le_of_ble_eq_true rfl)⟩ ⟨rfl, rfl⟩ rfl (Nat.le_of_ble_eq_true rfl) dL_law_1025 hcs (fun c1 H locs hP hz1 hW => ?_)
  have hM := hM.fr hP.2 (by omega)
  have hK := hP.1
  refine lv_aload_n hx hb dL_law_1028 rfl (lv_at hl 2 rfl) ?_
  refine lv_aload_n hx hb dL_law_1029 rfl (lv_at hl 0 rfl) ?_
  refine lv_iload_n hx hb dL_law_1030 rfl (lv_at hl 3 rfl) ?_
  refine lv_iconst (v := (1 : Int32)) hx hb dL_law_1031 (by decide) ?_
  refine lv_iadd hx hb dL_law_1032 ?_
  refine va_sld hx hb hX hbl hbA hW.2.2 h_1 dL_law_1033 ?_
  refine lv_aload_n hx hb dL_law_1034 rfl (lv_at hl 0 rfl) ?_
  refine lv_iload_n hx hb dL_law_1035 rfl (lv_at hl 3 rfl) ?_
  refine lv_iconst (v := (2 : Int32)) hx hb dL_law_1036 (by decide) ?_
  refine lv_iadd hx hb dL_law_1037 ?_
  refine va_sld hx hb hX hbl hbA hW.2.2 h_2 dL_law_1038 ?_
  refine g_callVi (rest := [.int r]) hE hW (hW.af hA) hl.1 (mX9_plan hM h9) hM.o hM.obj rfl q1213 q1214 q1215 q10 q1216 hd_X9_plan ⟨(Nat.le_of_ble_eq_true rfl), (Nat.le_of_ble_eq_true rfl)⟩ ⟨rfl, rfl⟩ rfl (Nat.le_of_ble_eq_true rfl) dL_law_1039 hcs (fun c2 H locs hP2 hz2 hW => ?_)
  have hK := hK.fr hP2.2 (by omega)
  have hM := hP2.1
  refine lv_icmp_eq (tgt := 1498) hx hb dL_law_1042 (by decide) (fun _ => ?_) (fun kf => absurd rfl kf)
  exact hn K1 M1 J ad _ _ _ d0 cells slots ls ⟨hR1, hK, hM, hW, hd, by rw [ht]; exact hj1, by rw [ht]; exact hj2, by rw [ht]; exact hc1, by rw [ht]; exact hc2⟩ hl
set_option maxHeartbeats 4000000 in
set_option maxRecDepth 100000 in
theorem lc_ends {p : Program} {l : Launch} {e : Env} {s : State} {m : MethodId} {below : List Frame} {meth : Method} {cd : Code} {D : va_G} {ct : Nat → ClassId} {b L : Nat} {xs : Nat → Int32} {Rel : KS → MS → Prop} (hE0 : ME p s m cd #[Value.ref b] D ct cL_law RL 4) (hX0 : va_X b L xs s s.heap) (hbl : b < s.heap.size) (hs : S_ends Rel) {x3 : Int32} (h_1 : vp_in (x3 + (1 : Int32)) L) (hn : ∀ (K : KS) (M : MS) (J : List Nat) (ad : Nat → Nat) (c : CF) (H : Heap) (locs : List Loc) (d0 : Drawn) (cells slots : Nat) (ls : Array Slot), LI D ct s Rel K M J ad c H locs d0 cells slots → lv_has ls 4 [(0, .ref b), (1, .ref (ad 0)), (2, .ref (ad 160)), (3, .int x3)] → W p l e room_1 (s.setDrawn d0) m #[Value.ref b] below meth cd H locs cells slots (lw_Z below #[Value.ref b] s) (F0 m 1498 ls [])) {K : KS} {M : MS} {J : List Nat} {ad : Nat → Nat} {c : CF} {H : Heap} {locs : List Loc} {d0 : Drawn} {cells slots : Nat} {ls : Array Slot} (hi : LI D ct s Rel K M J ad c H locs d0 cells slots) (hl : lv_has ls 4 [(0, .ref b), (1, .ref (ad 0)), (2, .ref (ad 160)), (3, .int x3)]) : W p l e room_1 (s.setDrawn d0) m #[Value.ref b] below meth cd H locs cells slots (lw_Z below #[Value.ref b] s) (F0 m 1047 ls []) := by
  obtain ⟨hRel, hK, hM, hW, hd, hj1, hj2, hc1, hc2⟩ := hi
  have hx := hE0.1
  have hb := hE0.2.1
  have hE := hE0.dr d0
  have hX : va_X b L xs (s.setDrawn d0) s.heap := hX0
  have hA : ∀ q : Nat, s.heap.size ≤ q → (fun q : Nat => s.heap.size ≤ q) q := fun _ h => h
  have hbA : ¬ (fun q : Nat => s.heap.size ≤ q) b := Nat.not_le.mpr hbl
  have hcs : cells ≤ room_1.cells ∧ slots ≤ room_1.slots := ⟨Nat.le_trans (show cells ≤ 300 by omega) (Nat.le_of_ble_eq_true rfl), Nat.le_trans (show slots ≤ 60000 by omega) (Nat.le_of_ble_eq_true rfl)⟩
  obtain ⟨r, K1, M1, h8, h9, hR1⟩ := hs ((xs (x3 + (1 : Int32)).toNatClampNeg)) K M hRel
  refine lv_aload_n hx hb dL_law_1047 rfl (lv_at hl 1 rfl) ?_
  refine lv_aload_n hx hb dL_law_1048 rfl (lv_at hl 0 rfl) ?_
  refine lv_iload_n hx hb dL_law_1049 rfl (lv_at hl 3 rfl) ?_
  refine lv_iconst (v := (1 : Int32)) hx hb dL_law_1050 (by decide) ?_
  refine lv_iadd hx hb dL_law_1051 ?_
  refine va_sld hx hb hX hbl hbA hW.2.2 h_1 dL_law_1052 ?_
  by_cases hbad : (xs (x3 + (1 : Int32)).toNatClampNeg) < 0 ∨ ¬ (xs (x3 + (1 : Int32)).toNatClampNeg) ≤ (1 : Int32)
  · have h8b : fX8_ends ((xs (x3 + (1 : Int32)).toNatClampNeg)) K = some ((-1 : Int32), K) := by
      unfold fX8_ends
      rcases hbad with h | h
      · rw [if_pos h]
      · by_cases h0 : (xs (x3 + (1 : Int32)).toNatClampNeg) < 0
        · rw [if_pos h0]
        · rw [if_neg h0, if_neg h]
    obtain ⟨rfl, rfl⟩ := Prod.mk.inj (Option.some.inj (h8b.symm.trans h8))
    refine g_callVi (rest := []) hE hW (hW.af hA) hl.1 (mX8_ends_bad hK hbad) hK.o hK.obj rfl q715 q716 q717 q1 q718 hd_X8_ends ⟨(Nat.le_of_ble_eq_true rfl), (Nat.le_of_ble_eq_true rfl)⟩ ⟨rfl, rfl⟩ rfl (Nat.le_of_ble_eq_true rfl) dL_law_1053 hcs (fun c1 H locs hP hz1 hW => ?_)
    rw [hP] at hW
    refine lv_aload_n hx hb dL_law_1056 rfl (lv_at hl 2 rfl) ?_
    refine lv_aload_n hx hb dL_law_1057 rfl (lv_at hl 0 rfl) ?_
    refine lv_iload_n hx hb dL_law_1058 rfl (lv_at hl 3 rfl) ?_
    refine lv_iconst (v := (1 : Int32)) hx hb dL_law_1059 (by decide) ?_
    refine lv_iadd hx hb dL_law_1060 ?_
    refine va_sld hx hb hX hbl hbA hW.2.2 h_1 dL_law_1061 ?_
    refine g_callVi (rest := [.int (-1 : Int32)]) hE hW (hW.af hA) hl.1 (mX9_ends hM h9) hM.o hM.obj rfl q1217 q1218 q1219 q10 q1220 hd_X9_ends ⟨(Nat.le_of_ble_eq_true rfl), (Nat.le_of_ble_eq_true rfl)⟩ ⟨rfl, rfl⟩ rfl (Nat.le_of_ble_eq_true rfl) dL_law_1062 hcs (fun c2 H locs hP2 hz2 hW => ?_)
    have hK := hK.fr hP2.2 (by omega)
    have hM := hP2.1
    refine lv_icmp_eq (tgt := 1498) hx hb dL_law_1065 (by decide) (fun _ => ?_) (fun kf => absurd rfl kf)
    exact hn K M1 J ad _ _ _ d0 cells slots ls ⟨hR1, hK, hM, hW, hd, hj1, hj2, hc1, hc2⟩ hl
  have hb1 : ¬ (xs (x3 + (1 : Int32)).toNatClampNeg) < 0 := fun h => hbad (Or.inl h)
  have hb2 : (xs (x3 + (1 : Int32)).toNatClampNeg) ≤ (1 : Int32) := Decidable.byContradiction fun h => hbad (Or.inr h)
  obtain ⟨S9, hK9⟩ : ∃ S : SS, K1 = kTr K (some S) := by
    unfold fX8_ends at h8
    rw [if_neg hb1, if_pos hb2] at h8
    obtain ⟨S, -, h8⟩ := zb_e h8
    obtain ⟨S2, -, h8⟩ := zb_e h8
    by_cases k3 : (xs (x3 + (1 : Int32)).toNatClampNeg) = 0
    · rw [if_pos k3] at h8
      obtain ⟨r2, -, h8⟩ := zb_e h8
      exact ⟨S2, (Prod.mk.inj (Option.some.inj h8)).2.symm⟩
    · rw [if_neg k3] at h8
      exact ⟨S2, (Prod.mk.inj (Option.some.inj h8)).2.symm⟩
  have hs1 : K1.2.2.2.2.2 = some S9 := by rw [hK9]; rfl
  have hs2 : K1.2.2.2.2.1 = K.2.2.2.2.1 := by rw [hK9]; rfl
  rcases ho : K.2.2.2.2.2 with _ | S
  · obtain ⟨ad2, had1, had2⟩ : ∃ ad2 : Nat → Nat, (∀ i, i ∈ J → ad2 i = ad i) ∧ ∀ k, 91 ≤ k → k ≤ 135 → ad2 (0 + k) = H.size + (k - 91) := ⟨fun i => if 91 ≤ i ∧ i ≤ 135 then H.size + (i - 91) else ad i, fun i hi => if_neg (fun h => hj2 ho i h.1 h.2 (by rw [Nat.zero_add]; exact hi)), fun k h1 h2 => by rw [Nat.zero_add]; exact if_pos ⟨h1, h2⟩⟩
    have hW := hW.adm had1
    have hK := hK.adm had1
    have hM := hM.adm had1
    have e0 : ad 0 = ad2 0 := (had1 0 hK.o).symm
    have e1 : ad 160 = ad2 160 := (had1 160 hM.o).symm
    rw [e0, e1] at hl
    rw [e0]
    refine g_callX (rest := []) (mc := 45) (ms := 5019) hE hW (hW.af hA) hl.1 (mX8_ends_none hK ho (hj2 ho) had2 h8 hb1 hb2) hK.o hK.obj rfl q715 q716 q717 q1 q718 hd_X8_ends ⟨(Nat.le_of_ble_eq_true rfl), (Nat.le_of_ble_eq_true rfl)⟩ ⟨rfl, rfl⟩ rfl (Nat.le_of_ble_eq_true rfl) dL_law_1053 ⟨Nat.le_trans (show cells + 45 ≤ 300 by rw [ho] at hc1; simp at hc1; omega) (Nat.le_of_ble_eq_true rfl), Nat.le_trans (show slots + 5019 ≤ 60000 by rw [ho] at hc2; simp at hc2; omega) (Nat.le_of_ble_eq_true rfl)⟩ (fun J2 c1 H locs hP hz1 hW => ?_)
    obtain ⟨hJ2, hK1, hF1⟩ := hP
    have hM := (hM.fr hF1 (by omega)).mono (fun i hi => (hJ2 i).mpr (Or.inl hi))
    have hK := hK1
    have hcs : cells + 45 ≤ room_1.cells ∧ slots + 5019 ≤ room_1.slots := ⟨Nat.le_trans (show cells + 45 ≤ 300 by rw [ho] at hc1; simp at hc1; omega) (Nat.le_of_ble_eq_true rfl), Nat.le_trans (show slots + 5019 ≤ 60000 by rw [ho] at hc2; simp at hc2; omega) (Nat.le_of_ble_eq_true rfl)⟩
    refine lv_aload_n hx hb dL_law_1056 rfl (lv_at hl 2 rfl) ?_
    refine lv_aload_n hx hb dL_law_1057 rfl (lv_at hl 0 rfl) ?_
    refine lv_iload_n hx hb dL_law_1058 rfl (lv_at hl 3 rfl) ?_
    refine lv_iconst (v := (1 : Int32)) hx hb dL_law_1059 (by decide) ?_
    refine lv_iadd hx hb dL_law_1060 ?_
    refine va_sld hx hb hX hbl hbA hW.2.2 h_1 dL_law_1061 ?_
    refine g_callVi (rest := [.int r]) hE hW (hW.af hA) hl.1 (mX9_ends hM h9) hM.o hM.obj rfl q1217 q1218 q1219 q10 q1220 hd_X9_ends ⟨(Nat.le_of_ble_eq_true rfl), (Nat.le_of_ble_eq_true rfl)⟩ ⟨rfl, rfl⟩ rfl (Nat.le_of_ble_eq_true rfl) dL_law_1062 hcs (fun c2 H locs hP2 hz2 hW => ?_)
    have hK := hK.fr hP2.2 (by omega)
    have hM := hP2.1
    refine lv_icmp_eq (tgt := 1498) hx hb dL_law_1065 (by decide) (fun _ => ?_) (fun kf => absurd rfl kf)
    exact hn K1 M1 J2 ad2 _ _ _ d0 (cells + 45) (slots + 5019) ls ⟨hR1, hK, hM, hW, hd, fun h k h1 h2 hh => ((hJ2 _).mp hh).elim (hj1 (hs2 ▸ h) k h1 h2) (fun q => by omega), fun h => absurd (hs1.symm.trans h) (fun q => by cases q), by rw [ho] at hc1; rw [hs1, hs2]; simp at hc1 ⊢; omega, by rw [ho] at hc2; rw [hs1, hs2]; simp at hc2 ⊢; omega⟩ hl
  · refine g_callVi (rest := []) hE hW (hW.af hA) hl.1 (mX8_ends_some hK ho h8) hK.o hK.obj rfl q715 q716 q717 q1 q718 hd_X8_ends ⟨(Nat.le_of_ble_eq_true rfl), (Nat.le_of_ble_eq_true rfl)⟩ ⟨rfl, rfl⟩ rfl (Nat.le_of_ble_eq_true rfl) dL_law_1053 hcs (fun c1 H locs hP hz1 hW => ?_)
    have hM := hM.fr hP.2 (by omega)
    have hK := hP.1
    refine lv_aload_n hx hb dL_law_1056 rfl (lv_at hl 2 rfl) ?_
    refine lv_aload_n hx hb dL_law_1057 rfl (lv_at hl 0 rfl) ?_
    refine lv_iload_n hx hb dL_law_1058 rfl (lv_at hl 3 rfl) ?_
    refine lv_iconst (v := (1 : Int32)) hx hb dL_law_1059 (by decide) ?_
    refine lv_iadd hx hb dL_law_1060 ?_
    refine va_sld hx hb hX hbl hbA hW.2.2 h_1 dL_law_1061 ?_
    refine g_callVi (rest := [.int r]) hE hW (hW.af hA) hl.1 (mX9_ends hM h9) hM.o hM.obj rfl q1217 q1218 q1219 q10 q1220 hd_X9_ends ⟨(Nat.le_of_ble_eq_true rfl), (Nat.le_of_ble_eq_true rfl)⟩ ⟨rfl, rfl⟩ rfl (Nat.le_of_ble_eq_true rfl) dL_law_1062 hcs (fun c2 H locs hP2 hz2 hW => ?_)
    have hK := hK.fr hP2.2 (by omega)
    have hM := hP2.1
    refine lv_icmp_eq (tgt := 1498) hx hb dL_law_1065 (by decide) (fun _ => ?_) (fun kf => absurd rfl kf)
    exact hn K1 M1 J ad _ _ _ d0 cells slots ls ⟨hR1, hK, hM, hW, hd, fun h => hj1 (hs2 ▸ h), fun h => absurd (hs1.symm.trans h) (fun q => by cases q), by rw [ho] at hc1; rw [hs1, hs2]; simp at hc1 ⊢; omega, by rw [ho] at hc2; rw [hs1, hs2]; simp at hc2 ⊢; omega⟩ hl
set_option maxHeartbeats 4000000 in
set_option maxRecDepth 100000 in
theorem lc_book {p : Program} {l : Launch} {e : Env} {s : State} {m : MethodId} {below : List Frame} {meth : Method} {cd : Code} {D : va_G} {ct : Nat → ClassId} {b L : Nat} {xs : Nat → Int32} {Rel : KS → MS → Prop} (hE0 : ME p s m cd #[Value.ref b] D ct cL_law RL 4) (hX0 : va_X b L xs s s.heap) (hbl : b < s.heap.size) (hs : S_book Rel) {x3 : Int32} (h_1 : vp_in (x3 + (1 : Int32)) L) (h_2 : vp_in (x3 + (2 : Int32)) L) (hn : ∀ (K : KS) (M : MS) (J : List Nat) (ad : Nat → Nat) (c : CF) (H : Heap) (locs : List Loc) (d0 : Drawn) (cells slots : Nat) (ls : Array Slot), LI D ct s Rel K M J ad c H locs d0 cells slots → lv_has ls 4 [(0, .ref b), (1, .ref (ad 0)), (2, .ref (ad 160)), (3, .int x3)] → W p l e room_1 (s.setDrawn d0) m #[Value.ref b] below meth cd H locs cells slots (lw_Z below #[Value.ref b] s) (F0 m 1498 ls [])) {K : KS} {M : MS} {J : List Nat} {ad : Nat → Nat} {c : CF} {H : Heap} {locs : List Loc} {d0 : Drawn} {cells slots : Nat} {ls : Array Slot} (hi : LI D ct s Rel K M J ad c H locs d0 cells slots) (hl : lv_has ls 4 [(0, .ref b), (1, .ref (ad 0)), (2, .ref (ad 160)), (3, .int x3)]) : W p l e room_1 (s.setDrawn d0) m #[Value.ref b] below meth cd H locs cells slots (lw_Z below #[Value.ref b] s) (F0 m 1070 ls []) := by
  obtain ⟨hRel, hK, hM, hW, hd, hj1, hj2, hc1, hc2⟩ := hi
  have hx := hE0.1
  have hb := hE0.2.1
  have hE := hE0.dr d0
  have hX : va_X b L xs (s.setDrawn d0) s.heap := hX0
  have hA : ∀ q : Nat, s.heap.size ≤ q → (fun q : Nat => s.heap.size ≤ q) q := fun _ h => h
  have hbA : ¬ (fun q : Nat => s.heap.size ≤ q) b := Nat.not_le.mpr hbl
  have hcs : cells ≤ room_1.cells ∧ slots ≤ room_1.slots := ⟨Nat.le_trans (show cells ≤ 300 by omega) (Nat.le_of_ble_eq_true rfl), Nat.le_trans (show slots ≤ 60000 by omega) (Nat.le_of_ble_eq_true rfl)⟩
  refine lv_aload_n hx hb dL_law_1070 rfl (lv_at hl 1 rfl) ?_
  refine lv_aload_n hx hb dL_law_1071 rfl (lv_at hl 0 rfl) ?_
  refine lv_iload_n hx hb dL_law_1072 rfl (lv_at hl 3 rfl) ?_
  refine lv_iconst (v := (1 : Int32)) hx hb dL_law_1073 (by decide) ?_
  refine lv_iadd hx hb dL_law_1074 ?_
  refine va_sld hx hb hX hbl hbA hW.2.2 h_1 dL_law_1075 ?_
  refine lv_aload_n hx hb dL_law_1076 rfl (lv_at hl 0 rfl) ?_
  refine lv_iload_n hx hb dL_law_1077 rfl (lv_at hl 3 rfl) ?_
  refine lv_iconst (v := (2 : Int32)) hx hb dL_law_1078 (by decide) ?_
  refine lv_iadd hx hb dL_law_1079 ?_
  refine va_sld hx hb hX hbl hbA hW.2.2 h_2 dL_law_1080 ?_
  obtain ⟨r, K1, M1, h8, h9, hR1, ht⟩ := hs ((xs (x3 + (1 : Int32)).toNatClampNeg)) ((xs (x3 + (2 : Int32)).toNatClampNeg)) K M hRel
  refine g_callVi (rest := []) hE hW (hW.af hA) hl.1 (mX8_book hK h8) hK.o hK.obj rfl q754 q755 q756 q1 q757 hd_X8_book ⟨(Nat.le_of_ble_eq_true rfl), (Nat.le_of_ble_eq_true rfl)⟩ ⟨rfl, rfl⟩ rfl (Nat.le_of_ble_eq_true rfl) dL_law_1081 hcs (fun c1 H locs hP hz1 hW => ?_)
  have hM := hM.fr hP.2 (by omega)
  have hK := hP.1
  refine lv_aload_n hx hb dL_law_1084 rfl (lv_at hl 2 rfl) ?_
  refine lv_aload_n hx hb dL_law_1085 rfl (lv_at hl 0 rfl) ?_
  refine lv_iload_n hx hb dL_law_1086 rfl (lv_at hl 3 rfl) ?_
  refine lv_iconst (v := (1 : Int32)) hx hb dL_law_1087 (by decide) ?_
  refine lv_iadd hx hb dL_law_1088 ?_
  refine va_sld hx hb hX hbl hbA hW.2.2 h_1 dL_law_1089 ?_
  refine lv_aload_n hx hb dL_law_1090 rfl (lv_at hl 0 rfl) ?_
  refine lv_iload_n hx hb dL_law_1091 rfl (lv_at hl 3 rfl) ?_
  refine lv_iconst (v := (2 : Int32)) hx hb dL_law_1092 (by decide) ?_
  refine lv_iadd hx hb dL_law_1093 ?_
  refine va_sld hx hb hX hbl hbA hW.2.2 h_2 dL_law_1094 ?_
  refine g_callVi (rest := [.int r]) hE hW (hW.af hA) hl.1 (mX9_book hM h9) hM.o hM.obj rfl q1229 q1230 q1231 q10 q1232 hd_X9_book ⟨(Nat.le_of_ble_eq_true rfl), (Nat.le_of_ble_eq_true rfl)⟩ ⟨rfl, rfl⟩ rfl (Nat.le_of_ble_eq_true rfl) dL_law_1095 hcs (fun c2 H locs hP2 hz2 hW => ?_)
  have hK := hK.fr hP2.2 (by omega)
  have hM := hP2.1
  refine lv_icmp_eq (tgt := 1498) hx hb dL_law_1098 (by decide) (fun _ => ?_) (fun kf => absurd rfl kf)
  exact hn K1 M1 J ad _ _ _ d0 cells slots ls ⟨hR1, hK, hM, hW, hd, by rw [ht]; exact hj1, by rw [ht]; exact hj2, by rw [ht]; exact hc1, by rw [ht]; exact hc2⟩ hl
set_option maxHeartbeats 4000000 in
set_option maxRecDepth 100000 in
theorem lc_looked {p : Program} {l : Launch} {e : Env} {s : State} {m : MethodId} {below : List Frame} {meth : Method} {cd : Code} {D : va_G} {ct : Nat → ClassId} {b L : Nat} {xs : Nat → Int32} {Rel : KS → MS → Prop} (hE0 : ME p s m cd #[Value.ref b] D ct cL_law RL 4) (hX0 : va_X b L xs s s.heap) (hbl : b < s.heap.size) (hs : S_looked Rel) {x3 : Int32} (hn : ∀ (K : KS) (M : MS) (J : List Nat) (ad : Nat → Nat) (c : CF) (H : Heap) (locs : List Loc) (d0 : Drawn) (cells slots : Nat) (ls : Array Slot), LI D ct s Rel K M J ad c H locs d0 cells slots → lv_has ls 4 [(0, .ref b), (1, .ref (ad 0)), (2, .ref (ad 160)), (3, .int x3)] → W p l e room_1 (s.setDrawn d0) m #[Value.ref b] below meth cd H locs cells slots (lw_Z below #[Value.ref b] s) (F0 m 1498 ls [])) {K : KS} {M : MS} {J : List Nat} {ad : Nat → Nat} {c : CF} {H : Heap} {locs : List Loc} {d0 : Drawn} {cells slots : Nat} {ls : Array Slot} (hi : LI D ct s Rel K M J ad c H locs d0 cells slots) (hl : lv_has ls 4 [(0, .ref b), (1, .ref (ad 0)), (2, .ref (ad 160)), (3, .int x3)]) : W p l e room_1 (s.setDrawn d0) m #[Value.ref b] below meth cd H locs cells slots (lw_Z below #[Value.ref b] s) (F0 m 1103 ls []) := by
  obtain ⟨hRel, hK, hM, hW, hd, hj1, hj2, hc1, hc2⟩ := hi
  have hx := hE0.1
  have hb := hE0.2.1
  have hE := hE0.dr d0
  have hX : va_X b L xs (s.setDrawn d0) s.heap := hX0
  have hA : ∀ q : Nat, s.heap.size ≤ q → (fun q : Nat => s.heap.size ≤ q) q := fun _ h => h
  have hbA : ¬ (fun q : Nat => s.heap.size ≤ q) b := Nat.not_le.mpr hbl
  have hcs : cells ≤ room_1.cells ∧ slots ≤ room_1.slots := ⟨Nat.le_trans (show cells ≤ 300 by omega) (Nat.le_of_ble_eq_true rfl), Nat.le_trans (show slots ≤ 60000 by omega) (Nat.le_of_ble_eq_true rfl)⟩
  refine lv_aload_n hx hb dL_law_1103 rfl (lv_at hl 1 rfl) ?_
  obtain ⟨r, h8, h9, hR1⟩ := hs K M hRel
  refine g_callVi (rest := []) hE hW (hW.af hA) hl.1 (mX8_looked hK h8) hK.o hK.obj rfl q758 q759 q760 q1 q761 hd_X8_looked ⟨(Nat.le_of_ble_eq_true rfl), (Nat.le_of_ble_eq_true rfl)⟩ ⟨rfl, rfl⟩ rfl (Nat.le_of_ble_eq_true rfl) dL_law_1104 hcs (fun c1 H locs hP hz1 hW => ?_)
  rw [hP] at hW
  refine lv_aload_n hx hb dL_law_1107 rfl (lv_at hl 2 rfl) ?_
  refine g_callVi (rest := [.int r]) hE hW (hW.af hA) hl.1 (mX9_looked hM h9) hM.o hM.obj rfl q1233 q1234 q1235 q10 q1236 hd_X9_looked ⟨(Nat.le_of_ble_eq_true rfl), (Nat.le_of_ble_eq_true rfl)⟩ ⟨rfl, rfl⟩ rfl (Nat.le_of_ble_eq_true rfl) dL_law_1108 hcs (fun c2 H locs hP2 hz2 hW => ?_)
  rw [hP2] at hW
  refine lv_icmp_eq (tgt := 1498) hx hb dL_law_1111 (by decide) (fun _ => ?_) (fun kf => absurd rfl kf)
  exact hn K M J ad _ _ _ d0 cells slots ls ⟨hR1, hK, hM, hW, hd, hj1, hj2, hc1, hc2⟩ hl
set_option maxHeartbeats 4000000 in
set_option maxRecDepth 100000 in
theorem lc_keep {p : Program} {l : Launch} {e : Env} {s : State} {m : MethodId} {below : List Frame} {meth : Method} {cd : Code} {D : va_G} {ct : Nat → ClassId} {b L : Nat} {xs : Nat → Int32} {Rel : KS → MS → Prop} (hE0 : ME p s m cd #[Value.ref b] D ct cL_law RL 4) (hX0 : va_X b L xs s s.heap) (hbl : b < s.heap.size) (hs : S_keep Rel) {x3 : Int32} (h_1 : vp_in (x3 + (1 : Int32)) L) (h_2 : vp_in (x3 + (2 : Int32)) L) (h_3 : vp_in (x3 + (3 : Int32)) L) (hn : ∀ (K : KS) (M : MS) (J : List Nat) (ad : Nat → Nat) (c : CF) (H : Heap) (locs : List Loc) (d0 : Drawn) (cells slots : Nat) (ls : Array Slot), LI D ct s Rel K M J ad c H locs d0 cells slots → lv_has ls 4 [(0, .ref b), (1, .ref (ad 0)), (2, .ref (ad 160)), (3, .int x3)] → W p l e room_1 (s.setDrawn d0) m #[Value.ref b] below meth cd H locs cells slots (lw_Z below #[Value.ref b] s) (F0 m 1498 ls [])) {K : KS} {M : MS} {J : List Nat} {ad : Nat → Nat} {c : CF} {H : Heap} {locs : List Loc} {d0 : Drawn} {cells slots : Nat} {ls : Array Slot} (hi : LI D ct s Rel K M J ad c H locs d0 cells slots) (hl : lv_has ls 4 [(0, .ref b), (1, .ref (ad 0)), (2, .ref (ad 160)), (3, .int x3)]) : W p l e room_1 (s.setDrawn d0) m #[Value.ref b] below meth cd H locs cells slots (lw_Z below #[Value.ref b] s) (F0 m 1116 ls []) := by
  obtain ⟨hRel, hK, hM, hW, hd, hj1, hj2, hc1, hc2⟩ := hi
  have hx := hE0.1
  have hb := hE0.2.1
  have hE := hE0.dr d0
  have hX : va_X b L xs (s.setDrawn d0) s.heap := hX0
  have hA : ∀ q : Nat, s.heap.size ≤ q → (fun q : Nat => s.heap.size ≤ q) q := fun _ h => h
  have hbA : ¬ (fun q : Nat => s.heap.size ≤ q) b := Nat.not_le.mpr hbl
  have hcs : cells ≤ room_1.cells ∧ slots ≤ room_1.slots := ⟨Nat.le_trans (show cells ≤ 300 by omega) (Nat.le_of_ble_eq_true rfl), Nat.le_trans (show slots ≤ 60000 by omega) (Nat.le_of_ble_eq_true rfl)⟩
  refine lv_aload_n hx hb dL_law_1116 rfl (lv_at hl 1 rfl) ?_
  refine lv_aload_n hx hb dL_law_1117 rfl (lv_at hl 0 rfl) ?_
  refine lv_iload_n hx hb dL_law_1118 rfl (lv_at hl 3 rfl) ?_
  refine lv_iconst (v := (1 : Int32)) hx hb dL_law_1119 (by decide) ?_
  refine lv_iadd hx hb dL_law_1120 ?_
  refine va_sld hx hb hX hbl hbA hW.2.2 h_1 dL_law_1121 ?_
  refine lv_aload_n hx hb dL_law_1122 rfl (lv_at hl 0 rfl) ?_
  refine lv_iload_n hx hb dL_law_1123 rfl (lv_at hl 3 rfl) ?_
  refine lv_iconst (v := (2 : Int32)) hx hb dL_law_1124 (by decide) ?_
  refine lv_iadd hx hb dL_law_1125 ?_
  refine va_sld hx hb hX hbl hbA hW.2.2 h_2 dL_law_1126 ?_
  refine lv_aload_n hx hb dL_law_1127 rfl (lv_at hl 0 rfl) ?_
  refine lv_iload_n hx hb dL_law_1128 rfl (lv_at hl 3 rfl) ?_
  refine lv_iconst (v := (3 : Int32)) hx hb dL_law_1129 (by decide) ?_
  refine lv_iadd hx hb dL_law_1130 ?_
  refine va_sld hx hb hX hbl hbA hW.2.2 h_3 dL_law_1131 ?_
  obtain ⟨r, K1, M1, h8, h9, hR1, ht⟩ := hs ((xs (x3 + (1 : Int32)).toNatClampNeg)) ((xs (x3 + (2 : Int32)).toNatClampNeg)) ((xs (x3 + (3 : Int32)).toNatClampNeg)) K M hRel
  refine g_callVi (rest := []) hE hW (hW.af hA) hl.1 (mX8_keep hK h8) hK.o hK.obj rfl q767 q768 q769 q1 q770 hd_X8_keep ⟨(Nat.le_of_ble_eq_true rfl), (Nat.le_of_ble_eq_true rfl)⟩ ⟨rfl, rfl⟩ rfl (Nat.le_of_ble_eq_true rfl) dL_law_1132 hcs (fun c1 H locs hP hz1 hW => ?_)
  have hM := hM.fr hP.2 (by omega)
  have hK := hP.1
  refine lv_aload_n hx hb dL_law_1135 rfl (lv_at hl 2 rfl) ?_
  refine lv_aload_n hx hb dL_law_1136 rfl (lv_at hl 0 rfl) ?_
  refine lv_iload_n hx hb dL_law_1137 rfl (lv_at hl 3 rfl) ?_
  refine lv_iconst (v := (1 : Int32)) hx hb dL_law_1138 (by decide) ?_
  refine lv_iadd hx hb dL_law_1139 ?_
  refine va_sld hx hb hX hbl hbA hW.2.2 h_1 dL_law_1140 ?_
  refine lv_aload_n hx hb dL_law_1141 rfl (lv_at hl 0 rfl) ?_
  refine lv_iload_n hx hb dL_law_1142 rfl (lv_at hl 3 rfl) ?_
  refine lv_iconst (v := (2 : Int32)) hx hb dL_law_1143 (by decide) ?_
  refine lv_iadd hx hb dL_law_1144 ?_
  refine va_sld hx hb hX hbl hbA hW.2.2 h_2 dL_law_1145 ?_
  refine lv_aload_n hx hb dL_law_1146 rfl (lv_at hl 0 rfl) ?_
  refine lv_iload_n hx hb dL_law_1147 rfl (lv_at hl 3 rfl) ?_
  refine lv_iconst (v := (3 : Int32)) hx hb dL_law_1148 (by decide) ?_
  refine lv_iadd hx hb dL_law_1149 ?_
  refine va_sld hx hb hX hbl hbA hW.2.2 h_3 dL_law_1150 ?_
  refine g_callVi (rest := [.int r]) hE hW (hW.af hA) hl.1 (mX9_keep hM h9) hM.o hM.obj rfl q1237 q1238 q1239 q10 q1240 hd_X9_keep ⟨(Nat.le_of_ble_eq_true rfl), (Nat.le_of_ble_eq_true rfl)⟩ ⟨rfl, rfl⟩ rfl (Nat.le_of_ble_eq_true rfl) dL_law_1151 hcs (fun c2 H locs hP2 hz2 hW => ?_)
  have hK := hK.fr hP2.2 (by omega)
  have hM := hP2.1
  refine lv_icmp_eq (tgt := 1498) hx hb dL_law_1154 (by decide) (fun _ => ?_) (fun kf => absurd rfl kf)
  exact hn K1 M1 J ad _ _ _ d0 cells slots ls ⟨hR1, hK, hM, hW, hd, by rw [ht]; exact hj1, by rw [ht]; exact hj2, by rw [ht]; exact hc1, by rw [ht]; exact hc2⟩ hl
set_option maxHeartbeats 4000000 in
set_option maxRecDepth 100000 in
theorem lc_kept {p : Program} {l : Launch} {e : Env} {s : State} {m : MethodId} {below : List Frame} {meth : Method} {cd : Code} {D : va_G} {ct : Nat → ClassId} {b L : Nat} {xs : Nat → Int32} {Rel : KS → MS → Prop} (hE0 : ME p s m cd #[Value.ref b] D ct cL_law RL 4) (hX0 : va_X b L xs s s.heap) (hbl : b < s.heap.size) (hs : S_kept Rel) {x3 : Int32} (h_1 : vp_in (x3 + (1 : Int32)) L) (h_2 : vp_in (x3 + (2 : Int32)) L) (hn : ∀ (K : KS) (M : MS) (J : List Nat) (ad : Nat → Nat) (c : CF) (H : Heap) (locs : List Loc) (d0 : Drawn) (cells slots : Nat) (ls : Array Slot), LI D ct s Rel K M J ad c H locs d0 cells slots → lv_has ls 4 [(0, .ref b), (1, .ref (ad 0)), (2, .ref (ad 160)), (3, .int x3)] → W p l e room_1 (s.setDrawn d0) m #[Value.ref b] below meth cd H locs cells slots (lw_Z below #[Value.ref b] s) (F0 m 1498 ls [])) {K : KS} {M : MS} {J : List Nat} {ad : Nat → Nat} {c : CF} {H : Heap} {locs : List Loc} {d0 : Drawn} {cells slots : Nat} {ls : Array Slot} (hi : LI D ct s Rel K M J ad c H locs d0 cells slots) (hl : lv_has ls 4 [(0, .ref b), (1, .ref (ad 0)), (2, .ref (ad 160)), (3, .int x3)]) : W p l e room_1 (s.setDrawn d0) m #[Value.ref b] below meth cd H locs cells slots (lw_Z below #[Value.ref b] s) (F0 m 1159 ls []) := by
  obtain ⟨hRel, hK, hM, hW, hd, hj1, hj2, hc1, hc2⟩ := hi
  have hx := hE0.1
  have hb := hE0.2.1
  have hE := hE0.dr d0
  have hX : va_X b L xs (s.setDrawn d0) s.heap := hX0
  have hA : ∀ q : Nat, s.heap.size ≤ q → (fun q : Nat => s.heap.size ≤ q) q := fun _ h => h
  have hbA : ¬ (fun q : Nat => s.heap.size ≤ q) b := Nat.not_le.mpr hbl
  have hcs : cells ≤ room_1.cells ∧ slots ≤ room_1.slots := ⟨Nat.le_trans (show cells ≤ 300 by omega) (Nat.le_of_ble_eq_true rfl), Nat.le_trans (show slots ≤ 60000 by omega) (Nat.le_of_ble_eq_true rfl)⟩
  refine lv_aload_n hx hb dL_law_1159 rfl (lv_at hl 1 rfl) ?_
  refine lv_aload_n hx hb dL_law_1160 rfl (lv_at hl 0 rfl) ?_
  refine lv_iload_n hx hb dL_law_1161 rfl (lv_at hl 3 rfl) ?_
  refine lv_iconst (v := (1 : Int32)) hx hb dL_law_1162 (by decide) ?_
  refine lv_iadd hx hb dL_law_1163 ?_
  refine va_sld hx hb hX hbl hbA hW.2.2 h_1 dL_law_1164 ?_
  refine lv_aload_n hx hb dL_law_1165 rfl (lv_at hl 0 rfl) ?_
  refine lv_iload_n hx hb dL_law_1166 rfl (lv_at hl 3 rfl) ?_
  refine lv_iconst (v := (2 : Int32)) hx hb dL_law_1167 (by decide) ?_
  refine lv_iadd hx hb dL_law_1168 ?_
  refine va_sld hx hb hX hbl hbA hW.2.2 h_2 dL_law_1169 ?_
  obtain ⟨r, h8, h9, hR1⟩ := hs ((xs (x3 + (1 : Int32)).toNatClampNeg)) ((xs (x3 + (2 : Int32)).toNatClampNeg)) K M hRel
  refine g_callVl (rest := []) hE hW (hW.af hA) hl.1 (mX8_kept hK h8) hK.o hK.obj rfl q780 q781 q782 q1 q783 hd_X8_kept ⟨(Nat.le_of_ble_eq_true rfl), (Nat.le_of_ble_eq_true rfl)⟩ ⟨rfl, rfl⟩ rfl (Nat.le_of_ble_eq_true rfl) dL_law_1170 hcs (fun c1 H locs hP hz1 hW => ?_)
  rw [hP] at hW
  refine lv_aload_n hx hb dL_law_1173 rfl (lv_at hl 2 rfl) ?_
  refine lv_aload_n hx hb dL_law_1174 rfl (lv_at hl 0 rfl) ?_
  refine lv_iload_n hx hb dL_law_1175 rfl (lv_at hl 3 rfl) ?_
  refine lv_iconst (v := (1 : Int32)) hx hb dL_law_1176 (by decide) ?_
  refine lv_iadd hx hb dL_law_1177 ?_
  refine va_sld hx hb hX hbl hbA hW.2.2 h_1 dL_law_1178 ?_
  refine lv_aload_n hx hb dL_law_1179 rfl (lv_at hl 0 rfl) ?_
  refine lv_iload_n hx hb dL_law_1180 rfl (lv_at hl 3 rfl) ?_
  refine lv_iconst (v := (2 : Int32)) hx hb dL_law_1181 (by decide) ?_
  refine lv_iadd hx hb dL_law_1182 ?_
  refine va_sld hx hb hX hbl hbA hW.2.2 h_2 dL_law_1183 ?_
  refine g_callVl (rest := [.long r]) hE hW (hW.af hA) hl.1 (mX9_kept hM h9) hM.o hM.obj rfl q1241 q1242 q1243 q10 q1244 hd_X9_kept ⟨(Nat.le_of_ble_eq_true rfl), (Nat.le_of_ble_eq_true rfl)⟩ ⟨rfl, rfl⟩ rfl (Nat.le_of_ble_eq_true rfl) dL_law_1184 hcs (fun c2 H locs hP2 hz2 hW => ?_)
  rw [hP2] at hW
  refine W.lcmp hx hb dL_law_1187 ?_
  rw [lg_same]
  refine lv_if_eq (tgt := 1498) hx hb dL_law_1188 (by decide) (fun _ => ?_) (fun kf => absurd rfl kf)
  exact hn K M J ad _ _ _ d0 cells slots ls ⟨hR1, hK, hM, hW, hd, hj1, hj2, hc1, hc2⟩ hl
set_option maxHeartbeats 4000000 in
set_option maxRecDepth 100000 in
theorem lc_judge {p : Program} {l : Launch} {e : Env} {s : State} {m : MethodId} {below : List Frame} {meth : Method} {cd : Code} {D : va_G} {ct : Nat → ClassId} {b L : Nat} {xs : Nat → Int32} {Rel : KS → MS → Prop} (hE0 : ME p s m cd #[Value.ref b] D ct cL_law RL 4) (hX0 : va_X b L xs s s.heap) (hbl : b < s.heap.size) (hs : S_judge Rel) {x3 : Int32} (h_1 : vp_in (x3 + (1 : Int32)) L) (h_2 : vp_in (x3 + (2 : Int32)) L) (h_3 : vp_in (x3 + (3 : Int32)) L) (hn : ∀ (K : KS) (M : MS) (J : List Nat) (ad : Nat → Nat) (c : CF) (H : Heap) (locs : List Loc) (d0 : Drawn) (cells slots : Nat) (ls : Array Slot), LI D ct s Rel K M J ad c H locs d0 cells slots → lv_has ls 4 [(0, .ref b), (1, .ref (ad 0)), (2, .ref (ad 160)), (3, .int x3)] → W p l e room_1 (s.setDrawn d0) m #[Value.ref b] below meth cd H locs cells slots (lw_Z below #[Value.ref b] s) (F0 m 1498 ls [])) {K : KS} {M : MS} {J : List Nat} {ad : Nat → Nat} {c : CF} {H : Heap} {locs : List Loc} {d0 : Drawn} {cells slots : Nat} {ls : Array Slot} (hi : LI D ct s Rel K M J ad c H locs d0 cells slots) (hl : lv_has ls 4 [(0, .ref b), (1, .ref (ad 0)), (2, .ref (ad 160)), (3, .int x3)]) : W p l e room_1 (s.setDrawn d0) m #[Value.ref b] below meth cd H locs cells slots (lw_Z below #[Value.ref b] s) (F0 m 1193 ls []) := by
  obtain ⟨hRel, hK, hM, hW, hd, hj1, hj2, hc1, hc2⟩ := hi
  have hx := hE0.1
  have hb := hE0.2.1
  have hE := hE0.dr d0
  have hX : va_X b L xs (s.setDrawn d0) s.heap := hX0
  have hA : ∀ q : Nat, s.heap.size ≤ q → (fun q : Nat => s.heap.size ≤ q) q := fun _ h => h
  have hbA : ¬ (fun q : Nat => s.heap.size ≤ q) b := Nat.not_le.mpr hbl
  have hcs : cells ≤ room_1.cells ∧ slots ≤ room_1.slots := ⟨Nat.le_trans (show cells ≤ 300 by omega) (Nat.le_of_ble_eq_true rfl), Nat.le_trans (show slots ≤ 60000 by omega) (Nat.le_of_ble_eq_true rfl)⟩
  refine lv_aload_n hx hb dL_law_1193 rfl (lv_at hl 1 rfl) ?_
  refine lv_aload_n hx hb dL_law_1194 rfl (lv_at hl 0 rfl) ?_
  refine lv_iload_n hx hb dL_law_1195 rfl (lv_at hl 3 rfl) ?_
  refine lv_iconst (v := (1 : Int32)) hx hb dL_law_1196 (by decide) ?_
  refine lv_iadd hx hb dL_law_1197 ?_
  refine va_sld hx hb hX hbl hbA hW.2.2 h_1 dL_law_1198 ?_
  refine lv_aload_n hx hb dL_law_1199 rfl (lv_at hl 0 rfl) ?_
  refine lv_iload_n hx hb dL_law_1200 rfl (lv_at hl 3 rfl) ?_
  refine lv_iconst (v := (2 : Int32)) hx hb dL_law_1201 (by decide) ?_
  refine lv_iadd hx hb dL_law_1202 ?_
  refine va_sld hx hb hX hbl hbA hW.2.2 h_2 dL_law_1203 ?_
  refine lv_aload_n hx hb dL_law_1204 rfl (lv_at hl 0 rfl) ?_
  refine lv_iload_n hx hb dL_law_1205 rfl (lv_at hl 3 rfl) ?_
  refine lv_iconst (v := (3 : Int32)) hx hb dL_law_1206 (by decide) ?_
  refine lv_iadd hx hb dL_law_1207 ?_
  refine va_sld hx hb hX hbl hbA hW.2.2 h_3 dL_law_1208 ?_
  obtain ⟨r, h8, h9, hR1⟩ := hs ((xs (x3 + (1 : Int32)).toNatClampNeg)) ((xs (x3 + (2 : Int32)).toNatClampNeg)) ((xs (x3 + (3 : Int32)).toNatClampNeg)) K M hRel
  refine g_callVi (rest := []) hE hW (hW.af hA) hl.1 (mX8_judge hK h8) hK.o hK.obj rfl q789 q790 q791 q1 q792 hd_X8_judge ⟨(Nat.le_of_ble_eq_true rfl), (Nat.le_of_ble_eq_true rfl)⟩ ⟨rfl, rfl⟩ rfl (Nat.le_of_ble_eq_true rfl) dL_law_1209 hcs (fun c1 H locs hP hz1 hW => ?_)
  rw [hP] at hW
  refine lv_aload_n hx hb dL_law_1212 rfl (lv_at hl 2 rfl) ?_
  refine lv_aload_n hx hb dL_law_1213 rfl (lv_at hl 0 rfl) ?_
  refine lv_iload_n hx hb dL_law_1214 rfl (lv_at hl 3 rfl) ?_
  refine lv_iconst (v := (1 : Int32)) hx hb dL_law_1215 (by decide) ?_
  refine lv_iadd hx hb dL_law_1216 ?_
  refine va_sld hx hb hX hbl hbA hW.2.2 h_1 dL_law_1217 ?_
  refine lv_aload_n hx hb dL_law_1218 rfl (lv_at hl 0 rfl) ?_
  refine lv_iload_n hx hb dL_law_1219 rfl (lv_at hl 3 rfl) ?_
  refine lv_iconst (v := (2 : Int32)) hx hb dL_law_1220 (by decide) ?_
  refine lv_iadd hx hb dL_law_1221 ?_
  refine va_sld hx hb hX hbl hbA hW.2.2 h_2 dL_law_1222 ?_
  refine lv_aload_n hx hb dL_law_1223 rfl (lv_at hl 0 rfl) ?_
  refine lv_iload_n hx hb dL_law_1224 rfl (lv_at hl 3 rfl) ?_
  refine lv_iconst (v := (3 : Int32)) hx hb dL_law_1225 (by decide) ?_
  refine lv_iadd hx hb dL_law_1226 ?_
  refine va_sld hx hb hX hbl hbA hW.2.2 h_3 dL_law_1227 ?_
  refine g_callVi (rest := [.int r]) hE hW (hW.af hA) hl.1 (mX9_judge hM h9) hM.o hM.obj rfl q1245 q1246 q1247 q10 q1248 hd_X9_judge ⟨(Nat.le_of_ble_eq_true rfl), (Nat.le_of_ble_eq_true rfl)⟩ ⟨rfl, rfl⟩ rfl (Nat.le_of_ble_eq_true rfl) dL_law_1228 hcs (fun c2 H locs hP2 hz2 hW => ?_)
  rw [hP2] at hW
  refine lv_icmp_eq (tgt := 1498) hx hb dL_law_1231 (by decide) (fun _ => ?_) (fun kf => absurd rfl kf)
  exact hn K M J ad _ _ _ d0 cells slots ls ⟨hR1, hK, hM, hW, hd, hj1, hj2, hc1, hc2⟩ hl
set_option maxHeartbeats 4000000 in
set_option maxRecDepth 100000 in
theorem lc_image {p : Program} {l : Launch} {e : Env} {s : State} {m : MethodId} {below : List Frame} {meth : Method} {cd : Code} {D : va_G} {ct : Nat → ClassId} {b L : Nat} {xs : Nat → Int32} {Rel : KS → MS → Prop} (hE0 : ME p s m cd #[Value.ref b] D ct cL_law RL 4) (hX0 : va_X b L xs s s.heap) (hbl : b < s.heap.size) (hs : S_image Rel) {x3 : Int32} (hn : ∀ (K : KS) (M : MS) (J : List Nat) (ad : Nat → Nat) (c : CF) (H : Heap) (locs : List Loc) (d0 : Drawn) (cells slots : Nat) (ls : Array Slot), LI D ct s Rel K M J ad c H locs d0 cells slots → lv_has ls 4 [(0, .ref b), (1, .ref (ad 0)), (2, .ref (ad 160)), (3, .int x3)] → W p l e room_1 (s.setDrawn d0) m #[Value.ref b] below meth cd H locs cells slots (lw_Z below #[Value.ref b] s) (F0 m 1498 ls [])) {K : KS} {M : MS} {J : List Nat} {ad : Nat → Nat} {c : CF} {H : Heap} {locs : List Loc} {d0 : Drawn} {cells slots : Nat} {ls : Array Slot} (hi : LI D ct s Rel K M J ad c H locs d0 cells slots) (hl : lv_has ls 4 [(0, .ref b), (1, .ref (ad 0)), (2, .ref (ad 160)), (3, .int x3)]) : W p l e room_1 (s.setDrawn d0) m #[Value.ref b] below meth cd H locs cells slots (lw_Z below #[Value.ref b] s) (F0 m 1236 ls []) := by
  obtain ⟨hRel, hK, hM, hW, hd, hj1, hj2, hc1, hc2⟩ := hi
  have hx := hE0.1
  have hb := hE0.2.1
  have hE := hE0.dr d0
  have hX : va_X b L xs (s.setDrawn d0) s.heap := hX0
  have hA : ∀ q : Nat, s.heap.size ≤ q → (fun q : Nat => s.heap.size ≤ q) q := fun _ h => h
  have hbA : ¬ (fun q : Nat => s.heap.size ≤ q) b := Nat.not_le.mpr hbl
  have hcs : cells ≤ room_1.cells ∧ slots ≤ room_1.slots := ⟨Nat.le_trans (show cells ≤ 300 by omega) (Nat.le_of_ble_eq_true rfl), Nat.le_trans (show slots ≤ 60000 by omega) (Nat.le_of_ble_eq_true rfl)⟩
  obtain ⟨r, K1, M1, h8, h9, hR1⟩ := hs  K M hRel
  refine lv_aload_n hx hb dL_law_1236 rfl (lv_at hl 1 rfl) ?_
  obtain ⟨S9, hK9⟩ : ∃ S : SS, K1 = kTk K (some S) := by
    unfold fX8_image at h8
    obtain ⟨S, -, h8⟩ := zb_e h8
    obtain ⟨r2, -, h8⟩ := zb_e h8
    exact ⟨S, (Prod.mk.inj (Option.some.inj h8)).2.symm⟩
  have hs1 : K1.2.2.2.2.1 = some S9 := by rw [hK9]; rfl
  have hs2 : K1.2.2.2.2.2 = K.2.2.2.2.2 := by rw [hK9]; rfl
  rcases ho : K.2.2.2.2.1 with _ | S
  · obtain ⟨ad2, had1, had2⟩ : ∃ ad2 : Nat → Nat, (∀ i, i ∈ J → ad2 i = ad i) ∧ ∀ k, 46 ≤ k → k ≤ 90 → ad2 (0 + k) = H.size + (k - 46) := ⟨fun i => if 46 ≤ i ∧ i ≤ 90 then H.size + (i - 46) else ad i, fun i hi => if_neg (fun h => hj1 ho i h.1 h.2 (by rw [Nat.zero_add]; exact hi)), fun k h1 h2 => by rw [Nat.zero_add]; exact if_pos ⟨h1, h2⟩⟩
    have hW := hW.adm had1
    have hK := hK.adm had1
    have hM := hM.adm had1
    have e0 : ad 0 = ad2 0 := (had1 0 hK.o).symm
    have e1 : ad 160 = ad2 160 := (had1 160 hM.o).symm
    rw [e0, e1] at hl
    rw [e0]
    refine g_callX (rest := []) (mc := 45) (ms := 5019) hE hW (hW.af hA) hl.1 (mX8_image_none hK ho (hj1 ho) had2 h8) hK.o hK.obj rfl q805 q806 q807 q1 q808 hd_X8_image ⟨(Nat.le_of_ble_eq_true rfl), (Nat.le_of_ble_eq_true rfl)⟩ ⟨rfl, rfl⟩ rfl (Nat.le_of_ble_eq_true rfl) dL_law_1237 ⟨Nat.le_trans (show cells + 45 ≤ 300 by rw [ho] at hc1; simp at hc1; omega) (Nat.le_of_ble_eq_true rfl), Nat.le_trans (show slots + 5019 ≤ 60000 by rw [ho] at hc2; simp at hc2; omega) (Nat.le_of_ble_eq_true rfl)⟩ (fun J2 c1 H locs hP hz1 hW => ?_)
    obtain ⟨hJ2, hK1, hF1⟩ := hP
    have hM := (hM.fr hF1 (by omega)).mono (fun i hi => (hJ2 i).mpr (Or.inl hi))
    have hK := hK1
    have hcs : cells + 45 ≤ room_1.cells ∧ slots + 5019 ≤ room_1.slots := ⟨Nat.le_trans (show cells + 45 ≤ 300 by rw [ho] at hc1; simp at hc1; omega) (Nat.le_of_ble_eq_true rfl), Nat.le_trans (show slots + 5019 ≤ 60000 by rw [ho] at hc2; simp at hc2; omega) (Nat.le_of_ble_eq_true rfl)⟩
    refine lv_aload_n hx hb dL_law_1240 rfl (lv_at hl 2 rfl) ?_
    refine g_callVi (rest := [.int r]) hE hW (hW.af hA) hl.1 (mX9_image hM h9) hM.o hM.obj rfl q1252 q1253 q1254 q10 q1255 hd_X9_image ⟨(Nat.le_of_ble_eq_true rfl), (Nat.le_of_ble_eq_true rfl)⟩ ⟨rfl, rfl⟩ rfl (Nat.le_of_ble_eq_true rfl) dL_law_1241 hcs (fun c2 H locs hP2 hz2 hW => ?_)
    have hK := hK.fr hP2.2 (by omega)
    have hM := hP2.1
    refine lv_icmp_eq (tgt := 1498) hx hb dL_law_1244 (by decide) (fun _ => ?_) (fun kf => absurd rfl kf)
    exact hn K1 M1 J2 ad2 _ _ _ d0 (cells + 45) (slots + 5019) ls ⟨hR1, hK, hM, hW, hd, fun h => absurd (hs1.symm.trans h) (fun q => by cases q), fun h k h1 h2 hh => ((hJ2 _).mp hh).elim (hj2 (hs2 ▸ h) k h1 h2) (fun q => by omega), by rw [ho] at hc1; rw [hs1, hs2]; simp at hc1 ⊢; omega, by rw [ho] at hc2; rw [hs1, hs2]; simp at hc2 ⊢; omega⟩ hl
  · refine g_callVi (rest := []) hE hW (hW.af hA) hl.1 (mX8_image_some hK ho h8) hK.o hK.obj rfl q805 q806 q807 q1 q808 hd_X8_image ⟨(Nat.le_of_ble_eq_true rfl), (Nat.le_of_ble_eq_true rfl)⟩ ⟨rfl, rfl⟩ rfl (Nat.le_of_ble_eq_true rfl) dL_law_1237 hcs (fun c1 H locs hP hz1 hW => ?_)
    have hM := hM.fr hP.2 (by omega)
    have hK := hP.1
    refine lv_aload_n hx hb dL_law_1240 rfl (lv_at hl 2 rfl) ?_
    refine g_callVi (rest := [.int r]) hE hW (hW.af hA) hl.1 (mX9_image hM h9) hM.o hM.obj rfl q1252 q1253 q1254 q10 q1255 hd_X9_image ⟨(Nat.le_of_ble_eq_true rfl), (Nat.le_of_ble_eq_true rfl)⟩ ⟨rfl, rfl⟩ rfl (Nat.le_of_ble_eq_true rfl) dL_law_1241 hcs (fun c2 H locs hP2 hz2 hW => ?_)
    have hK := hK.fr hP2.2 (by omega)
    have hM := hP2.1
    refine lv_icmp_eq (tgt := 1498) hx hb dL_law_1244 (by decide) (fun _ => ?_) (fun kf => absurd rfl kf)
    exact hn K1 M1 J ad _ _ _ d0 cells slots ls ⟨hR1, hK, hM, hW, hd, fun h => absurd (hs1.symm.trans h) (fun q => by cases q), fun h => hj2 (hs2 ▸ h), by rw [ho] at hc1; rw [hs1, hs2]; simp at hc1 ⊢; omega, by rw [ho] at hc2; rw [hs1, hs2]; simp at hc2 ⊢; omega⟩ hl
set_option maxHeartbeats 4000000 in
set_option maxRecDepth 100000 in
theorem lc_undo {p : Program} {l : Launch} {e : Env} {s : State} {m : MethodId} {below : List Frame} {meth : Method} {cd : Code} {D : va_G} {ct : Nat → ClassId} {b L : Nat} {xs : Nat → Int32} {Rel : KS → MS → Prop} (hE0 : ME p s m cd #[Value.ref b] D ct cL_law RL 4) (hX0 : va_X b L xs s s.heap) (hbl : b < s.heap.size) (hs : S_undo Rel) {x3 : Int32} (hn : ∀ (K : KS) (M : MS) (J : List Nat) (ad : Nat → Nat) (c : CF) (H : Heap) (locs : List Loc) (d0 : Drawn) (cells slots : Nat) (ls : Array Slot), LI D ct s Rel K M J ad c H locs d0 cells slots → lv_has ls 4 [(0, .ref b), (1, .ref (ad 0)), (2, .ref (ad 160)), (3, .int x3)] → W p l e room_1 (s.setDrawn d0) m #[Value.ref b] below meth cd H locs cells slots (lw_Z below #[Value.ref b] s) (F0 m 1498 ls [])) {K : KS} {M : MS} {J : List Nat} {ad : Nat → Nat} {c : CF} {H : Heap} {locs : List Loc} {d0 : Drawn} {cells slots : Nat} {ls : Array Slot} (hi : LI D ct s Rel K M J ad c H locs d0 cells slots) (hl : lv_has ls 4 [(0, .ref b), (1, .ref (ad 0)), (2, .ref (ad 160)), (3, .int x3)]) : W p l e room_1 (s.setDrawn d0) m #[Value.ref b] below meth cd H locs cells slots (lw_Z below #[Value.ref b] s) (F0 m 1249 ls []) := by
  obtain ⟨hRel, hK, hM, hW, hd, hj1, hj2, hc1, hc2⟩ := hi
  have hx := hE0.1
  have hb := hE0.2.1
  have hE := hE0.dr d0
  have hX : va_X b L xs (s.setDrawn d0) s.heap := hX0
  have hA : ∀ q : Nat, s.heap.size ≤ q → (fun q : Nat => s.heap.size ≤ q) q := fun _ h => h
  have hbA : ¬ (fun q : Nat => s.heap.size ≤ q) b := Nat.not_le.mpr hbl
  have hcs : cells ≤ room_1.cells ∧ slots ≤ room_1.slots := ⟨Nat.le_trans (show cells ≤ 300 by omega) (Nat.le_of_ble_eq_true rfl), Nat.le_trans (show slots ≤ 60000 by omega) (Nat.le_of_ble_eq_true rfl)⟩
  refine lv_aload_n hx hb dL_law_1249 rfl (lv_at hl 1 rfl) ?_
  obtain ⟨r, K1, M1, h8, h9, hR1, ht⟩ := hs K M hRel
  refine g_callVi (rest := []) hE hW (hW.af hA) hl.1 (mX8_undo hK h8) hK.o hK.obj rfl q809 q810 q811 q1 q812 hd_X8_undo ⟨(Nat.le_of_ble_eq_true rfl), (Nat.le_of_ble_eq_true rfl)⟩ ⟨rfl, rfl⟩ rfl (Nat.le_of_ble_eq_true rfl) dL_law_1250 hcs (fun c1 H locs hP hz1 hW => ?_)
  have hM := hM.fr hP.2 (by omega)
  have hK := hP.1
  refine lv_aload_n hx hb dL_law_1253 rfl (lv_at hl 2 rfl) ?_
  refine g_callVi (rest := [.int r]) hE hW (hW.af hA) hl.1 (mX9_undo hM h9) hM.o hM.obj rfl q1256 q1257 q1258 q10 q1259 hd_X9_undo ⟨(Nat.le_of_ble_eq_true rfl), (Nat.le_of_ble_eq_true rfl)⟩ ⟨rfl, rfl⟩ rfl (Nat.le_of_ble_eq_true rfl) dL_law_1254 hcs (fun c2 H locs hP2 hz2 hW => ?_)
  have hK := hK.fr hP2.2 (by omega)
  have hM := hP2.1
  refine lv_icmp_eq (tgt := 1498) hx hb dL_law_1257 (by decide) (fun _ => ?_) (fun kf => absurd rfl kf)
  exact hn K1 M1 J ad _ _ _ d0 cells slots ls ⟨hR1, hK, hM, hW, hd, by rw [ht]; exact hj1, by rw [ht]; exact hj2, by rw [ht]; exact hc1, by rw [ht]; exact hc2⟩ hl
set_option maxHeartbeats 4000000 in
set_option maxRecDepth 100000 in
theorem lc_count {p : Program} {l : Launch} {e : Env} {s : State} {m : MethodId} {below : List Frame} {meth : Method} {cd : Code} {D : va_G} {ct : Nat → ClassId} {b L : Nat} {xs : Nat → Int32} {Rel : KS → MS → Prop} (hE0 : ME p s m cd #[Value.ref b] D ct cL_law RL 4) (hX0 : va_X b L xs s s.heap) (hbl : b < s.heap.size) (hs : S_count Rel) {x3 : Int32} (h_1 : vp_in (x3 + (1 : Int32)) L) (hn : ∀ (K : KS) (M : MS) (J : List Nat) (ad : Nat → Nat) (c : CF) (H : Heap) (locs : List Loc) (d0 : Drawn) (cells slots : Nat) (ls : Array Slot), LI D ct s Rel K M J ad c H locs d0 cells slots → lv_has ls 4 [(0, .ref b), (1, .ref (ad 0)), (2, .ref (ad 160)), (3, .int x3)] → W p l e room_1 (s.setDrawn d0) m #[Value.ref b] below meth cd H locs cells slots (lw_Z below #[Value.ref b] s) (F0 m 1498 ls [])) {K : KS} {M : MS} {J : List Nat} {ad : Nat → Nat} {c : CF} {H : Heap} {locs : List Loc} {d0 : Drawn} {cells slots : Nat} {ls : Array Slot} (hi : LI D ct s Rel K M J ad c H locs d0 cells slots) (hl : lv_has ls 4 [(0, .ref b), (1, .ref (ad 0)), (2, .ref (ad 160)), (3, .int x3)]) : W p l e room_1 (s.setDrawn d0) m #[Value.ref b] below meth cd H locs cells slots (lw_Z below #[Value.ref b] s) (F0 m 1262 ls []) := by
  obtain ⟨hRel, hK, hM, hW, hd, hj1, hj2, hc1, hc2⟩ := hi
  have hx := hE0.1
  have hb := hE0.2.1
  have hE := hE0.dr d0
  have hX : va_X b L xs (s.setDrawn d0) s.heap := hX0
  have hA : ∀ q : Nat, s.heap.size ≤ q → (fun q : Nat => s.heap.size ≤ q) q := fun _ h => h
  have hbA : ¬ (fun q : Nat => s.heap.size ≤ q) b := Nat.not_le.mpr hbl
  have hcs : cells ≤ room_1.cells ∧ slots ≤ room_1.slots := ⟨Nat.le_trans (show cells ≤ 300 by omega) (Nat.le_of_ble_eq_true rfl), Nat.le_trans (show slots ≤ 60000 by omega) (Nat.le_of_ble_eq_true rfl)⟩
  refine lv_aload_n hx hb dL_law_1262 rfl (lv_at hl 1 rfl) ?_
  refine lv_aload_n hx hb dL_law_1263 rfl (lv_at hl 0 rfl) ?_
  refine lv_iload_n hx hb dL_law_1264 rfl (lv_at hl 3 rfl) ?_
  refine lv_iconst (v := (1 : Int32)) hx hb dL_law_1265 (by decide) ?_
  refine lv_iadd hx hb dL_law_1266 ?_
  refine va_sld hx hb hX hbl hbA hW.2.2 h_1 dL_law_1267 ?_
  obtain ⟨r, h8, h9, hR1⟩ := hs ((xs (x3 + (1 : Int32)).toNatClampNeg)) K M hRel
  refine g_callVi (rest := []) hE hW (hW.af hA) hl.1 (mX8_count hK h8) hK.o hK.obj rfl q813 q814 q815 q1 q816 hd_X8_count ⟨(Nat.le_of_ble_eq_true rfl), (Nat.le_of_ble_eq_true rfl)⟩ ⟨rfl, rfl⟩ rfl (Nat.le_of_ble_eq_true rfl) dL_law_1268 hcs (fun c1 H locs hP hz1 hW => ?_)
  rw [hP] at hW
  refine lv_aload_n hx hb dL_law_1271 rfl (lv_at hl 2 rfl) ?_
  refine lv_aload_n hx hb dL_law_1272 rfl (lv_at hl 0 rfl) ?_
  refine lv_iload_n hx hb dL_law_1273 rfl (lv_at hl 3 rfl) ?_
  refine lv_iconst (v := (1 : Int32)) hx hb dL_law_1274 (by decide) ?_
  refine lv_iadd hx hb dL_law_1275 ?_
  refine va_sld hx hb hX hbl hbA hW.2.2 h_1 dL_law_1276 ?_
  refine g_callVi (rest := [.int r]) hE hW (hW.af hA) hl.1 (mX9_count hM h9) hM.o hM.obj rfl q1260 q1261 q1262 q10 q1263 hd_X9_count ⟨(Nat.le_of_ble_eq_true rfl), (Nat.le_of_ble_eq_true rfl)⟩ ⟨rfl, rfl⟩ rfl (Nat.le_of_ble_eq_true rfl) dL_law_1277 hcs (fun c2 H locs hP2 hz2 hW => ?_)
  rw [hP2] at hW
  refine lv_icmp_eq (tgt := 1498) hx hb dL_law_1280 (by decide) (fun _ => ?_) (fun kf => absurd rfl kf)
  exact hn K M J ad _ _ _ d0 cells slots ls ⟨hR1, hK, hM, hW, hd, hj1, hj2, hc1, hc2⟩ hl
set_option maxHeartbeats 4000000 in
set_option maxRecDepth 100000 in
theorem lc_tape {p : Program} {l : Launch} {e : Env} {s : State} {m : MethodId} {below : List Frame} {meth : Method} {cd : Code} {D : va_G} {ct : Nat → ClassId} {b L : Nat} {xs : Nat → Int32} {Rel : KS → MS → Prop} (hE0 : ME p s m cd #[Value.ref b] D ct cL_law RL 4) (hX0 : va_X b L xs s s.heap) (hbl : b < s.heap.size) (hs : S_tape Rel) {x3 : Int32} (h_1 : vp_in (x3 + (1 : Int32)) L) (h_2 : vp_in (x3 + (2 : Int32)) L) (h_3 : vp_in (x3 + (3 : Int32)) L) (hn : ∀ (K : KS) (M : MS) (J : List Nat) (ad : Nat → Nat) (c : CF) (H : Heap) (locs : List Loc) (d0 : Drawn) (cells slots : Nat) (ls : Array Slot), LI D ct s Rel K M J ad c H locs d0 cells slots → lv_has ls 4 [(0, .ref b), (1, .ref (ad 0)), (2, .ref (ad 160)), (3, .int x3)] → W p l e room_1 (s.setDrawn d0) m #[Value.ref b] below meth cd H locs cells slots (lw_Z below #[Value.ref b] s) (F0 m 1498 ls [])) {K : KS} {M : MS} {J : List Nat} {ad : Nat → Nat} {c : CF} {H : Heap} {locs : List Loc} {d0 : Drawn} {cells slots : Nat} {ls : Array Slot} (hi : LI D ct s Rel K M J ad c H locs d0 cells slots) (hl : lv_has ls 4 [(0, .ref b), (1, .ref (ad 0)), (2, .ref (ad 160)), (3, .int x3)]) : W p l e room_1 (s.setDrawn d0) m #[Value.ref b] below meth cd H locs cells slots (lw_Z below #[Value.ref b] s) (F0 m 1285 ls []) := by
  obtain ⟨hRel, hK, hM, hW, hd, hj1, hj2, hc1, hc2⟩ := hi
  have hx := hE0.1
  have hb := hE0.2.1
  have hE := hE0.dr d0
  have hX : va_X b L xs (s.setDrawn d0) s.heap := hX0
  have hA : ∀ q : Nat, s.heap.size ≤ q → (fun q : Nat => s.heap.size ≤ q) q := fun _ h => h
  have hbA : ¬ (fun q : Nat => s.heap.size ≤ q) b := Nat.not_le.mpr hbl
  have hcs : cells ≤ room_1.cells ∧ slots ≤ room_1.slots := ⟨Nat.le_trans (show cells ≤ 300 by omega) (Nat.le_of_ble_eq_true rfl), Nat.le_trans (show slots ≤ 60000 by omega) (Nat.le_of_ble_eq_true rfl)⟩
  refine lv_aload_n hx hb dL_law_1285 rfl (lv_at hl 1 rfl) ?_
  refine lv_aload_n hx hb dL_law_1286 rfl (lv_at hl 0 rfl) ?_
  refine lv_iload_n hx hb dL_law_1287 rfl (lv_at hl 3 rfl) ?_
  refine lv_iconst (v := (1 : Int32)) hx hb dL_law_1288 (by decide) ?_
  refine lv_iadd hx hb dL_law_1289 ?_
  refine va_sld hx hb hX hbl hbA hW.2.2 h_1 dL_law_1290 ?_
  refine lv_aload_n hx hb dL_law_1291 rfl (lv_at hl 0 rfl) ?_
  refine lv_iload_n hx hb dL_law_1292 rfl (lv_at hl 3 rfl) ?_
  refine lv_iconst (v := (2 : Int32)) hx hb dL_law_1293 (by decide) ?_
  refine lv_iadd hx hb dL_law_1294 ?_
  refine va_sld hx hb hX hbl hbA hW.2.2 h_2 dL_law_1295 ?_
  refine lv_aload_n hx hb dL_law_1296 rfl (lv_at hl 0 rfl) ?_
  refine lv_iload_n hx hb dL_law_1297 rfl (lv_at hl 3 rfl) ?_
  refine lv_iconst (v := (3 : Int32)) hx hb dL_law_1298 (by decide) ?_
  refine lv_iadd hx hb dL_law_1299 ?_
  refine va_sld hx hb hX hbl hbA hW.2.2 h_3 dL_law_1300 ?_
  obtain ⟨r, K1, M1, h8, h9, hR1, ht⟩ := hs ((xs (x3 + (1 : Int32)).toNatClampNeg)) ((xs (x3 + (2 : Int32)).toNatClampNeg)) ((xs (x3 + (3 : Int32)).toNatClampNeg)) K M hRel
  refine g_callVi (rest := []) hE hW (hW.af hA) hl.1 (mX8_tape hK h8) hK.o hK.obj rfl q818 q819 q820 q1 q821 hd_X8_tape ⟨(Nat.le_of_ble_eq_true rfl), (Nat.le_of_ble_eq_true rfl)⟩ ⟨rfl, rfl⟩ rfl (Nat.le_of_ble_eq_true rfl) dL_law_1301 hcs (fun c1 H locs hP hz1 hW => ?_)
  have hM := hM.fr hP.2 (by omega)
  have hK := hP.1
  refine lv_aload_n hx hb dL_law_1304 rfl (lv_at hl 2 rfl) ?_
  refine lv_aload_n hx hb dL_law_1305 rfl (lv_at hl 0 rfl) ?_
  refine lv_iload_n hx hb dL_law_1306 rfl (lv_at hl 3 rfl) ?_
  refine lv_iconst (v := (1 : Int32)) hx hb dL_law_1307 (by decide) ?_
  refine lv_iadd hx hb dL_law_1308 ?_
  refine va_sld hx hb hX hbl hbA hW.2.2 h_1 dL_law_1309 ?_
  refine lv_aload_n hx hb dL_law_1310 rfl (lv_at hl 0 rfl) ?_
  refine lv_iload_n hx hb dL_law_1311 rfl (lv_at hl 3 rfl) ?_
  refine lv_iconst (v := (2 : Int32)) hx hb dL_law_1312 (by decide) ?_
  refine lv_iadd hx hb dL_law_1313 ?_
  refine va_sld hx hb hX hbl hbA hW.2.2 h_2 dL_law_1314 ?_
  refine lv_aload_n hx hb dL_law_1315 rfl (lv_at hl 0 rfl) ?_
  refine lv_iload_n hx hb dL_law_1316 rfl (lv_at hl 3 rfl) ?_
  refine lv_iconst (v := (3 : Int32)) hx hb dL_law_1317 (by decide) ?_
  refine lv_iadd hx hb dL_law_1318 ?_
  refine va_sld hx hb hX hbl hbA hW.2.2 h_3 dL_law_1319 ?_
  refine g_callVi (rest := [.int r]) hE hW (hW.af hA) hl.1 (mX9_tape hM h9) hM.o hM.obj rfl q1264 q1265 q1266 q10 q1267 hd_X9_tape ⟨(Nat.le_of_ble_eq_true rfl), (Nat.le_of_ble_eq_true rfl)⟩ ⟨rfl, rfl⟩ rfl (Nat.le_of_ble_eq_true rfl) dL_law_1320 hcs (fun c2 H locs hP2 hz2 hW => ?_)
  have hK := hK.fr hP2.2 (by omega)
  have hM := hP2.1
  refine lv_icmp_eq (tgt := 1498) hx hb dL_law_1323 (by decide) (fun _ => ?_) (fun kf => absurd rfl kf)
  exact hn K1 M1 J ad _ _ _ d0 cells slots ls ⟨hR1, hK, hM, hW, hd, by rw [ht]; exact hj1, by rw [ht]; exact hj2, by rw [ht]; exact hc1, by rw [ht]; exact hc2⟩ hl
set_option maxHeartbeats 4000000 in
set_option maxRecDepth 100000 in
theorem lc_item {p : Program} {l : Launch} {e : Env} {s : State} {m : MethodId} {below : List Frame} {meth : Method} {cd : Code} {D : va_G} {ct : Nat → ClassId} {b L : Nat} {xs : Nat → Int32} {Rel : KS → MS → Prop} (hE0 : ME p s m cd #[Value.ref b] D ct cL_law RL 4) (hX0 : va_X b L xs s s.heap) (hbl : b < s.heap.size) (hs : S_item Rel) {x3 : Int32} (h_1 : vp_in (x3 + (1 : Int32)) L) (h_2 : vp_in (x3 + (2 : Int32)) L) (h_3 : vp_in (x3 + (3 : Int32)) L) (h_4 : vp_in (x3 + (4 : Int32)) L) (hn : ∀ (K : KS) (M : MS) (J : List Nat) (ad : Nat → Nat) (c : CF) (H : Heap) (locs : List Loc) (d0 : Drawn) (cells slots : Nat) (ls : Array Slot), LI D ct s Rel K M J ad c H locs d0 cells slots → lv_has ls 4 [(0, .ref b), (1, .ref (ad 0)), (2, .ref (ad 160)), (3, .int x3)] → W p l e room_1 (s.setDrawn d0) m #[Value.ref b] below meth cd H locs cells slots (lw_Z below #[Value.ref b] s) (F0 m 1498 ls [])) {K : KS} {M : MS} {J : List Nat} {ad : Nat → Nat} {c : CF} {H : Heap} {locs : List Loc} {d0 : Drawn} {cells slots : Nat} {ls : Array Slot} (hi : LI D ct s Rel K M J ad c H locs d0 cells slots) (hl : lv_has ls 4 [(0, .ref b), (1, .ref (ad 0)), (2, .ref (ad 160)), (3, .int x3)]) : W p l e room_1 (s.setDrawn d0) m #[Value.ref b] below meth cd H locs cells slots (lw_Z below #[Value.ref b] s) (F0 m 1328 ls []) := by
  obtain ⟨hRel, hK, hM, hW, hd, hj1, hj2, hc1, hc2⟩ := hi
  have hx := hE0.1
  have hb := hE0.2.1
  have hE := hE0.dr d0
  have hX : va_X b L xs (s.setDrawn d0) s.heap := hX0
  have hA : ∀ q : Nat, s.heap.size ≤ q → (fun q : Nat => s.heap.size ≤ q) q := fun _ h => h
  have hbA : ¬ (fun q : Nat => s.heap.size ≤ q) b := Nat.not_le.mpr hbl
  have hcs : cells ≤ room_1.cells ∧ slots ≤ room_1.slots := ⟨Nat.le_trans (show cells ≤ 300 by omega) (Nat.le_of_ble_eq_true rfl), Nat.le_trans (show slots ≤ 60000 by omega) (Nat.le_of_ble_eq_true rfl)⟩
  refine lv_aload_n hx hb dL_law_1328 rfl (lv_at hl 1 rfl) ?_
  refine lv_aload_n hx hb dL_law_1329 rfl (lv_at hl 0 rfl) ?_
  refine lv_iload_n hx hb dL_law_1330 rfl (lv_at hl 3 rfl) ?_
  refine lv_iconst (v := (1 : Int32)) hx hb dL_law_1331 (by decide) ?_
  refine lv_iadd hx hb dL_law_1332 ?_
  refine va_sld hx hb hX hbl hbA hW.2.2 h_1 dL_law_1333 ?_
  refine lv_aload_n hx hb dL_law_1334 rfl (lv_at hl 0 rfl) ?_
  refine lv_iload_n hx hb dL_law_1335 rfl (lv_at hl 3 rfl) ?_
  refine lv_iconst (v := (2 : Int32)) hx hb dL_law_1336 (by decide) ?_
  refine lv_iadd hx hb dL_law_1337 ?_
  refine va_sld hx hb hX hbl hbA hW.2.2 h_2 dL_law_1338 ?_
  refine lv_aload_n hx hb dL_law_1339 rfl (lv_at hl 0 rfl) ?_
  refine lv_iload_n hx hb dL_law_1340 rfl (lv_at hl 3 rfl) ?_
  refine lv_iconst (v := (3 : Int32)) hx hb dL_law_1341 (by decide) ?_
  refine lv_iadd hx hb dL_law_1342 ?_
  refine va_sld hx hb hX hbl hbA hW.2.2 h_3 dL_law_1343 ?_
  refine lv_i2l (v := (xs (x3 + (3 : Int32)).toNatClampNeg).toInt64) hx hb dL_law_1344 rfl ?_
  refine lv_bipush (v := (32 : Int32)) hx hb dL_law_1345 (by decide) ?_
  refine lv_lshl (v := ((xs (x3 + (3 : Int32)).toNatClampNeg).toInt64 <<< ((32 : Int32).toInt64 &&& 63))) hx hb dL_law_1347 rfl ?_
  refine lv_aload_n hx hb dL_law_1348 rfl (lv_at hl 0 rfl) ?_
  refine lv_iload_n hx hb dL_law_1349 rfl (lv_at hl 3 rfl) ?_
  refine lv_iconst (v := (4 : Int32)) hx hb dL_law_1350 (by decide) ?_
  refine lv_iadd hx hb dL_law_1351 ?_
  refine va_sld hx hb hX hbl hbA hW.2.2 h_4 dL_law_1352 ?_
  refine lv_i2l (v := (xs (x3 + (4 : Int32)).toNatClampNeg).toInt64) hx hb dL_law_1353 rfl ?_
  refine lv_ldc2 (v := (4294967295 : Int64)) hx hb hE.2.2.2.1 (hE.2.2.2.2.1 _ q1283) dL_law_1354 ?_
  refine lv_land hx hb dL_law_1357 ?_
  refine lv_lor hx hb dL_law_1358 ?_
  obtain ⟨r, K1, M1, h8, h9, hR1, ht⟩ := hs ((xs (x3 + (1 : Int32)).toNatClampNeg)) ((xs (x3 + (2 : Int32)).toNatClampNeg)) ((((xs (x3 + (3 : Int32)).toNatClampNeg).toInt64 <<< ((32 : Int32).toInt64 &&& 63)) ||| ((xs (x3 + (4 : Int32)).toNatClampNeg).toInt64 &&& (4294967295 : Int64)))) K M hRel
  refine g_callVi (rest := []) hE hW (hW.af hA) hl.1 (mX8_item hK h8) hK.o hK.obj rfl q831 q832 q833 q1 q834 hd_X8_item ⟨(Nat.le_of_ble_eq_true rfl), (Nat.le_of_ble_eq_true rfl)⟩ ⟨rfl, rfl⟩ rfl (Nat.le_of_ble_eq_true rfl) dL_law_1359 hcs (fun c1 H locs hP hz1 hW => ?_)
  have hM := hM.fr hP.2 (by omega)
  have hK := hP.1
  refine lv_aload_n hx hb dL_law_1362 rfl (lv_at hl 2 rfl) ?_
  refine lv_aload_n hx hb dL_law_1363 rfl (lv_at hl 0 rfl) ?_
  refine lv_iload_n hx hb dL_law_1364 rfl (lv_at hl 3 rfl) ?_
  refine lv_iconst (v := (1 : Int32)) hx hb dL_law_1365 (by decide) ?_
  refine lv_iadd hx hb dL_law_1366 ?_
  refine va_sld hx hb hX hbl hbA hW.2.2 h_1 dL_law_1367 ?_
  refine lv_aload_n hx hb dL_law_1368 rfl (lv_at hl 0 rfl) ?_
  refine lv_iload_n hx hb dL_law_1369 rfl (lv_at hl 3 rfl) ?_
  refine lv_iconst (v := (2 : Int32)) hx hb dL_law_1370 (by decide) ?_
  refine lv_iadd hx hb dL_law_1371 ?_
  refine va_sld hx hb hX hbl hbA hW.2.2 h_2 dL_law_1372 ?_
  refine lv_aload_n hx hb dL_law_1373 rfl (lv_at hl 0 rfl) ?_
  refine lv_iload_n hx hb dL_law_1374 rfl (lv_at hl 3 rfl) ?_
  refine lv_iconst (v := (3 : Int32)) hx hb dL_law_1375 (by decide) ?_
  refine lv_iadd hx hb dL_law_1376 ?_
  refine va_sld hx hb hX hbl hbA hW.2.2 h_3 dL_law_1377 ?_
  refine lv_i2l (v := (xs (x3 + (3 : Int32)).toNatClampNeg).toInt64) hx hb dL_law_1378 rfl ?_
  refine lv_bipush (v := (32 : Int32)) hx hb dL_law_1379 (by decide) ?_
  refine lv_lshl (v := ((xs (x3 + (3 : Int32)).toNatClampNeg).toInt64 <<< ((32 : Int32).toInt64 &&& 63))) hx hb dL_law_1381 rfl ?_
  refine lv_aload_n hx hb dL_law_1382 rfl (lv_at hl 0 rfl) ?_
  refine lv_iload_n hx hb dL_law_1383 rfl (lv_at hl 3 rfl) ?_
  refine lv_iconst (v := (4 : Int32)) hx hb dL_law_1384 (by decide) ?_
  refine lv_iadd hx hb dL_law_1385 ?_
  refine va_sld hx hb hX hbl hbA hW.2.2 h_4 dL_law_1386 ?_
  refine lv_i2l (v := (xs (x3 + (4 : Int32)).toNatClampNeg).toInt64) hx hb dL_law_1387 rfl ?_
  refine lv_ldc2 (v := (4294967295 : Int64)) hx hb hE.2.2.2.1 (hE.2.2.2.2.1 _ q1283) dL_law_1388 ?_
  refine lv_land hx hb dL_law_1391 ?_
  refine lv_lor hx hb dL_law_1392 ?_
  refine g_callVi (rest := [.int r]) hE hW (hW.af hA) hl.1 (mX9_item hM h9) hM.o hM.obj rfl q1268 q1269 q1270 q10 q1271 hd_X9_item ⟨(Nat.le_of_ble_eq_true rfl), (Nat.le_of_ble_eq_true rfl)⟩ ⟨rfl, rfl⟩ rfl (Nat.le_of_ble_eq_true rfl) dL_law_1393 hcs (fun c2 H locs hP2 hz2 hW => ?_)
  have hK := hK.fr hP2.2 (by omega)
  have hM := hP2.1
  refine lv_icmp_eq (tgt := 1498) hx hb dL_law_1396 (by decide) (fun _ => ?_) (fun kf => absurd rfl kf)
  exact hn K1 M1 J ad _ _ _ d0 cells slots ls ⟨hR1, hK, hM, hW, hd, by rw [ht]; exact hj1, by rw [ht]; exact hj2, by rw [ht]; exact hc1, by rw [ht]; exact hc2⟩ hl
set_option maxHeartbeats 4000000 in
set_option maxRecDepth 100000 in
theorem lc_peek {p : Program} {l : Launch} {e : Env} {s : State} {m : MethodId} {below : List Frame} {meth : Method} {cd : Code} {D : va_G} {ct : Nat → ClassId} {b L : Nat} {xs : Nat → Int32} {Rel : KS → MS → Prop} (hE0 : ME p s m cd #[Value.ref b] D ct cL_law RL 4) (hX0 : va_X b L xs s s.heap) (hbl : b < s.heap.size) (hs : S_peek Rel) {x3 : Int32} (h_1 : vp_in (x3 + (1 : Int32)) L) (h_2 : vp_in (x3 + (2 : Int32)) L) (hn : ∀ (K : KS) (M : MS) (J : List Nat) (ad : Nat → Nat) (c : CF) (H : Heap) (locs : List Loc) (d0 : Drawn) (cells slots : Nat) (ls : Array Slot), LI D ct s Rel K M J ad c H locs d0 cells slots → lv_has ls 4 [(0, .ref b), (1, .ref (ad 0)), (2, .ref (ad 160)), (3, .int x3)] → W p l e room_1 (s.setDrawn d0) m #[Value.ref b] below meth cd H locs cells slots (lw_Z below #[Value.ref b] s) (F0 m 1498 ls [])) {K : KS} {M : MS} {J : List Nat} {ad : Nat → Nat} {c : CF} {H : Heap} {locs : List Loc} {d0 : Drawn} {cells slots : Nat} {ls : Array Slot} (hi : LI D ct s Rel K M J ad c H locs d0 cells slots) (hl : lv_has ls 4 [(0, .ref b), (1, .ref (ad 0)), (2, .ref (ad 160)), (3, .int x3)]) : W p l e room_1 (s.setDrawn d0) m #[Value.ref b] below meth cd H locs cells slots (lw_Z below #[Value.ref b] s) (F0 m 1401 ls []) := by
  obtain ⟨hRel, hK, hM, hW, hd, hj1, hj2, hc1, hc2⟩ := hi
  have hx := hE0.1
  have hb := hE0.2.1
  have hE := hE0.dr d0
  have hX : va_X b L xs (s.setDrawn d0) s.heap := hX0
  have hA : ∀ q : Nat, s.heap.size ≤ q → (fun q : Nat => s.heap.size ≤ q) q := fun _ h => h
  have hbA : ¬ (fun q : Nat => s.heap.size ≤ q) b := Nat.not_le.mpr hbl
  have hcs : cells ≤ room_1.cells ∧ slots ≤ room_1.slots := ⟨Nat.le_trans (show cells ≤ 300 by omega) (Nat.le_of_ble_eq_true rfl), Nat.le_trans (show slots ≤ 60000 by omega) (Nat.le_of_ble_eq_true rfl)⟩
  refine lv_aload_n hx hb dL_law_1401 rfl (lv_at hl 1 rfl) ?_
  refine lv_aload_n hx hb dL_law_1402 rfl (lv_at hl 0 rfl) ?_
  refine lv_iload_n hx hb dL_law_1403 rfl (lv_at hl 3 rfl) ?_
  refine lv_iconst (v := (1 : Int32)) hx hb dL_law_1404 (by decide) ?_
  refine lv_iadd hx hb dL_law_1405 ?_
  refine va_sld hx hb hX hbl hbA hW.2.2 h_1 dL_law_1406 ?_
  refine lv_aload_n hx hb dL_law_1407 rfl (lv_at hl 0 rfl) ?_
  refine lv_iload_n hx hb dL_law_1408 rfl (lv_at hl 3 rfl) ?_
  refine lv_iconst (v := (2 : Int32)) hx hb dL_law_1409 (by decide) ?_
  refine lv_iadd hx hb dL_law_1410 ?_
  refine va_sld hx hb hX hbl hbA hW.2.2 h_2 dL_law_1411 ?_
  obtain ⟨r, h8, h9, hR1⟩ := hs ((xs (x3 + (1 : Int32)).toNatClampNeg)) ((xs (x3 + (2 : Int32)).toNatClampNeg)) K M hRel
  refine g_callVl (rest := []) hE hW (hW.af hA) hl.1 (mX8_peek hK h8) hK.o hK.obj rfl q843 q844 q845 q1 q846 hd_X8_peek ⟨(Nat.le_of_ble_eq_true rfl), (Nat.le_of_ble_eq_true rfl)⟩ ⟨rfl, rfl⟩ rfl (Nat.le_of_ble_eq_true rfl) dL_law_1412 hcs (fun c1 H locs hP hz1 hW => ?_)
  rw [hP] at hW
  refine lv_aload_n hx hb dL_law_1415 rfl (lv_at hl 2 rfl) ?_
  refine lv_aload_n hx hb dL_law_1416 rfl (lv_at hl 0 rfl) ?_
  refine lv_iload_n hx hb dL_law_1417 rfl (lv_at hl 3 rfl) ?_
  refine lv_iconst (v := (1 : Int32)) hx hb dL_law_1418 (by decide) ?_
  refine lv_iadd hx hb dL_law_1419 ?_
  refine va_sld hx hb hX hbl hbA hW.2.2 h_1 dL_law_1420 ?_
  refine lv_aload_n hx hb dL_law_1421 rfl (lv_at hl 0 rfl) ?_
  refine lv_iload_n hx hb dL_law_1422 rfl (lv_at hl 3 rfl) ?_
  refine lv_iconst (v := (2 : Int32)) hx hb dL_law_1423 (by decide) ?_
  refine lv_iadd hx hb dL_law_1424 ?_
  refine va_sld hx hb hX hbl hbA hW.2.2 h_2 dL_law_1425 ?_
  refine g_callVl (rest := [.long r]) hE hW (hW.af hA) hl.1 (mX9_peek hM h9) hM.o hM.obj rfl q1275 q1276 q1277 q10 q1278 hd_X9_peek ⟨(Nat.le_of_ble_eq_true rfl), (Nat.le_of_ble_eq_true rfl)⟩ ⟨rfl, rfl⟩ rfl (Nat.le_of_ble_eq_true rfl) dL_law_1426 hcs (fun c2 H locs hP2 hz2 hW => ?_)
  rw [hP2] at hW
  refine W.lcmp hx hb dL_law_1429 ?_
  rw [lg_same]
  refine lv_if_eq (tgt := 1498) hx hb dL_law_1430 (by decide) (fun _ => ?_) (fun kf => absurd rfl kf)
  exact hn K M J ad _ _ _ d0 cells slots ls ⟨hR1, hK, hM, hW, hd, hj1, hj2, hc1, hc2⟩ hl
set_option maxHeartbeats 4000000 in
set_option maxRecDepth 100000 in
theorem lc_shift {p : Program} {l : Launch} {e : Env} {s : State} {m : MethodId} {below : List Frame} {meth : Method} {cd : Code} {D : va_G} {ct : Nat → ClassId} {b L : Nat} {xs : Nat → Int32} {Rel : KS → MS → Prop} (hE0 : ME p s m cd #[Value.ref b] D ct cL_law RL 4) (hX0 : va_X b L xs s s.heap) (hbl : b < s.heap.size) (hs : S_shift Rel) {x3 : Int32} (h_1 : vp_in (x3 + (1 : Int32)) L) (h_2 : vp_in (x3 + (2 : Int32)) L) (h_3 : vp_in (x3 + (3 : Int32)) L) (h_4 : vp_in (x3 + (4 : Int32)) L) (h_5 : vp_in (x3 + (5 : Int32)) L) (hn : ∀ (K : KS) (M : MS) (J : List Nat) (ad : Nat → Nat) (c : CF) (H : Heap) (locs : List Loc) (d0 : Drawn) (cells slots : Nat) (ls : Array Slot), LI D ct s Rel K M J ad c H locs d0 cells slots → lv_has ls 4 [(0, .ref b), (1, .ref (ad 0)), (2, .ref (ad 160)), (3, .int x3)] → W p l e room_1 (s.setDrawn d0) m #[Value.ref b] below meth cd H locs cells slots (lw_Z below #[Value.ref b] s) (F0 m 1498 ls [])) {K : KS} {M : MS} {J : List Nat} {ad : Nat → Nat} {c : CF} {H : Heap} {locs : List Loc} {d0 : Drawn} {cells slots : Nat} {ls : Array Slot} (hi : LI D ct s Rel K M J ad c H locs d0 cells slots) (hl : lv_has ls 4 [(0, .ref b), (1, .ref (ad 0)), (2, .ref (ad 160)), (3, .int x3)]) : W p l e room_1 (s.setDrawn d0) m #[Value.ref b] below meth cd H locs cells slots (lw_Z below #[Value.ref b] s) (F0 m 1435 ls []) := by
  obtain ⟨hRel, hK, hM, hW, hd, hj1, hj2, hc1, hc2⟩ := hi
  have hx := hE0.1
  have hb := hE0.2.1
  have hE := hE0.dr d0
  have hX : va_X b L xs (s.setDrawn d0) s.heap := hX0
  have hA : ∀ q : Nat, s.heap.size ≤ q → (fun q : Nat => s.heap.size ≤ q) q := fun _ h => h
  have hbA : ¬ (fun q : Nat => s.heap.size ≤ q) b := Nat.not_le.mpr hbl
  have hcs : cells ≤ room_1.cells ∧ slots ≤ room_1.slots := ⟨Nat.le_trans (show cells ≤ 300 by omega) (Nat.le_of_ble_eq_true rfl), Nat.le_trans (show slots ≤ 60000 by omega) (Nat.le_of_ble_eq_true rfl)⟩
  refine lv_aload_n hx hb dL_law_1435 rfl (lv_at hl 1 rfl) ?_
  refine lv_aload_n hx hb dL_law_1436 rfl (lv_at hl 0 rfl) ?_
  refine lv_iload_n hx hb dL_law_1437 rfl (lv_at hl 3 rfl) ?_
  refine lv_iconst (v := (1 : Int32)) hx hb dL_law_1438 (by decide) ?_
  refine lv_iadd hx hb dL_law_1439 ?_
  refine va_sld hx hb hX hbl hbA hW.2.2 h_1 dL_law_1440 ?_
  refine lv_aload_n hx hb dL_law_1441 rfl (lv_at hl 0 rfl) ?_
  refine lv_iload_n hx hb dL_law_1442 rfl (lv_at hl 3 rfl) ?_
  refine lv_iconst (v := (2 : Int32)) hx hb dL_law_1443 (by decide) ?_
  refine lv_iadd hx hb dL_law_1444 ?_
  refine va_sld hx hb hX hbl hbA hW.2.2 h_2 dL_law_1445 ?_
  refine lv_aload_n hx hb dL_law_1446 rfl (lv_at hl 0 rfl) ?_
  refine lv_iload_n hx hb dL_law_1447 rfl (lv_at hl 3 rfl) ?_
  refine lv_iconst (v := (3 : Int32)) hx hb dL_law_1448 (by decide) ?_
  refine lv_iadd hx hb dL_law_1449 ?_
  refine va_sld hx hb hX hbl hbA hW.2.2 h_3 dL_law_1450 ?_
  refine lv_aload_n hx hb dL_law_1451 rfl (lv_at hl 0 rfl) ?_
  refine lv_iload_n hx hb dL_law_1452 rfl (lv_at hl 3 rfl) ?_
  refine lv_iconst (v := (4 : Int32)) hx hb dL_law_1453 (by decide) ?_
  refine lv_iadd hx hb dL_law_1454 ?_
  refine va_sld hx hb hX hbl hbA hW.2.2 h_4 dL_law_1455 ?_
  refine lv_aload_n hx hb dL_law_1456 rfl (lv_at hl 0 rfl) ?_
  refine lv_iload_n hx hb dL_law_1457 rfl (lv_at hl 3 rfl) ?_
  refine lv_iconst (v := (5 : Int32)) hx hb dL_law_1458 (by decide) ?_
  refine lv_iadd hx hb dL_law_1459 ?_
  refine va_sld hx hb hX hbl hbA hW.2.2 h_5 dL_law_1460 ?_
  obtain ⟨r, K1, M1, h8, h9, hR1, ht⟩ := hs ((xs (x3 + (1 : Int32)).toNatClampNeg)) ((xs (x3 + (2 : Int32)).toNatClampNeg)) ((xs (x3 + (3 : Int32)).toNatClampNeg)) ((xs (x3 + (4 : Int32)).toNatClampNeg)) ((xs (x3 + (5 : Int32)).toNatClampNeg)) K M hRel
  refine g_callVi (rest := []) hE hW (hW.af hA) hl.1 (mX8_shift hK h8) hK.o hK.obj rfl q847 q848 q849 q1 q850 hd_X8_shift ⟨(Nat.le_of_ble_eq_true rfl), (Nat.le_of_ble_eq_true rfl)⟩ ⟨rfl, rfl⟩ rfl (Nat.le_of_ble_eq_true rfl) dL_law_1461 hcs (fun c1 H locs hP hz1 hW => ?_)
  have hM := hM.fr hP.2 (by omega)
  have hK := hP.1
  refine lv_aload_n hx hb dL_law_1464 rfl (lv_at hl 2 rfl) ?_
  refine lv_aload_n hx hb dL_law_1465 rfl (lv_at hl 0 rfl) ?_
  refine lv_iload_n hx hb dL_law_1466 rfl (lv_at hl 3 rfl) ?_
  refine lv_iconst (v := (1 : Int32)) hx hb dL_law_1467 (by decide) ?_
  refine lv_iadd hx hb dL_law_1468 ?_
  refine va_sld hx hb hX hbl hbA hW.2.2 h_1 dL_law_1469 ?_
  refine lv_aload_n hx hb dL_law_1470 rfl (lv_at hl 0 rfl) ?_
  refine lv_iload_n hx hb dL_law_1471 rfl (lv_at hl 3 rfl) ?_
  refine lv_iconst (v := (2 : Int32)) hx hb dL_law_1472 (by decide) ?_
  refine lv_iadd hx hb dL_law_1473 ?_
  refine va_sld hx hb hX hbl hbA hW.2.2 h_2 dL_law_1474 ?_
  refine lv_aload_n hx hb dL_law_1475 rfl (lv_at hl 0 rfl) ?_
  refine lv_iload_n hx hb dL_law_1476 rfl (lv_at hl 3 rfl) ?_
  refine lv_iconst (v := (3 : Int32)) hx hb dL_law_1477 (by decide) ?_
  refine lv_iadd hx hb dL_law_1478 ?_
  refine va_sld hx hb hX hbl hbA hW.2.2 h_3 dL_law_1479 ?_
  refine lv_aload_n hx hb dL_law_1480 rfl (lv_at hl 0 rfl) ?_
  refine lv_iload_n hx hb dL_law_1481 rfl (lv_at hl 3 rfl) ?_
  refine lv_iconst (v := (4 : Int32)) hx hb dL_law_1482 (by decide) ?_
  refine lv_iadd hx hb dL_law_1483 ?_
  refine va_sld hx hb hX hbl hbA hW.2.2 h_4 dL_law_1484 ?_
  refine lv_aload_n hx hb dL_law_1485 rfl (lv_at hl 0 rfl) ?_
  refine lv_iload_n hx hb dL_law_1486 rfl (lv_at hl 3 rfl) ?_
  refine lv_iconst (v := (5 : Int32)) hx hb dL_law_1487 (by decide) ?_
  refine lv_iadd hx hb dL_law_1488 ?_
  refine va_sld hx hb hX hbl hbA hW.2.2 h_5 dL_law_1489 ?_
  refine g_callVi (rest := [.int r]) hE hW (hW.af hA) hl.1 (mX9_shift hM h9) hM.o hM.obj rfl q1279 q1280 q1281 q10 q1282 hd_X9_shift ⟨(Nat.le_of_ble_eq_true rfl), (Nat.le_of_ble_eq_true rfl)⟩ ⟨rfl, rfl⟩ rfl (Nat.le_of_ble_eq_true rfl) dL_law_1490 hcs (fun c2 H locs hP2 hz2 hW => ?_)
  have hK := hK.fr hP2.2 (by omega)
  have hM := hP2.1
  refine lv_icmp_eq (tgt := 1498) hx hb dL_law_1493 (by decide) (fun _ => ?_) (fun kf => absurd rfl kf)
  exact hn K1 M1 J ad _ _ _ d0 cells slots ls ⟨hR1, hK, hM, hW, hd, by rw [ht]; exact hj1, by rw [ht]; exact hj2, by rw [ht]; exact hc1, by rw [ht]; exact hc2⟩ hl
