def fX9_valueOf  (a1 : Int32) (a2 : Int32) : Option Int32 :=
  zb (fJxf58ca_floatToIntBits_5c35a (FP.fdiv (FP.i2f a1) (FP.i2f a2))) (fun r_3 => some r_3)
def fX9_put  (a1 : Int32) (a2 : Int32) (a3 : Int32) (a4 : Int32) (a5 : Int32) (st : MS) : Option (Int32 × MS) :=
  zb (fX9_noRecord a1 a2 a5 st) (fun r_1 => if r_1 = 0 then (zb (fX9_valueOf a3 a4) (fun r_3 => zb2 (fX9_comes a1 a2 r_3 (0 : Int32) a5 st) (fun r_4 st_5 => some (r_4, st_5)))) else (some (r_1, st)))
def fX9_read_186 (x1 : Int32) (K98 : Int32 → Int32 → MS → Option (Int32 × MS)) (x2 : Int32) (x3 : Int32) (x4 : Int32) (y0 : Int32) (y1 : Int32) (y2 : Int32) (st : MS) : Option (Int32 × MS) :=
  zb2 (fX9_comes y2 y1 y0 x4 (1 : Int32) st) (fun r_19 st_20 => K98 (x2 + (1 : Int32)) (x3 + (5 : Int32)) st_20)
def fX9_read_141 (x1 : Int32) (K98 : Int32 → Int32 → MS → Option (Int32 × MS)) (x2 : Int32) (x3 : Int32) (y0 : Int32) (st : MS) : Option (Int32 × MS) :=
  zi x3 60 (zi (x3 + (1 : Int32)) 60 (if y0 = 0 then (zi (x3 + (3 : Int32)) 60 (zi (x3 + (4 : Int32)) 60 (zb (fX9_valueOf (st.1 4 (x3 + (3 : Int32)).toNatClampNeg) (st.1 4 (x3 + (4 : Int32)).toNatClampNeg)) (fun r_18 => fX9_read_186 x1 K98 x2 x3 y0 r_18 (st.1 4 (x3 + (1 : Int32)).toNatClampNeg) (st.1 4 x3.toNatClampNeg) st)))) else (fX9_read_186 x1 K98 x2 x3 y0 (0 : Int32) (st.1 4 (x3 + (1 : Int32)).toNatClampNeg) (st.1 4 x3.toNatClampNeg) st)))
def fX9_read_98 (x1 : Int32) : Nat → Int32 → Int32 → MS → Option (Int32 × MS)
  | 0, _, _, _ => none
  | n + 1, x2, x3, st =>
    if ((5 : Int32) * x1) ≤ x3 then (some (x2, st)) else (zi x3 60 (zb (fX9_at (st.1 4 x3.toNatClampNeg) (1271 : Int32) st) (fun r_9 => if (200 : Int32) ≤ r_9 then (fX9_read_98 x1 n x2 (x3 + (5 : Int32)) st) else (zi (x3 + (2 : Int32)) 60 (if (st.1 4 (x3 + (2 : Int32)).toNatClampNeg) = (1 : Int32) then (fX9_read_141 x1 (fX9_read_98 x1 n) x2 x3 (1 : Int32) st) else (fX9_read_141 x1 (fX9_read_98 x1 n) x2 x3 (0 : Int32) st))))))
def fX9_read_74 (x1 : Int32) (st : MS) : Option (Int32 × MS) :=
  zl (sFm st 1 (0 : Int32)) (fun st_5 => if (st_5.2.1 4) < 0 then (fX9_read_98 x1 FU (0 : Int32) (0 : Int32) st_5) else (some (((-10 : Int32) - (st_5.2.1 4)), st_5)))
def fX9_read_17 : Nat → Int32 → MS → Option (Int32 × MS)
  | 0, _, _ => none
  | n + 1, x1, st =>
    if 0 ≤ (st.2.1 4) then (fX9_read_74 x1 st) else (if (st.2.1 1) ≤ (st.2.1 3) then (fX9_read_74 x1 st) else (if x1 = (12 : Int32) then (zl (sFm st 4 (st.2.1 3)) (fun st_26 => fX9_read_17 n x1 st_26)) else (zb2 (fX9_must (59 : Int32) (59 : Int32) st) (fun r_23 st_24 => zb (fX9_clause ((5 : Int32) * x1) st_24) (fun st_25 => fX9_read_17 n (x1 + (1 : Int32)) st_25)))))
def fX9_read   (st : MS) : Option (Int32 × MS) :=
  zl (sFm st 3 (0 : Int32)) (fun st_1 => zl (sFm st_1 4 (-1 : Int32)) (fun st_2 => zb (fX9_clause (0 : Int32) st_2) (fun st_3 => fX9_read_17 FU (1 : Int32) st_3)))
def fX9_valueAt  (a1 : Int32) (a2 : Int32) (st : MS) : Option UInt32 :=
  zi a2 26 (zb (fX9_at a1 ((1000 : Int32) + (st.1 5 a2.toNatClampNeg)) st) (fun r_2 => zs r_2 (some r_2.toUInt32)))
def fX9_map_142 (x1 : Int32) (x2 : Int32) (x3 : Int32) (K69 : UInt32 → UInt64 → UInt32 → Int32 → Int32 → MS → Option (Int64 × MS)) (x4 : UInt32) (x5 : UInt64) (x9 : Int32) (x10 : UInt32) (st : MS) : Option (Int64 × MS) :=
  K69 x4 x5 x10 (1 : Int32) (x9 + (1 : Int32)) st
def fX9_map_69 (x1 : Int32) (x2 : Int32) (x3 : Int32) : Nat → UInt32 → UInt64 → UInt32 → Int32 → Int32 → MS → Option (Int64 × MS)
  | 0, _, _, _, _, _, _ => none
  | n + 1, x4, x5, x7, x8, x9, st =>
    if (26 : Int32) ≤ x9 then (if x2 = (1 : Int32) then (zb (fJxf58ca_floatToIntBits_5c35a x4) (fun r_16 => some (r_16.toInt64, st))) else (if x2 = (4 : Int32) then (zb (fJxe99ae_doubleToLongBits_ccdee (FP.ddiv x5 (FP.i2d x3))) (fun r_15 => some (r_15, st))) else (zb (fJxf58ca_floatToIntBits_5c35a x7) (fun r_12 => some (r_12.toInt64, st))))) else (zb (fX9_isMapped x1 x9 st) (fun r_17 => if r_17 = 0 then (fX9_map_69 x1 x2 x3 n x4 x5 x7 x8 (x9 + (1 : Int32)) st) else (zb (fX9_valueAt x1 x9 st) (fun r_19 => zl ((FP.dadd x5 (FP.f2d r_19))) (fun x_26 => zb (fJxf58ca_compare_66c2b r_19 x7) (fun r_27 => if x8 = 0 then (fX9_map_142 x1 x2 x3 (fX9_map_69 x1 x2 x3 n) (FP.fadd x4 r_19) x_26 x9 r_19 st) else (if x2 = (2 : Int32) then (if 0 ≤ r_27 then (fX9_map_69 x1 x2 x3 n (FP.fadd x4 r_19) x_26 x7 (1 : Int32) (x9 + (1 : Int32)) st) else (fX9_map_142 x1 x2 x3 (fX9_map_69 x1 x2 x3 n) (FP.fadd x4 r_19) x_26 x9 r_19 st)) else (if r_27 ≤ 0 then (fX9_map_69 x1 x2 x3 n (FP.fadd x4 r_19) x_26 x7 (1 : Int32) (x9 + (1 : Int32)) st) else (fX9_map_142 x1 x2 x3 (fX9_map_69 x1 x2 x3 n) (FP.fadd x4 r_19) x_26 x9 r_19 st)))))))))
def fX9_map_54 (x1 : Int32) (x2 : Int32) (x3 : Int32) (st : MS) : Option (Int64 × MS) :=
  fX9_map_69 x1 x2 x3 FU (0 : UInt32) (0 : UInt64) (0 : UInt32) (0 : Int32) (0 : Int32) st
def fX9_map  (a1 : Int32) (a2 : Int32) (st : MS) : Option (Int64 × MS) :=
  zb (fX9_isLog a1) (fun r_1 => if r_1 = 0 then (some ((-9223372036854775808 : Int64), st)) else (zb (fX9_in a2 (0 : Int32) (4 : Int32)) (fun r_3 => if r_3 = 0 then (some ((-9223372036854775808 : Int64), st)) else (zb (fX9_replays a1 (200 : Int32) st) (fun st_5 => zb (fX9_mapped a1 st_5) (fun r_6 => if a2 = 0 then (some (r_6.toInt64, st_5)) else (if r_6 = 0 then (if a2 ≤ (1 : Int32) then (fX9_map_54 a1 a2 r_6 st_5) else (some ((-9223372036854775808 : Int64), st_5))) else (fX9_map_54 a1 a2 r_6 st_5))))))))
theorem hd_X9_valueOf : yX9_valueOf.cls = RX9 ∧ yX9_valueOf.cls ≠ "java/lang/invoke/MethodHandle" ∧ yX9_valueOf.cls ≠ "java/lang/invoke/VarHandle" ∧ (parseMethodDescriptor yX9_valueOf.desc).map (fun d => d.parameters.length) = some 2 := by decide +kernel
theorem hd_X9_put : yX9_put.cls = RX9 ∧ yX9_put.cls ≠ "java/lang/invoke/MethodHandle" ∧ yX9_put.cls ≠ "java/lang/invoke/VarHandle" ∧ (parseMethodDescriptor yX9_put.desc).map (fun d => d.parameters.length) = some 5 := by decide +kernel
theorem hd_X9_read : yX9_read.cls = RX9 ∧ yX9_read.cls ≠ "java/lang/invoke/MethodHandle" ∧ yX9_read.cls ≠ "java/lang/invoke/VarHandle" ∧ (parseMethodDescriptor yX9_read.desc).map (fun d => d.parameters.length) = some 0 := by decide +kernel
theorem hd_X9_valueAt : yX9_valueAt.cls = RX9 ∧ yX9_valueAt.cls ≠ "java/lang/invoke/MethodHandle" ∧ yX9_valueAt.cls ≠ "java/lang/invoke/VarHandle" ∧ (parseMethodDescriptor yX9_valueAt.desc).map (fun d => d.parameters.length) = some 2 := by decide +kernel
theorem hd_X9_map : yX9_map.cls = RX9 ∧ yX9_map.cls ≠ "java/lang/invoke/MethodHandle" ∧ yX9_map.cls ≠ "java/lang/invoke/VarHandle" ∧ (parseMethodDescriptor yX9_map.desc).map (fun d => d.parameters.length) = some 2 := by decide +kernel
set_option maxHeartbeats 4000000 in
set_option maxRecDepth 100000 in
theorem mX9_valueOf {l : Launch} {D : va_G} {ct : Nat → ClassId} {J : List Nat} {ad : Nat → Nat} {c0 : CF} {a1 : Int32} {a2 : Int32} {r : Int32} (h : fX9_valueOf  a1 a2 = some r) : MDi l D ct J ad yX9_valueOf cX9_valueOf 2 (some .int) (rr 2 50) [.int a1, .int a2] c0 r (fun c' => c' = c0) := by
  refine MDi_of (own := RX9) (by decide) rfl (Nat.le_of_ble_eq_true rfl) (fun p e s m below meth cd d0 hd hE0 hr hlk hW ls hl => ?_)
  have hE := hE0.dr d0
  have hx := hE.1
  have hb := hE.2.1
  have hl : lv_has ls 2 [(0, .int a1), (1, .int a2)] := hl
  rw [fX9_valueOf] at h
  refine lv_iload_n hx hb dX9_valueOf_0 rfl (lv_at hl 0 rfl) ?_
  refine lv_i2f hx hb dX9_valueOf_1 ?_
  refine lv_iload_n hx hb dX9_valueOf_2 rfl (lv_at hl 1 rfl) ?_
  refine lv_i2f hx hb dX9_valueOf_3 ?_
  refine lv_fdiv_any hd lw_bits hx hb dX9_valueOf_4 (fun r_1 d0 hal_2 hd => ?_)
  have hE := hE0.dr d0
  obtain ⟨r_3, hr_3, h⟩ := zb_e h
  have hr_3 := (al_floatToIntBits hal_2).trans hr_3
  refine k_callSi (rest := []) hE hW hl.1 (mJxf58ca_floatToIntBits_5c35a hr_3) q941 q942 q12 q943 hd_Jxf58ca_floatToIntBits_5c35a.2 ⟨Nat.le_of_ble_eq_true rfl, Nat.le_of_ble_eq_true rfl⟩ ⟨rfl, rfl⟩ rfl (Nat.le_of_ble_eq_true rfl) dX9_valueOf_5 ⟨Nat.zero_le _, Nat.zero_le _⟩ (fun c1 H locs hP hW => ?_)
  rw [hP] at hW
  refine W.endD hd ?_
  obtain rfl := Option.some.inj h
  exact k_iret hE hr hlk hW rfl rfl dX9_valueOf_8
set_option maxHeartbeats 4000000 in
set_option maxRecDepth 100000 in
theorem mX9_put {l : Launch} {D : va_G} {ct : Nat → ClassId} {J : List Nat} {ad : Nat → Nat} {c0 : CF} {a1 : Int32} {a2 : Int32} {a3 : Int32} {a4 : Int32} {a5 : Int32} {b : Nat} {st : MS} (hB_st : MoB ct J ad c0 b st) {r : Int32} {st9 : MS} (h : fX9_put  a1 a2 a3 a4 a5 st = some (r, st9)) : MDi l D ct J ad yX9_put cX9_put 7 (some .int) (rr 5 117) [.ref (ad b), .int a1, .int a2, .int a3, .int a4, .int a5] c0 r (fun c' => MoB ct J ad c' b st9 ∧ Fr c0 c' b 19) := by
  refine MDi_of (own := RX9) (by decide) rfl (Nat.le_of_ble_eq_true rfl) (fun p e s m below meth cd d0 hd hE0 hr hlk hW ls hl => ?_)
  have hE := hE0.dr d0
  have hx := hE.1
  have hb := hE.2.1
  have hl : lv_has ls 7 [(0, .ref (ad b)), (1, .int a1), (2, .int a2), (3, .int a3), (4, .int a4), (5, .int a5)] := hl
  rw [fX9_put] at h
  obtain ⟨c, hB_st, hF, hW⟩ : ∃ c', MoB ct J ad c' b st ∧ Fr c0 c' b 19 ∧ HW D J ad c' (aA J ad s.heap.size) s.heap s.heap [] := ⟨c0, hB_st, Fr.rf, hW⟩
  refine lv_aload_n hx hb dX9_put_0 rfl (lv_at hl 0 rfl) ?_
  refine lv_iload_n hx hb dX9_put_1 rfl (lv_at hl 1 rfl) ?_
  refine lv_iload_n hx hb dX9_put_2 rfl (lv_at hl 2 rfl) ?_
  refine lv_iload hx hb dX9_put_3 (lv_at hl 5 rfl) ?_
  obtain ⟨r_1, hr_1, h⟩ := zb_e h
  refine k_callVi (rest := []) hE hW hl.1 (mX9_noRecord hB_st hr_1) hB_st.o hB_st.obj rfl q924 q926 qs86 q10 q927 hd_X9_noRecord ⟨Nat.le_of_ble_eq_true rfl, Nat.le_of_ble_eq_true rfl⟩ ⟨rfl, rfl⟩ rfl (Nat.le_of_ble_eq_true rfl) dX9_put_5 ⟨Nat.zero_le _, Nat.zero_le _⟩ (fun c1 H locs hP hW => ?_)
  rw [hP] at hW
  refine lv_istore (lv' := [(6, .int r_1), (0, .ref (ad b)), (1, .int a1), (2, .int a2), (3, .int a3), (4, .int a4), (5, .int a5)]) hx hb dX9_put_8 hl (by decide) rfl (fun ls hl => ?_)
  refine lv_iload hx hb dX9_put_10 (lv_at hl 0 rfl) ?_
  refine lv_if_eq (tgt := 20) hx hb dX9_put_12 (by decide) (fun k_2 => ?_) (fun k_2 => ?_)
  · have h := it_t k_2 h
    refine lv_aload_n hx hb dX9_put_20 rfl (lv_at hl 1 rfl) ?_
    refine lv_iload_n hx hb dX9_put_21 rfl (lv_at hl 2 rfl) ?_
    refine lv_iload_n hx hb dX9_put_22 rfl (lv_at hl 3 rfl) ?_
    refine lv_iload_n hx hb dX9_put_23 rfl (lv_at hl 4 rfl) ?_
    refine lv_iload hx hb dX9_put_24 (lv_at hl 5 rfl) ?_
    obtain ⟨r_3, hr_3, h⟩ := zb_e h
    refine g_callSiD (rest := [.int a2, .int a1, .ref (ad b)]) hd hE hW (fun q h => aA_mono hW.2.2.1 h) hl.1 (mX9_valueOf hr_3) q938 q939 q10 q940 hd_X9_valueOf.2 ⟨Nat.le_of_ble_eq_true rfl, Nat.le_of_ble_eq_true rfl⟩ ⟨rfl, rfl⟩ rfl (Nat.le_of_ble_eq_true rfl) dX9_put_26 ⟨Nat.zero_le _, Nat.zero_le _⟩ (fun c1 H locs hP hz hW d0 hd => ?_)
    have hE := hE0.dr d0
    rw [hP] at hW
    refine lv_iconst (v := (0 : Int32)) hx hb dX9_put_29 (by decide) ?_
    refine lv_iload hx hb dX9_put_30 (lv_at hl 6 rfl) ?_
    obtain ⟨r_4, st_5, hr_4, h⟩ := zb2_e h
    refine k_callVi (rest := []) hE hW hl.1 (mX9_comes hB_st hr_4) hB_st.o hB_st.obj rfl q951 q953 qs88 q10 q954 hd_X9_comes ⟨Nat.le_of_ble_eq_true rfl, Nat.le_of_ble_eq_true rfl⟩ ⟨rfl, rfl⟩ rfl (Nat.le_of_ble_eq_true rfl) dX9_put_32 ⟨Nat.zero_le _, Nat.zero_le _⟩ (fun c1 H locs hP hW => ?_)
    obtain ⟨c, hB_st, hF, hW⟩ : ∃ c', MoB ct J ad c' b st_5 ∧ Fr c0 c' b 19 ∧ HW D J ad c' (aA J ad s.heap.size) s.heap H locs := ⟨c1, hP.1, hF.trans hP.2, hW⟩
    refine W.endD hd ?_
    obtain ⟨rfl, rfl⟩ := Prod.mk.inj (Option.some.inj h)
    exact k_iret hE hr hlk hW ⟨hB_st, hF⟩ rfl dX9_put_35
  · have h := it_f k_2 h
    refine lv_iload hx hb dX9_put_15 (lv_at hl 0 rfl) ?_
    refine lv_goto (tgt := 35) hx hb dX9_put_17 (by decide) ?_
    refine W.endD hd ?_
    obtain ⟨rfl, rfl⟩ := Prod.mk.inj (Option.some.inj h)
    exact k_iret hE hr hlk hW ⟨hB_st, hF⟩ rfl dX9_put_35
set_option maxHeartbeats 4000000 in
set_option maxRecDepth 100000 in
theorem wX9_read_186 {p : Program} {l : Launch} {e : Env} {s : State} {m : MethodId} {args : Array Value} {below : List Frame} {meth : Method} {cd : Code} {D : va_G} {ct : Nat → ClassId} {J : List Nat} {ad : Nat → Nat} {c0 : CF} {b : Nat} (hE0 : ME p s m cd args D ct cX9_read RX9 5) (hr : meth.sig.returnType = (some .int)) (hlk : meth.locks = false) {x1 : Int32} {r : Int32} {st9 : MS} {K98 : Int32 → Int32 → MS → Option (Int32 × MS)} (hK98 : ∀ (x2 : Int32) (x3 : Int32) (st : MS) (c : CF) (H : Heap) (locs : List Loc) (ls : Array Slot) (d0 : Drawn), s.drawn.sameBut d0 lw_cs → HW D J ad c (aA J ad s.heap.size) s.heap H locs → MoB ct J ad c b st → Fr c0 c b 19 → lv_has ls 5 [(0, .ref (ad b)), (1, .int x1), (2, .int x2), (3, .int x3)] → K98 x2 x3 st = some (r, st9) → W p l e (rr 5 117) (s.setDrawn d0) m args below meth cd H locs 0 0 (MQD lw_cs below (Qi D J ad s.heap.size r (fun c' => MoB ct J ad c' b st9 ∧ Fr c0 c' b 19)) args s 0 0 (aA J ad s.heap.size)) (F0 m 98 ls [])) : ∀ (x2 : Int32) (x3 : Int32) (x4 : Int32) (y0 : Int32) (y1 : Int32) (y2 : Int32) (st : MS) (c : CF) (H : Heap) (locs : List Loc) (ls : Array Slot) (d0 : Drawn), s.drawn.sameBut d0 lw_cs → HW D J ad c (aA J ad s.heap.size) s.heap H locs → MoB ct J ad c b st → Fr c0 c b 19 → lv_has ls 5 [(0, .ref (ad b)), (1, .int x1), (2, .int x2), (3, .int x3), (4, .int x4)] → fX9_read_186 x1 K98 x2 x3 x4 y0 y1 y2 st = some (r, st9) → W p l e (rr 5 117) (s.setDrawn d0) m args below meth cd H locs 0 0 (MQD lw_cs below (Qi D J ad s.heap.size r (fun c' => MoB ct J ad c' b st9 ∧ Fr c0 c' b 19)) args s 0 0 (aA J ad s.heap.size)) (F0 m 186 ls [.int y0, .int y1, .int y2, .ref (ad b)]) := by
  have hx := hE0.1
  have hb := hE0.2.1
  intro x2 x3 x4 y0 y1 y2 st c H locs ls d0 hd hW hB_st hF hl h
  rw [fX9_read_186] at h
  have hE := hE0.dr d0
  refine lv_iload hx hb dX9_read_186 (lv_at hl 4 rfl) ?_
  refine lv_iconst (v := (1 : Int32)) hx hb dX9_read_188 (by decide) ?_
  obtain ⟨r_19, st_20, hr_19, h⟩ := zb2_e h
  refine k_callVi (rest := []) hE hW hl.1 (mX9_comes hB_st hr_19) hB_st.o hB_st.obj rfl q951 q953 qs88 q10 q954 hd_X9_comes ⟨Nat.le_of_ble_eq_true rfl, Nat.le_of_ble_eq_true rfl⟩ ⟨rfl, rfl⟩ rfl (Nat.le_of_ble_eq_true rfl) dX9_read_189 ⟨Nat.zero_le _, Nat.zero_le _⟩ (fun c1 H locs hP hW => ?_)
  obtain ⟨c, hB_st, hF, hW⟩ : ∃ c', MoB ct J ad c' b st_20 ∧ Fr c0 c' b 19 ∧ HW D J ad c' (aA J ad s.heap.size) s.heap H locs := ⟨c1, hP.1, hF.trans hP.2, hW⟩
  refine lv_pop hx hb dX9_read_192 rfl ?_
  refine lv_iinc (v := (x2 + (1 : Int32))) (lv' := [(2, .int (x2 + (1 : Int32))), (0, .ref (ad b)), (1, .int x1), (3, .int x3), (4, .int x4)]) hx hb dX9_read_193 hl (k := 2) rfl rfl (by decide) rfl (fun ls hl => ?_)
  refine lv_iinc (v := (x3 + (5 : Int32))) (lv' := [(3, .int (x3 + (5 : Int32))), (2, .int (x2 + (1 : Int32))), (0, .ref (ad b)), (1, .int x1), (4, .int x4)]) hx hb dX9_read_196 hl (k := 3) rfl rfl (by decide) rfl (fun ls hl => ?_)
  refine lv_goto (tgt := 98) hx hb dX9_read_199 (by decide) ?_
  exact hK98 _ _ _ _ _ _ _ _ hd hW hB_st hF (lv_sub hl [2, 3, 1, 0] rfl) h
set_option maxHeartbeats 4000000 in
set_option maxRecDepth 100000 in
theorem wX9_read_141 {p : Program} {l : Launch} {e : Env} {s : State} {m : MethodId} {args : Array Value} {below : List Frame} {meth : Method} {cd : Code} {D : va_G} {ct : Nat → ClassId} {J : List Nat} {ad : Nat → Nat} {c0 : CF} {b : Nat} (hE0 : ME p s m cd args D ct cX9_read RX9 5) (hr : meth.sig.returnType = (some .int)) (hlk : meth.locks = false) {x1 : Int32} {r : Int32} {st9 : MS} {K98 : Int32 → Int32 → MS → Option (Int32 × MS)} (hK98 : ∀ (x2 : Int32) (x3 : Int32) (st : MS) (c : CF) (H : Heap) (locs : List Loc) (ls : Array Slot) (d0 : Drawn), s.drawn.sameBut d0 lw_cs → HW D J ad c (aA J ad s.heap.size) s.heap H locs → MoB ct J ad c b st → Fr c0 c b 19 → lv_has ls 5 [(0, .ref (ad b)), (1, .int x1), (2, .int x2), (3, .int x3)] → K98 x2 x3 st = some (r, st9) → W p l e (rr 5 117) (s.setDrawn d0) m args below meth cd H locs 0 0 (MQD lw_cs below (Qi D J ad s.heap.size r (fun c' => MoB ct J ad c' b st9 ∧ Fr c0 c' b 19)) args s 0 0 (aA J ad s.heap.size)) (F0 m 98 ls [])) : ∀ (x2 : Int32) (x3 : Int32) (y0 : Int32) (st : MS) (c : CF) (H : Heap) (locs : List Loc) (ls : Array Slot) (d0 : Drawn), s.drawn.sameBut d0 lw_cs → HW D J ad c (aA J ad s.heap.size) s.heap H locs → MoB ct J ad c b st → Fr c0 c b 19 → lv_has ls 5 [(0, .ref (ad b)), (1, .int x1), (2, .int x2), (3, .int x3)] → fX9_read_141 x1 K98 x2 x3 y0 st = some (r, st9) → W p l e (rr 5 117) (s.setDrawn d0) m args below meth cd H locs 0 0 (MQD lw_cs below (Qi D J ad s.heap.size r (fun c' => MoB ct J ad c' b st9 ∧ Fr c0 c' b 19)) args s 0 0 (aA J ad s.heap.size)) (F0 m 141 ls [.int y0]) := by
  have hx := hE0.1
  have hb := hE0.2.1
  intro x2 x3 y0 st c H locs ls d0 hd hW hB_st hF hl h
  rw [fX9_read_141] at h
  have hE := hE0.dr d0
  refine lv_istore (lv' := [(4, .int y0), (0, .ref (ad b)), (1, .int x1), (2, .int x2), (3, .int x3)]) hx hb dX9_read_141 hl (by decide) rfl (fun ls hl => ?_)
  refine lv_aload_n hx hb dX9_read_143 rfl (lv_at hl 1 rfl) ?_
  refine lv_aload_n hx hb dX9_read_144 rfl (lv_at hl 1 rfl) ?_
  refine k_get (v := .ref (ad (b + 1 + 4))) hE hW hB_st.o hB_st.obj rfl inX9 6 (by decide) q874 rfl dX9_read_145 ?_
  refine lv_iload_n hx hb dX9_read_148 rfl (lv_at hl 4 rfl) ?_
  obtain ⟨g_13, h⟩ := zi_e h
  refine k_iald hE hW (hB_st.memA 4 (Nat.le_of_ble_eq_true rfl)) (hB_st.arr 4 rfl) g_13 dX9_read_149 ?_
  refine lv_aload_n hx hb dX9_read_150 rfl (lv_at hl 1 rfl) ?_
  refine k_get (v := .ref (ad (b + 1 + 4))) hE hW hB_st.o hB_st.obj rfl inX9 6 (by decide) q874 rfl dX9_read_151 ?_
  refine lv_iload_n hx hb dX9_read_154 rfl (lv_at hl 4 rfl) ?_
  refine lv_iconst (v := (1 : Int32)) hx hb dX9_read_155 (by decide) ?_
  refine lv_iadd hx hb dX9_read_156 ?_
  obtain ⟨g_14, h⟩ := zi_e h
  refine k_iald hE hW (hB_st.memA 4 (Nat.le_of_ble_eq_true rfl)) (hB_st.arr 4 rfl) g_14 dX9_read_157 ?_
  refine lv_iload hx hb dX9_read_158 (lv_at hl 0 rfl) ?_
  refine lv_if_eq (tgt := 167) hx hb dX9_read_160 (by decide) (fun k_15 => ?_) (fun k_15 => ?_)
  · have h := it_t k_15 h
    refine lv_aload_n hx hb dX9_read_167 rfl (lv_at hl 1 rfl) ?_
    refine k_get (v := .ref (ad (b + 1 + 4))) hE hW hB_st.o hB_st.obj rfl inX9 6 (by decide) q874 rfl dX9_read_168 ?_
    refine lv_iload_n hx hb dX9_read_171 rfl (lv_at hl 4 rfl) ?_
    refine lv_iconst (v := (3 : Int32)) hx hb dX9_read_172 (by decide) ?_
    refine lv_iadd hx hb dX9_read_173 ?_
    obtain ⟨g_16, h⟩ := zi_e h
    refine k_iald hE hW (hB_st.memA 4 (Nat.le_of_ble_eq_true rfl)) (hB_st.arr 4 rfl) g_16 dX9_read_174 ?_
    refine lv_aload_n hx hb dX9_read_175 rfl (lv_at hl 1 rfl) ?_
    refine k_get (v := .ref (ad (b + 1 + 4))) hE hW hB_st.o hB_st.obj rfl inX9 6 (by decide) q874 rfl dX9_read_176 ?_
    refine lv_iload_n hx hb dX9_read_179 rfl (lv_at hl 4 rfl) ?_
    refine lv_iconst (v := (4 : Int32)) hx hb dX9_read_180 (by decide) ?_
    refine lv_iadd hx hb dX9_read_181 ?_
    obtain ⟨g_17, h⟩ := zi_e h
    refine k_iald hE hW (hB_st.memA 4 (Nat.le_of_ble_eq_true rfl)) (hB_st.arr 4 rfl) g_17 dX9_read_182 ?_
    obtain ⟨r_18, hr_18, h⟩ := zb_e h
    refine g_callSiD (rest := [.int (st.1 4 (x3 + (1 : Int32)).toNatClampNeg), .int (st.1 4 x3.toNatClampNeg), .ref (ad b)]) hd hE hW (fun q h => aA_mono hW.2.2.1 h) hl.1 (mX9_valueOf hr_18) q938 q939 q10 q940 hd_X9_valueOf.2 ⟨Nat.le_of_ble_eq_true rfl, Nat.le_of_ble_eq_true rfl⟩ ⟨rfl, rfl⟩ rfl (Nat.le_of_ble_eq_true rfl) dX9_read_183 ⟨Nat.zero_le _, Nat.zero_le _⟩ (fun c1 H locs hP hz hW d0 hd => ?_)
    have hE := hE0.dr d0
    rw [hP] at hW
    exact wX9_read_186 hE0 hr hlk hK98 _ _ _ _ _ _ _ _ _ _ _ _ hd hW hB_st hF (lv_sub hl [1, 2, 3, 4, 0] rfl) h
  · have h := it_f k_15 h
    refine lv_iconst (v := (0 : Int32)) hx hb dX9_read_163 (by decide) ?_
    refine lv_goto (tgt := 186) hx hb dX9_read_164 (by decide) ?_
    exact wX9_read_186 hE0 hr hlk hK98 _ _ _ _ _ _ _ _ _ _ _ _ hd hW hB_st hF (lv_sub hl [1, 2, 3, 4, 0] rfl) h
set_option maxHeartbeats 4000000 in
set_option maxRecDepth 100000 in
theorem wX9_read_98 {p : Program} {l : Launch} {e : Env} {s : State} {m : MethodId} {args : Array Value} {below : List Frame} {meth : Method} {cd : Code} {D : va_G} {ct : Nat → ClassId} {J : List Nat} {ad : Nat → Nat} {c0 : CF} {b : Nat} (hE0 : ME p s m cd args D ct cX9_read RX9 5) (hr : meth.sig.returnType = (some .int)) (hlk : meth.locks = false) {x1 : Int32} {r : Int32} {st9 : MS} : ∀ (n : Nat) (x2 : Int32) (x3 : Int32) (st : MS) (c : CF) (H : Heap) (locs : List Loc) (ls : Array Slot) (d0 : Drawn), s.drawn.sameBut d0 lw_cs → HW D J ad c (aA J ad s.heap.size) s.heap H locs → MoB ct J ad c b st → Fr c0 c b 19 → lv_has ls 5 [(0, .ref (ad b)), (1, .int x1), (2, .int x2), (3, .int x3)] → fX9_read_98 x1 n x2 x3 st = some (r, st9) → W p l e (rr 5 117) (s.setDrawn d0) m args below meth cd H locs 0 0 (MQD lw_cs below (Qi D J ad s.heap.size r (fun c' => MoB ct J ad c' b st9 ∧ Fr c0 c' b 19)) args s 0 0 (aA J ad s.heap.size)) (F0 m 98 ls []) := by
  have hx := hE0.1
  have hb := hE0.2.1
  intro n
  induction n with
  | zero =>
    intro x2 x3 st c H locs ls d0 hd hW hB_st hF hl h
    have h2 : (none : Option (Int32 × MS)) = some (r, st9) := h
    cases h2
  | succ n ih =>
    intro x2 x3 st c H locs ls d0 hd hW hB_st hF hl h
    rw [fX9_read_98] at h
    have hE := hE0.dr d0
    refine lv_iload_n hx hb dX9_read_98 rfl (lv_at hl 3 rfl) ?_
    refine lv_iconst (v := (5 : Int32)) hx hb dX9_read_99 (by decide) ?_
    refine lv_iload_n hx hb dX9_read_100 rfl (lv_at hl 1 rfl) ?_
    refine lv_imul hx hb dX9_read_101 ?_
    refine lv_icmp_ge (tgt := 202) hx hb dX9_read_102 (by decide) (fun k_7 => ?_) (fun k_7 => ?_)
    · have h := it_t k_7 h
      refine lv_iload_n hx hb dX9_read_202 rfl (lv_at hl 2 rfl) ?_
      refine W.endD hd ?_
      obtain ⟨rfl, rfl⟩ := Prod.mk.inj (Option.some.inj h)
      exact k_iret hE hr hlk hW ⟨hB_st, hF⟩ rfl dX9_read_203
    · have h := it_f k_7 h
      refine lv_aload_n hx hb dX9_read_105 rfl (lv_at hl 0 rfl) ?_
      refine lv_aload_n hx hb dX9_read_106 rfl (lv_at hl 0 rfl) ?_
      refine k_get (v := .ref (ad (b + 1 + 4))) hE hW hB_st.o hB_st.obj rfl inX9 6 (by decide) q874 rfl dX9_read_107 ?_
      refine lv_iload_n hx hb dX9_read_110 rfl (lv_at hl 3 rfl) ?_
      obtain ⟨g_8, h⟩ := zi_e h
      refine k_iald hE hW (hB_st.memA 4 (Nat.le_of_ble_eq_true rfl)) (hB_st.arr 4 rfl) g_8 dX9_read_111 ?_
      refine lv_sipush (v := (1271 : Int32)) hx hb dX9_read_112 (by decide) ?_
      obtain ⟨r_9, hr_9, h⟩ := zb_e h
      refine k_callVi (rest := []) hE hW hl.1 (mX9_at hB_st hr_9) hB_st.o hB_st.obj rfl q934 q936 qs87 q10 q937 hd_X9_at ⟨Nat.le_of_ble_eq_true rfl, Nat.le_of_ble_eq_true rfl⟩ ⟨rfl, rfl⟩ rfl (Nat.le_of_ble_eq_true rfl) dX9_read_115 ⟨Nat.zero_le _, Nat.zero_le _⟩ (fun c1 H locs hP hW => ?_)
      rw [hP] at hW
      refine lv_sipush (v := (200 : Int32)) hx hb dX9_read_118 (by decide) ?_
      refine lv_icmp_ge (tgt := 196) hx hb dX9_read_121 (by decide) (fun k_10 => ?_) (fun k_10 => ?_)
      · have h := it_t k_10 h
        refine lv_iinc (v := (x3 + (5 : Int32))) (lv' := [(3, .int (x3 + (5 : Int32))), (0, .ref (ad b)), (1, .int x1), (2, .int x2)]) hx hb dX9_read_196 hl (k := 3) rfl rfl (by decide) rfl (fun ls hl => ?_)
        refine lv_goto (tgt := 98) hx hb dX9_read_199 (by decide) ?_
        exact ih _ _ _ _ _ _ _ _ hd hW hB_st hF (lv_sub hl [1, 2, 3, 0] rfl) h
      · have h := it_f k_10 h
        refine lv_aload_n hx hb dX9_read_124 rfl (lv_at hl 0 rfl) ?_
        refine k_get (v := .ref (ad (b + 1 + 4))) hE hW hB_st.o hB_st.obj rfl inX9 6 (by decide) q874 rfl dX9_read_125 ?_
        refine lv_iload_n hx hb dX9_read_128 rfl (lv_at hl 3 rfl) ?_
        refine lv_iconst (v := (2 : Int32)) hx hb dX9_read_129 (by decide) ?_
        refine lv_iadd hx hb dX9_read_130 ?_
        obtain ⟨g_11, h⟩ := zi_e h
        refine k_iald hE hW (hB_st.memA 4 (Nat.le_of_ble_eq_true rfl)) (hB_st.arr 4 rfl) g_11 dX9_read_131 ?_
        refine lv_iconst (v := (1 : Int32)) hx hb dX9_read_132 (by decide) ?_
        refine lv_icmp_ne (tgt := 140) hx hb dX9_read_133 (by decide) (fun k_12 => ?_) (fun k_12 => ?_)
        · have h := it_f k_12 h
          refine lv_iconst (v := (0 : Int32)) hx hb dX9_read_140 (by decide) ?_
          exact wX9_read_141 hE0 hr hlk ih _ _ _ _ _ _ _ _ _ hd hW hB_st hF (lv_sub hl [0, 1, 2, 3] rfl) h
        · have h := it_t k_12 h
          refine lv_iconst (v := (1 : Int32)) hx hb dX9_read_136 (by decide) ?_
          refine lv_goto (tgt := 141) hx hb dX9_read_137 (by decide) ?_
          exact wX9_read_141 hE0 hr hlk ih _ _ _ _ _ _ _ _ _ hd hW hB_st hF (lv_sub hl [0, 1, 2, 3] rfl) h
set_option maxHeartbeats 4000000 in
set_option maxRecDepth 100000 in
theorem wX9_read_74 {p : Program} {l : Launch} {e : Env} {s : State} {m : MethodId} {args : Array Value} {below : List Frame} {meth : Method} {cd : Code} {D : va_G} {ct : Nat → ClassId} {J : List Nat} {ad : Nat → Nat} {c0 : CF} {b : Nat} (hE0 : ME p s m cd args D ct cX9_read RX9 5) (hr : meth.sig.returnType = (some .int)) (hlk : meth.locks = false) {r : Int32} {st9 : MS} : ∀ (x1 : Int32) (st : MS) (c : CF) (H : Heap) (locs : List Loc) (ls : Array Slot) (d0 : Drawn), s.drawn.sameBut d0 lw_cs → HW D J ad c (aA J ad s.heap.size) s.heap H locs → MoB ct J ad c b st → Fr c0 c b 19 → lv_has ls 5 [(0, .ref (ad b)), (1, .int x1)] → fX9_read_74 x1 st = some (r, st9) → W p l e (rr 5 117) (s.setDrawn d0) m args below meth cd H locs 0 0 (MQD lw_cs below (Qi D J ad s.heap.size r (fun c' => MoB ct J ad c' b st9 ∧ Fr c0 c' b 19)) args s 0 0 (aA J ad s.heap.size)) (F0 m 74 ls []) := by
  have hx := hE0.1
  have hb := hE0.2.1
  intro x1 st c H locs ls d0 hd hW hB_st hF hl h
  rw [fX9_read_74] at h
  have hE := hE0.dr d0
  refine lv_aload_n hx hb dX9_read_74 rfl (lv_at hl 0 rfl) ?_
  refine lv_iconst (v := (0 : Int32)) hx hb dX9_read_75 (by decide) ?_
  obtain ⟨st_5, est_5, h⟩ := zl_e h
  refine k_put hE hW hB_st.o hB_st.obj rfl inX9 tyX9 tyX9_ok nmX9 5 (by decide) q873 rfl rfl rfl (Nat.le_of_ble_eq_true rfl) dX9_read_76 (fun H locs hW => ?_)
  obtain ⟨c, hB_st, hF, hW⟩ : ∃ c', MoB ct J ad c' b st_5 ∧ Fr c0 c' b 19 ∧ HW D J ad c' (aA J ad s.heap.size) s.heap H locs := ⟨_, hB_st.wF (k := 5) (j := 1) rfl est_5, hF.up (by omega) (by omega), hW⟩
  refine lv_aload_n hx hb dX9_read_79 rfl (lv_at hl 0 rfl) ?_
  refine k_get (v := .int (st_5.2.1 4)) hE hW hB_st.o hB_st.obj rfl inX9 16 (by decide) q884 rfl dX9_read_80 ?_
  refine lv_if_lt (tgt := 94) hx hb dX9_read_83 (by decide) (fun k_6 => ?_) (fun k_6 => ?_)
  · have h := it_t k_6 h
    refine lv_iconst (v := (0 : Int32)) hx hb dX9_read_94 (by decide) ?_
    refine lv_istore_n (lv' := [(2, .int (0 : Int32)), (0, .ref (ad b)), (1, .int x1)]) hx hb dX9_read_95 rfl hl (by decide) rfl (fun ls hl => ?_)
    refine lv_iconst (v := (0 : Int32)) hx hb dX9_read_96 (by decide) ?_
    refine lv_istore_n (lv' := [(3, .int (0 : Int32)), (2, .int (0 : Int32)), (0, .ref (ad b)), (1, .int x1)]) hx hb dX9_read_97 rfl hl (by decide) rfl (fun ls hl => ?_)
    exact wX9_read_98 hE0 hr hlk _ _ _ _ _ _ _ _ _ hd hW hB_st hF (lv_sub hl [2, 3, 1, 0] rfl) h
  · have h := it_f k_6 h
    refine lv_bipush (v := (-10 : Int32)) hx hb dX9_read_86 (by decide) ?_
    refine lv_aload_n hx hb dX9_read_88 rfl (lv_at hl 0 rfl) ?_
    refine k_get (v := .int (st_5.2.1 4)) hE hW hB_st.o hB_st.obj rfl inX9 16 (by decide) q884 rfl dX9_read_89 ?_
    refine lv_isub hx hb dX9_read_92 ?_
    refine W.endD hd ?_
    obtain ⟨rfl, rfl⟩ := Prod.mk.inj (Option.some.inj h)
    exact k_iret hE hr hlk hW ⟨hB_st, hF⟩ rfl dX9_read_93
set_option maxHeartbeats 4000000 in
set_option maxRecDepth 100000 in
theorem wX9_read_17 {p : Program} {l : Launch} {e : Env} {s : State} {m : MethodId} {args : Array Value} {below : List Frame} {meth : Method} {cd : Code} {D : va_G} {ct : Nat → ClassId} {J : List Nat} {ad : Nat → Nat} {c0 : CF} {b : Nat} (hE0 : ME p s m cd args D ct cX9_read RX9 5) (hr : meth.sig.returnType = (some .int)) (hlk : meth.locks = false) {r : Int32} {st9 : MS} : ∀ (n : Nat) (x1 : Int32) (st : MS) (c : CF) (H : Heap) (locs : List Loc) (ls : Array Slot) (d0 : Drawn), s.drawn.sameBut d0 lw_cs → HW D J ad c (aA J ad s.heap.size) s.heap H locs → MoB ct J ad c b st → Fr c0 c b 19 → lv_has ls 5 [(0, .ref (ad b)), (1, .int x1)] → fX9_read_17 n x1 st = some (r, st9) → W p l e (rr 5 117) (s.setDrawn d0) m args below meth cd H locs 0 0 (MQD lw_cs below (Qi D J ad s.heap.size r (fun c' => MoB ct J ad c' b st9 ∧ Fr c0 c' b 19)) args s 0 0 (aA J ad s.heap.size)) (F0 m 17 ls []) := by
  have hx := hE0.1
  have hb := hE0.2.1
  intro n
  induction n with
  | zero =>
    intro x1 st c H locs ls d0 hd hW hB_st hF hl h
    have h2 : (none : Option (Int32 × MS)) = some (r, st9) := h
    cases h2
  | succ n ih =>
    intro x1 st c H locs ls d0 hd hW hB_st hF hl h
    rw [fX9_read_17] at h
    have hE := hE0.dr d0
    refine lv_aload_n hx hb dX9_read_17 rfl (lv_at hl 0 rfl) ?_
    refine k_get (v := .int (st.2.1 4)) hE hW hB_st.o hB_st.obj rfl inX9 16 (by decide) q884 rfl dX9_read_18 ?_
    refine lv_if_ge (tgt := 74) hx hb dX9_read_21 (by decide) (fun k_4 => ?_) (fun k_4 => ?_)
    · have h := it_t k_4 h
      exact wX9_read_74 hE0 hr hlk _ _ _ _ _ _ _ hd hW hB_st hF (lv_sub hl [0, 1] rfl) h
    · have h := it_f k_4 h
      refine lv_aload_n hx hb dX9_read_24 rfl (lv_at hl 0 rfl) ?_
      refine k_get (v := .int (st.2.1 3)) hE hW hB_st.o hB_st.obj rfl inX9 15 (by decide) q883 rfl dX9_read_25 ?_
      refine lv_aload_n hx hb dX9_read_28 rfl (lv_at hl 0 rfl) ?_
      refine k_get (v := .int (st.2.1 1)) hE hW hB_st.o hB_st.obj rfl inX9 5 (by decide) q873 rfl dX9_read_29 ?_
      refine lv_icmp_ge (tgt := 74) hx hb dX9_read_32 (by decide) (fun k_21 => ?_) (fun k_21 => ?_)
      · have h := it_t k_21 h
        exact wX9_read_74 hE0 hr hlk _ _ _ _ _ _ _ hd hW hB_st hF (lv_sub hl [0, 1] rfl) h
      · have h := it_f k_21 h
        refine lv_iload_n hx hb dX9_read_35 rfl (lv_at hl 1 rfl) ?_
        refine lv_bipush (v := (12 : Int32)) hx hb dX9_read_36 (by decide) ?_
        refine lv_icmp_ne (tgt := 52) hx hb dX9_read_38 (by decide) (fun k_22 => ?_) (fun k_22 => ?_)
        · have h := it_f k_22 h
          refine lv_aload_n hx hb dX9_read_52 rfl (lv_at hl 0 rfl) ?_
          refine lv_bipush (v := (59 : Int32)) hx hb dX9_read_53 (by decide) ?_
          refine lv_bipush (v := (59 : Int32)) hx hb dX9_read_55 (by decide) ?_
          obtain ⟨r_23, st_24, hr_23, h⟩ := zb2_e h
          refine k_callVi (rest := []) hE hW hl.1 (mX9_must hB_st hr_23) hB_st.o hB_st.obj rfl q1028 q1030 qs100 q10 q1031 hd_X9_must ⟨Nat.le_of_ble_eq_true rfl, Nat.le_of_ble_eq_true rfl⟩ ⟨rfl, rfl⟩ rfl (Nat.le_of_ble_eq_true rfl) dX9_read_57 ⟨Nat.zero_le _, Nat.zero_le _⟩ (fun c1 H locs hP hW => ?_)
          obtain ⟨c, hB_st, hF, hW⟩ : ∃ c', MoB ct J ad c' b st_24 ∧ Fr c0 c' b 19 ∧ HW D J ad c' (aA J ad s.heap.size) s.heap H locs := ⟨c1, hP.1, hF.trans hP.2, hW⟩
          refine lv_pop hx hb dX9_read_60 rfl ?_
          refine lv_aload_n hx hb dX9_read_61 rfl (lv_at hl 0 rfl) ?_
          refine lv_iconst (v := (5 : Int32)) hx hb dX9_read_62 (by decide) ?_
          refine lv_iload_n hx hb dX9_read_63 rfl (lv_at hl 1 rfl) ?_
          refine lv_imul hx hb dX9_read_64 ?_
          obtain ⟨st_25, hst_25, h⟩ := zb_e h
          refine k_callVv (rest := []) hE hW hl.1 (mX9_clause hB_st hst_25) hB_st.o hB_st.obj rfl q1024 q1026 qs99 q10 q1027 hd_X9_clause ⟨Nat.le_of_ble_eq_true rfl, Nat.le_of_ble_eq_true rfl⟩ ⟨rfl, rfl⟩ rfl (Nat.le_of_ble_eq_true rfl) dX9_read_65 ⟨Nat.zero_le _, Nat.zero_le _⟩ (fun c1 H locs hP hW => ?_)
          obtain ⟨c, hB_st, hF, hW⟩ : ∃ c', MoB ct J ad c' b st_25 ∧ Fr c0 c' b 19 ∧ HW D J ad c' (aA J ad s.heap.size) s.heap H locs := ⟨c1, hP.1, hF.trans hP.2, hW⟩
          refine lv_iinc (v := (x1 + (1 : Int32))) (lv' := [(1, .int (x1 + (1 : Int32))), (0, .ref (ad b))]) hx hb dX9_read_68 hl (k := 1) rfl rfl (by decide) rfl (fun ls hl => ?_)
          refine lv_goto (tgt := 17) hx hb dX9_read_71 (by decide) ?_
          exact ih _ _ _ _ _ _ _ hd hW hB_st hF (lv_sub hl [1, 0] rfl) h
        · have h := it_t k_22 h
          refine lv_aload_n hx hb dX9_read_41 rfl (lv_at hl 0 rfl) ?_
          refine lv_aload_n hx hb dX9_read_42 rfl (lv_at hl 0 rfl) ?_
          refine k_get (v := .int (st.2.1 3)) hE hW hB_st.o hB_st.obj rfl inX9 15 (by decide) q883 rfl dX9_read_43 ?_
          obtain ⟨st_26, est_26, h⟩ := zl_e h
          refine k_put hE hW hB_st.o hB_st.obj rfl inX9 tyX9 tyX9_ok nmX9 16 (by decide) q884 rfl rfl rfl (Nat.le_of_ble_eq_true rfl) dX9_read_46 (fun H locs hW => ?_)
          obtain ⟨c, hB_st, hF, hW⟩ : ∃ c', MoB ct J ad c' b st_26 ∧ Fr c0 c' b 19 ∧ HW D J ad c' (aA J ad s.heap.size) s.heap H locs := ⟨_, hB_st.wF (k := 16) (j := 4) rfl est_26, hF.up (by omega) (by omega), hW⟩
          refine lv_goto (tgt := 17) hx hb dX9_read_49 (by decide) ?_
          exact ih _ _ _ _ _ _ _ hd hW hB_st hF (lv_sub hl [0, 1] rfl) h
set_option maxHeartbeats 4000000 in
set_option maxRecDepth 100000 in
theorem mX9_read {l : Launch} {D : va_G} {ct : Nat → ClassId} {J : List Nat} {ad : Nat → Nat} {c0 : CF} {b : Nat} {st : MS} (hB_st : MoB ct J ad c0 b st) {r : Int32} {st9 : MS} (h : fX9_read   st = some (r, st9)) : MDi l D ct J ad yX9_read cX9_read 5 (some .int) (rr 5 117) [.ref (ad b)] c0 r (fun c' => MoB ct J ad c' b st9 ∧ Fr c0 c' b 19) := by
  refine MDi_of (own := RX9) (by decide) rfl (Nat.le_of_ble_eq_true rfl) (fun p e s m below meth cd d0 hd hE0 hr hlk hW ls hl => ?_)
  have hE := hE0.dr d0
  have hx := hE.1
  have hb := hE.2.1
  have hl : lv_has ls 5 [(0, .ref (ad b))] := hl
  rw [fX9_read] at h
  obtain ⟨c, hB_st, hF, hW⟩ : ∃ c', MoB ct J ad c' b st ∧ Fr c0 c' b 19 ∧ HW D J ad c' (aA J ad s.heap.size) s.heap s.heap [] := ⟨c0, hB_st, Fr.rf, hW⟩
  refine lv_aload_n hx hb dX9_read_0 rfl (lv_at hl 0 rfl) ?_
  refine lv_iconst (v := (0 : Int32)) hx hb dX9_read_1 (by decide) ?_
  obtain ⟨st_1, est_1, h⟩ := zl_e h
  refine k_put hE hW hB_st.o hB_st.obj rfl inX9 tyX9 tyX9_ok nmX9 15 (by decide) q883 rfl rfl rfl (Nat.le_of_ble_eq_true rfl) dX9_read_2 (fun H locs hW => ?_)
  obtain ⟨c, hB_st, hF, hW⟩ : ∃ c', MoB ct J ad c' b st_1 ∧ Fr c0 c' b 19 ∧ HW D J ad c' (aA J ad s.heap.size) s.heap H locs := ⟨_, hB_st.wF (k := 15) (j := 3) rfl est_1, hF.up (by omega) (by omega), hW⟩
  refine lv_aload_n hx hb dX9_read_5 rfl (lv_at hl 0 rfl) ?_
  refine lv_iconst (v := (-1 : Int32)) hx hb dX9_read_6 (by decide) ?_
  obtain ⟨st_2, est_2, h⟩ := zl_e h
  refine k_put hE hW hB_st.o hB_st.obj rfl inX9 tyX9 tyX9_ok nmX9 16 (by decide) q884 rfl rfl rfl (Nat.le_of_ble_eq_true rfl) dX9_read_7 (fun H locs hW => ?_)
  obtain ⟨c, hB_st, hF, hW⟩ : ∃ c', MoB ct J ad c' b st_2 ∧ Fr c0 c' b 19 ∧ HW D J ad c' (aA J ad s.heap.size) s.heap H locs := ⟨_, hB_st.wF (k := 16) (j := 4) rfl est_2, hF.up (by omega) (by omega), hW⟩
  refine lv_iconst (v := (1 : Int32)) hx hb dX9_read_10 (by decide) ?_
  refine lv_istore_n (lv' := [(1, .int (1 : Int32)), (0, .ref (ad b))]) hx hb dX9_read_11 rfl hl (by decide) rfl (fun ls hl => ?_)
  refine lv_aload_n hx hb dX9_read_12 rfl (lv_at hl 1 rfl) ?_
  refine lv_iconst (v := (0 : Int32)) hx hb dX9_read_13 (by decide) ?_
  obtain ⟨st_3, hst_3, h⟩ := zb_e h
  refine k_callVv (rest := []) hE hW hl.1 (mX9_clause hB_st hst_3) hB_st.o hB_st.obj rfl q1024 q1026 qs99 q10 q1027 hd_X9_clause ⟨Nat.le_of_ble_eq_true rfl, Nat.le_of_ble_eq_true rfl⟩ ⟨rfl, rfl⟩ rfl (Nat.le_of_ble_eq_true rfl) dX9_read_14 ⟨Nat.zero_le _, Nat.zero_le _⟩ (fun c1 H locs hP hW => ?_)
  obtain ⟨c, hB_st, hF, hW⟩ : ∃ c', MoB ct J ad c' b st_3 ∧ Fr c0 c' b 19 ∧ HW D J ad c' (aA J ad s.heap.size) s.heap H locs := ⟨c1, hP.1, hF.trans hP.2, hW⟩
  exact wX9_read_17 hE0 hr hlk _ _ _ _ _ _ _ _ hd hW hB_st hF (lv_sub hl [1, 0] rfl) h
set_option maxHeartbeats 4000000 in
set_option maxRecDepth 100000 in
theorem mX9_valueAt {l : Launch} {D : va_G} {ct : Nat → ClassId} {J : List Nat} {ad : Nat → Nat} {c0 : CF} {a1 : Int32} {a2 : Int32} {b : Nat} {st : MS} (hB_st : MoB ct J ad c0 b st) {r : UInt32} (h : fX9_valueAt  a1 a2 st = some r) : Mf l D ct J ad yX9_valueAt cX9_valueAt 3 (some .float) (rr 1 30) [.ref (ad b), .int a1, .int a2] c0 r (fun c' => c' = c0) := by
  refine Mf_of (own := RX9) (by decide) rfl (Nat.le_of_ble_eq_true rfl) (fun p e s m below meth cd hE hr hlk hW ls hl => ?_)
  have hx := hE.1
  have hb := hE.2.1
  have hl : lv_has ls 3 [(0, .ref (ad b)), (1, .int a1), (2, .int a2)] := hl
  rw [fX9_valueAt] at h
  refine lv_aload_n hx hb dX9_valueAt_0 rfl (lv_at hl 0 rfl) ?_
  refine lv_iload_n hx hb dX9_valueAt_1 rfl (lv_at hl 1 rfl) ?_
  refine lv_sipush (v := (1000 : Int32)) hx hb dX9_valueAt_2 (by decide) ?_
  refine lv_aload_n hx hb dX9_valueAt_5 rfl (lv_at hl 0 rfl) ?_
  refine k_get (v := .ref (ad (b + 1 + 5))) hE hW hB_st.o hB_st.obj rfl inX9 7 (by decide) q875 rfl dX9_valueAt_6 ?_
  refine lv_iload_n hx hb dX9_valueAt_9 rfl (lv_at hl 2 rfl) ?_
  obtain ⟨g_1, h⟩ := zi_e h
  refine k_iald hE hW (hB_st.memA 5 (Nat.le_of_ble_eq_true rfl)) (hB_st.arr 5 rfl) g_1 dX9_valueAt_10 ?_
  refine lv_iadd hx hb dX9_valueAt_11 ?_
  obtain ⟨r_2, hr_2, h⟩ := zb_e h
  refine k_callVi (rest := []) hE hW hl.1 (mX9_at hB_st hr_2) hB_st.o hB_st.obj rfl q934 q936 qs87 q10 q937 hd_X9_at ⟨Nat.le_of_ble_eq_true rfl, Nat.le_of_ble_eq_true rfl⟩ ⟨rfl, rfl⟩ rfl (Nat.le_of_ble_eq_true rfl) dX9_valueAt_12 ⟨Nat.zero_le _, Nat.zero_le _⟩ (fun c1 H locs hP hW => ?_)
  rw [hP] at hW
  obtain ⟨g_3, h⟩ := zs_e h
  refine vn_i2f hx hb (hE.2.2.1.trans hl.1.symm) hE.2.2.2.1 (hE.2.2.2.2.1 _ q1103) (hE.2.2.2.2.1 _ q1105) (hE.2.2.2.2.1 _ q1104) (hE.2.2.2.2.1 _ q12) g_3 (Nat.le_of_ble_eq_true rfl) (Nat.le_of_ble_eq_true rfl) dX9_valueAt_15 ?_
  obtain rfl := Option.some.inj h
  exact k_fret hE hr hlk hW rfl rfl dX9_valueAt_18
set_option maxHeartbeats 4000000 in
set_option maxRecDepth 100000 in
theorem wX9_map_142 {p : Program} {l : Launch} {e : Env} {s : State} {m : MethodId} {args : Array Value} {below : List Frame} {meth : Method} {cd : Code} {D : va_G} {ct : Nat → ClassId} {J : List Nat} {ad : Nat → Nat} {c0 : CF} {b : Nat} (hE0 : ME p s m cd args D ct cX9_map RX9 12) (hr : meth.sig.returnType = (some .long)) (hlk : meth.locks = false) {x1 : Int32} {x2 : Int32} {x3 : Int32} {r : Int64} {st9 : MS} {K69 : UInt32 → UInt64 → UInt32 → Int32 → Int32 → MS → Option (Int64 × MS)} (hK69 : ∀ (x4 : UInt32) (x5 : UInt64) (x7 : UInt32) (x8 : Int32) (x9 : Int32) (st : MS) (c : CF) (x4m : UInt32) (x5m : UInt64) (x7m : UInt32) (H : Heap) (locs : List Loc) (ls : Array Slot) (d0 : Drawn), alike32 x4m x4 = true → alike64 x5m x5 = true → alike32 x7m x7 = true → s.drawn.sameBut d0 lw_cs → HW D J ad c (aA J ad s.heap.size) s.heap H locs → MoB ct J ad c b st → Fr c0 c b 19 → lv_has ls 12 [(0, .ref (ad b)), (1, .int x1), (2, .int x2), (3, .int x3), (4, .float x4m), (5, .double x5m), (7, .float x7m), (8, .int x8), (9, .int x9)] → K69 x4 x5 x7 x8 x9 st = some (r, st9) → W p l e (rr 3 73) (s.setDrawn d0) m args below meth cd H locs 0 0 (MQD lw_cs below (Ql D J ad s.heap.size r (fun c' => MoB ct J ad c' b st9 ∧ Fr c0 c' b 19)) args s 0 0 (aA J ad s.heap.size)) (F0 m 69 ls [])) : ∀ (x4 : UInt32) (x5 : UInt64) (x9 : Int32) (x10 : UInt32) (st : MS) (c : CF) (x4m : UInt32) (x5m : UInt64) (x10m : UInt32) (H : Heap) (locs : List Loc) (ls : Array Slot) (d0 : Drawn), alike32 x4m x4 = true → alike64 x5m x5 = true → alike32 x10m x10 = true → s.drawn.sameBut d0 lw_cs → HW D J ad c (aA J ad s.heap.size) s.heap H locs → MoB ct J ad c b st → Fr c0 c b 19 → lv_has ls 12 [(0, .ref (ad b)), (1, .int x1), (2, .int x2), (3, .int x3), (4, .float x4m), (5, .double x5m), (9, .int x9), (10, .float x10m)] → fX9_map_142 x1 x2 x3 K69 x4 x5 x9 x10 st = some (r, st9) → W p l e (rr 3 73) (s.setDrawn d0) m args below meth cd H locs 0 0 (MQD lw_cs below (Ql D J ad s.heap.size r (fun c' => MoB ct J ad c' b st9 ∧ Fr c0 c' b 19)) args s 0 0 (aA J ad s.heap.size)) (F0 m 142 ls []) := by
  have hx := hE0.1
  have hb := hE0.2.1
  intro x4 x5 x9 x10 st c x4m x5m x10m H locs ls d0 hal_x4 hal_x5 hal_x10 hd hW hB_st hF hl h
  rw [fX9_map_142] at h
  have hE := hE0.dr d0
  refine lv_fload hx hb dX9_map_142 (lv_at hl 7 rfl) ?_
  refine lv_goto (tgt := 149) hx hb dX9_map_144 (by decide) ?_
  refine lv_fstore (lv' := [(7, .float x10m), (0, .ref (ad b)), (1, .int x1), (2, .int x2), (3, .int x3), (4, .float x4m), (5, .double x5m), (9, .int x9), (10, .float x10m)]) hx hb dX9_map_149 hl (by decide) rfl (fun ls hl => ?_)
  refine lv_iconst (v := (1 : Int32)) hx hb dX9_map_151 (by decide) ?_
  refine lv_istore (lv' := [(8, .int (1 : Int32)), (7, .float x10m), (0, .ref (ad b)), (1, .int x1), (2, .int x2), (3, .int x3), (4, .float x4m), (5, .double x5m), (9, .int x9), (10, .float x10m)]) hx hb dX9_map_152 hl (by decide) rfl (fun ls hl => ?_)
  refine lv_iinc (v := (x9 + (1 : Int32))) (lv' := [(9, .int (x9 + (1 : Int32))), (8, .int (1 : Int32)), (7, .float x10m), (0, .ref (ad b)), (1, .int x1), (2, .int x2), (3, .int x3), (4, .float x4m), (5, .double x5m), (10, .float x10m)]) hx hb dX9_map_154 hl (k := 8) rfl rfl (by decide) rfl (fun ls hl => ?_)
  refine lv_goto (tgt := 69) hx hb dX9_map_157 (by decide) ?_
  exact hK69 _ _ _ _ _ _ _ _ _ _ _ _ _ _ hal_x4 hal_x5 hal_x10 hd hW hB_st hF (lv_sub hl [3, 4, 5, 6, 7, 8, 2, 1, 0] rfl) h
set_option maxHeartbeats 4000000 in
set_option maxRecDepth 100000 in
theorem wX9_map_69 {p : Program} {l : Launch} {e : Env} {s : State} {m : MethodId} {args : Array Value} {below : List Frame} {meth : Method} {cd : Code} {D : va_G} {ct : Nat → ClassId} {J : List Nat} {ad : Nat → Nat} {c0 : CF} {b : Nat} (hE0 : ME p s m cd args D ct cX9_map RX9 12) (hr : meth.sig.returnType = (some .long)) (hlk : meth.locks = false) {x1 : Int32} {x2 : Int32} {x3 : Int32} {r : Int64} {st9 : MS} : ∀ (n : Nat) (x4 : UInt32) (x5 : UInt64) (x7 : UInt32) (x8 : Int32) (x9 : Int32) (st : MS) (c : CF) (x4m : UInt32) (x5m : UInt64) (x7m : UInt32) (H : Heap) (locs : List Loc) (ls : Array Slot) (d0 : Drawn), alike32 x4m x4 = true → alike64 x5m x5 = true → alike32 x7m x7 = true → s.drawn.sameBut d0 lw_cs → HW D J ad c (aA J ad s.heap.size) s.heap H locs → MoB ct J ad c b st → Fr c0 c b 19 → lv_has ls 12 [(0, .ref (ad b)), (1, .int x1), (2, .int x2), (3, .int x3), (4, .float x4m), (5, .double x5m), (7, .float x7m), (8, .int x8), (9, .int x9)] → fX9_map_69 x1 x2 x3 n x4 x5 x7 x8 x9 st = some (r, st9) → W p l e (rr 3 73) (s.setDrawn d0) m args below meth cd H locs 0 0 (MQD lw_cs below (Ql D J ad s.heap.size r (fun c' => MoB ct J ad c' b st9 ∧ Fr c0 c' b 19)) args s 0 0 (aA J ad s.heap.size)) (F0 m 69 ls []) := by
  have hx := hE0.1
  have hb := hE0.2.1
  intro n
  induction n with
  | zero =>
    intro x4 x5 x7 x8 x9 st c x4m x5m x7m H locs ls d0 hal_x4 hal_x5 hal_x7 hd hW hB_st hF hl h
    have h2 : (none : Option (Int64 × MS)) = some (r, st9) := h
    cases h2
  | succ n ih =>
    intro x4 x5 x7 x8 x9 st c x4m x5m x7m H locs ls d0 hal_x4 hal_x5 hal_x7 hd hW hB_st hF hl h
    rw [fX9_map_69] at h
    have hE := hE0.dr d0
    refine lv_iload hx hb dX9_map_69 (lv_at hl 8 rfl) ?_
    refine lv_bipush (v := (26 : Int32)) hx hb dX9_map_71 (by decide) ?_
    refine lv_icmp_ge (tgt := 160) hx hb dX9_map_73 (by decide) (fun k_9 => ?_) (fun k_9 => ?_)
    · have h := it_t k_9 h
      refine lv_iload_n hx hb dX9_map_160 rfl (lv_at hl 2 rfl) ?_
      refine lv_iconst (v := (1 : Int32)) hx hb dX9_map_161 (by decide) ?_
      refine lv_icmp_ne (tgt := 174) hx hb dX9_map_162 (by decide) (fun k_10 => ?_) (fun k_10 => ?_)
      · have h := it_f k_10 h
        refine lv_iload_n hx hb dX9_map_174 rfl (lv_at hl 2 rfl) ?_
        refine lv_iconst (v := (4 : Int32)) hx hb dX9_map_175 (by decide) ?_
        refine lv_icmp_ne (tgt := 190) hx hb dX9_map_176 (by decide) (fun k_11 => ?_) (fun k_11 => ?_)
        · have h := it_f k_11 h
          refine lv_fload hx hb dX9_map_190 (lv_at hl 6 rfl) ?_
          obtain ⟨r_12, hr_12, h⟩ := zb_e h
          have hr_12 := (al_floatToIntBits hal_x7).trans hr_12
          refine k_callSi (rest := []) hE hW hl.1 (mJxf58ca_floatToIntBits_5c35a hr_12) q941 q942 q12 q943 hd_Jxf58ca_floatToIntBits_5c35a.2 ⟨Nat.le_of_ble_eq_true rfl, Nat.le_of_ble_eq_true rfl⟩ ⟨rfl, rfl⟩ rfl (Nat.le_of_ble_eq_true rfl) dX9_map_192 ⟨Nat.zero_le _, Nat.zero_le _⟩ (fun c1 H locs hP hW => ?_)
          rw [hP] at hW
          refine lv_i2l (v := r_12.toInt64) hx hb dX9_map_195 rfl ?_
          refine W.endD hd ?_
          obtain ⟨rfl, rfl⟩ := Prod.mk.inj (Option.some.inj h)
          exact k_lret hE hr hlk hW ⟨hB_st, hF⟩ rfl dX9_map_196
        · have h := it_t k_11 h
          refine lv_dload hx hb dX9_map_179 (lv_at hl 5 rfl) ?_
          refine lv_iload_n hx hb dX9_map_181 rfl (lv_at hl 3 rfl) ?_
          refine lv_i2d hx hb dX9_map_182 ?_
          refine lv_ddiv_any hd lw_bits hx hb dX9_map_183 (fun r_13 d0 hal_14 hd => ?_)
          have hE := hE0.dr d0
          have hal_14 := al_ddiv hal_14 hal_x5 (al64_refl _)
          obtain ⟨r_15, hr_15, h⟩ := zb_e h
          have hr_15 := (al_doubleToLongBits hal_14).trans hr_15
          refine k_callSl (rest := []) hE hW hl.1 (mJxe99ae_doubleToLongBits_ccdee hr_15) q1110 q1111 q13 q1112 hd_Jxe99ae_doubleToLongBits_ccdee.2 ⟨Nat.le_of_ble_eq_true rfl, Nat.le_of_ble_eq_true rfl⟩ ⟨rfl, rfl⟩ rfl (Nat.le_of_ble_eq_true rfl) dX9_map_184 ⟨Nat.zero_le _, Nat.zero_le _⟩ (fun c1 H locs hP hW => ?_)
          rw [hP] at hW
          refine lv_goto (tgt := 196) hx hb dX9_map_187 (by decide) ?_
          refine W.endD hd ?_
          obtain ⟨rfl, rfl⟩ := Prod.mk.inj (Option.some.inj h)
          exact k_lret hE hr hlk hW ⟨hB_st, hF⟩ rfl dX9_map_196
      · have h := it_t k_10 h
        refine lv_fload hx hb dX9_map_165 (lv_at hl 4 rfl) ?_
        obtain ⟨r_16, hr_16, h⟩ := zb_e h
        have hr_16 := (al_floatToIntBits hal_x4).trans hr_16
        refine k_callSi (rest := []) hE hW hl.1 (mJxf58ca_floatToIntBits_5c35a hr_16) q941 q942 q12 q943 hd_Jxf58ca_floatToIntBits_5c35a.2 ⟨Nat.le_of_ble_eq_true rfl, Nat.le_of_ble_eq_true rfl⟩ ⟨rfl, rfl⟩ rfl (Nat.le_of_ble_eq_true rfl) dX9_map_167 ⟨Nat.zero_le _, Nat.zero_le _⟩ (fun c1 H locs hP hW => ?_)
        rw [hP] at hW
        refine lv_i2l (v := r_16.toInt64) hx hb dX9_map_170 rfl ?_
        refine lv_goto (tgt := 196) hx hb dX9_map_171 (by decide) ?_
        refine W.endD hd ?_
        obtain ⟨rfl, rfl⟩ := Prod.mk.inj (Option.some.inj h)
        exact k_lret hE hr hlk hW ⟨hB_st, hF⟩ rfl dX9_map_196
    · have h := it_f k_9 h
      refine lv_aload_n hx hb dX9_map_76 rfl (lv_at hl 0 rfl) ?_
      refine lv_iload_n hx hb dX9_map_77 rfl (lv_at hl 1 rfl) ?_
      refine lv_iload hx hb dX9_map_78 (lv_at hl 8 rfl) ?_
      obtain ⟨r_17, hr_17, h⟩ := zb_e h
      refine k_callVi (rest := []) hE hW hl.1 (mX9_isMapped hB_st hr_17) hB_st.o hB_st.obj rfl q1060 q1062 qs107 q10 q1063 hd_X9_isMapped ⟨Nat.le_of_ble_eq_true rfl, Nat.le_of_ble_eq_true rfl⟩ ⟨rfl, rfl⟩ rfl (Nat.le_of_ble_eq_true rfl) dX9_map_80 ⟨Nat.zero_le _, Nat.zero_le _⟩ (fun c1 H locs hP hW => ?_)
      rw [hP] at hW
      refine lv_if_eq (tgt := 154) hx hb dX9_map_83 (by decide) (fun k_18 => ?_) (fun k_18 => ?_)
      · have h := it_t k_18 h
        refine lv_iinc (v := (x9 + (1 : Int32))) (lv' := [(9, .int (x9 + (1 : Int32))), (0, .ref (ad b)), (1, .int x1), (2, .int x2), (3, .int x3), (4, .float x4m), (5, .double x5m), (7, .float x7m), (8, .int x8)]) hx hb dX9_map_154 hl (k := 8) rfl rfl (by decide) rfl (fun ls hl => ?_)
        refine lv_goto (tgt := 69) hx hb dX9_map_157 (by decide) ?_
        exact ih _ _ _ _ _ _ _ _ _ _ _ _ _ _ hal_x4 hal_x5 hal_x7 hd hW hB_st hF (lv_sub hl [1, 2, 3, 4, 5, 6, 7, 8, 0] rfl) h
      · have h := it_f k_18 h
        refine lv_aload_n hx hb dX9_map_86 rfl (lv_at hl 0 rfl) ?_
        refine lv_iload_n hx hb dX9_map_87 rfl (lv_at hl 1 rfl) ?_
        refine lv_iload hx hb dX9_map_88 (lv_at hl 8 rfl) ?_
        obtain ⟨r_19, hr_19, h⟩ := zb_e h
        refine k_callVf (rest := []) hE hW hl.1 (mX9_valueAt hB_st hr_19) hB_st.o hB_st.obj rfl q1099 q1101 qs112 q10 q1102 hd_X9_valueAt ⟨Nat.le_of_ble_eq_true rfl, Nat.le_of_ble_eq_true rfl⟩ ⟨rfl, rfl⟩ rfl (Nat.le_of_ble_eq_true rfl) dX9_map_90 ⟨Nat.zero_le _, Nat.zero_le _⟩ (fun c1 H locs hP hW => ?_)
        rw [hP] at hW
        refine lv_fstore (lv' := [(10, .float r_19), (0, .ref (ad b)), (1, .int x1), (2, .int x2), (3, .int x3), (4, .float x4m), (5, .double x5m), (7, .float x7m), (8, .int x8), (9, .int x9)]) hx hb dX9_map_93 hl (by decide) rfl (fun ls hl => ?_)
        refine lv_fload hx hb dX9_map_95 (lv_at hl 5 rfl) ?_
        refine lv_fload hx hb dX9_map_97 (lv_at hl 0 rfl) ?_
        refine lv_fadd_any hd lw_bits hx hb dX9_map_99 (fun r_20 d0 hal_21 hd => ?_)
        have hE := hE0.dr d0
        have hal_21 := al_fadd hal_21 hal_x4 (alike32_refl _)
        refine lv_fstore (lv' := [(4, .float r_20), (10, .float r_19), (0, .ref (ad b)), (1, .int x1), (2, .int x2), (3, .int x3), (5, .double x5m), (7, .float x7m), (8, .int x8), (9, .int x9)]) hx hb dX9_map_100 hl (by decide) rfl (fun ls hl => ?_)
        refine lv_dload hx hb dX9_map_102 (lv_at hl 6 rfl) ?_
        refine lv_fload hx hb dX9_map_104 (lv_at hl 1 rfl) ?_
        refine lv_f2d_any hd lw_bits hx hb dX9_map_106 (fun r_22 d0 hal_23 hd => ?_)
        have hE := hE0.dr d0
        refine lv_dadd_any hd lw_bits hx hb dX9_map_107 (fun r_24 d0 hal_25 hd => ?_)
        have hE := hE0.dr d0
        have hal_25 := al_dadd hal_25 hal_x5 hal_23
        obtain ⟨x_26, ex_26, h⟩ := zl_e h
        have hal_x_26 : alike64 r_24 x_26 = true := by rw [ex_26]; exact hal_25
        refine lv_dstore (lv' := [(5, .double r_24), (4, .float r_20), (10, .float r_19), (0, .ref (ad b)), (1, .int x1), (2, .int x2), (3, .int x3), (7, .float x7m), (8, .int x8), (9, .int x9)]) hx hb dX9_map_108 hl (by decide) rfl (fun ls hl => ?_)
        refine lv_fload hx hb dX9_map_110 (lv_at hl 2 rfl) ?_
        refine lv_fload hx hb dX9_map_112 (lv_at hl 7 rfl) ?_
        obtain ⟨r_27, hr_27, h⟩ := zb_e h
        have hr_27 := (al_compare (alike32_refl _) hal_x7).trans hr_27
        refine k_callSi (rest := []) hE hW hl.1 (mJxf58ca_compare_66c2b hr_27) q1106 q1107 q12 q1108 hd_Jxf58ca_compare_66c2b.2 ⟨Nat.le_of_ble_eq_true rfl, Nat.le_of_ble_eq_true rfl⟩ ⟨rfl, rfl⟩ rfl (Nat.le_of_ble_eq_true rfl) dX9_map_114 ⟨Nat.zero_le _, Nat.zero_le _⟩ (fun c1 H locs hP hW => ?_)
        rw [hP] at hW
        refine lv_istore (lv' := [(11, .int r_27), (5, .double r_24), (4, .float r_20), (10, .float r_19), (0, .ref (ad b)), (1, .int x1), (2, .int x2), (3, .int x3), (7, .float x7m), (8, .int x8), (9, .int x9)]) hx hb dX9_map_117 hl (by decide) rfl (fun ls hl => ?_)
        refine lv_iload hx hb dX9_map_119 (lv_at hl 9 rfl) ?_
        refine lv_if_eq (tgt := 142) hx hb dX9_map_121 (by decide) (fun k_28 => ?_) (fun k_28 => ?_)
        · have h := it_t k_28 h
          exact wX9_map_142 hE0 hr hlk ih _ _ _ _ _ _ _ _ _ _ _ _ _ hal_21 hal_x_26 (alike32_refl _) hd hW hB_st hF (lv_sub hl [4, 5, 6, 7, 2, 1, 10, 3] rfl) h
        · have h := it_f k_28 h
          refine lv_iload_n hx hb dX9_map_124 rfl (lv_at hl 6 rfl) ?_
          refine lv_iconst (v := (2 : Int32)) hx hb dX9_map_125 (by decide) ?_
          refine lv_icmp_ne (tgt := 137) hx hb dX9_map_126 (by decide) (fun k_29 => ?_) (fun k_29 => ?_)
          · have h := it_f k_29 h
            refine lv_iload hx hb dX9_map_137 (lv_at hl 0 rfl) ?_
            refine lv_if_le (tgt := 147) hx hb dX9_map_139 (by decide) (fun k_30 => ?_) (fun k_30 => ?_)
            · have h := it_t k_30 h
              refine lv_fload hx hb dX9_map_147 (lv_at hl 8 rfl) ?_
              refine lv_fstore (lv' := [(7, .float x7m), (11, .int r_27), (5, .double r_24), (4, .float r_20), (10, .float r_19), (0, .ref (ad b)), (1, .int x1), (2, .int x2), (3, .int x3), (8, .int x8), (9, .int x9)]) hx hb dX9_map_149 hl (by decide) rfl (fun ls hl => ?_)
              refine lv_iconst (v := (1 : Int32)) hx hb dX9_map_151 (by decide) ?_
              refine lv_istore (lv' := [(8, .int (1 : Int32)), (7, .float x7m), (11, .int r_27), (5, .double r_24), (4, .float r_20), (10, .float r_19), (0, .ref (ad b)), (1, .int x1), (2, .int x2), (3, .int x3), (9, .int x9)]) hx hb dX9_map_152 hl (by decide) rfl (fun ls hl => ?_)
              refine lv_iinc (v := (x9 + (1 : Int32))) (lv' := [(9, .int (x9 + (1 : Int32))), (8, .int (1 : Int32)), (7, .float x7m), (11, .int r_27), (5, .double r_24), (4, .float r_20), (10, .float r_19), (0, .ref (ad b)), (1, .int x1), (2, .int x2), (3, .int x3)]) hx hb dX9_map_154 hl (k := 10) rfl rfl (by decide) rfl (fun ls hl => ?_)
              refine lv_goto (tgt := 69) hx hb dX9_map_157 (by decide) ?_
              exact ih _ _ _ _ _ _ _ _ _ _ _ _ _ _ hal_21 hal_x_26 hal_x7 hd hW hB_st hF (lv_sub hl [7, 8, 9, 10, 5, 4, 2, 1, 0] rfl) h
            · have h := it_f k_30 h
              exact wX9_map_142 hE0 hr hlk ih _ _ _ _ _ _ _ _ _ _ _ _ _ hal_21 hal_x_26 (alike32_refl _) hd hW hB_st hF (lv_sub hl [4, 5, 6, 7, 2, 1, 10, 3] rfl) h
          · have h := it_t k_29 h
            refine lv_iload hx hb dX9_map_129 (lv_at hl 0 rfl) ?_
            refine lv_if_ge (tgt := 147) hx hb dX9_map_131 (by decide) (fun k_31 => ?_) (fun k_31 => ?_)
            · have h := it_t k_31 h
              refine lv_fload hx hb dX9_map_147 (lv_at hl 8 rfl) ?_
              refine lv_fstore (lv' := [(7, .float x7m), (11, .int r_27), (5, .double r_24), (4, .float r_20), (10, .float r_19), (0, .ref (ad b)), (1, .int x1), (2, .int x2), (3, .int x3), (8, .int x8), (9, .int x9)]) hx hb dX9_map_149 hl (by decide) rfl (fun ls hl => ?_)
              refine lv_iconst (v := (1 : Int32)) hx hb dX9_map_151 (by decide) ?_
              refine lv_istore (lv' := [(8, .int (1 : Int32)), (7, .float x7m), (11, .int r_27), (5, .double r_24), (4, .float r_20), (10, .float r_19), (0, .ref (ad b)), (1, .int x1), (2, .int x2), (3, .int x3), (9, .int x9)]) hx hb dX9_map_152 hl (by decide) rfl (fun ls hl => ?_)
              refine lv_iinc (v := (x9 + (1 : Int32))) (lv' := [(9, .int (x9 + (1 : Int32))), (8, .int (1 : Int32)), (7, .float x7m), (11, .int r_27), (5, .double r_24), (4, .float r_20), (10, .float r_19), (0, .ref (ad b)), (1, .int x1), (2, .int x2), (3, .int x3)]) hx hb dX9_map_154 hl (k := 10) rfl rfl (by decide) rfl (fun ls hl => ?_)
              refine lv_goto (tgt := 69) hx hb dX9_map_157 (by decide) ?_
              exact ih _ _ _ _ _ _ _ _ _ _ _ _ _ _ hal_21 hal_x_26 hal_x7 hd hW hB_st hF (lv_sub hl [7, 8, 9, 10, 5, 4, 2, 1, 0] rfl) h
            · have h := it_f k_31 h
              refine lv_goto (tgt := 142) hx hb dX9_map_134 (by decide) ?_
              exact wX9_map_142 hE0 hr hlk ih _ _ _ _ _ _ _ _ _ _ _ _ _ hal_21 hal_x_26 (alike32_refl _) hd hW hB_st hF (lv_sub hl [4, 5, 6, 7, 2, 1, 10, 3] rfl) h
set_option maxHeartbeats 4000000 in
set_option maxRecDepth 100000 in
theorem wX9_map_54 {p : Program} {l : Launch} {e : Env} {s : State} {m : MethodId} {args : Array Value} {below : List Frame} {meth : Method} {cd : Code} {D : va_G} {ct : Nat → ClassId} {J : List Nat} {ad : Nat → Nat} {c0 : CF} {b : Nat} (hE0 : ME p s m cd args D ct cX9_map RX9 12) (hr : meth.sig.returnType = (some .long)) (hlk : meth.locks = false) {r : Int64} {st9 : MS} : ∀ (x1 : Int32) (x2 : Int32) (x3 : Int32) (st : MS) (c : CF) (H : Heap) (locs : List Loc) (ls : Array Slot) (d0 : Drawn), s.drawn.sameBut d0 lw_cs → HW D J ad c (aA J ad s.heap.size) s.heap H locs → MoB ct J ad c b st → Fr c0 c b 19 → lv_has ls 12 [(0, .ref (ad b)), (1, .int x1), (2, .int x2), (3, .int x3)] → fX9_map_54 x1 x2 x3 st = some (r, st9) → W p l e (rr 3 73) (s.setDrawn d0) m args below meth cd H locs 0 0 (MQD lw_cs below (Ql D J ad s.heap.size r (fun c' => MoB ct J ad c' b st9 ∧ Fr c0 c' b 19)) args s 0 0 (aA J ad s.heap.size)) (F0 m 54 ls []) := by
  have hx := hE0.1
  have hb := hE0.2.1
  intro x1 x2 x3 st c H locs ls d0 hd hW hB_st hF hl h
  rw [fX9_map_54] at h
  have hE := hE0.dr d0
  refine lv_fconst0 hx hb dX9_map_54 ?_
  refine lv_fstore (lv' := [(4, .float (0 : UInt32)), (0, .ref (ad b)), (1, .int x1), (2, .int x2), (3, .int x3)]) hx hb dX9_map_55 hl (by decide) rfl (fun ls hl => ?_)
  refine lv_dconst0 hx hb dX9_map_57 ?_
  refine lv_dstore (lv' := [(5, .double (0 : UInt64)), (4, .float (0 : UInt32)), (0, .ref (ad b)), (1, .int x1), (2, .int x2), (3, .int x3)]) hx hb dX9_map_58 hl (by decide) rfl (fun ls hl => ?_)
  refine lv_fconst0 hx hb dX9_map_60 ?_
  refine lv_fstore (lv' := [(7, .float (0 : UInt32)), (5, .double (0 : UInt64)), (4, .float (0 : UInt32)), (0, .ref (ad b)), (1, .int x1), (2, .int x2), (3, .int x3)]) hx hb dX9_map_61 hl (by decide) rfl (fun ls hl => ?_)
  refine lv_iconst (v := (0 : Int32)) hx hb dX9_map_63 (by decide) ?_
  refine lv_istore (lv' := [(8, .int (0 : Int32)), (7, .float (0 : UInt32)), (5, .double (0 : UInt64)), (4, .float (0 : UInt32)), (0, .ref (ad b)), (1, .int x1), (2, .int x2), (3, .int x3)]) hx hb dX9_map_64 hl (by decide) rfl (fun ls hl => ?_)
  refine lv_iconst (v := (0 : Int32)) hx hb dX9_map_66 (by decide) ?_
  refine lv_istore (lv' := [(9, .int (0 : Int32)), (8, .int (0 : Int32)), (7, .float (0 : UInt32)), (5, .double (0 : UInt64)), (4, .float (0 : UInt32)), (0, .ref (ad b)), (1, .int x1), (2, .int x2), (3, .int x3)]) hx hb dX9_map_67 hl (by decide) rfl (fun ls hl => ?_)
  exact wX9_map_69 hE0 hr hlk _ _ _ _ _ _ _ _ _ _ _ _ _ _ _ (alike32_refl _) (al64_refl _) (alike32_refl _) hd hW hB_st hF (lv_sub hl [5, 6, 7, 8, 4, 3, 2, 1, 0] rfl) h
set_option maxHeartbeats 4000000 in
set_option maxRecDepth 100000 in
theorem mX9_map {l : Launch} {D : va_G} {ct : Nat → ClassId} {J : List Nat} {ad : Nat → Nat} {c0 : CF} {a1 : Int32} {a2 : Int32} {b : Nat} {st : MS} (hB_st : MoB ct J ad c0 b st) {r : Int64} {st9 : MS} (h : fX9_map  a1 a2 st = some (r, st9)) : MDl l D ct J ad yX9_map cX9_map 12 (some .long) (rr 3 73) [.ref (ad b), .int a1, .int a2] c0 r (fun c' => MoB ct J ad c' b st9 ∧ Fr c0 c' b 19) := by
  refine MDl_of (own := RX9) (by decide) rfl (Nat.le_of_ble_eq_true rfl) (fun p e s m below meth cd d0 hd hE0 hr hlk hW ls hl => ?_)
  have hE := hE0.dr d0
  have hx := hE.1
  have hb := hE.2.1
  have hl : lv_has ls 12 [(0, .ref (ad b)), (1, .int a1), (2, .int a2)] := hl
  rw [fX9_map] at h
  obtain ⟨c, hB_st, hF, hW⟩ : ∃ c', MoB ct J ad c' b st ∧ Fr c0 c' b 19 ∧ HW D J ad c' (aA J ad s.heap.size) s.heap s.heap [] := ⟨c0, hB_st, Fr.rf, hW⟩
  refine lv_iload_n hx hb dX9_map_0 rfl (lv_at hl 1 rfl) ?_
  obtain ⟨r_1, hr_1, h⟩ := zb_e h
  refine k_callSi (rest := []) hE hW hl.1 (mX9_isLog hr_1) q928 q929 q10 q930 hd_X9_isLog.2 ⟨Nat.le_of_ble_eq_true rfl, Nat.le_of_ble_eq_true rfl⟩ ⟨rfl, rfl⟩ rfl (Nat.le_of_ble_eq_true rfl) dX9_map_1 ⟨Nat.zero_le _, Nat.zero_le _⟩ (fun c1 H locs hP hW => ?_)
  rw [hP] at hW
  refine lv_if_eq (tgt := 16) hx hb dX9_map_4 (by decide) (fun k_2 => ?_) (fun k_2 => ?_)
  · have h := it_t k_2 h
    refine lv_ldc2 (v := (-9223372036854775808 : Int64)) hx hb hE.2.2.2.1 (hE.2.2.2.2.1 _ q1078) dX9_map_16 ?_
    refine W.endD hd ?_
    obtain ⟨rfl, rfl⟩ := Prod.mk.inj (Option.some.inj h)
    exact k_lret hE hr hlk hW ⟨hB_st, hF⟩ rfl dX9_map_19
  · have h := it_f k_2 h
    refine lv_iload_n hx hb dX9_map_7 rfl (lv_at hl 2 rfl) ?_
    refine lv_iconst (v := (0 : Int32)) hx hb dX9_map_8 (by decide) ?_
    refine lv_iconst (v := (4 : Int32)) hx hb dX9_map_9 (by decide) ?_
    obtain ⟨r_3, hr_3, h⟩ := zb_e h
    refine k_callSi (rest := []) hE hW hl.1 (mX9_in hr_3) q931 q932 q10 q933 hd_X9_in.2 ⟨Nat.le_of_ble_eq_true rfl, Nat.le_of_ble_eq_true rfl⟩ ⟨rfl, rfl⟩ rfl (Nat.le_of_ble_eq_true rfl) dX9_map_10 ⟨Nat.zero_le _, Nat.zero_le _⟩ (fun c1 H locs hP hW => ?_)
    rw [hP] at hW
    refine lv_if_ne (tgt := 20) hx hb dX9_map_13 (by decide) (fun k_4 => ?_) (fun k_4 => ?_)
    · have h := it_f k_4 h
      refine lv_aload_n hx hb dX9_map_20 rfl (lv_at hl 0 rfl) ?_
      refine lv_iload_n hx hb dX9_map_21 rfl (lv_at hl 1 rfl) ?_
      refine lv_sipush (v := (200 : Int32)) hx hb dX9_map_22 (by decide) ?_
      obtain ⟨st_5, hst_5, h⟩ := zb_e h
      refine k_callVv (rest := []) hE hW hl.1 (mX9_replays hB_st hst_5) hB_st.o hB_st.obj rfl q1052 q1054 qs105 q10 q1055 hd_X9_replays ⟨Nat.le_of_ble_eq_true rfl, Nat.le_of_ble_eq_true rfl⟩ ⟨rfl, rfl⟩ rfl (Nat.le_of_ble_eq_true rfl) dX9_map_25 ⟨Nat.zero_le _, Nat.zero_le _⟩ (fun c1 H locs hP hW => ?_)
      obtain ⟨c, hB_st, hF, hW⟩ : ∃ c', MoB ct J ad c' b st_5 ∧ Fr c0 c' b 19 ∧ HW D J ad c' (aA J ad s.heap.size) s.heap H locs := ⟨c1, hP.1, hF.trans hP.2, hW⟩
      refine lv_aload_n hx hb dX9_map_28 rfl (lv_at hl 0 rfl) ?_
      refine lv_iload_n hx hb dX9_map_29 rfl (lv_at hl 1 rfl) ?_
      obtain ⟨r_6, hr_6, h⟩ := zb_e h
      refine k_callVi (rest := []) hE hW hl.1 (mX9_mapped hB_st hr_6) hB_st.o hB_st.obj rfl q1056 q1058 qs106 q10 q1059 hd_X9_mapped ⟨Nat.le_of_ble_eq_true rfl, Nat.le_of_ble_eq_true rfl⟩ ⟨rfl, rfl⟩ rfl (Nat.le_of_ble_eq_true rfl) dX9_map_30 ⟨Nat.zero_le _, Nat.zero_le _⟩ (fun c1 H locs hP hW => ?_)
      rw [hP] at hW
      refine lv_istore_n (lv' := [(3, .int r_6), (0, .ref (ad b)), (1, .int a1), (2, .int a2)]) hx hb dX9_map_33 rfl hl (by decide) rfl (fun ls hl => ?_)
      refine lv_iload_n hx hb dX9_map_34 rfl (lv_at hl 3 rfl) ?_
      refine lv_if_ne (tgt := 41) hx hb dX9_map_35 (by decide) (fun k_7 => ?_) (fun k_7 => ?_)
      · have h := it_f k_7 h
        refine lv_iload_n hx hb dX9_map_41 rfl (lv_at hl 0 rfl) ?_
        refine lv_if_ne (tgt := 54) hx hb dX9_map_42 (by decide) (fun k_8 => ?_) (fun k_8 => ?_)
        · have h := it_f k_8 h
          exact wX9_map_54 hE0 hr hlk _ _ _ _ _ _ _ _ _ hd hW hB_st hF (lv_sub hl [1, 2, 3, 0] rfl) h
        · have h := it_t k_8 h
          refine lv_iload_n hx hb dX9_map_45 rfl (lv_at hl 3 rfl) ?_
          refine lv_iconst (v := (1 : Int32)) hx hb dX9_map_46 (by decide) ?_
          refine lv_icmp_le (tgt := 54) hx hb dX9_map_47 (by decide) (fun k_32 => ?_) (fun k_32 => ?_)
          · have h := it_t k_32 h
            exact wX9_map_54 hE0 hr hlk _ _ _ _ _ _ _ _ _ hd hW hB_st hF (lv_sub hl [1, 2, 3, 0] rfl) h
          · have h := it_f k_32 h
            refine lv_ldc2 (v := (-9223372036854775808 : Int64)) hx hb hE.2.2.2.1 (hE.2.2.2.2.1 _ q1078) dX9_map_50 ?_
            refine W.endD hd ?_
            obtain ⟨rfl, rfl⟩ := Prod.mk.inj (Option.some.inj h)
            exact k_lret hE hr hlk hW ⟨hB_st, hF⟩ rfl dX9_map_53
      · have h := it_t k_7 h
        refine lv_iload_n hx hb dX9_map_38 rfl (lv_at hl 0 rfl) ?_
        refine lv_i2l (v := r_6.toInt64) hx hb dX9_map_39 rfl ?_
        refine W.endD hd ?_
        obtain ⟨rfl, rfl⟩ := Prod.mk.inj (Option.some.inj h)
        exact k_lret hE hr hlk hW ⟨hB_st, hF⟩ rfl dX9_map_40
    · have h := it_t k_4 h
      refine lv_ldc2 (v := (-9223372036854775808 : Int64)) hx hb hE.2.2.2.1 (hE.2.2.2.2.1 _ q1078) dX9_map_16 ?_
      refine W.endD hd ?_
      obtain ⟨rfl, rfl⟩ := Prod.mk.inj (Option.some.inj h)
      exact k_lret hE hr hlk hW ⟨hB_st, hF⟩ rfl dX9_map_19
