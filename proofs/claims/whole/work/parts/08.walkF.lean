theorem hd_X0_packed : yX0_packed.cls = RX0 ∧ yX0_packed.cls ≠ "java/lang/invoke/MethodHandle" ∧ yX0_packed.cls ≠ "java/lang/invoke/VarHandle" ∧ (parseMethodDescriptor yX0_packed.desc).map (fun d => d.parameters.length) = some 3 := by decide +kernel
theorem hd_X0_bitsOfFloat : yX0_bitsOfFloat.cls = RX0 ∧ yX0_bitsOfFloat.cls ≠ "java/lang/invoke/MethodHandle" ∧ yX0_bitsOfFloat.cls ≠ "java/lang/invoke/VarHandle" ∧ (parseMethodDescriptor yX0_bitsOfFloat.desc).map (fun d => d.parameters.length) = some 1 := by decide +kernel
theorem hd_X0_quotient : yX0_quotient.cls = RX0 ∧ yX0_quotient.cls ≠ "java/lang/invoke/MethodHandle" ∧ yX0_quotient.cls ≠ "java/lang/invoke/VarHandle" ∧ (parseMethodDescriptor yX0_quotient.desc).map (fun d => d.parameters.length) = some 2 := by decide +kernel
theorem hd_X0_isFinite : yX0_isFinite.cls = RX0 ∧ yX0_isFinite.cls ≠ "java/lang/invoke/MethodHandle" ∧ yX0_isFinite.cls ≠ "java/lang/invoke/VarHandle" ∧ (parseMethodDescriptor yX0_isFinite.desc).map (fun d => d.parameters.length) = some 1 := by decide +kernel
theorem hd_X0_oddSum : yX0_oddSum.cls = RX0 ∧ yX0_oddSum.cls ≠ "java/lang/invoke/MethodHandle" ∧ yX0_oddSum.cls ≠ "java/lang/invoke/VarHandle" ∧ (parseMethodDescriptor yX0_oddSum.desc).map (fun d => d.parameters.length) = some 2 := by decide +kernel
theorem hd_X0_widened : yX0_widened.cls = RX0 ∧ yX0_widened.cls ≠ "java/lang/invoke/MethodHandle" ∧ yX0_widened.cls ≠ "java/lang/invoke/VarHandle" ∧ (parseMethodDescriptor yX0_widened.desc).map (fun d => d.parameters.length) = some 1 := by decide +kernel
theorem hd_X0_rank : yX0_rank.cls = RX0 ∧ yX0_rank.cls ≠ "java/lang/invoke/MethodHandle" ∧ yX0_rank.cls ≠ "java/lang/invoke/VarHandle" ∧ (parseMethodDescriptor yX0_rank.desc).map (fun d => d.parameters.length) = some 1 := by decide +kernel
theorem hd_X0_floatOf : yX0_floatOf.cls = RX0 ∧ yX0_floatOf.cls ≠ "java/lang/invoke/MethodHandle" ∧ yX0_floatOf.cls ≠ "java/lang/invoke/VarHandle" ∧ (parseMethodDescriptor yX0_floatOf.desc).map (fun d => d.parameters.length) = some 1 := by decide +kernel
theorem hd_X0_bitsOfDouble : yX0_bitsOfDouble.cls = RX0 ∧ yX0_bitsOfDouble.cls ≠ "java/lang/invoke/MethodHandle" ∧ yX0_bitsOfDouble.cls ≠ "java/lang/invoke/VarHandle" ∧ (parseMethodDescriptor yX0_bitsOfDouble.desc).map (fun d => d.parameters.length) = some 1 := by decide +kernel
set_option maxHeartbeats 4000000 in
set_option maxRecDepth 100000 in
theorem wX0_packed_78 {p : Program} {l : Launch} {e : Env} {s : State} {m : MethodId} {args : Array Value} {below : List Frame} {meth : Method} {cd : Code} {D : va_G} {ct : Nat → ClassId} {J : List Nat} {ad : Nat → Nat} {c0 : CF} (hE : ME p s m cd args D ct cX0_packed RX0 9) (hr : meth.sig.returnType = (some .long)) (hlk : meth.locks = false) {r : Int64} : ∀ (x2 : Int32) (x4 : UInt64) (x6 : Int32) (H : Heap) (locs : List Loc) (ls : Array Slot), HW D J ad c0 (aA J ad s.heap.size) s.heap H locs → lv_has ls 9 [(2, .int x2), (4, .double x4), (6, .int x6)] → fX0_packed_78 x2 x4 x6 = some r → W p l e (rr 0 0) s m args below meth cd H locs 0 0 (MQ below (Ql D J ad s.heap.size r (fun c' => c' = c0)) args s 0 0 (aA J ad s.heap.size)) (F0 m 78 ls []) := by
  have hx := hE.1
  have hb := hE.2.1
  intro x2 x4 x6 H locs ls hW hl h
  rw [fX0_packed_78] at h
  refine lv_lconst (v := (1 : Int64)) hx hb dX0_packed_78 (by decide) ?_
  refine lv_iload_n hx hb dX0_packed_79 rfl (lv_at hl 0 rfl) ?_
  refine lv_lshl (v := ((1 : Int64) <<< (x2.toInt64 &&& 63))) hx hb dX0_packed_80 rfl ?_
  refine lv_topl (fun x_3 ex_3 => ?_)
  have h := zl_n h ex_3
  refine lv_lstore (lv' := [(7, .long x_3), (2, .int x2), (4, .double x4), (6, .int x6)]) hx hb dX0_packed_81 hl (by decide) rfl (fun ls hl => ?_)
  refine lv_iload hx hb dX0_packed_83 (lv_at hl 3 rfl) ?_
  refine lv_i2l (v := x6.toInt64) hx hb dX0_packed_85 rfl ?_
  refine lv_iload_n hx hb dX0_packed_86 rfl (lv_at hl 1 rfl) ?_
  refine lv_lshl (v := (x6.toInt64 <<< (x2.toInt64 &&& 63))) hx hb dX0_packed_87 rfl ?_
  refine lv_dload hx hb dX0_packed_88 (lv_at hl 2 rfl) ?_
  refine lv_dconst1 hx hb dX0_packed_90 ?_
  obtain ⟨g_4, h⟩ := zn64_e h
  refine lv_dsub hx hb dX0_packed_91 g_4 ?_
  refine lv_lload hx hb dX0_packed_92 (lv_at hl 0 rfl) ?_
  refine lv_l2d hx hb dX0_packed_94 ?_
  obtain ⟨g_5, h⟩ := zn64_e h
  refine lv_dmul hx hb dX0_packed_95 g_5 ?_
  refine lv_d2l hx hb dX0_packed_96 ?_
  refine lv_lor hx hb dX0_packed_97 ?_
  obtain rfl := Option.some.inj h
  exact k_lret hE hr hlk hW rfl rfl dX0_packed_98
set_option maxHeartbeats 4000000 in
set_option maxRecDepth 100000 in
theorem wX0_packed_46 {p : Program} {l : Launch} {e : Env} {s : State} {m : MethodId} {args : Array Value} {below : List Frame} {meth : Method} {cd : Code} {D : va_G} {ct : Nat → ClassId} {J : List Nat} {ad : Nat → Nat} {c0 : CF} (hE : ME p s m cd args D ct cX0_packed RX0 9) (hr : meth.sig.returnType = (some .long)) (hlk : meth.locks = false) {x2 : Int32} {r : Int64} : ∀ (n : Nat) (x4 : UInt64) (x6 : Int32) (x7 : Int32) (H : Heap) (locs : List Loc) (ls : Array Slot), HW D J ad c0 (aA J ad s.heap.size) s.heap H locs → lv_has ls 9 [(2, .int x2), (4, .double x4), (6, .int x6), (7, .int x7)] → fX0_packed_46 x2 n x4 x6 x7 = some r → W p l e (rr 0 0) s m args below meth cd H locs 0 0 (MQ below (Ql D J ad s.heap.size r (fun c' => c' = c0)) args s 0 0 (aA J ad s.heap.size)) (F0 m 46 ls []) := by
  have hx := hE.1
  have hb := hE.2.1
  intro n
  induction n with
  | zero =>
    intro x4 x6 x7 H locs ls hW hl h
    have h2 : (none : Option Int64) = some r := h
    cases h2
  | succ n ih =>
    intro x4 x6 x7 H locs ls hW hl h
    rw [fX0_packed_46] at h
    refine lv_iload hx hb dX0_packed_46 (lv_at hl 3 rfl) ?_
    refine lv_sipush (v := (1023 : Int32)) hx hb dX0_packed_48 (by decide) ?_
    refine lv_icmp_ge (tgt := 78) hx hb dX0_packed_51 (by decide) (fun k_2 => ?_) (fun k_2 => ?_)
    · have h := it_t k_2 h
      exact wX0_packed_78 hE hr hlk _ _ _ _ _ _ hW (lv_sub hl [0, 1, 2] rfl) h
    · have h := it_f k_2 h
      refine lv_dload hx hb dX0_packed_54 (lv_at hl 1 rfl) ?_
      refine lv_dconst1 hx hb dX0_packed_56 ?_
      refine lv_dcmp hx hb dX0_packed_57 ?_
      refine lv_if_ge (tgt := 78) hx hb dX0_packed_58 (by decide) (fun k_6 => ?_) (fun k_6 => ?_)
      · have h := it_t k_6 h
        exact wX0_packed_78 hE hr hlk _ _ _ _ _ _ hW (lv_sub hl [0, 1, 2] rfl) h
      · have h := it_f k_6 h
        refine lv_dload hx hb dX0_packed_61 (lv_at hl 1 rfl) ?_
        refine lv_ldc2d (v := (4611686018427387904 : UInt64)) hx hb hE.2.2.2.1 (hE.2.2.2.2.1 _ q280) dX0_packed_63 ?_
        obtain ⟨g_7, h⟩ := zn64_e h
        refine lv_dmul hx hb dX0_packed_66 g_7 ?_
        refine lv_topd (fun x_8 ex_8 => ?_)
        have h := zl_n h ex_8
        refine lv_dstore (lv' := [(4, .double x_8), (2, .int x2), (6, .int x6), (7, .int x7)]) hx hb dX0_packed_67 hl (by decide) rfl (fun ls hl => ?_)
        refine lv_iinc (v := (x6 + (-1 : Int32))) (lv' := [(6, .int (x6 + (-1 : Int32))), (4, .double x_8), (2, .int x2), (7, .int x7)]) hx hb dX0_packed_69 hl (k := 2) rfl rfl (by decide) rfl (fun ls hl => ?_)
        refine lv_iinc (v := (x7 + (1 : Int32))) (lv' := [(7, .int (x7 + (1 : Int32))), (6, .int (x6 + (-1 : Int32))), (4, .double x_8), (2, .int x2)]) hx hb dX0_packed_72 hl (k := 3) rfl rfl (by decide) rfl (fun ls hl => ?_)
        refine lv_goto (tgt := 46) hx hb dX0_packed_75 (by decide) ?_
        exact ih _ _ _ _ _ _ hW (lv_sub hl [3, 2, 1, 0] rfl) h
set_option maxHeartbeats 4000000 in
set_option maxRecDepth 100000 in
theorem wX0_packed_9 {p : Program} {l : Launch} {e : Env} {s : State} {m : MethodId} {args : Array Value} {below : List Frame} {meth : Method} {cd : Code} {D : va_G} {ct : Nat → ClassId} {J : List Nat} {ad : Nat → Nat} {c0 : CF} (hE : ME p s m cd args D ct cX0_packed RX0 9) (hr : meth.sig.returnType = (some .long)) (hlk : meth.locks = false) {x2 : Int32} {r : Int64} : ∀ (n : Nat) (x4 : UInt64) (x6 : Int32) (x7 : Int32) (H : Heap) (locs : List Loc) (ls : Array Slot), HW D J ad c0 (aA J ad s.heap.size) s.heap H locs → lv_has ls 9 [(2, .int x2), (4, .double x4), (6, .int x6), (7, .int x7)] → fX0_packed_9 x2 n x4 x6 x7 = some r → W p l e (rr 0 0) s m args below meth cd H locs 0 0 (MQ below (Ql D J ad s.heap.size r (fun c' => c' = c0)) args s 0 0 (aA J ad s.heap.size)) (F0 m 9 ls []) := by
  have hx := hE.1
  have hb := hE.2.1
  intro n
  induction n with
  | zero =>
    intro x4 x6 x7 H locs ls hW hl h
    have h2 : (none : Option Int64) = some r := h
    cases h2
  | succ n ih =>
    intro x4 x6 x7 H locs ls hW hl h
    rw [fX0_packed_9] at h
    refine lv_iload hx hb dX0_packed_9 (lv_at hl 3 rfl) ?_
    refine lv_sipush (v := (1023 : Int32)) hx hb dX0_packed_11 (by decide) ?_
    refine lv_icmp_ge (tgt := 43) hx hb dX0_packed_14 (by decide) (fun k_1 => ?_) (fun k_1 => ?_)
    · have h := it_t k_1 h
      refine lv_iconst (v := (0 : Int32)) hx hb dX0_packed_43 (by decide) ?_
      refine lv_istore (lv' := [(7, .int (0 : Int32)), (2, .int x2), (4, .double x4), (6, .int x6)]) hx hb dX0_packed_44 hl (by decide) rfl (fun ls hl => ?_)
      exact wX0_packed_46 hE hr hlk _ _ _ _ _ _ _ hW (lv_sub hl [1, 2, 3, 0] rfl) h
    · have h := it_f k_1 h
      refine lv_dload hx hb dX0_packed_17 (lv_at hl 1 rfl) ?_
      refine lv_ldc2d (v := (4611686018427387904 : UInt64)) hx hb hE.2.2.2.1 (hE.2.2.2.2.1 _ q280) dX0_packed_19 ?_
      refine lv_dcmp hx hb dX0_packed_22 ?_
      refine lv_if_lt (tgt := 43) hx hb dX0_packed_23 (by decide) (fun k_9 => ?_) (fun k_9 => ?_)
      · have h := it_t k_9 h
        refine lv_iconst (v := (0 : Int32)) hx hb dX0_packed_43 (by decide) ?_
        refine lv_istore (lv' := [(7, .int (0 : Int32)), (2, .int x2), (4, .double x4), (6, .int x6)]) hx hb dX0_packed_44 hl (by decide) rfl (fun ls hl => ?_)
        exact wX0_packed_46 hE hr hlk _ _ _ _ _ _ _ hW (lv_sub hl [1, 2, 3, 0] rfl) h
      · have h := it_f k_9 h
        refine lv_dload hx hb dX0_packed_26 (lv_at hl 1 rfl) ?_
        refine lv_ldc2d (v := (4602678819172646912 : UInt64)) hx hb hE.2.2.2.1 (hE.2.2.2.2.1 _ q281) dX0_packed_28 ?_
        obtain ⟨g_10, h⟩ := zn64_e h
        refine lv_dmul hx hb dX0_packed_31 g_10 ?_
        refine lv_topd (fun x_11 ex_11 => ?_)
        have h := zl_n h ex_11
        refine lv_dstore (lv' := [(4, .double x_11), (2, .int x2), (6, .int x6), (7, .int x7)]) hx hb dX0_packed_32 hl (by decide) rfl (fun ls hl => ?_)
        refine lv_iinc (v := (x6 + (1 : Int32))) (lv' := [(6, .int (x6 + (1 : Int32))), (4, .double x_11), (2, .int x2), (7, .int x7)]) hx hb dX0_packed_34 hl (k := 2) rfl rfl (by decide) rfl (fun ls hl => ?_)
        refine lv_iinc (v := (x7 + (1 : Int32))) (lv' := [(7, .int (x7 + (1 : Int32))), (6, .int (x6 + (1 : Int32))), (4, .double x_11), (2, .int x2)]) hx hb dX0_packed_37 hl (k := 3) rfl rfl (by decide) rfl (fun ls hl => ?_)
        refine lv_goto (tgt := 9) hx hb dX0_packed_40 (by decide) ?_
        exact ih _ _ _ _ _ _ hW (lv_sub hl [3, 2, 1, 0] rfl) h
set_option maxHeartbeats 4000000 in
set_option maxRecDepth 100000 in
theorem mX0_packed {l : Launch} {D : va_G} {ct : Nat → ClassId} {J : List Nat} {ad : Nat → Nat} {c0 : CF} {a1 : UInt64} {a2 : Int32} {a3 : Int32} {r : Int64} (h : fX0_packed  a1 a2 a3 = some r) : Ml l D ct J ad yX0_packed cX0_packed 9 (some .long) (rr 0 0) [.double a1, .int a2, .int a3] c0 r (fun c' => c' = c0) := by
  refine Ml_of (own := RX0) (by decide) rfl (Nat.le_of_ble_eq_true rfl) (fun p e s m below meth cd hE hr hlk hW ls hl => ?_)
  have hx := hE.1
  have hb := hE.2.1
  have hl : lv_has ls 9 [(0, .double a1), (2, .int a2), (3, .int a3)] := hl
  rw [fX0_packed] at h
  refine lv_dload_n hx hb dX0_packed_0 rfl (lv_at hl 0 rfl) ?_
  refine lv_dstore (lv' := [(4, .double a1), (0, .double a1), (2, .int a2), (3, .int a3)]) hx hb dX0_packed_1 hl (by decide) rfl (fun ls hl => ?_)
  refine lv_iload_n hx hb dX0_packed_3 rfl (lv_at hl 3 rfl) ?_
  refine lv_istore (lv' := [(6, .int a3), (4, .double a1), (0, .double a1), (2, .int a2), (3, .int a3)]) hx hb dX0_packed_4 hl (by decide) rfl (fun ls hl => ?_)
  refine lv_iconst (v := (0 : Int32)) hx hb dX0_packed_6 (by decide) ?_
  refine lv_istore (lv' := [(7, .int (0 : Int32)), (6, .int a3), (4, .double a1), (0, .double a1), (2, .int a2), (3, .int a3)]) hx hb dX0_packed_7 hl (by decide) rfl (fun ls hl => ?_)
  exact wX0_packed_9 hE hr hlk _ _ _ _ _ _ _ hW (lv_sub hl [4, 2, 1, 0] rfl) h
set_option maxHeartbeats 4000000 in
set_option maxRecDepth 100000 in
theorem wX0_bitsOfFloat_22 {p : Program} {l : Launch} {e : Env} {s : State} {m : MethodId} {args : Array Value} {below : List Frame} {meth : Method} {cd : Code} {D : va_G} {ct : Nat → ClassId} {J : List Nat} {ad : Nat → Nat} {c0 : CF} (hE : ME p s m cd args D ct cX0_bitsOfFloat RX0 2) (hr : meth.sig.returnType = (some .int)) (hlk : meth.locks = false) {r : Int32} : ∀ (x0 : UInt32) (y0 : UInt64) (H : Heap) (locs : List Loc) (ls : Array Slot), HW D J ad c0 (aA J ad s.heap.size) s.heap H locs → lv_has ls 2 [(0, .float x0)] → fX0_bitsOfFloat_22 x0 y0 = some r → W p l e (rr 1 28) s m args below meth cd H locs 0 0 (MQ below (Qi D J ad s.heap.size r (fun c' => c' = c0)) args s 0 0 (aA J ad s.heap.size)) (F0 m 22 ls [.double y0]) := by
  have hx := hE.1
  have hb := hE.2.1
  intro x0 y0 H locs ls hW hl h
  rw [fX0_bitsOfFloat_22] at h
  refine lv_bipush (v := (23 : Int32)) hx hb dX0_bitsOfFloat_22 (by decide) ?_
  refine lv_bipush (v := (127 : Int32)) hx hb dX0_bitsOfFloat_24 (by decide) ?_
  obtain ⟨r_4, hr_4, h⟩ := zb_e h
  refine k_callSl (rest := []) hE hW hl.1 (mX0_packed hr_4) q277 q278 q11 q279 hd_X0_packed.2 ⟨Nat.le_of_ble_eq_true rfl, Nat.le_of_ble_eq_true rfl⟩ ⟨rfl, rfl⟩ rfl (Nat.le_of_ble_eq_true rfl) dX0_bitsOfFloat_26 ⟨Nat.zero_le _, Nat.zero_le _⟩ (fun c1 H locs hP hW => ?_)
  rw [hP] at hW
  refine lv_l2i (v := r_4.toInt32) hx hb dX0_bitsOfFloat_29 rfl ?_
  refine lv_istore_n (lv' := [(1, .int r_4.toInt32), (0, .float x0)]) hx hb dX0_bitsOfFloat_30 rfl hl (by decide) rfl (fun ls hl => ?_)
  refine lv_fload_n hx hb dX0_bitsOfFloat_31 rfl (lv_at hl 1 rfl) ?_
  refine lv_fconst0 hx hb dX0_bitsOfFloat_32 ?_
  refine lv_fcmp hx hb dX0_bitsOfFloat_33 ?_
  refine lv_if_ge (tgt := 44) hx hb dX0_bitsOfFloat_34 (by decide) (fun k_5 => ?_) (fun k_5 => ?_)
  · have h := it_t k_5 h
    refine lv_iload_n hx hb dX0_bitsOfFloat_44 rfl (lv_at hl 0 rfl) ?_
    obtain rfl := Option.some.inj h
    exact k_iret hE hr hlk hW rfl rfl dX0_bitsOfFloat_45
  · have h := it_f k_5 h
    refine lv_iload_n hx hb dX0_bitsOfFloat_37 rfl (lv_at hl 0 rfl) ?_
    refine lv_ldc (v := (-2147483648 : Int32)) hx hb hE.2.2.2.1 (hE.2.2.2.2.1 _ q273) dX0_bitsOfFloat_38 ?_
    refine lv_ior hx hb dX0_bitsOfFloat_40 ?_
    refine lv_goto (tgt := 45) hx hb dX0_bitsOfFloat_41 (by decide) ?_
    obtain rfl := Option.some.inj h
    exact k_iret hE hr hlk hW rfl rfl dX0_bitsOfFloat_45
set_option maxHeartbeats 4000000 in
set_option maxRecDepth 100000 in
theorem mX0_bitsOfFloat {l : Launch} {D : va_G} {ct : Nat → ClassId} {J : List Nat} {ad : Nat → Nat} {c0 : CF} {a1 : UInt32} {r : Int32} (h : fX0_bitsOfFloat  a1 = some r) : Mi l D ct J ad yX0_bitsOfFloat cX0_bitsOfFloat 2 (some .int) (rr 1 28) [.float a1] c0 r (fun c' => c' = c0) := by
  refine Mi_of (own := RX0) (by decide) rfl (Nat.le_of_ble_eq_true rfl) (fun p e s m below meth cd hE hr hlk hW ls hl => ?_)
  have hx := hE.1
  have hb := hE.2.1
  have hl : lv_has ls 2 [(0, .float a1)] := hl
  rw [fX0_bitsOfFloat] at h
  refine lv_fload_n hx hb dX0_bitsOfFloat_0 rfl (lv_at hl 0 rfl) ?_
  refine lv_fconst0 hx hb dX0_bitsOfFloat_1 ?_
  refine lv_fcmp hx hb dX0_bitsOfFloat_2 ?_
  refine lv_if_ne (tgt := 8) hx hb dX0_bitsOfFloat_3 (by decide) (fun k_1 => ?_) (fun k_1 => ?_)
  · have h := it_f k_1 h
    refine lv_fload_n hx hb dX0_bitsOfFloat_8 rfl (lv_at hl 0 rfl) ?_
    refine lv_fconst0 hx hb dX0_bitsOfFloat_9 ?_
    refine lv_fcmp hx hb dX0_bitsOfFloat_10 ?_
    refine lv_if_ge (tgt := 20) hx hb dX0_bitsOfFloat_11 (by decide) (fun k_2 => ?_) (fun k_2 => ?_)
    · have h := it_t k_2 h
      refine lv_fload_n hx hb dX0_bitsOfFloat_20 rfl (lv_at hl 0 rfl) ?_
      obtain ⟨g_3, h⟩ := zn64_e h
      refine lv_f2d hx hb dX0_bitsOfFloat_21 g_3 ?_
      exact wX0_bitsOfFloat_22 hE hr hlk _ _ _ _ _ hW (lv_sub hl [0] rfl) h
    · have h := it_f k_2 h
      refine lv_fload_n hx hb dX0_bitsOfFloat_14 rfl (lv_at hl 0 rfl) ?_
      refine lv_fneg hx hb dX0_bitsOfFloat_15 ?_
      obtain ⟨g_6, h⟩ := zn64_e h
      refine lv_f2d hx hb dX0_bitsOfFloat_16 g_6 ?_
      refine lv_goto (tgt := 22) hx hb dX0_bitsOfFloat_17 (by decide) ?_
      exact wX0_bitsOfFloat_22 hE hr hlk _ _ _ _ _ hW (lv_sub hl [0] rfl) h
  · have h := it_t k_1 h
    refine lv_iconst (v := (0 : Int32)) hx hb dX0_bitsOfFloat_6 (by decide) ?_
    obtain rfl := Option.some.inj h
    exact k_iret hE hr hlk hW rfl rfl dX0_bitsOfFloat_7
set_option maxHeartbeats 4000000 in
set_option maxRecDepth 100000 in
theorem mX0_quotient {l : Launch} {D : va_G} {ct : Nat → ClassId} {J : List Nat} {ad : Nat → Nat} {c0 : CF} {a1 : Int32} {a2 : Int32} {r : Int32} (h : fX0_quotient  a1 a2 = some r) : Mi l D ct J ad yX0_quotient cX0_quotient 2 (some .int) (rr 2 49) [.int a1, .int a2] c0 r (fun c' => c' = c0) := by
  refine Mi_of (own := RX0) (by decide) rfl (Nat.le_of_ble_eq_true rfl) (fun p e s m below meth cd hE hr hlk hW ls hl => ?_)
  have hx := hE.1
  have hb := hE.2.1
  have hl : lv_has ls 2 [(0, .int a1), (1, .int a2)] := hl
  rw [fX0_quotient] at h
  refine lv_iload_n hx hb dX0_quotient_0 rfl (lv_at hl 1 rfl) ?_
  refine lv_if_ne (tgt := 25) hx hb dX0_quotient_1 (by decide) (fun k_1 => ?_) (fun k_1 => ?_)
  · have h := it_f k_1 h
    refine lv_iload_n hx hb dX0_quotient_25 rfl (lv_at hl 0 rfl) ?_
    refine lv_if_ne (tgt := 40) hx hb dX0_quotient_26 (by decide) (fun k_2 => ?_) (fun k_2 => ?_)
    · have h := it_f k_2 h
      refine lv_iload_n hx hb dX0_quotient_40 rfl (lv_at hl 0 rfl) ?_
      refine lv_i2f hx hb dX0_quotient_41 ?_
      refine lv_iload_n hx hb dX0_quotient_42 rfl (lv_at hl 1 rfl) ?_
      refine lv_i2f hx hb dX0_quotient_43 ?_
      obtain ⟨g_3, h⟩ := zn32_e h
      refine lv_fdiv hx hb dX0_quotient_44 g_3 ?_
      obtain ⟨r_4, hr_4, h⟩ := zb_e h
      refine k_callSi (rest := []) hE hW hl.1 (mX0_bitsOfFloat hr_4) q274 q275 q11 q276 hd_X0_bitsOfFloat.2 ⟨Nat.le_of_ble_eq_true rfl, Nat.le_of_ble_eq_true rfl⟩ ⟨rfl, rfl⟩ rfl (Nat.le_of_ble_eq_true rfl) dX0_quotient_45 ⟨Nat.zero_le _, Nat.zero_le _⟩ (fun c1 H locs hP hW => ?_)
      rw [hP] at hW
      obtain rfl := Option.some.inj h
      exact k_iret hE hr hlk hW rfl rfl dX0_quotient_48
    · have h := it_t k_2 h
      refine lv_iload_n hx hb dX0_quotient_29 rfl (lv_at hl 1 rfl) ?_
      refine lv_if_ge (tgt := 38) hx hb dX0_quotient_30 (by decide) (fun k_5 => ?_) (fun k_5 => ?_)
      · have h := it_t k_5 h
        refine lv_iconst (v := (0 : Int32)) hx hb dX0_quotient_38 (by decide) ?_
        obtain rfl := Option.some.inj h
        exact k_iret hE hr hlk hW rfl rfl dX0_quotient_39
      · have h := it_f k_5 h
        refine lv_ldc (v := (-2147483648 : Int32)) hx hb hE.2.2.2.1 (hE.2.2.2.2.1 _ q273) dX0_quotient_33 ?_
        refine lv_goto (tgt := 39) hx hb dX0_quotient_35 (by decide) ?_
        obtain rfl := Option.some.inj h
        exact k_iret hE hr hlk hW rfl rfl dX0_quotient_39
  · have h := it_t k_1 h
    refine lv_iload_n hx hb dX0_quotient_4 rfl (lv_at hl 0 rfl) ?_
    refine lv_if_ne (tgt := 13) hx hb dX0_quotient_5 (by decide) (fun k_6 => ?_) (fun k_6 => ?_)
    · have h := it_f k_6 h
      refine lv_iload_n hx hb dX0_quotient_13 rfl (lv_at hl 0 rfl) ?_
      refine lv_if_le (tgt := 22) hx hb dX0_quotient_14 (by decide) (fun k_7 => ?_) (fun k_7 => ?_)
      · have h := it_t k_7 h
        refine lv_ldc (v := (-8388608 : Int32)) hx hb hE.2.2.2.1 (hE.2.2.2.2.1 _ q272) dX0_quotient_22 ?_
        obtain rfl := Option.some.inj h
        exact k_iret hE hr hlk hW rfl rfl dX0_quotient_24
      · have h := it_f k_7 h
        refine lv_ldc (v := (2139095040 : Int32)) hx hb hE.2.2.2.1 (hE.2.2.2.2.1 _ q271) dX0_quotient_17 ?_
        refine lv_goto (tgt := 24) hx hb dX0_quotient_19 (by decide) ?_
        obtain rfl := Option.some.inj h
        exact k_iret hE hr hlk hW rfl rfl dX0_quotient_24
    · have h := it_t k_6 h
      refine lv_ldc (v := (2143289344 : Int32)) hx hb hE.2.2.2.1 (hE.2.2.2.2.1 _ q270) dX0_quotient_8 ?_
      refine lv_goto (tgt := 24) hx hb dX0_quotient_10 (by decide) ?_
      obtain rfl := Option.some.inj h
      exact k_iret hE hr hlk hW rfl rfl dX0_quotient_24
set_option maxHeartbeats 4000000 in
set_option maxRecDepth 100000 in
theorem mX0_isFinite {l : Launch} {D : va_G} {ct : Nat → ClassId} {J : List Nat} {ad : Nat → Nat} {c0 : CF} {a1 : Int32} {r : Int32} (h : fX0_isFinite  a1 = some r) : Mi l D ct J ad yX0_isFinite cX0_isFinite 1 (some .boolean) (rr 0 0) [.int a1] c0 r (fun c' => c' = c0) := by
  refine Mi_of (own := RX0) (by decide) rfl (Nat.le_of_ble_eq_true rfl) (fun p e s m below meth cd hE hr hlk hW ls hl => ?_)
  have hx := hE.1
  have hb := hE.2.1
  have hl : lv_has ls 1 [(0, .int a1)] := hl
  rw [fX0_isFinite] at h
  refine lv_iload_n hx hb dX0_isFinite_0 rfl (lv_at hl 0 rfl) ?_
  refine lv_ldc (v := (2139095040 : Int32)) hx hb hE.2.2.2.1 (hE.2.2.2.2.1 _ q271) dX0_isFinite_1 ?_
  refine lv_iand hx hb dX0_isFinite_3 ?_
  refine lv_ldc (v := (2139095040 : Int32)) hx hb hE.2.2.2.1 (hE.2.2.2.2.1 _ q271) dX0_isFinite_4 ?_
  refine lv_icmp_eq (tgt := 13) hx hb dX0_isFinite_6 (by decide) (fun k_1 => ?_) (fun k_1 => ?_)
  · have h := it_t k_1 h
    refine lv_iconst (v := (0 : Int32)) hx hb dX0_isFinite_13 (by decide) ?_
    obtain rfl := Option.some.inj h
    exact k_zret hE hr hlk hW rfl rfl rfl dX0_isFinite_14
  · have h := it_f k_1 h
    refine lv_iconst (v := (1 : Int32)) hx hb dX0_isFinite_9 (by decide) ?_
    refine lv_goto (tgt := 14) hx hb dX0_isFinite_10 (by decide) ?_
    obtain rfl := Option.some.inj h
    exact k_zret hE hr hlk hW rfl rfl rfl dX0_isFinite_14
set_option maxHeartbeats 4000000 in
set_option maxRecDepth 100000 in
theorem mX0_oddSum {l : Launch} {D : va_G} {ct : Nat → ClassId} {J : List Nat} {ad : Nat → Nat} {c0 : CF} {a1 : Int32} {a2 : Int32} {r : Int32} (h : fX0_oddSum  a1 a2 = some r) : Mi l D ct J ad yX0_oddSum cX0_oddSum 2 (some .int) (rr 0 0) [.int a1, .int a2] c0 r (fun c' => c' = c0) := by
  refine Mi_of (own := RX0) (by decide) rfl (Nat.le_of_ble_eq_true rfl) (fun p e s m below meth cd hE hr hlk hW ls hl => ?_)
  have hx := hE.1
  have hb := hE.2.1
  have hl : lv_has ls 2 [(0, .int a1), (1, .int a2)] := hl
  rw [fX0_oddSum] at h
  refine lv_iload_n hx hb dX0_oddSum_0 rfl (lv_at hl 0 rfl) ?_
  refine lv_iload_n hx hb dX0_oddSum_1 rfl (lv_at hl 1 rfl) ?_
  refine lv_icmp_ne (tgt := 9) hx hb dX0_oddSum_2 (by decide) (fun k_1 => ?_) (fun k_1 => ?_)
  · have h := it_f k_1 h
    refine lv_ldc (v := (2143289344 : Int32)) hx hb hE.2.2.2.1 (hE.2.2.2.2.1 _ q270) dX0_oddSum_9 ?_
    obtain rfl := Option.some.inj h
    exact k_iret hE hr hlk hW rfl rfl dX0_oddSum_11
  · have h := it_t k_1 h
    refine lv_iload_n hx hb dX0_oddSum_5 rfl (lv_at hl 0 rfl) ?_
    refine lv_goto (tgt := 11) hx hb dX0_oddSum_6 (by decide) ?_
    obtain rfl := Option.some.inj h
    exact k_iret hE hr hlk hW rfl rfl dX0_oddSum_11
set_option maxHeartbeats 4000000 in
set_option maxRecDepth 100000 in
theorem mX0_widened {l : Launch} {D : va_G} {ct : Nat → ClassId} {J : List Nat} {ad : Nat → Nat} {c0 : CF} {a1 : Int32} {r : Int64} (h : fX0_widened  a1 = some r) : Ml l D ct J ad yX0_widened cX0_widened 1 (some .long) (rr 0 0) [.int a1] c0 r (fun c' => c' = c0) := by
  refine Ml_of (own := RX0) (by decide) rfl (Nat.le_of_ble_eq_true rfl) (fun p e s m below meth cd hE hr hlk hW ls hl => ?_)
  have hx := hE.1
  have hb := hE.2.1
  have hl : lv_has ls 1 [(0, .int a1)] := hl
  rw [fX0_widened] at h
  refine lv_iload_n hx hb dX0_widened_0 rfl (lv_at hl 0 rfl) ?_
  refine lv_ldc (v := (2143289344 : Int32)) hx hb hE.2.2.2.1 (hE.2.2.2.2.1 _ q270) dX0_widened_1 ?_
  refine lv_icmp_ne (tgt := 12) hx hb dX0_widened_3 (by decide) (fun k_1 => ?_) (fun k_1 => ?_)
  · have h := it_f k_1 h
    refine lv_iload_n hx hb dX0_widened_12 rfl (lv_at hl 0 rfl) ?_
    refine lv_if_ge (tgt := 22) hx hb dX0_widened_13 (by decide) (fun k_2 => ?_) (fun k_2 => ?_)
    · have h := it_t k_2 h
      refine lv_ldc2 (v := (9218868437227405312 : Int64)) hx hb hE.2.2.2.1 (hE.2.2.2.2.1 _ q546) dX0_widened_22 ?_
      obtain rfl := Option.some.inj h
      exact k_lret hE hr hlk hW rfl rfl dX0_widened_25
    · have h := it_f k_2 h
      refine lv_ldc2 (v := (-4503599627370496 : Int64)) hx hb hE.2.2.2.1 (hE.2.2.2.2.1 _ q545) dX0_widened_16 ?_
      refine lv_goto (tgt := 25) hx hb dX0_widened_19 (by decide) ?_
      obtain rfl := Option.some.inj h
      exact k_lret hE hr hlk hW rfl rfl dX0_widened_25
  · have h := it_t k_1 h
    refine lv_ldc2 (v := (9221120237041090560 : Int64)) hx hb hE.2.2.2.1 (hE.2.2.2.2.1 _ q544) dX0_widened_6 ?_
    refine lv_goto (tgt := 25) hx hb dX0_widened_9 (by decide) ?_
    obtain rfl := Option.some.inj h
    exact k_lret hE hr hlk hW rfl rfl dX0_widened_25
set_option maxHeartbeats 4000000 in
set_option maxRecDepth 100000 in
theorem mX0_rank {l : Launch} {D : va_G} {ct : Nat → ClassId} {J : List Nat} {ad : Nat → Nat} {c0 : CF} {a1 : Int32} {r : Int32} (h : fX0_rank  a1 = some r) : Mi l D ct J ad yX0_rank cX0_rank 1 (some .int) (rr 0 0) [.int a1] c0 r (fun c' => c' = c0) := by
  refine Mi_of (own := RX0) (by decide) rfl (Nat.le_of_ble_eq_true rfl) (fun p e s m below meth cd hE hr hlk hW ls hl => ?_)
  have hx := hE.1
  have hb := hE.2.1
  have hl : lv_has ls 1 [(0, .int a1)] := hl
  rw [fX0_rank] at h
  refine lv_iload_n hx hb dX0_rank_0 rfl (lv_at hl 0 rfl) ?_
  refine lv_if_ge (tgt := 11) hx hb dX0_rank_1 (by decide) (fun k_1 => ?_) (fun k_1 => ?_)
  · have h := it_t k_1 h
    refine lv_iload_n hx hb dX0_rank_11 rfl (lv_at hl 0 rfl) ?_
    obtain rfl := Option.some.inj h
    exact k_iret hE hr hlk hW rfl rfl dX0_rank_12
  · have h := it_f k_1 h
    refine lv_iload_n hx hb dX0_rank_4 rfl (lv_at hl 0 rfl) ?_
    refine lv_ldc (v := (2147483647 : Int32)) hx hb hE.2.2.2.1 (hE.2.2.2.2.1 _ q531) dX0_rank_5 ?_
    refine lv_ixor hx hb dX0_rank_7 ?_
    refine lv_goto (tgt := 12) hx hb dX0_rank_8 (by decide) ?_
    obtain rfl := Option.some.inj h
    exact k_iret hE hr hlk hW rfl rfl dX0_rank_12
set_option maxHeartbeats 4000000 in
set_option maxRecDepth 100000 in
theorem wX0_floatOf_48 {p : Program} {l : Launch} {e : Env} {s : State} {m : MethodId} {args : Array Value} {below : List Frame} {meth : Method} {cd : Code} {D : va_G} {ct : Nat → ClassId} {J : List Nat} {ad : Nat → Nat} {c0 : CF} (hE : ME p s m cd args D ct cX0_floatOf RX0 4) (hr : meth.sig.returnType = (some .float)) (hlk : meth.locks = false) {x0 : Int32} {x1 : Int32} {r : UInt32} : ∀ (n : Nat) (x2 : UInt32) (x3 : Int32) (H : Heap) (locs : List Loc) (ls : Array Slot), HW D J ad c0 (aA J ad s.heap.size) s.heap H locs → lv_has ls 4 [(0, .int x0), (1, .int x1), (2, .float x2), (3, .int x3)] → fX0_floatOf_48 x0 x1 n x2 x3 = some r → W p l e (rr 0 0) s m args below meth cd H locs 0 0 (MQ below (Qf D J ad s.heap.size r (fun c' => c' = c0)) args s 0 0 (aA J ad s.heap.size)) (F0 m 48 ls []) := by
  have hx := hE.1
  have hb := hE.2.1
  intro n
  induction n with
  | zero =>
    intro x2 x3 H locs ls hW hl h
    have h2 : (none : Option UInt32) = some r := h
    cases h2
  | succ n ih =>
    intro x2 x3 H locs ls hW hl h
    rw [fX0_floatOf_48] at h
    refine lv_iload_n hx hb dX0_floatOf_48 rfl (lv_at hl 3 rfl) ?_
    refine lv_iload_n hx hb dX0_floatOf_49 rfl (lv_at hl 1 rfl) ?_
    refine lv_icmp_ge (tgt := 63) hx hb dX0_floatOf_50 (by decide) (fun k_5 => ?_) (fun k_5 => ?_)
    · have h := it_t k_5 h
      refine lv_iload_n hx hb dX0_floatOf_63 rfl (lv_at hl 0 rfl) ?_
      refine lv_if_ge (tgt := 72) hx hb dX0_floatOf_64 (by decide) (fun k_6 => ?_) (fun k_6 => ?_)
      · have h := it_t k_6 h
        refine lv_fload_n hx hb dX0_floatOf_72 rfl (lv_at hl 2 rfl) ?_
        obtain rfl := Option.some.inj h
        exact k_fret hE hr hlk hW rfl rfl dX0_floatOf_73
      · have h := it_f k_6 h
        refine lv_fload_n hx hb dX0_floatOf_67 rfl (lv_at hl 2 rfl) ?_
        refine lv_fneg hx hb dX0_floatOf_68 ?_
        refine lv_goto (tgt := 73) hx hb dX0_floatOf_69 (by decide) ?_
        obtain rfl := Option.some.inj h
        exact k_fret hE hr hlk hW rfl rfl dX0_floatOf_73
    · have h := it_f k_5 h
      refine lv_fload_n hx hb dX0_floatOf_53 rfl (lv_at hl 2 rfl) ?_
      refine lv_fconst2 hx hb dX0_floatOf_54 ?_
      obtain ⟨g_7, h⟩ := zn32_e h
      refine lv_fmul hx hb dX0_floatOf_55 g_7 ?_
      refine lv_topf (fun x_8 ex_8 => ?_)
      have h := zl_n h ex_8
      refine lv_fstore_n (lv' := [(2, .float x_8), (0, .int x0), (1, .int x1), (3, .int x3)]) hx hb dX0_floatOf_56 rfl hl (by decide) rfl (fun ls hl => ?_)
      refine lv_iinc (v := (x3 + (1 : Int32))) (lv' := [(3, .int (x3 + (1 : Int32))), (2, .float x_8), (0, .int x0), (1, .int x1)]) hx hb dX0_floatOf_57 hl (k := 3) rfl rfl (by decide) rfl (fun ls hl => ?_)
      refine lv_goto (tgt := 48) hx hb dX0_floatOf_60 (by decide) ?_
      exact ih _ _ _ _ _ hW (lv_sub hl [2, 3, 1, 0] rfl) h
set_option maxHeartbeats 4000000 in
set_option maxRecDepth 100000 in
theorem wX0_floatOf_26 {p : Program} {l : Launch} {e : Env} {s : State} {m : MethodId} {args : Array Value} {below : List Frame} {meth : Method} {cd : Code} {D : va_G} {ct : Nat → ClassId} {J : List Nat} {ad : Nat → Nat} {c0 : CF} (hE : ME p s m cd args D ct cX0_floatOf RX0 4) (hr : meth.sig.returnType = (some .float)) (hlk : meth.locks = false) {x0 : Int32} {x1 : Int32} {r : UInt32} : ∀ (n : Nat) (x2 : UInt32) (x3 : Int32) (H : Heap) (locs : List Loc) (ls : Array Slot), HW D J ad c0 (aA J ad s.heap.size) s.heap H locs → lv_has ls 4 [(0, .int x0), (1, .int x1), (2, .float x2), (3, .int x3)] → fX0_floatOf_26 x0 x1 n x2 x3 = some r → W p l e (rr 0 0) s m args below meth cd H locs 0 0 (MQ below (Qf D J ad s.heap.size r (fun c' => c' = c0)) args s 0 0 (aA J ad s.heap.size)) (F0 m 26 ls []) := by
  have hx := hE.1
  have hb := hE.2.1
  intro n
  induction n with
  | zero =>
    intro x2 x3 H locs ls hW hl h
    have h2 : (none : Option UInt32) = some r := h
    cases h2
  | succ n ih =>
    intro x2 x3 H locs ls hW hl h
    rw [fX0_floatOf_26] at h
    refine lv_iload_n hx hb dX0_floatOf_26 rfl (lv_at hl 3 rfl) ?_
    refine lv_sipush (v := (150 : Int32)) hx hb dX0_floatOf_27 (by decide) ?_
    refine lv_icmp_ge (tgt := 44) hx hb dX0_floatOf_30 (by decide) (fun k_4 => ?_) (fun k_4 => ?_)
    · have h := it_t k_4 h
      refine lv_sipush (v := (150 : Int32)) hx hb dX0_floatOf_44 (by decide) ?_
      refine lv_istore_n (lv' := [(3, .int (150 : Int32)), (0, .int x0), (1, .int x1), (2, .float x2)]) hx hb dX0_floatOf_47 rfl hl (by decide) rfl (fun ls hl => ?_)
      exact wX0_floatOf_48 hE hr hlk _ _ _ _ _ _ hW (lv_sub hl [1, 2, 3, 0] rfl) h
    · have h := it_f k_4 h
      refine lv_fload_n hx hb dX0_floatOf_33 rfl (lv_at hl 2 rfl) ?_
      refine lv_ldcf (v := (1056964608 : UInt32)) hx hb hE.2.2.2.1 (hE.2.2.2.2.1 _ q511) dX0_floatOf_34 ?_
      obtain ⟨g_9, h⟩ := zn32_e h
      refine lv_fmul hx hb dX0_floatOf_36 g_9 ?_
      refine lv_topf (fun x_10 ex_10 => ?_)
      have h := zl_n h ex_10
      refine lv_fstore_n (lv' := [(2, .float x_10), (0, .int x0), (1, .int x1), (3, .int x3)]) hx hb dX0_floatOf_37 rfl hl (by decide) rfl (fun ls hl => ?_)
      refine lv_iinc (v := (x3 + (1 : Int32))) (lv' := [(3, .int (x3 + (1 : Int32))), (2, .float x_10), (0, .int x0), (1, .int x1)]) hx hb dX0_floatOf_38 hl (k := 3) rfl rfl (by decide) rfl (fun ls hl => ?_)
      refine lv_goto (tgt := 26) hx hb dX0_floatOf_41 (by decide) ?_
      exact ih _ _ _ _ _ hW (lv_sub hl [2, 3, 1, 0] rfl) h
set_option maxHeartbeats 4000000 in
set_option maxRecDepth 100000 in
theorem mX0_floatOf {l : Launch} {D : va_G} {ct : Nat → ClassId} {J : List Nat} {ad : Nat → Nat} {c0 : CF} {a1 : Int32} {r : UInt32} (h : fX0_floatOf  a1 = some r) : Mf l D ct J ad yX0_floatOf cX0_floatOf 4 (some .float) (rr 0 0) [.int a1] c0 r (fun c' => c' = c0) := by
  refine Mf_of (own := RX0) (by decide) rfl (Nat.le_of_ble_eq_true rfl) (fun p e s m below meth cd hE hr hlk hW ls hl => ?_)
  have hx := hE.1
  have hb := hE.2.1
  have hl : lv_has ls 4 [(0, .int a1)] := hl
  rw [fX0_floatOf] at h
  refine lv_iload_n hx hb dX0_floatOf_0 rfl (lv_at hl 0 rfl) ?_
  refine lv_bipush (v := (23 : Int32)) hx hb dX0_floatOf_1 (by decide) ?_
  refine lv_iushr (v := (a1.toUInt32 >>> ((23 : Int32).toUInt32 &&& Int32.toUInt32 31)).toInt32) hx hb dX0_floatOf_3 rfl ?_
  refine lv_sipush (v := (255 : Int32)) hx hb dX0_floatOf_4 (by decide) ?_
  refine lv_iand hx hb dX0_floatOf_7 ?_
  refine lv_topi (fun x_1 ex_1 => ?_)
  have h := zl_n h ex_1
  refine lv_istore_n (lv' := [(1, .int x_1), (0, .int a1)]) hx hb dX0_floatOf_8 rfl hl (by decide) rfl (fun ls hl => ?_)
  refine lv_iload_n hx hb dX0_floatOf_9 rfl (lv_at hl 0 rfl) ?_
  refine lv_if_ne (tgt := 15) hx hb dX0_floatOf_10 (by decide) (fun k_2 => ?_) (fun k_2 => ?_)
  · have h := it_f k_2 h
    refine lv_iload_n hx hb dX0_floatOf_15 rfl (lv_at hl 1 rfl) ?_
    refine lv_ldc (v := (8388607 : Int32)) hx hb hE.2.2.2.1 (hE.2.2.2.2.1 _ q509) dX0_floatOf_16 ?_
    refine lv_iand hx hb dX0_floatOf_18 ?_
    refine lv_ldc (v := (8388608 : Int32)) hx hb hE.2.2.2.1 (hE.2.2.2.2.1 _ q510) dX0_floatOf_19 ?_
    refine lv_ior hx hb dX0_floatOf_21 ?_
    refine lv_i2f hx hb dX0_floatOf_22 ?_
    refine lv_topf (fun x_3 ex_3 => ?_)
    have h := zl_n h ex_3
    refine lv_fstore_n (lv' := [(2, .float x_3), (1, .int x_1), (0, .int a1)]) hx hb dX0_floatOf_23 rfl hl (by decide) rfl (fun ls hl => ?_)
    refine lv_iload_n hx hb dX0_floatOf_24 rfl (lv_at hl 1 rfl) ?_
    refine lv_istore_n (lv' := [(3, .int x_1), (2, .float x_3), (1, .int x_1), (0, .int a1)]) hx hb dX0_floatOf_25 rfl hl (by decide) rfl (fun ls hl => ?_)
    exact wX0_floatOf_26 hE hr hlk _ _ _ _ _ _ hW (lv_sub hl [3, 2, 1, 0] rfl) h
  · have h := it_t k_2 h
    refine lv_fconst0 hx hb dX0_floatOf_13 ?_
    obtain rfl := Option.some.inj h
    exact k_fret hE hr hlk hW rfl rfl dX0_floatOf_14
set_option maxHeartbeats 4000000 in
set_option maxRecDepth 100000 in
theorem wX0_bitsOfDouble_20 {p : Program} {l : Launch} {e : Env} {s : State} {m : MethodId} {args : Array Value} {below : List Frame} {meth : Method} {cd : Code} {D : va_G} {ct : Nat → ClassId} {J : List Nat} {ad : Nat → Nat} {c0 : CF} (hE : ME p s m cd args D ct cX0_bitsOfDouble RX0 4) (hr : meth.sig.returnType = (some .long)) (hlk : meth.locks = false) {r : Int64} : ∀ (x0 : UInt64) (y0 : UInt64) (H : Heap) (locs : List Loc) (ls : Array Slot), HW D J ad c0 (aA J ad s.heap.size) s.heap H locs → lv_has ls 4 [(0, .double x0)] → fX0_bitsOfDouble_20 x0 y0 = some r → W p l e (rr 1 28) s m args below meth cd H locs 0 0 (MQ below (Ql D J ad s.heap.size r (fun c' => c' = c0)) args s 0 0 (aA J ad s.heap.size)) (F0 m 20 ls [.double y0]) := by
  have hx := hE.1
  have hb := hE.2.1
  intro x0 y0 H locs ls hW hl h
  rw [fX0_bitsOfDouble_20] at h
  refine lv_bipush (v := (52 : Int32)) hx hb dX0_bitsOfDouble_20 (by decide) ?_
  refine lv_sipush (v := (1023 : Int32)) hx hb dX0_bitsOfDouble_22 (by decide) ?_
  obtain ⟨r_3, hr_3, h⟩ := zb_e h
  refine k_callSl (rest := []) hE hW hl.1 (mX0_packed hr_3) q277 q278 q11 q279 hd_X0_packed.2 ⟨Nat.le_of_ble_eq_true rfl, Nat.le_of_ble_eq_true rfl⟩ ⟨rfl, rfl⟩ rfl (Nat.le_of_ble_eq_true rfl) dX0_bitsOfDouble_25 ⟨Nat.zero_le _, Nat.zero_le _⟩ (fun c1 H locs hP hW => ?_)
  rw [hP] at hW
  refine lv_lstore_n (lv' := [(2, .long r_3), (0, .double x0)]) hx hb dX0_bitsOfDouble_28 rfl hl (by decide) rfl (fun ls hl => ?_)
  refine lv_dload_n hx hb dX0_bitsOfDouble_29 rfl (lv_at hl 1 rfl) ?_
  refine lv_dconst0 hx hb dX0_bitsOfDouble_30 ?_
  refine lv_dcmp hx hb dX0_bitsOfDouble_31 ?_
  refine lv_if_ge (tgt := 43) hx hb dX0_bitsOfDouble_32 (by decide) (fun k_4 => ?_) (fun k_4 => ?_)
  · have h := it_t k_4 h
    refine lv_lload_n hx hb dX0_bitsOfDouble_43 rfl (lv_at hl 0 rfl) ?_
    obtain rfl := Option.some.inj h
    exact k_lret hE hr hlk hW rfl rfl dX0_bitsOfDouble_44
  · have h := it_f k_4 h
    refine lv_lload_n hx hb dX0_bitsOfDouble_35 rfl (lv_at hl 0 rfl) ?_
    refine lv_ldc2 (v := (-9223372036854775808 : Int64)) hx hb hE.2.2.2.1 (hE.2.2.2.2.1 _ q550) dX0_bitsOfDouble_36 ?_
    refine lv_lor hx hb dX0_bitsOfDouble_39 ?_
    refine lv_goto (tgt := 44) hx hb dX0_bitsOfDouble_40 (by decide) ?_
    obtain rfl := Option.some.inj h
    exact k_lret hE hr hlk hW rfl rfl dX0_bitsOfDouble_44
set_option maxHeartbeats 4000000 in
set_option maxRecDepth 100000 in
theorem mX0_bitsOfDouble {l : Launch} {D : va_G} {ct : Nat → ClassId} {J : List Nat} {ad : Nat → Nat} {c0 : CF} {a1 : UInt64} {r : Int64} (h : fX0_bitsOfDouble  a1 = some r) : Ml l D ct J ad yX0_bitsOfDouble cX0_bitsOfDouble 4 (some .long) (rr 1 28) [.double a1] c0 r (fun c' => c' = c0) := by
  refine Ml_of (own := RX0) (by decide) rfl (Nat.le_of_ble_eq_true rfl) (fun p e s m below meth cd hE hr hlk hW ls hl => ?_)
  have hx := hE.1
  have hb := hE.2.1
  have hl : lv_has ls 4 [(0, .double a1)] := hl
  rw [fX0_bitsOfDouble] at h
  refine lv_dload_n hx hb dX0_bitsOfDouble_0 rfl (lv_at hl 0 rfl) ?_
  refine lv_dconst0 hx hb dX0_bitsOfDouble_1 ?_
  refine lv_dcmp hx hb dX0_bitsOfDouble_2 ?_
  refine lv_if_ne (tgt := 8) hx hb dX0_bitsOfDouble_3 (by decide) (fun k_1 => ?_) (fun k_1 => ?_)
  · have h := it_f k_1 h
    refine lv_dload_n hx hb dX0_bitsOfDouble_8 rfl (lv_at hl 0 rfl) ?_
    refine lv_dconst0 hx hb dX0_bitsOfDouble_9 ?_
    refine lv_dcmp hx hb dX0_bitsOfDouble_10 ?_
    refine lv_if_ge (tgt := 19) hx hb dX0_bitsOfDouble_11 (by decide) (fun k_2 => ?_) (fun k_2 => ?_)
    · have h := it_t k_2 h
      refine lv_dload_n hx hb dX0_bitsOfDouble_19 rfl (lv_at hl 0 rfl) ?_
      exact wX0_bitsOfDouble_20 hE hr hlk _ _ _ _ _ hW (lv_sub hl [0] rfl) h
    · have h := it_f k_2 h
      refine lv_dload_n hx hb dX0_bitsOfDouble_14 rfl (lv_at hl 0 rfl) ?_
      refine lv_dneg hx hb dX0_bitsOfDouble_15 ?_
      refine lv_goto (tgt := 20) hx hb dX0_bitsOfDouble_16 (by decide) ?_
      exact wX0_bitsOfDouble_20 hE hr hlk _ _ _ _ _ hW (lv_sub hl [0] rfl) h
  · have h := it_t k_1 h
    refine lv_lconst (v := (0 : Int64)) hx hb dX0_bitsOfDouble_6 (by decide) ?_
    obtain rfl := Option.some.inj h
    exact k_lret hE hr hlk hW rfl rfl dX0_bitsOfDouble_7
