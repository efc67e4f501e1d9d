theorem hd_J6_bitCount_0f7a4 : yJ6_bitCount_0f7a4.cls = RJ6 ∧ yJ6_bitCount_0f7a4.cls ≠ "java/lang/invoke/MethodHandle" ∧ yJ6_bitCount_0f7a4.cls ≠ "java/lang/invoke/VarHandle" ∧ (parseMethodDescriptor yJ6_bitCount_0f7a4.desc).map (fun d => d.parameters.length) = some 1 := by decide +kernel
theorem hd_X1_copyFrom : yX1_copyFrom.cls = RX1 ∧ yX1_copyFrom.cls ≠ "java/lang/invoke/MethodHandle" ∧ yX1_copyFrom.cls ≠ "java/lang/invoke/VarHandle" ∧ (parseMethodDescriptor yX1_copyFrom.desc).map (fun d => d.parameters.length) = some 1 := by decide +kernel
theorem hd_X1_inBits : yX1_inBits.cls = RX1 ∧ yX1_inBits.cls ≠ "java/lang/invoke/MethodHandle" ∧ yX1_inBits.cls ≠ "java/lang/invoke/VarHandle" ∧ (parseMethodDescriptor yX1_inBits.desc).map (fun d => d.parameters.length) = some 0 := by decide +kernel
theorem hd_X1_membersIn : yX1_membersIn.cls = RX1 ∧ yX1_membersIn.cls ≠ "java/lang/invoke/MethodHandle" ∧ yX1_membersIn.cls ≠ "java/lang/invoke/VarHandle" ∧ (parseMethodDescriptor yX1_membersIn.desc).map (fun d => d.parameters.length) = some 0 := by decide +kernel
theorem hd_X1_logBits : yX1_logBits.cls = RX1 ∧ yX1_logBits.cls ≠ "java/lang/invoke/MethodHandle" ∧ yX1_logBits.cls ≠ "java/lang/invoke/VarHandle" ∧ (parseMethodDescriptor yX1_logBits.desc).map (fun d => d.parameters.length) = some 1 := by decide +kernel
theorem hd_X1_logsOf : yX1_logsOf.cls = RX1 ∧ yX1_logsOf.cls ≠ "java/lang/invoke/MethodHandle" ∧ yX1_logsOf.cls ≠ "java/lang/invoke/VarHandle" ∧ (parseMethodDescriptor yX1_logsOf.desc).map (fun d => d.parameters.length) = some 1 := by decide +kernel
theorem hd_X1_lag : yX1_lag.cls = RX1 ∧ yX1_lag.cls ≠ "java/lang/invoke/MethodHandle" ∧ yX1_lag.cls ≠ "java/lang/invoke/VarHandle" ∧ (parseMethodDescriptor yX1_lag.desc).map (fun d => d.parameters.length) = some 2 := by decide +kernel
theorem hd_X1_polled : yX1_polled.cls = RX1 ∧ yX1_polled.cls ≠ "java/lang/invoke/MethodHandle" ∧ yX1_polled.cls ≠ "java/lang/invoke/VarHandle" ∧ (parseMethodDescriptor yX1_polled.desc).map (fun d => d.parameters.length) = some 2 := by decide +kernel
theorem hd_X1_freeLogsOfAbsent : yX1_freeLogsOfAbsent.cls = RX1 ∧ yX1_freeLogsOfAbsent.cls ≠ "java/lang/invoke/MethodHandle" ∧ yX1_freeLogsOfAbsent.cls ≠ "java/lang/invoke/VarHandle" ∧ (parseMethodDescriptor yX1_freeLogsOfAbsent.desc).map (fun d => d.parameters.length) = some 0 := by decide +kernel
theorem hd_X1_freeAllButLeast : yX1_freeAllButLeast.cls = RX1 ∧ yX1_freeAllButLeast.cls ≠ "java/lang/invoke/MethodHandle" ∧ yX1_freeAllButLeast.cls ≠ "java/lang/invoke/VarHandle" ∧ (parseMethodDescriptor yX1_freeAllButLeast.desc).map (fun d => d.parameters.length) = some 2 := by decide +kernel
theorem hd_X1_freeLogsBeyond : yX1_freeLogsBeyond.cls = RX1 ∧ yX1_freeLogsBeyond.cls ≠ "java/lang/invoke/MethodHandle" ∧ yX1_freeLogsBeyond.cls ≠ "java/lang/invoke/VarHandle" ∧ (parseMethodDescriptor yX1_freeLogsBeyond.desc).map (fun d => d.parameters.length) = some 2 := by decide +kernel
theorem hd_X1_leastLaden : yX1_leastLaden.cls = RX1 ∧ yX1_leastLaden.cls ≠ "java/lang/invoke/MethodHandle" ∧ yX1_leastLaden.cls ≠ "java/lang/invoke/VarHandle" ∧ (parseMethodDescriptor yX1_leastLaden.desc).map (fun d => d.parameters.length) = some 0 := by decide +kernel
theorem hd_X1_giveFreeLogs : yX1_giveFreeLogs.cls = RX1 ∧ yX1_giveFreeLogs.cls ≠ "java/lang/invoke/MethodHandle" ∧ yX1_giveFreeLogs.cls ≠ "java/lang/invoke/VarHandle" ∧ (parseMethodDescriptor yX1_giveFreeLogs.desc).map (fun d => d.parameters.length) = some 0 := by decide +kernel
theorem hd_X1_moves : yX1_moves.cls = RX1 ∧ yX1_moves.cls ≠ "java/lang/invoke/MethodHandle" ∧ yX1_moves.cls ≠ "java/lang/invoke/VarHandle" ∧ (parseMethodDescriptor yX1_moves.desc).map (fun d => d.parameters.length) = some 0 := by decide +kernel
theorem hd_X1_changed : yX1_changed.cls = RX1 ∧ yX1_changed.cls ≠ "java/lang/invoke/MethodHandle" ∧ yX1_changed.cls ≠ "java/lang/invoke/VarHandle" ∧ (parseMethodDescriptor yX1_changed.desc).map (fun d => d.parameters.length) = some 2 := by decide +kernel
theorem hd_X2_takeRecord : yX2_takeRecord.cls = RX2 ∧ yX2_takeRecord.cls ≠ "java/lang/invoke/MethodHandle" ∧ yX2_takeRecord.cls ≠ "java/lang/invoke/VarHandle" ∧ (parseMethodDescriptor yX2_takeRecord.desc).map (fun d => d.parameters.length) = some 2 := by decide +kernel
theorem hd_X2_filled : yX2_filled.cls = RX2 ∧ yX2_filled.cls ≠ "java/lang/invoke/MethodHandle" ∧ yX2_filled.cls ≠ "java/lang/invoke/VarHandle" ∧ (parseMethodDescriptor yX2_filled.desc).map (fun d => d.parameters.length) = some 3 := by decide +kernel
theorem hd_X2_about : yX2_about.cls = RX2 ∧ yX2_about.cls ≠ "java/lang/invoke/MethodHandle" ∧ yX2_about.cls ≠ "java/lang/invoke/VarHandle" ∧ (parseMethodDescriptor yX2_about.desc).map (fun d => d.parameters.length) = some 2 := by decide +kernel
theorem hd_X3_copyFrom : yX3_copyFrom.cls = RX3 ∧ yX3_copyFrom.cls ≠ "java/lang/invoke/MethodHandle" ∧ yX3_copyFrom.cls ≠ "java/lang/invoke/VarHandle" ∧ (parseMethodDescriptor yX3_copyFrom.desc).map (fun d => d.parameters.length) = some 1 := by decide +kernel
theorem hd_X4_copyFrom : yX4_copyFrom.cls = RX4 ∧ yX4_copyFrom.cls ≠ "java/lang/invoke/MethodHandle" ∧ yX4_copyFrom.cls ≠ "java/lang/invoke/VarHandle" ∧ (parseMethodDescriptor yX4_copyFrom.desc).map (fun d => d.parameters.length) = some 1 := by decide +kernel
theorem hd_X4_isFull : yX4_isFull.cls = RX4 ∧ yX4_isFull.cls ≠ "java/lang/invoke/MethodHandle" ∧ yX4_isFull.cls ≠ "java/lang/invoke/VarHandle" ∧ (parseMethodDescriptor yX4_isFull.desc).map (fun d => d.parameters.length) = some 0 := by decide +kernel
theorem hd_X4_takeRow : yX4_takeRow.cls = RX4 ∧ yX4_takeRow.cls ≠ "java/lang/invoke/MethodHandle" ∧ yX4_takeRow.cls ≠ "java/lang/invoke/VarHandle" ∧ (parseMethodDescriptor yX4_takeRow.desc).map (fun d => d.parameters.length) = some 2 := by decide +kernel
theorem hd_X5_copyFrom : yX5_copyFrom.cls = RX5 ∧ yX5_copyFrom.cls ≠ "java/lang/invoke/MethodHandle" ∧ yX5_copyFrom.cls ≠ "java/lang/invoke/VarHandle" ∧ (parseMethodDescriptor yX5_copyFrom.desc).map (fun d => d.parameters.length) = some 1 := by decide +kernel
theorem hd_X5_records : yX5_records.cls = RX5 ∧ yX5_records.cls ≠ "java/lang/invoke/MethodHandle" ∧ yX5_records.cls ≠ "java/lang/invoke/VarHandle" ∧ (parseMethodDescriptor yX5_records.desc).map (fun d => d.parameters.length) = some 0 := by decide +kernel
theorem hd_X5_follow : yX5_follow.cls = RX5 ∧ yX5_follow.cls ≠ "java/lang/invoke/MethodHandle" ∧ yX5_follow.cls ≠ "java/lang/invoke/VarHandle" ∧ (parseMethodDescriptor yX5_follow.desc).map (fun d => d.parameters.length) = some 2 := by decide +kernel
theorem hd_X5_followPlan : yX5_followPlan.cls = RX5 ∧ yX5_followPlan.cls ≠ "java/lang/invoke/MethodHandle" ∧ yX5_followPlan.cls ≠ "java/lang/invoke/VarHandle" ∧ (parseMethodDescriptor yX5_followPlan.desc).map (fun d => d.parameters.length) = some 0 := by decide +kernel
theorem hd_X5_firstOtherwise : yX5_firstOtherwise.cls = RX5 ∧ yX5_firstOtherwise.cls ≠ "java/lang/invoke/MethodHandle" ∧ yX5_firstOtherwise.cls ≠ "java/lang/invoke/VarHandle" ∧ (parseMethodDescriptor yX5_firstOtherwise.desc).map (fun d => d.parameters.length) = some 0 := by decide +kernel
theorem hd_X6_isNothing : yX6_isNothing.cls = RX6 ∧ yX6_isNothing.cls ≠ "java/lang/invoke/MethodHandle" ∧ yX6_isNothing.cls ≠ "java/lang/invoke/VarHandle" ∧ (parseMethodDescriptor yX6_isNothing.desc).map (fun d => d.parameters.length) = some 0 := by decide +kernel
theorem hd_X6_empty : yX6_empty.cls = RX6 ∧ yX6_empty.cls ≠ "java/lang/invoke/MethodHandle" ∧ yX6_empty.cls ≠ "java/lang/invoke/VarHandle" ∧ (parseMethodDescriptor yX6_empty.desc).map (fun d => d.parameters.length) = some 0 := by decide +kernel
theorem hd_X6_become : yX6_become.cls = RX6 ∧ yX6_become.cls ≠ "java/lang/invoke/MethodHandle" ∧ yX6_become.cls ≠ "java/lang/invoke/VarHandle" ∧ (parseMethodDescriptor yX6_become.desc).map (fun d => d.parameters.length) = some 2 := by decide +kernel
theorem hd_X6_hasPlace : yX6_hasPlace.cls = RX6 ∧ yX6_hasPlace.cls ≠ "java/lang/invoke/MethodHandle" ∧ yX6_hasPlace.cls ≠ "java/lang/invoke/VarHandle" ∧ (parseMethodDescriptor yX6_hasPlace.desc).map (fun d => d.parameters.length) = some 1 := by decide +kernel
theorem hd_X6_hasPlaces : yX6_hasPlaces.cls = RX6 ∧ yX6_hasPlaces.cls ≠ "java/lang/invoke/MethodHandle" ∧ yX6_hasPlaces.cls ≠ "java/lang/invoke/VarHandle" ∧ (parseMethodDescriptor yX6_hasPlaces.desc).map (fun d => d.parameters.length) = some 2 := by decide +kernel
theorem hd_X6_asItem : yX6_asItem.cls = RX6 ∧ yX6_asItem.cls ≠ "java/lang/invoke/MethodHandle" ∧ yX6_asItem.cls ≠ "java/lang/invoke/VarHandle" ∧ (parseMethodDescriptor yX6_asItem.desc).map (fun d => d.parameters.length) = some 1 := by decide +kernel
theorem hd_X6_judged : yX6_judged.cls = RX6 ∧ yX6_judged.cls ≠ "java/lang/invoke/MethodHandle" ∧ yX6_judged.cls ≠ "java/lang/invoke/VarHandle" ∧ (parseMethodDescriptor yX6_judged.desc).map (fun d => d.parameters.length) = some 2 := by decide +kernel
theorem hd_X7_isFull : yX7_isFull.cls = RX7 ∧ yX7_isFull.cls ≠ "java/lang/invoke/MethodHandle" ∧ yX7_isFull.cls ≠ "java/lang/invoke/VarHandle" ∧ (parseMethodDescriptor yX7_isFull.desc).map (fun d => d.parameters.length) = some 0 := by decide +kernel
theorem hd_X7_takeSign : yX7_takeSign.cls = RX7 ∧ yX7_takeSign.cls ≠ "java/lang/invoke/MethodHandle" ∧ yX7_takeSign.cls ≠ "java/lang/invoke/VarHandle" ∧ (parseMethodDescriptor yX7_takeSign.desc).map (fun d => d.parameters.length) = some 1 := by decide +kernel
theorem hd_X7_isBetween : yX7_isBetween.cls = RX7 ∧ yX7_isBetween.cls ≠ "java/lang/invoke/MethodHandle" ∧ yX7_isBetween.cls ≠ "java/lang/invoke/VarHandle" ∧ (parseMethodDescriptor yX7_isBetween.desc).map (fun d => d.parameters.length) = some 2 := by decide +kernel
theorem hd_X7_skipped : yX7_skipped.cls = RX7 ∧ yX7_skipped.cls ≠ "java/lang/invoke/MethodHandle" ∧ yX7_skipped.cls ≠ "java/lang/invoke/VarHandle" ∧ (parseMethodDescriptor yX7_skipped.desc).map (fun d => d.parameters.length) = some 1 := by decide +kernel
theorem hd_X7_digits : yX7_digits.cls = RX7 ∧ yX7_digits.cls ≠ "java/lang/invoke/MethodHandle" ∧ yX7_digits.cls ≠ "java/lang/invoke/VarHandle" ∧ (parseMethodDescriptor yX7_digits.desc).map (fun d => d.parameters.length) = some 1 := by decide +kernel
theorem hd_X7_valueParsed : yX7_valueParsed.cls = RX7 ∧ yX7_valueParsed.cls ≠ "java/lang/invoke/MethodHandle" ∧ yX7_valueParsed.cls ≠ "java/lang/invoke/VarHandle" ∧ (parseMethodDescriptor yX7_valueParsed.desc).map (fun d => d.parameters.length) = some 0 := by decide +kernel
theorem hd_X7_clauseParsed : yX7_clauseParsed.cls = RX7 ∧ yX7_clauseParsed.cls ≠ "java/lang/invoke/MethodHandle" ∧ yX7_clauseParsed.cls ≠ "java/lang/invoke/VarHandle" ∧ (parseMethodDescriptor yX7_clauseParsed.desc).map (fun d => d.parameters.length) = some 0 := by decide +kernel
theorem hd_X7_parsed : yX7_parsed.cls = RX7 ∧ yX7_parsed.cls ≠ "java/lang/invoke/MethodHandle" ∧ yX7_parsed.cls ≠ "java/lang/invoke/VarHandle" ∧ (parseMethodDescriptor yX7_parsed.desc).map (fun d => d.parameters.length) = some 0 := by decide +kernel
set_option maxHeartbeats 4000000 in
set_option maxRecDepth 100000 in
theorem mJ6_bitCount_0f7a4 {l : Launch} {D : va_G} {ct : Nat → ClassId} {J : List Nat} {ad : Nat → Nat} {c0 : CF} {a1 : Int32} {r : Int32} (h : fJ6_bitCount_0f7a4  a1 = some r) : Mi l D ct J ad yJ6_bitCount_0f7a4 cJ6_bitCount_0f7a4 1 (some .int) (rr 0 0) [.int a1] c0 r (fun c' => c' = c0) := by
  refine Mi_of (own := RJ6) (by decide) rfl (Nat.le_of_ble_eq_true rfl) (fun p e s m below meth cd hE hr hlk hW ls hl => ?_)
  have hx := hE.1
  have hb := hE.2.1
  have hl : lv_has ls 1 [(0, .int a1)] := hl
  rw [fJ6_bitCount_0f7a4] at h
  refine lv_iload_n hx hb dJ6_bitCount_0f7a4_0 rfl (lv_at hl 0 rfl) ?_
  refine lv_iload_n hx hb dJ6_bitCount_0f7a4_1 rfl (lv_at hl 0 rfl) ?_
  refine lv_iconst (v := (1 : Int32)) hx hb dJ6_bitCount_0f7a4_2 (by decide) ?_
  refine lv_iushr (v := (a1.toUInt32 >>> ((1 : Int32).toUInt32 &&& Int32.toUInt32 31)).toInt32) hx hb dJ6_bitCount_0f7a4_3 rfl ?_
  refine lv_ldcw (v := (1431655765 : Int32)) hx hb hE.2.2.2.1 (hE.2.2.2.2.1 _ q628) dJ6_bitCount_0f7a4_4 ?_
  refine lv_iand hx hb dJ6_bitCount_0f7a4_7 ?_
  refine lv_isub hx hb dJ6_bitCount_0f7a4_8 ?_
  refine lv_topi (fun x_1 ex_1 => ?_)
  have h := zl_n h ex_1
  refine lv_istore_n (lv' := [(0, .int x_1)]) hx hb dJ6_bitCount_0f7a4_9 rfl hl (by decide) rfl (fun ls hl => ?_)
  refine lv_iload_n hx hb dJ6_bitCount_0f7a4_10 rfl (lv_at hl 0 rfl) ?_
  refine lv_ldcw (v := (858993459 : Int32)) hx hb hE.2.2.2.1 (hE.2.2.2.2.1 _ q629) dJ6_bitCount_0f7a4_11 ?_
  refine lv_iand hx hb dJ6_bitCount_0f7a4_14 ?_
  refine lv_iload_n hx hb dJ6_bitCount_0f7a4_15 rfl (lv_at hl 0 rfl) ?_
  refine lv_iconst (v := (2 : Int32)) hx hb dJ6_bitCount_0f7a4_16 (by decide) ?_
  refine lv_iushr (v := (x_1.toUInt32 >>> ((2 : Int32).toUInt32 &&& Int32.toUInt32 31)).toInt32) hx hb dJ6_bitCount_0f7a4_17 rfl ?_
  refine lv_ldcw (v := (858993459 : Int32)) hx hb hE.2.2.2.1 (hE.2.2.2.2.1 _ q629) dJ6_bitCount_0f7a4_18 ?_
  refine lv_iand hx hb dJ6_bitCount_0f7a4_21 ?_
  refine lv_iadd hx hb dJ6_bitCount_0f7a4_22 ?_
  refine lv_topi (fun x_2 ex_2 => ?_)
  have h := zl_n h ex_2
  refine lv_istore_n (lv' := [(0, .int x_2)]) hx hb dJ6_bitCount_0f7a4_23 rfl hl (by decide) rfl (fun ls hl => ?_)
  refine lv_iload_n hx hb dJ6_bitCount_0f7a4_24 rfl (lv_at hl 0 rfl) ?_
  refine lv_iload_n hx hb dJ6_bitCount_0f7a4_25 rfl (lv_at hl 0 rfl) ?_
  refine lv_iconst (v := (4 : Int32)) hx hb dJ6_bitCount_0f7a4_26 (by decide) ?_
  refine lv_iushr (v := (x_2.toUInt32 >>> ((4 : Int32).toUInt32 &&& Int32.toUInt32 31)).toInt32) hx hb dJ6_bitCount_0f7a4_27 rfl ?_
  refine lv_iadd hx hb dJ6_bitCount_0f7a4_28 ?_
  refine lv_ldcw (v := (252645135 : Int32)) hx hb hE.2.2.2.1 (hE.2.2.2.2.1 _ q630) dJ6_bitCount_0f7a4_29 ?_
  refine lv_iand hx hb dJ6_bitCount_0f7a4_32 ?_
  refine lv_topi (fun x_3 ex_3 => ?_)
  have h := zl_n h ex_3
  refine lv_istore_n (lv' := [(0, .int x_3)]) hx hb dJ6_bitCount_0f7a4_33 rfl hl (by decide) rfl (fun ls hl => ?_)
  refine lv_iload_n hx hb dJ6_bitCount_0f7a4_34 rfl (lv_at hl 0 rfl) ?_
  refine lv_iload_n hx hb dJ6_bitCount_0f7a4_35 rfl (lv_at hl 0 rfl) ?_
  refine lv_bipush (v := (8 : Int32)) hx hb dJ6_bitCount_0f7a4_36 (by decide) ?_
  refine lv_iushr (v := (x_3.toUInt32 >>> ((8 : Int32).toUInt32 &&& Int32.toUInt32 31)).toInt32) hx hb dJ6_bitCount_0f7a4_38 rfl ?_
  refine lv_iadd hx hb dJ6_bitCount_0f7a4_39 ?_
  refine lv_topi (fun x_4 ex_4 => ?_)
  have h := zl_n h ex_4
  refine lv_istore_n (lv' := [(0, .int x_4)]) hx hb dJ6_bitCount_0f7a4_40 rfl hl (by decide) rfl (fun ls hl => ?_)
  refine lv_iload_n hx hb dJ6_bitCount_0f7a4_41 rfl (lv_at hl 0 rfl) ?_
  refine lv_iload_n hx hb dJ6_bitCount_0f7a4_42 rfl (lv_at hl 0 rfl) ?_
  refine lv_bipush (v := (16 : Int32)) hx hb dJ6_bitCount_0f7a4_43 (by decide) ?_
  refine lv_iushr (v := (x_4.toUInt32 >>> ((16 : Int32).toUInt32 &&& Int32.toUInt32 31)).toInt32) hx hb dJ6_bitCount_0f7a4_45 rfl ?_
  refine lv_iadd hx hb dJ6_bitCount_0f7a4_46 ?_
  refine lv_topi (fun x_5 ex_5 => ?_)
  have h := zl_n h ex_5
  refine lv_istore_n (lv' := [(0, .int x_5)]) hx hb dJ6_bitCount_0f7a4_47 rfl hl (by decide) rfl (fun ls hl => ?_)
  refine lv_iload_n hx hb dJ6_bitCount_0f7a4_48 rfl (lv_at hl 0 rfl) ?_
  refine lv_bipush (v := (63 : Int32)) hx hb dJ6_bitCount_0f7a4_49 (by decide) ?_
  refine lv_iand hx hb dJ6_bitCount_0f7a4_51 ?_
  obtain rfl := Option.some.inj h
  exact k_iret hE hr hlk hW rfl rfl dJ6_bitCount_0f7a4_52
set_option maxHeartbeats 4000000 in
set_option maxRecDepth 100000 in
theorem wX1_copyFrom_2 {p : Program} {l : Launch} {e : Env} {s : State} {m : MethodId} {args : Array Value} {below : List Frame} {meth : Method} {cd : Code} {D : va_G} {ct : Nat → ClassId} {J : List Nat} {ad : Nat → Nat} {c0 : CF} {b : Nat} (hE : ME p s m cd args D ct cX1_copyFrom RX1 3) (hr : meth.sig.returnType = none) (hlk : meth.locks = false) {b2 : Nat} {sx : CS} (hB_sx : GrB ct J ad c0 b2 sx) (hdis : b2 + 5 ≤ b ∨ b + 5 ≤ b2) {st9 : CS} : ∀ (n : Nat) (x2 : Int32) (st : CS) (c : CF) (H : Heap) (locs : List Loc) (ls : Array Slot), HW D J ad c (aA J ad s.heap.size) s.heap H locs → GrB ct J ad c b st → Fr c0 c b 5 → lv_has ls 3 [(0, .ref (ad b)), (1, .ref (ad b2)), (2, .int x2)] → fX1_copyFrom_2 sx n x2 st = some st9 → W p l e (rr 1 40) s m args below meth cd H locs 0 0 (MQ below (Qv D J ad s.heap.size (fun c' => GrB ct J ad c' b st9 ∧ Fr c0 c' b 5)) args s 0 0 (aA J ad s.heap.size)) (F0 m 2 ls []) := by
  have hx := hE.1
  have hb := hE.2.1
  intro n
  induction n with
  | zero =>
    intro x2 st c H locs ls hW hB_st hF hl h
    have h2 : (none : Option CS) = some st9 := h
    cases h2
  | succ n ih =>
    intro x2 st c H locs ls hW hB_st hF hl h
    rw [fX1_copyFrom_2] at h
    refine lv_iload_n hx hb dX1_copyFrom_2 rfl (lv_at hl 2 rfl) ?_
    refine lv_iconst (v := (4 : Int32)) hx hb dX1_copyFrom_3 (by decide) ?_
    refine lv_icmp_ge (tgt := 25) hx hb dX1_copyFrom_4 (by decide) (fun k_1 => ?_) (fun k_1 => ?_)
    · have h := it_t k_1 h
      refine lv_aload_n hx hb dX1_copyFrom_25 rfl (lv_at hl 1 rfl) ?_
      refine k_get (v := .ref (ad (b2 + 1 + 1))) hE hW (hB_sx.fr hF (by omega)).o (hB_sx.fr hF (by omega)).obj rfl inX1 1 (by decide) q88 rfl dX1_copyFrom_26 ?_
      refine lv_iconst (v := (0 : Int32)) hx hb dX1_copyFrom_29 (by decide) ?_
      refine lv_aload_n hx hb dX1_copyFrom_30 rfl (lv_at hl 0 rfl) ?_
      refine k_get (v := .ref (ad (b + 1 + 1))) hE hW hB_st.o hB_st.obj rfl inX1 1 (by decide) q88 rfl dX1_copyFrom_31 ?_
      refine lv_iconst (v := (0 : Int32)) hx hb dX1_copyFrom_34 (by decide) ?_
      refine lv_iconst (v := (4 : Int32)) hx hb dX1_copyFrom_35 (by decide) ?_
      obtain ⟨g_2, h⟩ := zc_e h
      obtain ⟨st_3, est_3, h⟩ := zl_e h
      refine k_copyi (t := 0) (rest := []) hE hW (hE.2.2.1.symm.trans (hE.2.2.1.trans hl.1.symm)) q610 q612 q611 q14 ((hB_sx.fr hF (by omega)).memA 1 (Nat.le_of_ble_eq_true rfl)) ((hB_sx.fr hF (by omega)).arr 1 rfl) (hB_st.memA 1 (Nat.le_of_ble_eq_true rfl)) (hB_st.arr 1 rfl) rfl rfl g_2 (fun _ _ => rfl) (Nat.le_of_ble_eq_true rfl) (Nat.le_of_ble_eq_true rfl) dX1_copyFrom_36 (fun H locs hW => ?_)
      obtain ⟨c, hB_st, hF, hW⟩ : ∃ c', GrB ct J ad c' b st_3 ∧ Fr c0 c' b 5 ∧ HW D J ad c' (aA J ad s.heap.size) s.heap H locs := ⟨_, hB_st.wA (k := 1) rfl est_3, hF.up (by omega) (by omega), hW⟩
      refine lv_aload_n hx hb dX1_copyFrom_39 rfl (lv_at hl 1 rfl) ?_
      refine k_get (v := .ref (ad (b2 + 1 + 3))) hE hW (hB_sx.fr hF (by omega)).o (hB_sx.fr hF (by omega)).obj rfl inX1 3 (by decide) q91 rfl dX1_copyFrom_40 ?_
      refine lv_iconst (v := (0 : Int32)) hx hb dX1_copyFrom_43 (by decide) ?_
      refine lv_aload_n hx hb dX1_copyFrom_44 rfl (lv_at hl 0 rfl) ?_
      refine k_get (v := .ref (ad (b + 1 + 3))) hE hW hB_st.o hB_st.obj rfl inX1 3 (by decide) q91 rfl dX1_copyFrom_45 ?_
      refine lv_iconst (v := (0 : Int32)) hx hb dX1_copyFrom_48 (by decide) ?_
      refine lv_iconst (v := (4 : Int32)) hx hb dX1_copyFrom_49 (by decide) ?_
      obtain ⟨g_4, h⟩ := zc_e h
      obtain ⟨st_5, est_5, h⟩ := zl_e h
      refine k_copyi (t := 0) (rest := []) hE hW (hE.2.2.1.symm.trans (hE.2.2.1.trans hl.1.symm)) q610 q612 q611 q14 ((hB_sx.fr hF (by omega)).memA 3 (Nat.le_of_ble_eq_true rfl)) ((hB_sx.fr hF (by omega)).arr 3 rfl) (hB_st.memA 3 (Nat.le_of_ble_eq_true rfl)) (hB_st.arr 3 rfl) rfl rfl g_4 (fun _ _ => rfl) (Nat.le_of_ble_eq_true rfl) (Nat.le_of_ble_eq_true rfl) dX1_copyFrom_50 (fun H locs hW => ?_)
      obtain ⟨c, hB_st, hF, hW⟩ : ∃ c', GrB ct J ad c' b st_5 ∧ Fr c0 c' b 5 ∧ HW D J ad c' (aA J ad s.heap.size) s.heap H locs := ⟨_, hB_st.wA (k := 3) rfl est_5, hF.up (by omega) (by omega), hW⟩
      refine lv_aload_n hx hb dX1_copyFrom_53 rfl (lv_at hl 0 rfl) ?_
      refine lv_aload_n hx hb dX1_copyFrom_54 rfl (lv_at hl 1 rfl) ?_
      refine k_get (v := .int (sx.2 0)) hE hW (hB_sx.fr hF (by omega)).o (hB_sx.fr hF (by omega)).obj rfl inX1 4 (by decide) q93 rfl dX1_copyFrom_55 ?_
      obtain ⟨st_6, est_6, h⟩ := zl_e h
      refine k_put hE hW hB_st.o hB_st.obj rfl inX1 tyX1 tyX1_ok nmX1 4 (by decide) q93 rfl rfl rfl (Nat.le_of_ble_eq_true rfl) dX1_copyFrom_58 (fun H locs hW => ?_)
      obtain ⟨c, hB_st, hF, hW⟩ : ∃ c', GrB ct J ad c' b st_6 ∧ Fr c0 c' b 5 ∧ HW D J ad c' (aA J ad s.heap.size) s.heap H locs := ⟨_, hB_st.wF (k := 4) (j := 0) rfl est_6, hF.up (by omega) (by omega), hW⟩
      obtain rfl := Option.some.inj h
      exact k_vret hE hr hlk hW ⟨hB_st, hF⟩ dX1_copyFrom_61
    · have h := it_f k_1 h
      refine lv_aload_n hx hb dX1_copyFrom_7 rfl (lv_at hl 0 rfl) ?_
      refine k_get (v := .ref (ad (b + 1 + 0))) hE hW hB_st.o hB_st.obj rfl inX1 0 (by decide) q86 rfl dX1_copyFrom_8 ?_
      refine lv_iload_n hx hb dX1_copyFrom_11 rfl (lv_at hl 2 rfl) ?_
      refine lv_aload_n hx hb dX1_copyFrom_12 rfl (lv_at hl 1 rfl) ?_
      refine k_get (v := .ref (ad (b2 + 1 + 0))) hE hW (hB_sx.fr hF (by omega)).o (hB_sx.fr hF (by omega)).obj rfl inX1 0 (by decide) q86 rfl dX1_copyFrom_13 ?_
      refine lv_iload_n hx hb dX1_copyFrom_16 rfl (lv_at hl 2 rfl) ?_
      obtain ⟨g_7, h⟩ := zi_e h
      refine k_zald hE hW ((hB_sx.fr hF (by omega)).memA 0 (Nat.le_of_ble_eq_true rfl)) ((hB_sx.fr hF (by omega)).arr 0 rfl) g_7 dX1_copyFrom_17 ?_
      obtain ⟨g_8, h⟩ := zi_e h
      obtain ⟨st_9, est_9, h⟩ := zl_e h
      refine k_zast hE hW (hB_st.memA 0 (Nat.le_of_ble_eq_true rfl)) (hB_st.arr 0 rfl) g_8 dX1_copyFrom_18 (fun H locs hW => ?_)
      obtain ⟨c, hB_st, hF, hW⟩ : ∃ c', GrB ct J ad c' b st_9 ∧ Fr c0 c' b 5 ∧ HW D J ad c' (aA J ad s.heap.size) s.heap H locs := ⟨_, hB_st.wA (k := 0) rfl est_9, hF.up (by omega) (by omega), hW⟩
      refine lv_iinc (v := (x2 + (1 : Int32))) (lv' := [(2, .int (x2 + (1 : Int32))), (0, .ref (ad b)), (1, .ref (ad b2))]) hx hb dX1_copyFrom_19 hl (k := 2) rfl rfl (by decide) rfl (fun ls hl => ?_)
      refine lv_goto (tgt := 2) hx hb dX1_copyFrom_22 (by decide) ?_
      exact ih _ _ _ _ _ _ hW hB_st hF (lv_sub hl [1, 2, 0] rfl) h
set_option maxHeartbeats 4000000 in
set_option maxRecDepth 100000 in
theorem mX1_copyFrom {l : Launch} {D : va_G} {ct : Nat → ClassId} {J : List Nat} {ad : Nat → Nat} {c0 : CF} {b : Nat} {st : CS} (hB_st : GrB ct J ad c0 b st) {b2 : Nat} {sx : CS} (hB_sx : GrB ct J ad c0 b2 sx) (hdis : b2 + 5 ≤ b ∨ b + 5 ≤ b2) {st9 : CS} (h : fX1_copyFrom   sx st = some st9) : Mv l D ct J ad yX1_copyFrom cX1_copyFrom 3 none (rr 1 40) [.ref (ad b), .ref (ad b2)] c0 (fun c' => GrB ct J ad c' b st9 ∧ Fr c0 c' b 5) := by
  refine Mv_of (own := RX1) (by decide) rfl (Nat.le_of_ble_eq_true rfl) (fun p e s m below meth cd hE hr hlk hW ls hl => ?_)
  have hx := hE.1
  have hb := hE.2.1
  have hl : lv_has ls 3 [(0, .ref (ad b)), (1, .ref (ad b2))] := hl
  rw [fX1_copyFrom] at h
  obtain ⟨c, hB_st, hF, hW⟩ : ∃ c', GrB ct J ad c' b st ∧ Fr c0 c' b 5 ∧ HW D J ad c' (aA J ad s.heap.size) s.heap s.heap [] := ⟨c0, hB_st, Fr.rf, hW⟩
  refine lv_iconst (v := (0 : Int32)) hx hb dX1_copyFrom_0 (by decide) ?_
  refine lv_istore_n (lv' := [(2, .int (0 : Int32)), (0, .ref (ad b)), (1, .ref (ad b2))]) hx hb dX1_copyFrom_1 rfl hl (by decide) rfl (fun ls hl => ?_)
  exact wX1_copyFrom_2 hE hr hlk hB_sx hdis _ _ _ _ _ _ _ hW hB_st hF (lv_sub hl [1, 2, 0] rfl) h
set_option maxHeartbeats 4000000 in
set_option maxRecDepth 100000 in
theorem wX1_inBits_4 {p : Program} {l : Launch} {e : Env} {s : State} {m : MethodId} {args : Array Value} {below : List Frame} {meth : Method} {cd : Code} {D : va_G} {ct : Nat → ClassId} {J : List Nat} {ad : Nat → Nat} {c0 : CF} {b : Nat} (hE : ME p s m cd args D ct cX1_inBits RX1 3) (hr : meth.sig.returnType = (some .int)) (hlk : meth.locks = false) {st : CS} (hB_st : GrB ct J ad c0 b st) {r : Int32} : ∀ (n : Nat) (x1 : Int32) (x2 : Int32) (H : Heap) (locs : List Loc) (ls : Array Slot), HW D J ad c0 (aA J ad s.heap.size) s.heap H locs → lv_has ls 3 [(0, .ref (ad b)), (1, .int x1), (2, .int x2)] → fX1_inBits_4 st n x1 x2 = some r → W p l e (rr 0 0) s m args below meth cd H locs 0 0 (MQ below (Qi D J ad s.heap.size r (fun c' => c' = c0)) args s 0 0 (aA J ad s.heap.size)) (F0 m 4 ls []) := by
  have hx := hE.1
  have hb := hE.2.1
  intro n
  induction n with
  | zero =>
    intro x1 x2 H locs ls hW hl h
    have h2 : (none : Option Int32) = some r := h
    cases h2
  | succ n ih =>
    intro x1 x2 H locs ls hW hl h
    rw [fX1_inBits_4] at h
    refine lv_iload_n hx hb dX1_inBits_4 rfl (lv_at hl 2 rfl) ?_
    refine lv_iconst (v := (4 : Int32)) hx hb dX1_inBits_5 (by decide) ?_
    refine lv_icmp_ge (tgt := 30) hx hb dX1_inBits_6 (by decide) (fun k_1 => ?_) (fun k_1 => ?_)
    · have h := it_t k_1 h
      refine lv_iload_n hx hb dX1_inBits_30 rfl (lv_at hl 1 rfl) ?_
      obtain rfl := Option.some.inj h
      exact k_iret hE hr hlk hW rfl rfl dX1_inBits_31
    · have h := it_f k_1 h
      refine lv_aload_n hx hb dX1_inBits_9 rfl (lv_at hl 0 rfl) ?_
      refine k_get (v := .ref (ad (b + 1 + 0))) hE hW hB_st.o hB_st.obj rfl inX1 0 (by decide) q86 rfl dX1_inBits_10 ?_
      refine lv_iload_n hx hb dX1_inBits_13 rfl (lv_at hl 2 rfl) ?_
      obtain ⟨g_2, h⟩ := zi_e h
      refine k_zald hE hW (hB_st.memA 0 (Nat.le_of_ble_eq_true rfl)) (hB_st.arr 0 rfl) g_2 dX1_inBits_14 ?_
      refine lv_if_eq (tgt := 24) hx hb dX1_inBits_15 (by decide) (fun k_3 => ?_) (fun k_3 => ?_)
      · have h := it_t k_3 h
        refine lv_iinc (v := (x2 + (1 : Int32))) (lv' := [(2, .int (x2 + (1 : Int32))), (0, .ref (ad b)), (1, .int x1)]) hx hb dX1_inBits_24 hl (k := 2) rfl rfl (by decide) rfl (fun ls hl => ?_)
        refine lv_goto (tgt := 4) hx hb dX1_inBits_27 (by decide) ?_
        exact ih _ _ _ _ _ hW (lv_sub hl [1, 2, 0] rfl) h
      · have h := it_f k_3 h
        refine lv_iload_n hx hb dX1_inBits_18 rfl (lv_at hl 1 rfl) ?_
        refine lv_iconst (v := (1 : Int32)) hx hb dX1_inBits_19 (by decide) ?_
        refine lv_iload_n hx hb dX1_inBits_20 rfl (lv_at hl 2 rfl) ?_
        refine lv_ishl hx hb dX1_inBits_21 ?_
        refine lv_ior hx hb dX1_inBits_22 ?_
        refine lv_topi (fun x_4 ex_4 => ?_)
        have h := zl_n h ex_4
        refine lv_istore_n (lv' := [(1, .int x_4), (0, .ref (ad b)), (2, .int x2)]) hx hb dX1_inBits_23 rfl hl (by decide) rfl (fun ls hl => ?_)
        refine lv_iinc (v := (x2 + (1 : Int32))) (lv' := [(2, .int (x2 + (1 : Int32))), (1, .int x_4), (0, .ref (ad b))]) hx hb dX1_inBits_24 hl (k := 2) rfl rfl (by decide) rfl (fun ls hl => ?_)
        refine lv_goto (tgt := 4) hx hb dX1_inBits_27 (by decide) ?_
        exact ih _ _ _ _ _ hW (lv_sub hl [2, 1, 0] rfl) h
set_option maxHeartbeats 4000000 in
set_option maxRecDepth 100000 in
theorem mX1_inBits {l : Launch} {D : va_G} {ct : Nat → ClassId} {J : List Nat} {ad : Nat → Nat} {c0 : CF} {b : Nat} {st : CS} (hB_st : GrB ct J ad c0 b st) {r : Int32} (h : fX1_inBits   st = some r) : Mi l D ct J ad yX1_inBits cX1_inBits 3 (some .int) (rr 0 0) [.ref (ad b)] c0 r (fun c' => c' = c0) := by
  refine Mi_of (own := RX1) (by decide) rfl (Nat.le_of_ble_eq_true rfl) (fun p e s m below meth cd hE hr hlk hW ls hl => ?_)
  have hx := hE.1
  have hb := hE.2.1
  have hl : lv_has ls 3 [(0, .ref (ad b))] := hl
  rw [fX1_inBits] at h
  refine lv_iconst (v := (0 : Int32)) hx hb dX1_inBits_0 (by decide) ?_
  refine lv_istore_n (lv' := [(1, .int (0 : Int32)), (0, .ref (ad b))]) hx hb dX1_inBits_1 rfl hl (by decide) rfl (fun ls hl => ?_)
  refine lv_iconst (v := (0 : Int32)) hx hb dX1_inBits_2 (by decide) ?_
  refine lv_istore_n (lv' := [(2, .int (0 : Int32)), (1, .int (0 : Int32)), (0, .ref (ad b))]) hx hb dX1_inBits_3 rfl hl (by decide) rfl (fun ls hl => ?_)
  exact wX1_inBits_4 hE hr hlk hB_st _ _ _ _ _ _ hW (lv_sub hl [2, 1, 0] rfl) h
set_option maxHeartbeats 4000000 in
set_option maxRecDepth 100000 in
theorem mX1_membersIn {l : Launch} {D : va_G} {ct : Nat → ClassId} {J : List Nat} {ad : Nat → Nat} {c0 : CF} {b : Nat} {st : CS} (hB_st : GrB ct J ad c0 b st) {r : Int32} (h : fX1_membersIn   st = some r) : Mi l D ct J ad yX1_membersIn cX1_membersIn 1 (some .int) (rr 1 22) [.ref (ad b)] c0 r (fun c' => c' = c0) := by
  refine Mi_of (own := RX1) (by decide) rfl (Nat.le_of_ble_eq_true rfl) (fun p e s m below meth cd hE hr hlk hW ls hl => ?_)
  have hx := hE.1
  have hb := hE.2.1
  have hl : lv_has ls 1 [(0, .ref (ad b))] := hl
  rw [fX1_membersIn] at h
  refine lv_aload_n hx hb dX1_membersIn_0 rfl (lv_at hl 0 rfl) ?_
  obtain ⟨r_1, hr_1, h⟩ := zb_e h
  refine k_callVi (rest := []) hE hW hl.1 (mX1_inBits hB_st hr_1) hB_st.o hB_st.obj rfl q621 q623 qs54 q4 q624 hd_X1_inBits ⟨Nat.le_of_ble_eq_true rfl, Nat.le_of_ble_eq_true rfl⟩ ⟨rfl, rfl⟩ rfl (Nat.le_of_ble_eq_true rfl) dX1_membersIn_1 ⟨Nat.zero_le _, Nat.zero_le _⟩ (fun c1 H locs hP hW => ?_)
  rw [hP] at hW
  obtain ⟨r_2, hr_2, h⟩ := zb_e h
  refine k_callSi (rest := []) hE hW hl.1 (mJ6_bitCount_0f7a4 hr_2) q625 q626 q15 q627 hd_J6_bitCount_0f7a4.2 ⟨Nat.le_of_ble_eq_true rfl, Nat.le_of_ble_eq_true rfl⟩ ⟨rfl, rfl⟩ rfl (Nat.le_of_ble_eq_true rfl) dX1_membersIn_4 ⟨Nat.zero_le _, Nat.zero_le _⟩ (fun c1 H locs hP hW => ?_)
  rw [hP] at hW
  obtain rfl := Option.some.inj h
  exact k_iret hE hr hlk hW rfl rfl dX1_membersIn_7
set_option maxHeartbeats 4000000 in
set_option maxRecDepth 100000 in
theorem wX1_logBits_4 {p : Program} {l : Launch} {e : Env} {s : State} {m : MethodId} {args : Array Value} {below : List Frame} {meth : Method} {cd : Code} {D : va_G} {ct : Nat → ClassId} {J : List Nat} {ad : Nat → Nat} {c0 : CF} {b : Nat} (hE : ME p s m cd args D ct cX1_logBits RX1 4) (hr : meth.sig.returnType = (some .int)) (hlk : meth.locks = false) {x1 : Int32} {st : CS} (hB_st : GrB ct J ad c0 b st) {r : Int32} : ∀ (n : Nat) (x2 : Int32) (x3 : Int32) (H : Heap) (locs : List Loc) (ls : Array Slot), HW D J ad c0 (aA J ad s.heap.size) s.heap H locs → lv_has ls 4 [(0, .ref (ad b)), (1, .int x1), (2, .int x2), (3, .int x3)] → fX1_logBits_4 x1 st n x2 x3 = some r → W p l e (rr 0 0) s m args below meth cd H locs 0 0 (MQ below (Qi D J ad s.heap.size r (fun c' => c' = c0)) args s 0 0 (aA J ad s.heap.size)) (F0 m 4 ls []) := by
  have hx := hE.1
  have hb := hE.2.1
  intro n
  induction n with
  | zero =>
    intro x2 x3 H locs ls hW hl h
    have h2 : (none : Option Int32) = some r := h
    cases h2
  | succ n ih =>
    intro x2 x3 H locs ls hW hl h
    rw [fX1_logBits_4] at h
    refine lv_iload_n hx hb dX1_logBits_4 rfl (lv_at hl 3 rfl) ?_
    refine lv_iconst (v := (4 : Int32)) hx hb dX1_logBits_5 (by decide) ?_
    refine lv_icmp_ge (tgt := 31) hx hb dX1_logBits_6 (by decide) (fun k_1 => ?_) (fun k_1 => ?_)
    · have h := it_t k_1 h
      refine lv_iload_n hx hb dX1_logBits_31 rfl (lv_at hl 2 rfl) ?_
      obtain rfl := Option.some.inj h
      exact k_iret hE hr hlk hW rfl rfl dX1_logBits_32
    · have h := it_f k_1 h
      refine lv_aload_n hx hb dX1_logBits_9 rfl (lv_at hl 0 rfl) ?_
      refine k_get (v := .ref (ad (b + 1 + 1))) hE hW hB_st.o hB_st.obj rfl inX1 1 (by decide) q88 rfl dX1_logBits_10 ?_
      refine lv_iload_n hx hb dX1_logBits_13 rfl (lv_at hl 3 rfl) ?_
      obtain ⟨g_2, h⟩ := zi_e h
      refine k_iald hE hW (hB_st.memA 1 (Nat.le_of_ble_eq_true rfl)) (hB_st.arr 1 rfl) g_2 dX1_logBits_14 ?_
      refine lv_iload_n hx hb dX1_logBits_15 rfl (lv_at hl 1 rfl) ?_
      refine lv_icmp_ne (tgt := 25) hx hb dX1_logBits_16 (by decide) (fun k_3 => ?_) (fun k_3 => ?_)
      · have h := it_f k_3 h
        refine lv_iinc (v := (x3 + (1 : Int32))) (lv' := [(3, .int (x3 + (1 : Int32))), (0, .ref (ad b)), (1, .int x1), (2, .int x2)]) hx hb dX1_logBits_25 hl (k := 3) rfl rfl (by decide) rfl (fun ls hl => ?_)
        refine lv_goto (tgt := 4) hx hb dX1_logBits_28 (by decide) ?_
        exact ih _ _ _ _ _ hW (lv_sub hl [1, 2, 3, 0] rfl) h
      · have h := it_t k_3 h
        refine lv_iload_n hx hb dX1_logBits_19 rfl (lv_at hl 2 rfl) ?_
        refine lv_iconst (v := (1 : Int32)) hx hb dX1_logBits_20 (by decide) ?_
        refine lv_iload_n hx hb dX1_logBits_21 rfl (lv_at hl 3 rfl) ?_
        refine lv_ishl hx hb dX1_logBits_22 ?_
        refine lv_ior hx hb dX1_logBits_23 ?_
        refine lv_topi (fun x_4 ex_4 => ?_)
        have h := zl_n h ex_4
        refine lv_istore_n (lv' := [(2, .int x_4), (0, .ref (ad b)), (1, .int x1), (3, .int x3)]) hx hb dX1_logBits_24 rfl hl (by decide) rfl (fun ls hl => ?_)
        refine lv_iinc (v := (x3 + (1 : Int32))) (lv' := [(3, .int (x3 + (1 : Int32))), (2, .int x_4), (0, .ref (ad b)), (1, .int x1)]) hx hb dX1_logBits_25 hl (k := 3) rfl rfl (by decide) rfl (fun ls hl => ?_)
        refine lv_goto (tgt := 4) hx hb dX1_logBits_28 (by decide) ?_
        exact ih _ _ _ _ _ hW (lv_sub hl [2, 3, 1, 0] rfl) h
set_option maxHeartbeats 4000000 in
set_option maxRecDepth 100000 in
theorem mX1_logBits {l : Launch} {D : va_G} {ct : Nat → ClassId} {J : List Nat} {ad : Nat → Nat} {c0 : CF} {a1 : Int32} {b : Nat} {st : CS} (hB_st : GrB ct J ad c0 b st) {r : Int32} (h : fX1_logBits  a1 st = some r) : Mi l D ct J ad yX1_logBits cX1_logBits 4 (some .int) (rr 0 0) [.ref (ad b), .int a1] c0 r (fun c' => c' = c0) := by
  refine Mi_of (own := RX1) (by decide) rfl (Nat.le_of_ble_eq_true rfl) (fun p e s m below meth cd hE hr hlk hW ls hl => ?_)
  have hx := hE.1
  have hb := hE.2.1
  have hl : lv_has ls 4 [(0, .ref (ad b)), (1, .int a1)] := hl
  rw [fX1_logBits] at h
  refine lv_iconst (v := (0 : Int32)) hx hb dX1_logBits_0 (by decide) ?_
  refine lv_istore_n (lv' := [(2, .int (0 : Int32)), (0, .ref (ad b)), (1, .int a1)]) hx hb dX1_logBits_1 rfl hl (by decide) rfl (fun ls hl => ?_)
  refine lv_iconst (v := (0 : Int32)) hx hb dX1_logBits_2 (by decide) ?_
  refine lv_istore_n (lv' := [(3, .int (0 : Int32)), (2, .int (0 : Int32)), (0, .ref (ad b)), (1, .int a1)]) hx hb dX1_logBits_3 rfl hl (by decide) rfl (fun ls hl => ?_)
  exact wX1_logBits_4 hE hr hlk hB_st _ _ _ _ _ _ hW (lv_sub hl [2, 3, 1, 0] rfl) h
set_option maxHeartbeats 4000000 in
set_option maxRecDepth 100000 in
theorem mX1_logsOf {l : Launch} {D : va_G} {ct : Nat → ClassId} {J : List Nat} {ad : Nat → Nat} {c0 : CF} {a1 : Int32} {b : Nat} {st : CS} (hB_st : GrB ct J ad c0 b st) {r : Int32} (h : fX1_logsOf  a1 st = some r) : Mi l D ct J ad yX1_logsOf cX1_logsOf 2 (some .int) (rr 1 23) [.ref (ad b), .int a1] c0 r (fun c' => c' = c0) := by
  refine Mi_of (own := RX1) (by decide) rfl (Nat.le_of_ble_eq_true rfl) (fun p e s m below meth cd hE hr hlk hW ls hl => ?_)
  have hx := hE.1
  have hb := hE.2.1
  have hl : lv_has ls 2 [(0, .ref (ad b)), (1, .int a1)] := hl
  rw [fX1_logsOf] at h
  refine lv_aload_n hx hb dX1_logsOf_0 rfl (lv_at hl 0 rfl) ?_
  refine lv_iload_n hx hb dX1_logsOf_1 rfl (lv_at hl 1 rfl) ?_
  obtain ⟨r_1, hr_1, h⟩ := zb_e h
  refine k_callVi (rest := []) hE hW hl.1 (mX1_logBits hB_st hr_1) hB_st.o hB_st.obj rfl q639 q641 qs57 q4 q642 hd_X1_logBits ⟨Nat.le_of_ble_eq_true rfl, Nat.le_of_ble_eq_true rfl⟩ ⟨rfl, rfl⟩ rfl (Nat.le_of_ble_eq_true rfl) dX1_logsOf_2 ⟨Nat.zero_le _, Nat.zero_le _⟩ (fun c1 H locs hP hW => ?_)
  rw [hP] at hW
  obtain ⟨r_2, hr_2, h⟩ := zb_e h
  refine k_callSi (rest := []) hE hW hl.1 (mJ6_bitCount_0f7a4 hr_2) q625 q626 q15 q627 hd_J6_bitCount_0f7a4.2 ⟨Nat.le_of_ble_eq_true rfl, Nat.le_of_ble_eq_true rfl⟩ ⟨rfl, rfl⟩ rfl (Nat.le_of_ble_eq_true rfl) dX1_logsOf_5 ⟨Nat.zero_le _, Nat.zero_le _⟩ (fun c1 H locs hP hW => ?_)
  rw [hP] at hW
  obtain rfl := Option.some.inj h
  exact k_iret hE hr hlk hW rfl rfl dX1_logsOf_8
set_option maxHeartbeats 4000000 in
set_option maxRecDepth 100000 in
theorem wX1_lag_5 {p : Program} {l : Launch} {e : Env} {s : State} {m : MethodId} {args : Array Value} {below : List Frame} {meth : Method} {cd : Code} {D : va_G} {ct : Nat → ClassId} {J : List Nat} {ad : Nat → Nat} {c0 : CF} {b : Nat} (hE : ME p s m cd args D ct cX1_lag RX1 5) (hr : meth.sig.returnType = (some .int)) (hlk : meth.locks = false) {x1 : Int32} {st : CS} (hB_st : GrB ct J ad c0 b st) {b2 : Nat} {sx : (Nat → CS)} (hB_sx : LsB ct J ad c0 b2 sx) {r : Int32} : ∀ (n : Nat) (x3 : Int32) (x4 : Int32) (H : Heap) (locs : List Loc) (ls : Array Slot), HW D J ad c0 (aA J ad s.heap.size) s.heap H locs → lv_has ls 5 [(0, .ref (ad b)), (1, .int x1), (2, .ref (ad b2)), (3, .int x3), (4, .int x4)] → fX1_lag_5 sx x1 st n x3 x4 = some r → W p l e (rr 2 44) s m args below meth cd H locs 0 0 (MQ below (Qi D J ad s.heap.size r (fun c' => c' = c0)) args s 0 0 (aA J ad s.heap.size)) (F0 m 5 ls []) := by
  have hx := hE.1
  have hb := hE.2.1
  intro n
  induction n with
  | zero =>
    intro x3 x4 H locs ls hW hl h
    have h2 : (none : Option Int32) = some r := h
    cases h2
  | succ n ih =>
    intro x3 x4 H locs ls hW hl h
    rw [fX1_lag_5] at h
    refine lv_iload hx hb dX1_lag_5 (lv_at hl 4 rfl) ?_
    refine lv_iconst (v := (4 : Int32)) hx hb dX1_lag_7 (by decide) ?_
    refine lv_icmp_ge (tgt := 52) hx hb dX1_lag_8 (by decide) (fun k_1 => ?_) (fun k_1 => ?_)
    · have h := it_t k_1 h
      refine lv_iload_n hx hb dX1_lag_52 rfl (lv_at hl 3 rfl) ?_
      obtain rfl := Option.some.inj h
      exact k_iret hE hr hlk hW rfl rfl dX1_lag_53
    · have h := it_f k_1 h
      refine lv_aload_n hx hb dX1_lag_11 rfl (lv_at hl 0 rfl) ?_
      refine k_get (v := .ref (ad (b + 1 + 1))) hE hW hB_st.o hB_st.obj rfl inX1 1 (by decide) q88 rfl dX1_lag_12 ?_
      refine lv_iload hx hb dX1_lag_15 (lv_at hl 4 rfl) ?_
      obtain ⟨g_2, h⟩ := zi_e h
      refine k_iald hE hW (hB_st.memA 1 (Nat.le_of_ble_eq_true rfl)) (hB_st.arr 1 rfl) g_2 dX1_lag_17 ?_
      refine lv_iload_n hx hb dX1_lag_18 rfl (lv_at hl 1 rfl) ?_
      refine lv_icmp_ne (tgt := 46) hx hb dX1_lag_19 (by decide) (fun k_3 => ?_) (fun k_3 => ?_)
      · have h := it_f k_3 h
        refine lv_iinc (v := (x4 + (1 : Int32))) (lv' := [(4, .int (x4 + (1 : Int32))), (0, .ref (ad b)), (1, .int x1), (2, .ref (ad b2)), (3, .int x3)]) hx hb dX1_lag_46 hl (k := 4) rfl rfl (by decide) rfl (fun ls hl => ?_)
        refine lv_goto (tgt := 5) hx hb dX1_lag_49 (by decide) ?_
        exact ih _ _ _ _ _ hW (lv_sub hl [1, 2, 3, 4, 0] rfl) h
      · have h := it_t k_3 h
        refine lv_iload_n hx hb dX1_lag_22 rfl (lv_at hl 3 rfl) ?_
        refine lv_aload_n hx hb dX1_lag_23 rfl (lv_at hl 2 rfl) ?_
        refine lv_iload hx hb dX1_lag_24 (lv_at hl 4 rfl) ?_
        obtain ⟨g_4, h⟩ := zi_e h
        have hg_4 := vp_lt g_4
        refine k_aaldR3 (g := fun i => b2 + 1 + 8 * i) hE hW hB_sx.o hB_sx.out g_4 dX1_lag_26 ?_
        refine lv_aload_n hx hb dX1_lag_27 rfl (lv_at hl 0 rfl) ?_
        refine k_get (v := .ref (ad (b + 1 + 3))) hE hW hB_st.o hB_st.obj rfl inX1 3 (by decide) q91 rfl dX1_lag_28 ?_
        refine lv_iload hx hb dX1_lag_31 (lv_at hl 4 rfl) ?_
        obtain ⟨g_5, h⟩ := zi_e h
        refine k_iald hE hW (hB_st.memA 3 (Nat.le_of_ble_eq_true rfl)) (hB_st.arr 3 rfl) g_5 dX1_lag_33 ?_
        refine lv_aload_n hx hb dX1_lag_34 rfl (lv_at hl 2 rfl) ?_
        refine lv_iload hx hb dX1_lag_35 (lv_at hl 4 rfl) ?_
        obtain ⟨g_6, h⟩ := zi_e h
        have hg_6 := vp_lt g_6
        refine k_aaldR3 (g := fun i => b2 + 1 + 8 * i) hE hW hB_sx.o hB_sx.out g_6 dX1_lag_37 ?_
        refine k_getN (v := .int ((sx x4.toNatClampNeg).2 0)) hE hW (hB_sx.log hg_6).o (hB_sx.log hg_6).obj rfl inX3 7 (by decide) q55 rfl dX1_lag_38 ?_
        obtain ⟨r_7, hr_7, h⟩ := zb_e h
        refine k_callVNi (rest := [.int x3]) hE hW hl.1 (mX3_recordsIn (hB_sx.log hg_4) hr_7) (hB_sx.log hg_4).o (hB_sx.log hg_4).obj rfl q685 q302 qs3 q3 q303 hd_X3_recordsIn.2 ⟨Nat.le_of_ble_eq_true rfl, Nat.le_of_ble_eq_true rfl⟩ ⟨rfl, rfl⟩ rfl (Nat.le_of_ble_eq_true rfl) dX1_lag_41 ⟨Nat.zero_le _, Nat.zero_le _⟩ (fun c1 H locs hP hW => ?_)
        rw [hP] at hW
        refine lv_iadd hx hb dX1_lag_44 ?_
        refine lv_istore_n (lv' := [(3, .int (x3 + r_7)), (0, .ref (ad b)), (1, .int x1), (2, .ref (ad b2)), (4, .int x4)]) hx hb dX1_lag_45 rfl hl (by decide) rfl (fun ls hl => ?_)
        refine lv_iinc (v := (x4 + (1 : Int32))) (lv' := [(4, .int (x4 + (1 : Int32))), (3, .int (x3 + r_7)), (0, .ref (ad b)), (1, .int x1), (2, .ref (ad b2))]) hx hb dX1_lag_46 hl (k := 4) rfl rfl (by decide) rfl (fun ls hl => ?_)
        refine lv_goto (tgt := 5) hx hb dX1_lag_49 (by decide) ?_
        exact ih _ _ _ _ _ hW (lv_sub hl [2, 3, 4, 1, 0] rfl) h
set_option maxHeartbeats 4000000 in
set_option maxRecDepth 100000 in
theorem mX1_lag {l : Launch} {D : va_G} {ct : Nat → ClassId} {J : List Nat} {ad : Nat → Nat} {c0 : CF} {a1 : Int32} {b : Nat} {st : CS} (hB_st : GrB ct J ad c0 b st) {b2 : Nat} {sx : (Nat → CS)} (hB_sx : LsB ct J ad c0 b2 sx) {r : Int32} (h : fX1_lag  a1 sx st = some r) : Mi l D ct J ad yX1_lag cX1_lag 5 (some .int) (rr 2 44) [.ref (ad b), .int a1, .ref (ad b2)] c0 r (fun c' => c' = c0) := by
  refine Mi_of (own := RX1) (by decide) rfl (Nat.le_of_ble_eq_true rfl) (fun p e s m below meth cd hE hr hlk hW ls hl => ?_)
  have hx := hE.1
  have hb := hE.2.1
  have hl : lv_has ls 5 [(0, .ref (ad b)), (1, .int a1), (2, .ref (ad b2))] := hl
  rw [fX1_lag] at h
  refine lv_iconst (v := (0 : Int32)) hx hb dX1_lag_0 (by decide) ?_
  refine lv_istore_n (lv' := [(3, .int (0 : Int32)), (0, .ref (ad b)), (1, .int a1), (2, .ref (ad b2))]) hx hb dX1_lag_1 rfl hl (by decide) rfl (fun ls hl => ?_)
  refine lv_iconst (v := (0 : Int32)) hx hb dX1_lag_2 (by decide) ?_
  refine lv_istore (lv' := [(4, .int (0 : Int32)), (3, .int (0 : Int32)), (0, .ref (ad b)), (1, .int a1), (2, .ref (ad b2))]) hx hb dX1_lag_3 hl (by decide) rfl (fun ls hl => ?_)
  exact wX1_lag_5 hE hr hlk hB_st hB_sx _ _ _ _ _ _ hW (lv_sub hl [2, 3, 4, 1, 0] rfl) h
set_option maxHeartbeats 4000000 in
set_option maxRecDepth 100000 in
theorem wX1_polled_34 {p : Program} {l : Launch} {e : Env} {s : State} {m : MethodId} {args : Array Value} {below : List Frame} {meth : Method} {cd : Code} {D : va_G} {ct : Nat → ClassId} {J : List Nat} {ad : Nat → Nat} {c0 : CF} {b : Nat} (hE : ME p s m cd args D ct cX1_polled RX1 5) (hr : meth.sig.returnType = (some .int)) (hlk : meth.locks = false) {x1 : Int32} {b2 : Nat} {sx : (Nat → CS)} (hB_sx : LsB ct J ad c0 b2 sx) (hdis : b2 + 33 ≤ b ∨ b + 5 ≤ b2) {r : Int32} {st9 : CS} {K2 : Int32 → CS → Option (Int32 × CS)} (hK2 : ∀ (x3 : Int32) (st : CS) (c : CF) (H : Heap) (locs : List Loc) (ls : Array Slot), HW D J ad c (aA J ad s.heap.size) s.heap H locs → GrB ct J ad c b st → Fr c0 c b 5 → lv_has ls 5 [(0, .ref (ad b)), (1, .int x1), (2, .ref (ad b2)), (3, .int x3)] → K2 x3 st = some (r, st9) → W p l e (rr 2 42) s m args below meth cd H locs 0 0 (MQ below (Qi D J ad s.heap.size r (fun c' => GrB ct J ad c' b st9 ∧ Fr c0 c' b 5)) args s 0 0 (aA J ad s.heap.size)) (F0 m 2 ls [])) : ∀ (x3 : Int32) (y0 : Int32) (st : CS) (c : CF) (H : Heap) (locs : List Loc) (ls : Array Slot), HW D J ad c (aA J ad s.heap.size) s.heap H locs → GrB ct J ad c b st → Fr c0 c b 5 → lv_has ls 5 [(0, .ref (ad b)), (1, .int x1), (2, .ref (ad b2)), (3, .int x3)] → fX1_polled_34 sx x1 K2 x3 y0 st = some (r, st9) → W p l e (rr 2 42) s m args below meth cd H locs 0 0 (MQ below (Qi D J ad s.heap.size r (fun c' => GrB ct J ad c' b st9 ∧ Fr c0 c' b 5)) args s 0 0 (aA J ad s.heap.size)) (F0 m 34 ls [.int y0]) := by
  have hx := hE.1
  have hb := hE.2.1
  intro x3 y0 st c H locs ls hW hB_st hF hl h
  rw [fX1_polled_34] at h
  refine lv_istore (lv' := [(4, .int y0), (0, .ref (ad b)), (1, .int x1), (2, .ref (ad b2)), (3, .int x3)]) hx hb dX1_polled_34 hl (by decide) rfl (fun ls hl => ?_)
  refine lv_iload hx hb dX1_polled_36 (lv_at hl 0 rfl) ?_
  refine lv_if_lt (tgt := 70) hx hb dX1_polled_38 (by decide) (fun k_4 => ?_) (fun k_4 => ?_)
  · have h := it_t k_4 h
    refine lv_iinc (v := (x3 + (1 : Int32))) (lv' := [(3, .int (x3 + (1 : Int32))), (4, .int y0), (0, .ref (ad b)), (1, .int x1), (2, .ref (ad b2))]) hx hb dX1_polled_70 hl (k := 4) rfl rfl (by decide) rfl (fun ls hl => ?_)
    refine lv_goto (tgt := 2) hx hb dX1_polled_73 (by decide) ?_
    exact hK2 _ _ _ _ _ _ hW hB_st hF (lv_sub hl [2, 3, 4, 0] rfl) h
  · have h := it_f k_4 h
    refine lv_aload_n hx hb dX1_polled_41 rfl (lv_at hl 1 rfl) ?_
    refine k_get (v := .ref (ad (b + 1 + 3))) hE hW hB_st.o hB_st.obj rfl inX1 3 (by decide) q91 rfl dX1_polled_42 ?_
    refine lv_iload_n hx hb dX1_polled_45 rfl (lv_at hl 4 rfl) ?_
    refine lv_iload hx hb dX1_polled_46 (lv_at hl 0 rfl) ?_
    refine lv_iconst (v := (1 : Int32)) hx hb dX1_polled_48 (by decide) ?_
    refine lv_iadd hx hb dX1_polled_49 ?_
    obtain ⟨g_5, h⟩ := zi_e h
    obtain ⟨st_6, est_6, h⟩ := zl_e h
    refine k_iast hE hW (hB_st.memA 3 (Nat.le_of_ble_eq_true rfl)) (hB_st.arr 3 rfl) g_5 dX1_polled_50 (fun H locs hW => ?_)
    obtain ⟨c, hB_st, hF, hW⟩ : ∃ c', GrB ct J ad c' b st_6 ∧ Fr c0 c' b 5 ∧ HW D J ad c' (aA J ad s.heap.size) s.heap H locs := ⟨_, hB_st.wA (k := 3) rfl est_6, hF.up (by omega) (by omega), hW⟩
    refine lv_aload_n hx hb dX1_polled_51 rfl (lv_at hl 1 rfl) ?_
    refine lv_dup hx hb dX1_polled_52 rfl ?_
    refine k_get (v := .int (st_6.2 0)) hE hW hB_st.o hB_st.obj rfl inX1 4 (by decide) q93 rfl dX1_polled_53 ?_
    refine lv_iconst (v := (1 : Int32)) hx hb dX1_polled_56 (by decide) ?_
    refine lv_iadd hx hb dX1_polled_57 ?_
    obtain ⟨st_7, est_7, h⟩ := zl_e h
    refine k_put hE hW hB_st.o hB_st.obj rfl inX1 tyX1 tyX1_ok nmX1 4 (by decide) q93 rfl rfl rfl (Nat.le_of_ble_eq_true rfl) dX1_polled_58 (fun H locs hW => ?_)
    obtain ⟨c, hB_st, hF, hW⟩ : ∃ c', GrB ct J ad c' b st_7 ∧ Fr c0 c' b 5 ∧ HW D J ad c' (aA J ad s.heap.size) s.heap H locs := ⟨_, hB_st.wF (k := 4) (j := 0) rfl est_7, hF.up (by omega) (by omega), hW⟩
    refine lv_sipush (v := (1000 : Int32)) hx hb dX1_polled_61 (by decide) ?_
    refine lv_iload_n hx hb dX1_polled_64 rfl (lv_at hl 4 rfl) ?_
    refine lv_imul hx hb dX1_polled_65 ?_
    refine lv_iload hx hb dX1_polled_66 (lv_at hl 0 rfl) ?_
    refine lv_iadd hx hb dX1_polled_68 ?_
    obtain ⟨rfl, rfl⟩ := Prod.mk.inj (Option.some.inj h)
    exact k_iret hE hr hlk hW ⟨hB_st, hF⟩ rfl dX1_polled_69
set_option maxHeartbeats 4000000 in
set_option maxRecDepth 100000 in
theorem wX1_polled_2 {p : Program} {l : Launch} {e : Env} {s : State} {m : MethodId} {args : Array Value} {below : List Frame} {meth : Method} {cd : Code} {D : va_G} {ct : Nat → ClassId} {J : List Nat} {ad : Nat → Nat} {c0 : CF} {b : Nat} (hE : ME p s m cd args D ct cX1_polled RX1 5) (hr : meth.sig.returnType = (some .int)) (hlk : meth.locks = false) {x1 : Int32} {b2 : Nat} {sx : (Nat → CS)} (hB_sx : LsB ct J ad c0 b2 sx) (hdis : b2 + 33 ≤ b ∨ b + 5 ≤ b2) {r : Int32} {st9 : CS} : ∀ (n : Nat) (x3 : Int32) (st : CS) (c : CF) (H : Heap) (locs : List Loc) (ls : Array Slot), HW D J ad c (aA J ad s.heap.size) s.heap H locs → GrB ct J ad c b st → Fr c0 c b 5 → lv_has ls 5 [(0, .ref (ad b)), (1, .int x1), (2, .ref (ad b2)), (3, .int x3)] → fX1_polled_2 sx x1 n x3 st = some (r, st9) → W p l e (rr 2 42) s m args below meth cd H locs 0 0 (MQ below (Qi D J ad s.heap.size r (fun c' => GrB ct J ad c' b st9 ∧ Fr c0 c' b 5)) args s 0 0 (aA J ad s.heap.size)) (F0 m 2 ls []) := by
  have hx := hE.1
  have hb := hE.2.1
  intro n
  induction n with
  | zero =>
    intro x3 st c H locs ls hW hB_st hF hl h
    have h2 : (none : Option (Int32 × CS)) = some (r, st9) := h
    cases h2
  | succ n ih =>
    intro x3 st c H locs ls hW hB_st hF hl h
    rw [fX1_polled_2] at h
    refine lv_iload_n hx hb dX1_polled_2 rfl (lv_at hl 3 rfl) ?_
    refine lv_iconst (v := (4 : Int32)) hx hb dX1_polled_3 (by decide) ?_
    refine lv_icmp_ge (tgt := 76) hx hb dX1_polled_4 (by decide) (fun k_1 => ?_) (fun k_1 => ?_)
    · have h := it_t k_1 h
      refine lv_bipush (v := (-5 : Int32)) hx hb dX1_polled_76 (by decide) ?_
      obtain ⟨rfl, rfl⟩ := Prod.mk.inj (Option.some.inj h)
      exact k_iret hE hr hlk hW ⟨hB_st, hF⟩ rfl dX1_polled_78
    · have h := it_f k_1 h
      refine lv_aload_n hx hb dX1_polled_7 rfl (lv_at hl 0 rfl) ?_
      refine k_get (v := .ref (ad (b + 1 + 1))) hE hW hB_st.o hB_st.obj rfl inX1 1 (by decide) q88 rfl dX1_polled_8 ?_
      refine lv_iload_n hx hb dX1_polled_11 rfl (lv_at hl 3 rfl) ?_
      obtain ⟨g_2, h⟩ := zi_e h
      refine k_iald hE hW (hB_st.memA 1 (Nat.le_of_ble_eq_true rfl)) (hB_st.arr 1 rfl) g_2 dX1_polled_12 ?_
      refine lv_iload_n hx hb dX1_polled_13 rfl (lv_at hl 1 rfl) ?_
      refine lv_icmp_ne (tgt := 32) hx hb dX1_polled_14 (by decide) (fun k_3 => ?_) (fun k_3 => ?_)
      · have h := it_f k_3 h
        refine lv_bipush (v := (-5 : Int32)) hx hb dX1_polled_32 (by decide) ?_
        exact wX1_polled_34 hE hr hlk hB_sx hdis ih _ _ _ _ _ _ _ hW hB_st hF (lv_sub hl [0, 1, 2, 3] rfl) h
      · have h := it_t k_3 h
        refine lv_aload_n hx hb dX1_polled_17 rfl (lv_at hl 2 rfl) ?_
        refine lv_iload_n hx hb dX1_polled_18 rfl (lv_at hl 3 rfl) ?_
        obtain ⟨g_8, h⟩ := zi_e h
        have hg_8 := vp_lt g_8
        refine k_aaldR3 (g := fun i => b2 + 1 + 8 * i) hE hW (hB_sx.fr hF (by omega)).o (hB_sx.fr hF (by omega)).out g_8 dX1_polled_19 ?_
        refine lv_aload_n hx hb dX1_polled_20 rfl (lv_at hl 0 rfl) ?_
        refine k_get (v := .ref (ad (b + 1 + 3))) hE hW hB_st.o hB_st.obj rfl inX1 3 (by decide) q91 rfl dX1_polled_21 ?_
        refine lv_iload_n hx hb dX1_polled_24 rfl (lv_at hl 3 rfl) ?_
        obtain ⟨g_9, h⟩ := zi_e h
        refine k_iald hE hW (hB_st.memA 3 (Nat.le_of_ble_eq_true rfl)) (hB_st.arr 3 rfl) g_9 dX1_polled_25 ?_
        obtain ⟨r_10, hr_10, h⟩ := zb_e h
        refine k_callVNi (rest := []) hE hW hl.1 (mX3_atOrBehind ((hB_sx.fr hF (by omega)).log hg_8) hr_10) ((hB_sx.fr hF (by omega)).log hg_8).o ((hB_sx.fr hF (by omega)).log hg_8).obj rfl q671 q453 qs32 q3 q454 hd_X3_atOrBehind.2 ⟨Nat.le_of_ble_eq_true rfl, Nat.le_of_ble_eq_true rfl⟩ ⟨rfl, rfl⟩ rfl (Nat.le_of_ble_eq_true rfl) dX1_polled_26 ⟨Nat.zero_le _, Nat.zero_le _⟩ (fun c1 H locs hP hW => ?_)
        rw [hP] at hW
        refine lv_goto (tgt := 34) hx hb dX1_polled_29 (by decide) ?_
        exact wX1_polled_34 hE hr hlk hB_sx hdis ih _ _ _ _ _ _ _ hW hB_st hF (lv_sub hl [0, 1, 2, 3] rfl) h
set_option maxHeartbeats 4000000 in
set_option maxRecDepth 100000 in
theorem mX1_polled {l : Launch} {D : va_G} {ct : Nat → ClassId} {J : List Nat} {ad : Nat → Nat} {c0 : CF} {a1 : Int32} {b : Nat} {st : CS} (hB_st : GrB ct J ad c0 b st) {b2 : Nat} {sx : (Nat → CS)} (hB_sx : LsB ct J ad c0 b2 sx) (hdis : b2 + 33 ≤ b ∨ b + 5 ≤ b2) {r : Int32} {st9 : CS} (h : fX1_polled  a1 sx st = some (r, st9)) : Mi l D ct J ad yX1_polled cX1_polled 5 (some .int) (rr 2 42) [.ref (ad b), .int a1, .ref (ad b2)] c0 r (fun c' => GrB ct J ad c' b st9 ∧ Fr c0 c' b 5) := by
  refine Mi_of (own := RX1) (by decide) rfl (Nat.le_of_ble_eq_true rfl) (fun p e s m below meth cd hE hr hlk hW ls hl => ?_)
  have hx := hE.1
  have hb := hE.2.1
  have hl : lv_has ls 5 [(0, .ref (ad b)), (1, .int a1), (2, .ref (ad b2))] := hl
  rw [fX1_polled] at h
  obtain ⟨c, hB_st, hF, hW⟩ : ∃ c', GrB ct J ad c' b st ∧ Fr c0 c' b 5 ∧ HW D J ad c' (aA J ad s.heap.size) s.heap s.heap [] := ⟨c0, hB_st, Fr.rf, hW⟩
  refine lv_iconst (v := (0 : Int32)) hx hb dX1_polled_0 (by decide) ?_
  refine lv_istore_n (lv' := [(3, .int (0 : Int32)), (0, .ref (ad b)), (1, .int a1), (2, .ref (ad b2))]) hx hb dX1_polled_1 rfl hl (by decide) rfl (fun ls hl => ?_)
  exact wX1_polled_2 hE hr hlk hB_sx hdis _ _ _ _ _ _ _ hW hB_st hF (lv_sub hl [1, 2, 3, 0] rfl) h
set_option maxHeartbeats 4000000 in
set_option maxRecDepth 100000 in
theorem wX1_freeLogsOfAbsent_2 {p : Program} {l : Launch} {e : Env} {s : State} {m : MethodId} {args : Array Value} {below : List Frame} {meth : Method} {cd : Code} {D : va_G} {ct : Nat → ClassId} {J : List Nat} {ad : Nat → Nat} {c0 : CF} {b : Nat} (hE : ME p s m cd args D ct cX1_freeLogsOfAbsent RX1 2) (hr : meth.sig.returnType = none) (hlk : meth.locks = false) {st9 : CS} : ∀ (n : Nat) (x1 : Int32) (st : CS) (c : CF) (H : Heap) (locs : List Loc) (ls : Array Slot), HW D J ad c (aA J ad s.heap.size) s.heap H locs → GrB ct J ad c b st → Fr c0 c b 5 → lv_has ls 2 [(0, .ref (ad b)), (1, .int x1)] → fX1_freeLogsOfAbsent_2 n x1 st = some st9 → W p l e (rr 0 0) s m args below meth cd H locs 0 0 (MQ below (Qv D J ad s.heap.size (fun c' => GrB ct J ad c' b st9 ∧ Fr c0 c' b 5)) args s 0 0 (aA J ad s.heap.size)) (F0 m 2 ls []) := by
  have hx := hE.1
  have hb := hE.2.1
  intro n
  induction n with
  | zero =>
    intro x1 st c H locs ls hW hB_st hF hl h
    have h2 : (none : Option CS) = some st9 := h
    cases h2
  | succ n ih =>
    intro x1 st c H locs ls hW hB_st hF hl h
    rw [fX1_freeLogsOfAbsent_2] at h
    refine lv_iload_n hx hb dX1_freeLogsOfAbsent_2 rfl (lv_at hl 1 rfl) ?_
    refine lv_iconst (v := (4 : Int32)) hx hb dX1_freeLogsOfAbsent_3 (by decide) ?_
    refine lv_icmp_ge (tgt := 44) hx hb dX1_freeLogsOfAbsent_4 (by decide) (fun k_1 => ?_) (fun k_1 => ?_)
    · have h := it_t k_1 h
      obtain rfl := Option.some.inj h
      exact k_vret hE hr hlk hW ⟨hB_st, hF⟩ dX1_freeLogsOfAbsent_44
    · have h := it_f k_1 h
      refine lv_aload_n hx hb dX1_freeLogsOfAbsent_7 rfl (lv_at hl 0 rfl) ?_
      refine k_get (v := .ref (ad (b + 1 + 1))) hE hW hB_st.o hB_st.obj rfl inX1 1 (by decide) q88 rfl dX1_freeLogsOfAbsent_8 ?_
      refine lv_iload_n hx hb dX1_freeLogsOfAbsent_11 rfl (lv_at hl 1 rfl) ?_
      obtain ⟨g_2, h⟩ := zi_e h
      refine k_iald hE hW (hB_st.memA 1 (Nat.le_of_ble_eq_true rfl)) (hB_st.arr 1 rfl) g_2 dX1_freeLogsOfAbsent_12 ?_
      refine lv_if_lt (tgt := 38) hx hb dX1_freeLogsOfAbsent_13 (by decide) (fun k_3 => ?_) (fun k_3 => ?_)
      · have h := it_t k_3 h
        refine lv_iinc (v := (x1 + (1 : Int32))) (lv' := [(1, .int (x1 + (1 : Int32))), (0, .ref (ad b))]) hx hb dX1_freeLogsOfAbsent_38 hl (k := 1) rfl rfl (by decide) rfl (fun ls hl => ?_)
        refine lv_goto (tgt := 2) hx hb dX1_freeLogsOfAbsent_41 (by decide) ?_
        exact ih _ _ _ _ _ _ hW hB_st hF (lv_sub hl [1, 0] rfl) h
      · have h := it_f k_3 h
        refine lv_aload_n hx hb dX1_freeLogsOfAbsent_16 rfl (lv_at hl 0 rfl) ?_
        refine k_get (v := .ref (ad (b + 1 + 0))) hE hW hB_st.o hB_st.obj rfl inX1 0 (by decide) q86 rfl dX1_freeLogsOfAbsent_17 ?_
        refine lv_aload_n hx hb dX1_freeLogsOfAbsent_20 rfl (lv_at hl 0 rfl) ?_
        refine k_get (v := .ref (ad (b + 1 + 1))) hE hW hB_st.o hB_st.obj rfl inX1 1 (by decide) q88 rfl dX1_freeLogsOfAbsent_21 ?_
        refine lv_iload_n hx hb dX1_freeLogsOfAbsent_24 rfl (lv_at hl 1 rfl) ?_
        obtain ⟨g_4, h⟩ := zi_e h
        refine k_iald hE hW (hB_st.memA 1 (Nat.le_of_ble_eq_true rfl)) (hB_st.arr 1 rfl) g_4 dX1_freeLogsOfAbsent_25 ?_
        obtain ⟨g_5, h⟩ := zi_e h
        refine k_zald hE hW (hB_st.memA 0 (Nat.le_of_ble_eq_true rfl)) (hB_st.arr 0 rfl) g_5 dX1_freeLogsOfAbsent_26 ?_
        refine lv_if_ne (tgt := 38) hx hb dX1_freeLogsOfAbsent_27 (by decide) (fun k_6 => ?_) (fun k_6 => ?_)
        · have h := it_f k_6 h
          refine lv_iinc (v := (x1 + (1 : Int32))) (lv' := [(1, .int (x1 + (1 : Int32))), (0, .ref (ad b))]) hx hb dX1_freeLogsOfAbsent_38 hl (k := 1) rfl rfl (by decide) rfl (fun ls hl => ?_)
          refine lv_goto (tgt := 2) hx hb dX1_freeLogsOfAbsent_41 (by decide) ?_
          exact ih _ _ _ _ _ _ hW hB_st hF (lv_sub hl [1, 0] rfl) h
        · have h := it_t k_6 h
          refine lv_aload_n hx hb dX1_freeLogsOfAbsent_30 rfl (lv_at hl 0 rfl) ?_
          refine k_get (v := .ref (ad (b + 1 + 1))) hE hW hB_st.o hB_st.obj rfl inX1 1 (by decide) q88 rfl dX1_freeLogsOfAbsent_31 ?_
          refine lv_iload_n hx hb dX1_freeLogsOfAbsent_34 rfl (lv_at hl 1 rfl) ?_
          refine lv_bipush (v := (-5 : Int32)) hx hb dX1_freeLogsOfAbsent_35 (by decide) ?_
          obtain ⟨g_7, h⟩ := zi_e h
          obtain ⟨st_8, est_8, h⟩ := zl_e h
          refine k_iast hE hW (hB_st.memA 1 (Nat.le_of_ble_eq_true rfl)) (hB_st.arr 1 rfl) g_7 dX1_freeLogsOfAbsent_37 (fun H locs hW => ?_)
          obtain ⟨c, hB_st, hF, hW⟩ : ∃ c', GrB ct J ad c' b st_8 ∧ Fr c0 c' b 5 ∧ HW D J ad c' (aA J ad s.heap.size) s.heap H locs := ⟨_, hB_st.wA (k := 1) rfl est_8, hF.up (by omega) (by omega), hW⟩
          refine lv_iinc (v := (x1 + (1 : Int32))) (lv' := [(1, .int (x1 + (1 : Int32))), (0, .ref (ad b))]) hx hb dX1_freeLogsOfAbsent_38 hl (k := 1) rfl rfl (by decide) rfl (fun ls hl => ?_)
          refine lv_goto (tgt := 2) hx hb dX1_freeLogsOfAbsent_41 (by decide) ?_
          exact ih _ _ _ _ _ _ hW hB_st hF (lv_sub hl [1, 0] rfl) h
set_option maxHeartbeats 4000000 in
set_option maxRecDepth 100000 in
theorem mX1_freeLogsOfAbsent {l : Launch} {D : va_G} {ct : Nat → ClassId} {J : List Nat} {ad : Nat → Nat} {c0 : CF} {b : Nat} {st : CS} (hB_st : GrB ct J ad c0 b st) {st9 : CS} (h : fX1_freeLogsOfAbsent   st = some st9) : Mv l D ct J ad yX1_freeLogsOfAbsent cX1_freeLogsOfAbsent 2 none (rr 0 0) [.ref (ad b)] c0 (fun c' => GrB ct J ad c' b st9 ∧ Fr c0 c' b 5) := by
  refine Mv_of (own := RX1) (by decide) rfl (Nat.le_of_ble_eq_true rfl) (fun p e s m below meth cd hE hr hlk hW ls hl => ?_)
  have hx := hE.1
  have hb := hE.2.1
  have hl : lv_has ls 2 [(0, .ref (ad b))] := hl
  rw [fX1_freeLogsOfAbsent] at h
  obtain ⟨c, hB_st, hF, hW⟩ : ∃ c', GrB ct J ad c' b st ∧ Fr c0 c' b 5 ∧ HW D J ad c' (aA J ad s.heap.size) s.heap s.heap [] := ⟨c0, hB_st, Fr.rf, hW⟩
  refine lv_iconst (v := (0 : Int32)) hx hb dX1_freeLogsOfAbsent_0 (by decide) ?_
  refine lv_istore_n (lv' := [(1, .int (0 : Int32)), (0, .ref (ad b))]) hx hb dX1_freeLogsOfAbsent_1 rfl hl (by decide) rfl (fun ls hl => ?_)
  exact wX1_freeLogsOfAbsent_2 hE hr hlk _ _ _ _ _ _ _ hW hB_st hF (lv_sub hl [1, 0] rfl) h
set_option maxHeartbeats 4000000 in
set_option maxRecDepth 100000 in
theorem wX1_freeAllButLeast_5 {p : Program} {l : Launch} {e : Env} {s : State} {m : MethodId} {args : Array Value} {below : List Frame} {meth : Method} {cd : Code} {D : va_G} {ct : Nat → ClassId} {J : List Nat} {ad : Nat → Nat} {c0 : CF} {b : Nat} (hE : ME p s m cd args D ct cX1_freeAllButLeast RX1 5) (hr : meth.sig.returnType = none) (hlk : meth.locks = false) {x1 : Int32} {x2 : Int32} {st9 : CS} : ∀ (n : Nat) (x3 : Int32) (x4 : Int32) (st : CS) (c : CF) (H : Heap) (locs : List Loc) (ls : Array Slot), HW D J ad c (aA J ad s.heap.size) s.heap H locs → GrB ct J ad c b st → Fr c0 c b 5 → lv_has ls 5 [(0, .ref (ad b)), (1, .int x1), (2, .int x2), (3, .int x3), (4, .int x4)] → fX1_freeAllButLeast_5 x1 x2 n x3 x4 st = some st9 → W p l e (rr 0 0) s m args below meth cd H locs 0 0 (MQ below (Qv D J ad s.heap.size (fun c' => GrB ct J ad c' b st9 ∧ Fr c0 c' b 5)) args s 0 0 (aA J ad s.heap.size)) (F0 m 5 ls []) := by
  have hx := hE.1
  have hb := hE.2.1
  intro n
  induction n with
  | zero =>
    intro x3 x4 st c H locs ls hW hB_st hF hl h
    have h2 : (none : Option CS) = some st9 := h
    cases h2
  | succ n ih =>
    intro x3 x4 st c H locs ls hW hB_st hF hl h
    rw [fX1_freeAllButLeast_5] at h
    refine lv_iload hx hb dX1_freeAllButLeast_5 (lv_at hl 4 rfl) ?_
    refine lv_iconst (v := (4 : Int32)) hx hb dX1_freeAllButLeast_7 (by decide) ?_
    refine lv_icmp_ge (tgt := 45) hx hb dX1_freeAllButLeast_8 (by decide) (fun k_1 => ?_) (fun k_1 => ?_)
    · have h := it_t k_1 h
      obtain rfl := Option.some.inj h
      exact k_vret hE hr hlk hW ⟨hB_st, hF⟩ dX1_freeAllButLeast_45
    · have h := it_f k_1 h
      refine lv_aload_n hx hb dX1_freeAllButLeast_11 rfl (lv_at hl 0 rfl) ?_
      refine k_get (v := .ref (ad (b + 1 + 1))) hE hW hB_st.o hB_st.obj rfl inX1 1 (by decide) q88 rfl dX1_freeAllButLeast_12 ?_
      refine lv_iload hx hb dX1_freeAllButLeast_15 (lv_at hl 4 rfl) ?_
      obtain ⟨g_2, h⟩ := zi_e h
      refine k_iald hE hW (hB_st.memA 1 (Nat.le_of_ble_eq_true rfl)) (hB_st.arr 1 rfl) g_2 dX1_freeAllButLeast_17 ?_
      refine lv_iload_n hx hb dX1_freeAllButLeast_18 rfl (lv_at hl 1 rfl) ?_
      refine lv_icmp_ne (tgt := 39) hx hb dX1_freeAllButLeast_19 (by decide) (fun k_3 => ?_) (fun k_3 => ?_)
      · have h := it_f k_3 h
        refine lv_iinc (v := (x4 + (1 : Int32))) (lv' := [(4, .int (x4 + (1 : Int32))), (0, .ref (ad b)), (1, .int x1), (2, .int x2), (3, .int x3)]) hx hb dX1_freeAllButLeast_39 hl (k := 4) rfl rfl (by decide) rfl (fun ls hl => ?_)
        refine lv_goto (tgt := 5) hx hb dX1_freeAllButLeast_42 (by decide) ?_
        exact ih _ _ _ _ _ _ _ hW hB_st hF (lv_sub hl [1, 2, 3, 4, 0] rfl) h
      · have h := it_t k_3 h
        refine lv_iinc (v := (x3 + (1 : Int32))) (lv' := [(3, .int (x3 + (1 : Int32))), (0, .ref (ad b)), (1, .int x1), (2, .int x2), (4, .int x4)]) hx hb dX1_freeAllButLeast_22 hl (k := 3) rfl rfl (by decide) rfl (fun ls hl => ?_)
        refine lv_iload_n hx hb dX1_freeAllButLeast_25 rfl (lv_at hl 0 rfl) ?_
        refine lv_iload_n hx hb dX1_freeAllButLeast_26 rfl (lv_at hl 3 rfl) ?_
        refine lv_icmp_le (tgt := 39) hx hb dX1_freeAllButLeast_27 (by decide) (fun k_4 => ?_) (fun k_4 => ?_)
        · have h := it_t k_4 h
          refine lv_iinc (v := (x4 + (1 : Int32))) (lv' := [(4, .int (x4 + (1 : Int32))), (3, .int (x3 + (1 : Int32))), (0, .ref (ad b)), (1, .int x1), (2, .int x2)]) hx hb dX1_freeAllButLeast_39 hl (k := 4) rfl rfl (by decide) rfl (fun ls hl => ?_)
          refine lv_goto (tgt := 5) hx hb dX1_freeAllButLeast_42 (by decide) ?_
          exact ih _ _ _ _ _ _ _ hW hB_st hF (lv_sub hl [2, 3, 4, 1, 0] rfl) h
        · have h := it_f k_4 h
          refine lv_aload_n hx hb dX1_freeAllButLeast_30 rfl (lv_at hl 1 rfl) ?_
          refine k_get (v := .ref (ad (b + 1 + 1))) hE hW hB_st.o hB_st.obj rfl inX1 1 (by decide) q88 rfl dX1_freeAllButLeast_31 ?_
          refine lv_iload hx hb dX1_freeAllButLeast_34 (lv_at hl 4 rfl) ?_
          refine lv_bipush (v := (-5 : Int32)) hx hb dX1_freeAllButLeast_36 (by decide) ?_
          obtain ⟨g_5, h⟩ := zi_e h
          obtain ⟨st_6, est_6, h⟩ := zl_e h
          refine k_iast hE hW (hB_st.memA 1 (Nat.le_of_ble_eq_true rfl)) (hB_st.arr 1 rfl) g_5 dX1_freeAllButLeast_38 (fun H locs hW => ?_)
          obtain ⟨c, hB_st, hF, hW⟩ : ∃ c', GrB ct J ad c' b st_6 ∧ Fr c0 c' b 5 ∧ HW D J ad c' (aA J ad s.heap.size) s.heap H locs := ⟨_, hB_st.wA (k := 1) rfl est_6, hF.up (by omega) (by omega), hW⟩
          refine lv_iinc (v := (x4 + (1 : Int32))) (lv' := [(4, .int (x4 + (1 : Int32))), (3, .int (x3 + (1 : Int32))), (0, .ref (ad b)), (1, .int x1), (2, .int x2)]) hx hb dX1_freeAllButLeast_39 hl (k := 4) rfl rfl (by decide) rfl (fun ls hl => ?_)
          refine lv_goto (tgt := 5) hx hb dX1_freeAllButLeast_42 (by decide) ?_
          exact ih _ _ _ _ _ _ _ hW hB_st hF (lv_sub hl [2, 3, 4, 1, 0] rfl) h
set_option maxHeartbeats 4000000 in
set_option maxRecDepth 100000 in
theorem mX1_freeAllButLeast {l : Launch} {D : va_G} {ct : Nat → ClassId} {J : List Nat} {ad : Nat → Nat} {c0 : CF} {a1 : Int32} {a2 : Int32} {b : Nat} {st : CS} (hB_st : GrB ct J ad c0 b st) {st9 : CS} (h : fX1_freeAllButLeast  a1 a2 st = some st9) : Mv l D ct J ad yX1_freeAllButLeast cX1_freeAllButLeast 5 none (rr 0 0) [.ref (ad b), .int a1, .int a2] c0 (fun c' => GrB ct J ad c' b st9 ∧ Fr c0 c' b 5) := by
  refine Mv_of (own := RX1) (by decide) rfl (Nat.le_of_ble_eq_true rfl) (fun p e s m below meth cd hE hr hlk hW ls hl => ?_)
  have hx := hE.1
  have hb := hE.2.1
  have hl : lv_has ls 5 [(0, .ref (ad b)), (1, .int a1), (2, .int a2)] := hl
  rw [fX1_freeAllButLeast] at h
  obtain ⟨c, hB_st, hF, hW⟩ : ∃ c', GrB ct J ad c' b st ∧ Fr c0 c' b 5 ∧ HW D J ad c' (aA J ad s.heap.size) s.heap s.heap [] := ⟨c0, hB_st, Fr.rf, hW⟩
  refine lv_iconst (v := (0 : Int32)) hx hb dX1_freeAllButLeast_0 (by decide) ?_
  refine lv_istore_n (lv' := [(3, .int (0 : Int32)), (0, .ref (ad b)), (1, .int a1), (2, .int a2)]) hx hb dX1_freeAllButLeast_1 rfl hl (by decide) rfl (fun ls hl => ?_)
  refine lv_iconst (v := (0 : Int32)) hx hb dX1_freeAllButLeast_2 (by decide) ?_
  refine lv_istore (lv' := [(4, .int (0 : Int32)), (3, .int (0 : Int32)), (0, .ref (ad b)), (1, .int a1), (2, .int a2)]) hx hb dX1_freeAllButLeast_3 hl (by decide) rfl (fun ls hl => ?_)
  exact wX1_freeAllButLeast_5 hE hr hlk _ _ _ _ _ _ _ _ hW hB_st hF (lv_sub hl [2, 3, 4, 1, 0] rfl) h
set_option maxHeartbeats 4000000 in
set_option maxRecDepth 100000 in
theorem wX1_freeLogsBeyond_56 {p : Program} {l : Launch} {e : Env} {s : State} {m : MethodId} {args : Array Value} {below : List Frame} {meth : Method} {cd : Code} {D : va_G} {ct : Nat → ClassId} {J : List Nat} {ad : Nat → Nat} {c0 : CF} {b : Nat} (hE : ME p s m cd args D ct cX1_freeLogsBeyond RX1 6) (hr : meth.sig.returnType = none) (hlk : meth.locks = false) {x1 : Int32} {x2 : Int32} {st9 : CS} {K5 : Int32 → Int32 → CS → Option CS} (hK5 : ∀ (x3 : Int32) (x4 : Int32) (st : CS) (c : CF) (H : Heap) (locs : List Loc) (ls : Array Slot), HW D J ad c (aA J ad s.heap.size) s.heap H locs → GrB ct J ad c b st → Fr c0 c b 5 → lv_has ls 6 [(0, .ref (ad b)), (1, .int x1), (2, .int x2), (3, .int x3), (4, .int x4)] → K5 x3 x4 st = some st9 → W p l e (rr 2 44) s m args below meth cd H locs 0 0 (MQ below (Qv D J ad s.heap.size (fun c' => GrB ct J ad c' b st9 ∧ Fr c0 c' b 5)) args s 0 0 (aA J ad s.heap.size)) (F0 m 5 ls [])) : ∀ (x3 : Int32) (x4 : Int32) (y0 : Int32) (y1 : Int32) (st : CS) (c : CF) (H : Heap) (locs : List Loc) (ls : Array Slot), HW D J ad c (aA J ad s.heap.size) s.heap H locs → GrB ct J ad c b st → Fr c0 c b 5 → lv_has ls 6 [(0, .ref (ad b)), (1, .int x1), (2, .int x2), (3, .int x3), (4, .int x4)] → fX1_freeLogsBeyond_56 x1 x2 K5 x3 x4 y0 y1 st = some st9 → W p l e (rr 2 44) s m args below meth cd H locs 0 0 (MQ below (Qv D J ad s.heap.size (fun c' => GrB ct J ad c' b st9 ∧ Fr c0 c' b 5)) args s 0 0 (aA J ad s.heap.size)) (F0 m 56 ls [.int y0, .int y1, .ref (ad b)]) := by
  have hx := hE.1
  have hb := hE.2.1
  intro x3 x4 y0 y1 st c H locs ls hW hB_st hF hl h
  rw [fX1_freeLogsBeyond_56] at h
  obtain ⟨st_7, hst_7, h⟩ := zb_e h
  refine k_callVv (rest := []) hE hW hl.1 (mX1_freeAllButLeast hB_st hst_7) hB_st.o hB_st.obj rfl q643 q645 qs58 q4 q646 hd_X1_freeAllButLeast ⟨Nat.le_of_ble_eq_true rfl, Nat.le_of_ble_eq_true rfl⟩ ⟨rfl, rfl⟩ rfl (Nat.le_of_ble_eq_true rfl) dX1_freeLogsBeyond_56 ⟨Nat.zero_le _, Nat.zero_le _⟩ (fun c1 H locs hP hW => ?_)
  obtain ⟨c, hB_st, hF, hW⟩ : ∃ c', GrB ct J ad c' b st_7 ∧ Fr c0 c' b 5 ∧ HW D J ad c' (aA J ad s.heap.size) s.heap H locs := ⟨c1, hP.1, hF.trans hP.2, hW⟩
  refine lv_iinc (v := (x4 + (1 : Int32))) (lv' := [(4, .int (x4 + (1 : Int32))), (0, .ref (ad b)), (1, .int x1), (2, .int x2), (3, .int x3)]) hx hb dX1_freeLogsBeyond_59 hl (k := 4) rfl rfl (by decide) rfl (fun ls hl => ?_)
  refine lv_goto (tgt := 5) hx hb dX1_freeLogsBeyond_62 (by decide) ?_
  exact hK5 _ _ _ _ _ _ _ hW hB_st hF (lv_sub hl [1, 2, 3, 4, 0] rfl) h
set_option maxHeartbeats 4000000 in
set_option maxRecDepth 100000 in
theorem wX1_freeLogsBeyond_41 {p : Program} {l : Launch} {e : Env} {s : State} {m : MethodId} {args : Array Value} {below : List Frame} {meth : Method} {cd : Code} {D : va_G} {ct : Nat → ClassId} {J : List Nat} {ad : Nat → Nat} {c0 : CF} {b : Nat} (hE : ME p s m cd args D ct cX1_freeLogsBeyond RX1 6) (hr : meth.sig.returnType = none) (hlk : meth.locks = false) {x1 : Int32} {x2 : Int32} {st9 : CS} {K5 : Int32 → Int32 → CS → Option CS} (hK5 : ∀ (x3 : Int32) (x4 : Int32) (st : CS) (c : CF) (H : Heap) (locs : List Loc) (ls : Array Slot), HW D J ad c (aA J ad s.heap.size) s.heap H locs → GrB ct J ad c b st → Fr c0 c b 5 → lv_has ls 6 [(0, .ref (ad b)), (1, .int x1), (2, .int x2), (3, .int x3), (4, .int x4)] → K5 x3 x4 st = some st9 → W p l e (rr 2 44) s m args below meth cd H locs 0 0 (MQ below (Qv D J ad s.heap.size (fun c' => GrB ct J ad c' b st9 ∧ Fr c0 c' b 5)) args s 0 0 (aA J ad s.heap.size)) (F0 m 5 ls [])) : ∀ (x3 : Int32) (x4 : Int32) (x5 : Int32) (st : CS) (c : CF) (H : Heap) (locs : List Loc) (ls : Array Slot), HW D J ad c (aA J ad s.heap.size) s.heap H locs → GrB ct J ad c b st → Fr c0 c b 5 → lv_has ls 6 [(0, .ref (ad b)), (1, .int x1), (2, .int x2), (3, .int x3), (4, .int x4), (5, .int x5)] → fX1_freeLogsBeyond_41 x1 x2 K5 x3 x4 x5 st = some st9 → W p l e (rr 2 44) s m args below meth cd H locs 0 0 (MQ below (Qv D J ad s.heap.size (fun c' => GrB ct J ad c' b st9 ∧ Fr c0 c' b 5)) args s 0 0 (aA J ad s.heap.size)) (F0 m 41 ls []) := by
  have hx := hE.1
  have hb := hE.2.1
  intro x3 x4 x5 st c H locs ls hW hB_st hF hl h
  rw [fX1_freeLogsBeyond_41] at h
  refine lv_aload_n hx hb dX1_freeLogsBeyond_41 rfl (lv_at hl 0 rfl) ?_
  refine lv_iload hx hb dX1_freeLogsBeyond_42 (lv_at hl 4 rfl) ?_
  refine lv_iload hx hb dX1_freeLogsBeyond_44 (lv_at hl 5 rfl) ?_
  refine lv_if_eq (tgt := 55) hx hb dX1_freeLogsBeyond_46 (by decide) (fun k_6 => ?_) (fun k_6 => ?_)
  · have h := it_t k_6 h
    refine lv_iload_n hx hb dX1_freeLogsBeyond_55 rfl (lv_at hl 1 rfl) ?_
    exact wX1_freeLogsBeyond_56 hE hr hlk hK5 _ _ _ _ _ _ _ _ _ hW hB_st hF (lv_sub hl [0, 1, 2, 3, 4] rfl) h
  · have h := it_f k_6 h
    refine lv_iload_n hx hb dX1_freeLogsBeyond_49 rfl (lv_at hl 1 rfl) ?_
    refine lv_iconst (v := (1 : Int32)) hx hb dX1_freeLogsBeyond_50 (by decide) ?_
    refine lv_iadd hx hb dX1_freeLogsBeyond_51 ?_
    refine lv_goto (tgt := 56) hx hb dX1_freeLogsBeyond_52 (by decide) ?_
    exact wX1_freeLogsBeyond_56 hE hr hlk hK5 _ _ _ _ _ _ _ _ _ hW hB_st hF (lv_sub hl [0, 1, 2, 3, 4] rfl) h
set_option maxHeartbeats 4000000 in
set_option maxRecDepth 100000 in
theorem wX1_freeLogsBeyond_31 {p : Program} {l : Launch} {e : Env} {s : State} {m : MethodId} {args : Array Value} {below : List Frame} {meth : Method} {cd : Code} {D : va_G} {ct : Nat → ClassId} {J : List Nat} {ad : Nat → Nat} {c0 : CF} {b : Nat} (hE : ME p s m cd args D ct cX1_freeLogsBeyond RX1 6) (hr : meth.sig.returnType = none) (hlk : meth.locks = false) {x1 : Int32} {x2 : Int32} {st9 : CS} {K5 : Int32 → Int32 → CS → Option CS} (hK5 : ∀ (x3 : Int32) (x4 : Int32) (st : CS) (c : CF) (H : Heap) (locs : List Loc) (ls : Array Slot), HW D J ad c (aA J ad s.heap.size) s.heap H locs → GrB ct J ad c b st → Fr c0 c b 5 → lv_has ls 6 [(0, .ref (ad b)), (1, .int x1), (2, .int x2), (3, .int x3), (4, .int x4)] → K5 x3 x4 st = some st9 → W p l e (rr 2 44) s m args below meth cd H locs 0 0 (MQ below (Qv D J ad s.heap.size (fun c' => GrB ct J ad c' b st9 ∧ Fr c0 c' b 5)) args s 0 0 (aA J ad s.heap.size)) (F0 m 5 ls [])) : ∀ (x3 : Int32) (x4 : Int32) (y0 : Int32) (st : CS) (c : CF) (H : Heap) (locs : List Loc) (ls : Array Slot), HW D J ad c (aA J ad s.heap.size) s.heap H locs → GrB ct J ad c b st → Fr c0 c b 5 → lv_has ls 6 [(0, .ref (ad b)), (1, .int x1), (2, .int x2), (3, .int x3), (4, .int x4)] → fX1_freeLogsBeyond_31 x1 x2 K5 x3 x4 y0 st = some st9 → W p l e (rr 2 44) s m args below meth cd H locs 0 0 (MQ below (Qv D J ad s.heap.size (fun c' => GrB ct J ad c' b st9 ∧ Fr c0 c' b 5)) args s 0 0 (aA J ad s.heap.size)) (F0 m 31 ls [.int y0]) := by
  have hx := hE.1
  have hb := hE.2.1
  intro x3 x4 y0 st c H locs ls hW hB_st hF hl h
  rw [fX1_freeLogsBeyond_31] at h
  refine lv_istore (lv' := [(5, .int y0), (0, .ref (ad b)), (1, .int x1), (2, .int x2), (3, .int x3), (4, .int x4)]) hx hb dX1_freeLogsBeyond_31 hl (by decide) rfl (fun ls hl => ?_)
  refine lv_iload hx hb dX1_freeLogsBeyond_33 (lv_at hl 0 rfl) ?_
  refine lv_if_eq (tgt := 41) hx hb dX1_freeLogsBeyond_35 (by decide) (fun k_5 => ?_) (fun k_5 => ?_)
  · have h := it_t k_5 h
    exact wX1_freeLogsBeyond_41 hE hr hlk hK5 _ _ _ _ _ _ _ _ hW hB_st hF (lv_sub hl [1, 2, 3, 4, 5, 0] rfl) h
  · have h := it_f k_5 h
    refine lv_iinc (v := (x3 + (1 : Int32))) (lv' := [(3, .int (x3 + (1 : Int32))), (5, .int y0), (0, .ref (ad b)), (1, .int x1), (2, .int x2), (4, .int x4)]) hx hb dX1_freeLogsBeyond_38 hl (k := 4) rfl rfl (by decide) rfl (fun ls hl => ?_)
    exact wX1_freeLogsBeyond_41 hE hr hlk hK5 _ _ _ _ _ _ _ _ hW hB_st hF (lv_sub hl [2, 3, 4, 0, 5, 1] rfl) h
set_option maxHeartbeats 4000000 in
set_option maxRecDepth 100000 in
theorem wX1_freeLogsBeyond_5 {p : Program} {l : Launch} {e : Env} {s : State} {m : MethodId} {args : Array Value} {below : List Frame} {meth : Method} {cd : Code} {D : va_G} {ct : Nat → ClassId} {J : List Nat} {ad : Nat → Nat} {c0 : CF} {b : Nat} (hE : ME p s m cd args D ct cX1_freeLogsBeyond RX1 6) (hr : meth.sig.returnType = none) (hlk : meth.locks = false) {x1 : Int32} {x2 : Int32} {st9 : CS} : ∀ (n : Nat) (x3 : Int32) (x4 : Int32) (st : CS) (c : CF) (H : Heap) (locs : List Loc) (ls : Array Slot), HW D J ad c (aA J ad s.heap.size) s.heap H locs → GrB ct J ad c b st → Fr c0 c b 5 → lv_has ls 6 [(0, .ref (ad b)), (1, .int x1), (2, .int x2), (3, .int x3), (4, .int x4)] → fX1_freeLogsBeyond_5 x1 x2 n x3 x4 st = some st9 → W p l e (rr 2 44) s m args below meth cd H locs 0 0 (MQ below (Qv D J ad s.heap.size (fun c' => GrB ct J ad c' b st9 ∧ Fr c0 c' b 5)) args s 0 0 (aA J ad s.heap.size)) (F0 m 5 ls []) := by
  have hx := hE.1
  have hb := hE.2.1
  intro n
  induction n with
  | zero =>
    intro x3 x4 st c H locs ls hW hB_st hF hl h
    have h2 : (none : Option CS) = some st9 := h
    cases h2
  | succ n ih =>
    intro x3 x4 st c H locs ls hW hB_st hF hl h
    rw [fX1_freeLogsBeyond_5] at h
    refine lv_iload hx hb dX1_freeLogsBeyond_5 (lv_at hl 4 rfl) ?_
    refine lv_iconst (v := (4 : Int32)) hx hb dX1_freeLogsBeyond_7 (by decide) ?_
    refine lv_icmp_ge (tgt := 65) hx hb dX1_freeLogsBeyond_8 (by decide) (fun k_1 => ?_) (fun k_1 => ?_)
    · have h := it_t k_1 h
      obtain rfl := Option.some.inj h
      exact k_vret hE hr hlk hW ⟨hB_st, hF⟩ dX1_freeLogsBeyond_65
    · have h := it_f k_1 h
      refine lv_aload_n hx hb dX1_freeLogsBeyond_11 rfl (lv_at hl 0 rfl) ?_
      refine lv_iload hx hb dX1_freeLogsBeyond_12 (lv_at hl 4 rfl) ?_
      obtain ⟨r_2, hr_2, h⟩ := zb_e h
      refine k_callVi (rest := []) hE hW hl.1 (mX1_logsOf hB_st hr_2) hB_st.o hB_st.obj rfl q635 q637 qs56 q4 q638 hd_X1_logsOf ⟨Nat.le_of_ble_eq_true rfl, Nat.le_of_ble_eq_true rfl⟩ ⟨rfl, rfl⟩ rfl (Nat.le_of_ble_eq_true rfl) dX1_freeLogsBeyond_14 ⟨Nat.zero_le _, Nat.zero_le _⟩ (fun c1 H locs hP hW => ?_)
      rw [hP] at hW
      refine lv_iload_n hx hb dX1_freeLogsBeyond_17 rfl (lv_at hl 1 rfl) ?_
      refine lv_icmp_le (tgt := 59) hx hb dX1_freeLogsBeyond_18 (by decide) (fun k_3 => ?_) (fun k_3 => ?_)
      · have h := it_t k_3 h
        refine lv_iinc (v := (x4 + (1 : Int32))) (lv' := [(4, .int (x4 + (1 : Int32))), (0, .ref (ad b)), (1, .int x1), (2, .int x2), (3, .int x3)]) hx hb dX1_freeLogsBeyond_59 hl (k := 4) rfl rfl (by decide) rfl (fun ls hl => ?_)
        refine lv_goto (tgt := 5) hx hb dX1_freeLogsBeyond_62 (by decide) ?_
        exact ih _ _ _ _ _ _ _ hW hB_st hF (lv_sub hl [1, 2, 3, 4, 0] rfl) h
      · have h := it_f k_3 h
        refine lv_iload_n hx hb dX1_freeLogsBeyond_21 rfl (lv_at hl 3 rfl) ?_
        refine lv_iload_n hx hb dX1_freeLogsBeyond_22 rfl (lv_at hl 2 rfl) ?_
        refine lv_icmp_ge (tgt := 30) hx hb dX1_freeLogsBeyond_23 (by decide) (fun k_4 => ?_) (fun k_4 => ?_)
        · have h := it_t k_4 h
          refine lv_iconst (v := (0 : Int32)) hx hb dX1_freeLogsBeyond_30 (by decide) ?_
          exact wX1_freeLogsBeyond_31 hE hr hlk ih _ _ _ _ _ _ _ _ hW hB_st hF (lv_sub hl [0, 1, 2, 3, 4] rfl) h
        · have h := it_f k_4 h
          refine lv_iconst (v := (1 : Int32)) hx hb dX1_freeLogsBeyond_26 (by decide) ?_
          refine lv_goto (tgt := 31) hx hb dX1_freeLogsBeyond_27 (by decide) ?_
          exact wX1_freeLogsBeyond_31 hE hr hlk ih _ _ _ _ _ _ _ _ hW hB_st hF (lv_sub hl [0, 1, 2, 3, 4] rfl) h
set_option maxHeartbeats 4000000 in
set_option maxRecDepth 100000 in
theorem mX1_freeLogsBeyond {l : Launch} {D : va_G} {ct : Nat → ClassId} {J : List Nat} {ad : Nat → Nat} {c0 : CF} {a1 : Int32} {a2 : Int32} {b : Nat} {st : CS} (hB_st : GrB ct J ad c0 b st) {st9 : CS} (h : fX1_freeLogsBeyond  a1 a2 st = some st9) : Mv l D ct J ad yX1_freeLogsBeyond cX1_freeLogsBeyond 6 none (rr 2 44) [.ref (ad b), .int a1, .int a2] c0 (fun c' => GrB ct J ad c' b st9 ∧ Fr c0 c' b 5) := by
  refine Mv_of (own := RX1) (by decide) rfl (Nat.le_of_ble_eq_true rfl) (fun p e s m below meth cd hE hr hlk hW ls hl => ?_)
  have hx := hE.1
  have hb := hE.2.1
  have hl : lv_has ls 6 [(0, .ref (ad b)), (1, .int a1), (2, .int a2)] := hl
  rw [fX1_freeLogsBeyond] at h
  obtain ⟨c, hB_st, hF, hW⟩ : ∃ c', GrB ct J ad c' b st ∧ Fr c0 c' b 5 ∧ HW D J ad c' (aA J ad s.heap.size) s.heap s.heap [] := ⟨c0, hB_st, Fr.rf, hW⟩
  refine lv_iconst (v := (0 : Int32)) hx hb dX1_freeLogsBeyond_0 (by decide) ?_
  refine lv_istore_n (lv' := [(3, .int (0 : Int32)), (0, .ref (ad b)), (1, .int a1), (2, .int a2)]) hx hb dX1_freeLogsBeyond_1 rfl hl (by decide) rfl (fun ls hl => ?_)
  refine lv_iconst (v := (0 : Int32)) hx hb dX1_freeLogsBeyond_2 (by decide) ?_
  refine lv_istore (lv' := [(4, .int (0 : Int32)), (3, .int (0 : Int32)), (0, .ref (ad b)), (1, .int a1), (2, .int a2)]) hx hb dX1_freeLogsBeyond_3 hl (by decide) rfl (fun ls hl => ?_)
  exact wX1_freeLogsBeyond_5 hE hr hlk _ _ _ _ _ _ _ _ hW hB_st hF (lv_sub hl [2, 3, 4, 1, 0] rfl) h
set_option maxHeartbeats 4000000 in
set_option maxRecDepth 100000 in
theorem wX1_leastLaden_5 {p : Program} {l : Launch} {e : Env} {s : State} {m : MethodId} {args : Array Value} {below : List Frame} {meth : Method} {cd : Code} {D : va_G} {ct : Nat → ClassId} {J : List Nat} {ad : Nat → Nat} {c0 : CF} {b : Nat} (hE : ME p s m cd args D ct cX1_leastLaden RX1 3) (hr : meth.sig.returnType = (some .int)) (hlk : meth.locks = false) {st : CS} (hB_st : GrB ct J ad c0 b st) {r : Int32} : ∀ (n : Nat) (x1 : Int32) (x2 : Int32) (H : Heap) (locs : List Loc) (ls : Array Slot), HW D J ad c0 (aA J ad s.heap.size) s.heap H locs → lv_has ls 3 [(0, .ref (ad b)), (1, .int x1), (2, .int x2)] → fX1_leastLaden_5 st n x1 x2 = some r → W p l e (rr 2 44) s m args below meth cd H locs 0 0 (MQ below (Qi D J ad s.heap.size r (fun c' => c' = c0)) args s 0 0 (aA J ad s.heap.size)) (F0 m 5 ls []) := by
  have hx := hE.1
  have hb := hE.2.1
  intro n
  induction n with
  | zero =>
    intro x1 x2 H locs ls hW hl h
    have h2 : (none : Option Int32) = some r := h
    cases h2
  | succ n ih =>
    intro x1 x2 H locs ls hW hl h
    rw [fX1_leastLaden_5] at h
    refine lv_iload_n hx hb dX1_leastLaden_5 rfl (lv_at hl 2 rfl) ?_
    refine lv_iconst (v := (4 : Int32)) hx hb dX1_leastLaden_6 (by decide) ?_
    refine lv_icmp_ge (tgt := 46) hx hb dX1_leastLaden_7 (by decide) (fun k_1 => ?_) (fun k_1 => ?_)
    · have h := it_t k_1 h
      refine lv_iload_n hx hb dX1_leastLaden_46 rfl (lv_at hl 1 rfl) ?_
      obtain rfl := Option.some.inj h
      exact k_iret hE hr hlk hW rfl rfl dX1_leastLaden_47
    · have h := it_f k_1 h
      refine lv_aload_n hx hb dX1_leastLaden_10 rfl (lv_at hl 0 rfl) ?_
      refine k_get (v := .ref (ad (b + 1 + 0))) hE hW hB_st.o hB_st.obj rfl inX1 0 (by decide) q86 rfl dX1_leastLaden_11 ?_
      refine lv_iload_n hx hb dX1_leastLaden_14 rfl (lv_at hl 2 rfl) ?_
      obtain ⟨g_2, h⟩ := zi_e h
      refine k_zald hE hW (hB_st.memA 0 (Nat.le_of_ble_eq_true rfl)) (hB_st.arr 0 rfl) g_2 dX1_leastLaden_15 ?_
      refine lv_if_eq (tgt := 40) hx hb dX1_leastLaden_16 (by decide) (fun k_3 => ?_) (fun k_3 => ?_)
      · have h := it_t k_3 h
        refine lv_iinc (v := (x2 + (1 : Int32))) (lv' := [(2, .int (x2 + (1 : Int32))), (0, .ref (ad b)), (1, .int x1)]) hx hb dX1_leastLaden_40 hl (k := 2) rfl rfl (by decide) rfl (fun ls hl => ?_)
        refine lv_goto (tgt := 5) hx hb dX1_leastLaden_43 (by decide) ?_
        exact ih _ _ _ _ _ hW (lv_sub hl [1, 2, 0] rfl) h
      · have h := it_f k_3 h
        refine lv_iload_n hx hb dX1_leastLaden_19 rfl (lv_at hl 1 rfl) ?_
        refine lv_bipush (v := (-5 : Int32)) hx hb dX1_leastLaden_20 (by decide) ?_
        refine lv_icmp_eq (tgt := 38) hx hb dX1_leastLaden_22 (by decide) (fun k_4 => ?_) (fun k_4 => ?_)
        · have h := it_t k_4 h
          refine lv_iload_n hx hb dX1_leastLaden_38 rfl (lv_at hl 2 rfl) ?_
          refine lv_istore_n (lv' := [(1, .int x2), (0, .ref (ad b)), (2, .int x2)]) hx hb dX1_leastLaden_39 rfl hl (by decide) rfl (fun ls hl => ?_)
          refine lv_iinc (v := (x2 + (1 : Int32))) (lv' := [(2, .int (x2 + (1 : Int32))), (1, .int x2), (0, .ref (ad b))]) hx hb dX1_leastLaden_40 hl (k := 2) rfl rfl (by decide) rfl (fun ls hl => ?_)
          refine lv_goto (tgt := 5) hx hb dX1_leastLaden_43 (by decide) ?_
          exact ih _ _ _ _ _ hW (lv_sub hl [2, 1, 0] rfl) h
        · have h := it_f k_4 h
          refine lv_aload_n hx hb dX1_leastLaden_25 rfl (lv_at hl 0 rfl) ?_
          refine lv_iload_n hx hb dX1_leastLaden_26 rfl (lv_at hl 2 rfl) ?_
          obtain ⟨r_5, hr_5, h⟩ := zb_e h
          refine k_callVi (rest := []) hE hW hl.1 (mX1_logsOf hB_st hr_5) hB_st.o hB_st.obj rfl q635 q637 qs56 q4 q638 hd_X1_logsOf ⟨Nat.le_of_ble_eq_true rfl, Nat.le_of_ble_eq_true rfl⟩ ⟨rfl, rfl⟩ rfl (Nat.le_of_ble_eq_true rfl) dX1_leastLaden_27 ⟨Nat.zero_le _, Nat.zero_le _⟩ (fun c1 H locs hP hW => ?_)
          rw [hP] at hW
          refine lv_aload_n hx hb dX1_leastLaden_30 rfl (lv_at hl 0 rfl) ?_
          refine lv_iload_n hx hb dX1_leastLaden_31 rfl (lv_at hl 1 rfl) ?_
          obtain ⟨r_6, hr_6, h⟩ := zb_e h
          refine k_callVi (rest := [.int r_5]) hE hW hl.1 (mX1_logsOf hB_st hr_6) hB_st.o hB_st.obj rfl q635 q637 qs56 q4 q638 hd_X1_logsOf ⟨Nat.le_of_ble_eq_true rfl, Nat.le_of_ble_eq_true rfl⟩ ⟨rfl, rfl⟩ rfl (Nat.le_of_ble_eq_true rfl) dX1_leastLaden_32 ⟨Nat.zero_le _, Nat.zero_le _⟩ (fun c1 H locs hP hW => ?_)
          rw [hP] at hW
          refine lv_icmp_ge (tgt := 40) hx hb dX1_leastLaden_35 (by decide) (fun k_7 => ?_) (fun k_7 => ?_)
          · have h := it_t k_7 h
            refine lv_iinc (v := (x2 + (1 : Int32))) (lv' := [(2, .int (x2 + (1 : Int32))), (0, .ref (ad b)), (1, .int x1)]) hx hb dX1_leastLaden_40 hl (k := 2) rfl rfl (by decide) rfl (fun ls hl => ?_)
            refine lv_goto (tgt := 5) hx hb dX1_leastLaden_43 (by decide) ?_
            exact ih _ _ _ _ _ hW (lv_sub hl [1, 2, 0] rfl) h
          · have h := it_f k_7 h
            refine lv_iload_n hx hb dX1_leastLaden_38 rfl (lv_at hl 2 rfl) ?_
            refine lv_istore_n (lv' := [(1, .int x2), (0, .ref (ad b)), (2, .int x2)]) hx hb dX1_leastLaden_39 rfl hl (by decide) rfl (fun ls hl => ?_)
            refine lv_iinc (v := (x2 + (1 : Int32))) (lv' := [(2, .int (x2 + (1 : Int32))), (1, .int x2), (0, .ref (ad b))]) hx hb dX1_leastLaden_40 hl (k := 2) rfl rfl (by decide) rfl (fun ls hl => ?_)
            refine lv_goto (tgt := 5) hx hb dX1_leastLaden_43 (by decide) ?_
            exact ih _ _ _ _ _ hW (lv_sub hl [2, 1, 0] rfl) h
set_option maxHeartbeats 4000000 in
set_option maxRecDepth 100000 in
theorem mX1_leastLaden {l : Launch} {D : va_G} {ct : Nat → ClassId} {J : List Nat} {ad : Nat → Nat} {c0 : CF} {b : Nat} {st : CS} (hB_st : GrB ct J ad c0 b st) {r : Int32} (h : fX1_leastLaden   st = some r) : Mi l D ct J ad yX1_leastLaden cX1_leastLaden 3 (some .int) (rr 2 44) [.ref (ad b)] c0 r (fun c' => c' = c0) := by
  refine Mi_of (own := RX1) (by decide) rfl (Nat.le_of_ble_eq_true rfl) (fun p e s m below meth cd hE hr hlk hW ls hl => ?_)
  have hx := hE.1
  have hb := hE.2.1
  have hl : lv_has ls 3 [(0, .ref (ad b))] := hl
  rw [fX1_leastLaden] at h
  refine lv_bipush (v := (-5 : Int32)) hx hb dX1_leastLaden_0 (by decide) ?_
  refine lv_istore_n (lv' := [(1, .int (-5 : Int32)), (0, .ref (ad b))]) hx hb dX1_leastLaden_2 rfl hl (by decide) rfl (fun ls hl => ?_)
  refine lv_iconst (v := (0 : Int32)) hx hb dX1_leastLaden_3 (by decide) ?_
  refine lv_istore_n (lv' := [(2, .int (0 : Int32)), (1, .int (-5 : Int32)), (0, .ref (ad b))]) hx hb dX1_leastLaden_4 rfl hl (by decide) rfl (fun ls hl => ?_)
  exact wX1_leastLaden_5 hE hr hlk hB_st _ _ _ _ _ _ hW (lv_sub hl [2, 1, 0] rfl) h
set_option maxHeartbeats 4000000 in
set_option maxRecDepth 100000 in
theorem wX1_giveFreeLogs_2 {p : Program} {l : Launch} {e : Env} {s : State} {m : MethodId} {args : Array Value} {below : List Frame} {meth : Method} {cd : Code} {D : va_G} {ct : Nat → ClassId} {J : List Nat} {ad : Nat → Nat} {c0 : CF} {b : Nat} (hE : ME p s m cd args D ct cX1_giveFreeLogs RX1 2) (hr : meth.sig.returnType = none) (hlk : meth.locks = false) {st9 : CS} : ∀ (n : Nat) (x1 : Int32) (st : CS) (c : CF) (H : Heap) (locs : List Loc) (ls : Array Slot), HW D J ad c (aA J ad s.heap.size) s.heap H locs → GrB ct J ad c b st → Fr c0 c b 5 → lv_has ls 2 [(0, .ref (ad b)), (1, .int x1)] → fX1_giveFreeLogs_2 n x1 st = some st9 → W p l e (rr 3 66) s m args below meth cd H locs 0 0 (MQ below (Qv D J ad s.heap.size (fun c' => GrB ct J ad c' b st9 ∧ Fr c0 c' b 5)) args s 0 0 (aA J ad s.heap.size)) (F0 m 2 ls []) := by
  have hx := hE.1
  have hb := hE.2.1
  intro n
  induction n with
  | zero =>
    intro x1 st c H locs ls hW hB_st hF hl h
    have h2 : (none : Option CS) = some st9 := h
    cases h2
  | succ n ih =>
    intro x1 st c H locs ls hW hB_st hF hl h
    rw [fX1_giveFreeLogs_2] at h
    refine lv_iload_n hx hb dX1_giveFreeLogs_2 rfl (lv_at hl 1 rfl) ?_
    refine lv_iconst (v := (4 : Int32)) hx hb dX1_giveFreeLogs_3 (by decide) ?_
    refine lv_icmp_ge (tgt := 34) hx hb dX1_giveFreeLogs_4 (by decide) (fun k_1 => ?_) (fun k_1 => ?_)
    · have h := it_t k_1 h
      obtain rfl := Option.some.inj h
      exact k_vret hE hr hlk hW ⟨hB_st, hF⟩ dX1_giveFreeLogs_34
    · have h := it_f k_1 h
      refine lv_aload_n hx hb dX1_giveFreeLogs_7 rfl (lv_at hl 0 rfl) ?_
      refine k_get (v := .ref (ad (b + 1 + 1))) hE hW hB_st.o hB_st.obj rfl inX1 1 (by decide) q88 rfl dX1_giveFreeLogs_8 ?_
      refine lv_iload_n hx hb dX1_giveFreeLogs_11 rfl (lv_at hl 1 rfl) ?_
      obtain ⟨g_2, h⟩ := zi_e h
      refine k_iald hE hW (hB_st.memA 1 (Nat.le_of_ble_eq_true rfl)) (hB_st.arr 1 rfl) g_2 dX1_giveFreeLogs_12 ?_
      refine lv_bipush (v := (-5 : Int32)) hx hb dX1_giveFreeLogs_13 (by decide) ?_
      refine lv_icmp_ne (tgt := 28) hx hb dX1_giveFreeLogs_15 (by decide) (fun k_3 => ?_) (fun k_3 => ?_)
      · have h := it_f k_3 h
        refine lv_iinc (v := (x1 + (1 : Int32))) (lv' := [(1, .int (x1 + (1 : Int32))), (0, .ref (ad b))]) hx hb dX1_giveFreeLogs_28 hl (k := 1) rfl rfl (by decide) rfl (fun ls hl => ?_)
        refine lv_goto (tgt := 2) hx hb dX1_giveFreeLogs_31 (by decide) ?_
        exact ih _ _ _ _ _ _ hW hB_st hF (lv_sub hl [1, 0] rfl) h
      · have h := it_t k_3 h
        refine lv_aload_n hx hb dX1_giveFreeLogs_18 rfl (lv_at hl 0 rfl) ?_
        refine k_get (v := .ref (ad (b + 1 + 1))) hE hW hB_st.o hB_st.obj rfl inX1 1 (by decide) q88 rfl dX1_giveFreeLogs_19 ?_
        refine lv_iload_n hx hb dX1_giveFreeLogs_22 rfl (lv_at hl 1 rfl) ?_
        refine lv_aload_n hx hb dX1_giveFreeLogs_23 rfl (lv_at hl 0 rfl) ?_
        obtain ⟨r_4, hr_4, h⟩ := zb_e h
        refine k_callVi (rest := [.int x1, .ref (ad (b + 1 + 1))]) hE hW hl.1 (mX1_leastLaden hB_st hr_4) hB_st.o hB_st.obj rfl q651 q653 qs60 q4 q654 hd_X1_leastLaden ⟨Nat.le_of_ble_eq_true rfl, Nat.le_of_ble_eq_true rfl⟩ ⟨rfl, rfl⟩ rfl (Nat.le_of_ble_eq_true rfl) dX1_giveFreeLogs_24 ⟨Nat.zero_le _, Nat.zero_le _⟩ (fun c1 H locs hP hW => ?_)
        rw [hP] at hW
        obtain ⟨g_5, h⟩ := zi_e h
        obtain ⟨st_6, est_6, h⟩ := zl_e h
        refine k_iast hE hW (hB_st.memA 1 (Nat.le_of_ble_eq_true rfl)) (hB_st.arr 1 rfl) g_5 dX1_giveFreeLogs_27 (fun H locs hW => ?_)
        obtain ⟨c, hB_st, hF, hW⟩ : ∃ c', GrB ct J ad c' b st_6 ∧ Fr c0 c' b 5 ∧ HW D J ad c' (aA J ad s.heap.size) s.heap H locs := ⟨_, hB_st.wA (k := 1) rfl est_6, hF.up (by omega) (by omega), hW⟩
        refine lv_iinc (v := (x1 + (1 : Int32))) (lv' := [(1, .int (x1 + (1 : Int32))), (0, .ref (ad b))]) hx hb dX1_giveFreeLogs_28 hl (k := 1) rfl rfl (by decide) rfl (fun ls hl => ?_)
        refine lv_goto (tgt := 2) hx hb dX1_giveFreeLogs_31 (by decide) ?_
        exact ih _ _ _ _ _ _ hW hB_st hF (lv_sub hl [1, 0] rfl) h
set_option maxHeartbeats 4000000 in
set_option maxRecDepth 100000 in
theorem mX1_giveFreeLogs {l : Launch} {D : va_G} {ct : Nat → ClassId} {J : List Nat} {ad : Nat → Nat} {c0 : CF} {b : Nat} {st : CS} (hB_st : GrB ct J ad c0 b st) {st9 : CS} (h : fX1_giveFreeLogs   st = some st9) : Mv l D ct J ad yX1_giveFreeLogs cX1_giveFreeLogs 2 none (rr 3 66) [.ref (ad b)] c0 (fun c' => GrB ct J ad c' b st9 ∧ Fr c0 c' b 5) := by
  refine Mv_of (own := RX1) (by decide) rfl (Nat.le_of_ble_eq_true rfl) (fun p e s m below meth cd hE hr hlk hW ls hl => ?_)
  have hx := hE.1
  have hb := hE.2.1
  have hl : lv_has ls 2 [(0, .ref (ad b))] := hl
  rw [fX1_giveFreeLogs] at h
  obtain ⟨c, hB_st, hF, hW⟩ : ∃ c', GrB ct J ad c' b st ∧ Fr c0 c' b 5 ∧ HW D J ad c' (aA J ad s.heap.size) s.heap s.heap [] := ⟨c0, hB_st, Fr.rf, hW⟩
  refine lv_iconst (v := (0 : Int32)) hx hb dX1_giveFreeLogs_0 (by decide) ?_
  refine lv_istore_n (lv' := [(1, .int (0 : Int32)), (0, .ref (ad b))]) hx hb dX1_giveFreeLogs_1 rfl hl (by decide) rfl (fun ls hl => ?_)
  exact wX1_giveFreeLogs_2 hE hr hlk _ _ _ _ _ _ _ hW hB_st hF (lv_sub hl [1, 0] rfl) h
set_option maxHeartbeats 4000000 in
set_option maxRecDepth 100000 in
theorem wX1_moves_4 {p : Program} {l : Launch} {e : Env} {s : State} {m : MethodId} {args : Array Value} {below : List Frame} {meth : Method} {cd : Code} {D : va_G} {ct : Nat → ClassId} {J : List Nat} {ad : Nat → Nat} {c0 : CF} {b : Nat} (hE : ME p s m cd args D ct cX1_moves RX1 3) (hr : meth.sig.returnType = (some .int)) (hlk : meth.locks = false) {st : CS} (hB_st : GrB ct J ad c0 b st) {r : Int32} : ∀ (n : Nat) (x1 : Int32) (x2 : Int32) (H : Heap) (locs : List Loc) (ls : Array Slot), HW D J ad c0 (aA J ad s.heap.size) s.heap H locs → lv_has ls 3 [(0, .ref (ad b)), (1, .int x1), (2, .int x2)] → fX1_moves_4 st n x1 x2 = some r → W p l e (rr 0 0) s m args below meth cd H locs 0 0 (MQ below (Qi D J ad s.heap.size r (fun c' => c' = c0)) args s 0 0 (aA J ad s.heap.size)) (F0 m 4 ls []) := by
  have hx := hE.1
  have hb := hE.2.1
  intro n
  induction n with
  | zero =>
    intro x1 x2 H locs ls hW hl h
    have h2 : (none : Option Int32) = some r := h
    cases h2
  | succ n ih =>
    intro x1 x2 H locs ls hW hl h
    rw [fX1_moves_4] at h
    refine lv_iload_n hx hb dX1_moves_4 rfl (lv_at hl 2 rfl) ?_
    refine lv_iconst (v := (4 : Int32)) hx hb dX1_moves_5 (by decide) ?_
    refine lv_icmp_ge (tgt := 33) hx hb dX1_moves_6 (by decide) (fun k_1 => ?_) (fun k_1 => ?_)
    · have h := it_t k_1 h
      refine lv_iload_n hx hb dX1_moves_33 rfl (lv_at hl 1 rfl) ?_
      obtain rfl := Option.some.inj h
      exact k_iret hE hr hlk hW rfl rfl dX1_moves_34
    · have h := it_f k_1 h
      refine lv_aload_n hx hb dX1_moves_9 rfl (lv_at hl 0 rfl) ?_
      refine k_get (v := .ref (ad (b + 1 + 1))) hE hW hB_st.o hB_st.obj rfl inX1 1 (by decide) q88 rfl dX1_moves_10 ?_
      refine lv_iload_n hx hb dX1_moves_13 rfl (lv_at hl 2 rfl) ?_
      obtain ⟨g_2, h⟩ := zi_e h
      refine k_iald hE hW (hB_st.memA 1 (Nat.le_of_ble_eq_true rfl)) (hB_st.arr 1 rfl) g_2 dX1_moves_14 ?_
      refine lv_aload_n hx hb dX1_moves_15 rfl (lv_at hl 0 rfl) ?_
      refine k_get (v := .ref (ad (b + 1 + 2))) hE hW hB_st.o hB_st.obj rfl inX1 2 (by decide) q90 rfl dX1_moves_16 ?_
      refine lv_iload_n hx hb dX1_moves_19 rfl (lv_at hl 2 rfl) ?_
      obtain ⟨g_3, h⟩ := zi_e h
      refine k_iald hE hW (hB_st.memA 2 (Nat.le_of_ble_eq_true rfl)) (hB_st.arr 2 rfl) g_3 dX1_moves_20 ?_
      refine lv_icmp_eq (tgt := 27) hx hb dX1_moves_21 (by decide) (fun k_4 => ?_) (fun k_4 => ?_)
      · have h := it_t k_4 h
        refine lv_iinc (v := (x2 + (1 : Int32))) (lv' := [(2, .int (x2 + (1 : Int32))), (0, .ref (ad b)), (1, .int x1)]) hx hb dX1_moves_27 hl (k := 2) rfl rfl (by decide) rfl (fun ls hl => ?_)
        refine lv_goto (tgt := 4) hx hb dX1_moves_30 (by decide) ?_
        exact ih _ _ _ _ _ hW (lv_sub hl [1, 2, 0] rfl) h
      · have h := it_f k_4 h
        refine lv_iinc (v := (x1 + (1 : Int32))) (lv' := [(1, .int (x1 + (1 : Int32))), (0, .ref (ad b)), (2, .int x2)]) hx hb dX1_moves_24 hl (k := 1) rfl rfl (by decide) rfl (fun ls hl => ?_)
        refine lv_iinc (v := (x2 + (1 : Int32))) (lv' := [(2, .int (x2 + (1 : Int32))), (1, .int (x1 + (1 : Int32))), (0, .ref (ad b))]) hx hb dX1_moves_27 hl (k := 2) rfl rfl (by decide) rfl (fun ls hl => ?_)
        refine lv_goto (tgt := 4) hx hb dX1_moves_30 (by decide) ?_
        exact ih _ _ _ _ _ hW (lv_sub hl [2, 1, 0] rfl) h
set_option maxHeartbeats 4000000 in
set_option maxRecDepth 100000 in
theorem mX1_moves {l : Launch} {D : va_G} {ct : Nat → ClassId} {J : List Nat} {ad : Nat → Nat} {c0 : CF} {b : Nat} {st : CS} (hB_st : GrB ct J ad c0 b st) {r : Int32} (h : fX1_moves   st = some r) : Mi l D ct J ad yX1_moves cX1_moves 3 (some .int) (rr 0 0) [.ref (ad b)] c0 r (fun c' => c' = c0) := by
  refine Mi_of (own := RX1) (by decide) rfl (Nat.le_of_ble_eq_true rfl) (fun p e s m below meth cd hE hr hlk hW ls hl => ?_)
  have hx := hE.1
  have hb := hE.2.1
  have hl : lv_has ls 3 [(0, .ref (ad b))] := hl
  rw [fX1_moves] at h
  refine lv_iconst (v := (0 : Int32)) hx hb dX1_moves_0 (by decide) ?_
  refine lv_istore_n (lv' := [(1, .int (0 : Int32)), (0, .ref (ad b))]) hx hb dX1_moves_1 rfl hl (by decide) rfl (fun ls hl => ?_)
  refine lv_iconst (v := (0 : Int32)) hx hb dX1_moves_2 (by decide) ?_
  refine lv_istore_n (lv' := [(2, .int (0 : Int32)), (1, .int (0 : Int32)), (0, .ref (ad b))]) hx hb dX1_moves_3 rfl hl (by decide) rfl (fun ls hl => ?_)
  exact wX1_moves_4 hE hr hlk hB_st _ _ _ _ _ _ hW (lv_sub hl [2, 1, 0] rfl) h
set_option maxHeartbeats 4000000 in
set_option maxRecDepth 100000 in
theorem wX1_changed_55 {p : Program} {l : Launch} {e : Env} {s : State} {m : MethodId} {args : Array Value} {below : List Frame} {meth : Method} {cd : Code} {D : va_G} {ct : Nat → ClassId} {J : List Nat} {ad : Nat → Nat} {c0 : CF} {b : Nat} (hE : ME p s m cd args D ct cX1_changed RX1 5) (hr : meth.sig.returnType = (some .int)) (hlk : meth.locks = false) {r : Int32} {st9 : CS} : ∀ (st : CS) (c : CF) (H : Heap) (locs : List Loc) (ls : Array Slot), HW D J ad c (aA J ad s.heap.size) s.heap H locs → GrB ct J ad c b st → Fr c0 c b 5 → lv_has ls 5 [(0, .ref (ad b))] → fX1_changed_55 st = some (r, st9) → W p l e (rr 4 87) s m args below meth cd H locs 0 0 (MQ below (Qi D J ad s.heap.size r (fun c' => GrB ct J ad c' b st9 ∧ Fr c0 c' b 5)) args s 0 0 (aA J ad s.heap.size)) (F0 m 55 ls []) := by
  have hx := hE.1
  have hb := hE.2.1
  intro st c H locs ls hW hB_st hF hl h
  rw [fX1_changed_55] at h
  refine lv_aload_n hx hb dX1_changed_55 rfl (lv_at hl 0 rfl) ?_
  obtain ⟨r_8, hr_8, h⟩ := zb_e h
  refine k_callVi (rest := []) hE hW hl.1 (mX1_moves hB_st hr_8) hB_st.o hB_st.obj rfl q655 q657 qs61 q4 q658 hd_X1_moves ⟨Nat.le_of_ble_eq_true rfl, Nat.le_of_ble_eq_true rfl⟩ ⟨rfl, rfl⟩ rfl (Nat.le_of_ble_eq_true rfl) dX1_changed_56 ⟨Nat.zero_le _, Nat.zero_le _⟩ (fun c1 H locs hP hW => ?_)
  rw [hP] at hW
  obtain ⟨rfl, rfl⟩ := Prod.mk.inj (Option.some.inj h)
  exact k_iret hE hr hlk hW ⟨hB_st, hF⟩ rfl dX1_changed_59
set_option maxHeartbeats 4000000 in
set_option maxRecDepth 100000 in
theorem mX1_changed {l : Launch} {D : va_G} {ct : Nat → ClassId} {J : List Nat} {ad : Nat → Nat} {c0 : CF} {a1 : Int32} {a2 : Int32} {b : Nat} {st : CS} (hB_st : GrB ct J ad c0 b st) {r : Int32} {st9 : CS} (h : fX1_changed  a1 a2 st = some (r, st9)) : Mi l D ct J ad yX1_changed cX1_changed 5 (some .int) (rr 4 87) [.ref (ad b), .int a1, .int a2] c0 r (fun c' => GrB ct J ad c' b st9 ∧ Fr c0 c' b 5) := by
  refine Mi_of (own := RX1) (by decide) rfl (Nat.le_of_ble_eq_true rfl) (fun p e s m below meth cd hE hr hlk hW ls hl => ?_)
  have hx := hE.1
  have hb := hE.2.1
  have hl : lv_has ls 5 [(0, .ref (ad b)), (1, .int a1), (2, .int a2)] := hl
  rw [fX1_changed] at h
  obtain ⟨c, hB_st, hF, hW⟩ : ∃ c', GrB ct J ad c' b st ∧ Fr c0 c' b 5 ∧ HW D J ad c' (aA J ad s.heap.size) s.heap s.heap [] := ⟨c0, hB_st, Fr.rf, hW⟩
  refine lv_aload_n hx hb dX1_changed_0 rfl (lv_at hl 0 rfl) ?_
  refine k_get (v := .ref (ad (b + 1 + 0))) hE hW hB_st.o hB_st.obj rfl inX1 0 (by decide) q86 rfl dX1_changed_1 ?_
  refine lv_iload_n hx hb dX1_changed_4 rfl (lv_at hl 1 rfl) ?_
  refine lv_iload_n hx hb dX1_changed_5 rfl (lv_at hl 2 rfl) ?_
  obtain ⟨g_1, h⟩ := zi_e h
  obtain ⟨st_2, est_2, h⟩ := zl_e h
  refine k_zast hE hW (hB_st.memA 0 (Nat.le_of_ble_eq_true rfl)) (hB_st.arr 0 rfl) g_1 dX1_changed_6 (fun H locs hW => ?_)
  obtain ⟨c, hB_st, hF, hW⟩ : ∃ c', GrB ct J ad c' b st_2 ∧ Fr c0 c' b 5 ∧ HW D J ad c' (aA J ad s.heap.size) s.heap H locs := ⟨_, hB_st.wA (k := 0) rfl est_2, hF.up (by omega) (by omega), hW⟩
  refine lv_aload_n hx hb dX1_changed_7 rfl (lv_at hl 0 rfl) ?_
  refine k_get (v := .ref (ad (b + 1 + 1))) hE hW hB_st.o hB_st.obj rfl inX1 1 (by decide) q88 rfl dX1_changed_8 ?_
  refine lv_iconst (v := (0 : Int32)) hx hb dX1_changed_11 (by decide) ?_
  refine lv_aload_n hx hb dX1_changed_12 rfl (lv_at hl 0 rfl) ?_
  refine k_get (v := .ref (ad (b + 1 + 2))) hE hW hB_st.o hB_st.obj rfl inX1 2 (by decide) q90 rfl dX1_changed_13 ?_
  refine lv_iconst (v := (0 : Int32)) hx hb dX1_changed_16 (by decide) ?_
  refine lv_iconst (v := (4 : Int32)) hx hb dX1_changed_17 (by decide) ?_
  obtain ⟨g_3, h⟩ := zc_e h
  obtain ⟨st_4, est_4, h⟩ := zl_e h
  refine k_copyi (t := 0) (rest := []) hE hW (hE.2.2.1.symm.trans (hE.2.2.1.trans hl.1.symm)) q610 q612 q611 q14 (hB_st.memA 1 (Nat.le_of_ble_eq_true rfl)) (hB_st.arr 1 rfl) (hB_st.memA 2 (Nat.le_of_ble_eq_true rfl)) (hB_st.arr 2 rfl) rfl rfl g_3 (fun _ _ => rfl) (Nat.le_of_ble_eq_true rfl) (Nat.le_of_ble_eq_true rfl) dX1_changed_18 (fun H locs hW => ?_)
  obtain ⟨c, hB_st, hF, hW⟩ : ∃ c', GrB ct J ad c' b st_4 ∧ Fr c0 c' b 5 ∧ HW D J ad c' (aA J ad s.heap.size) s.heap H locs := ⟨_, hB_st.wA (k := 2) rfl est_4, hF.up (by omega) (by omega), hW⟩
  refine lv_aload_n hx hb dX1_changed_21 rfl (lv_at hl 0 rfl) ?_
  obtain ⟨st_5, hst_5, h⟩ := zb_e h
  refine k_callVv (rest := []) hE hW hl.1 (mX1_freeLogsOfAbsent hB_st hst_5) hB_st.o hB_st.obj rfl q613 q615 qs52 q4 q616 hd_X1_freeLogsOfAbsent ⟨Nat.le_of_ble_eq_true rfl, Nat.le_of_ble_eq_true rfl⟩ ⟨rfl, rfl⟩ rfl (Nat.le_of_ble_eq_true rfl) dX1_changed_22 ⟨Nat.zero_le _, Nat.zero_le _⟩ (fun c1 H locs hP hW => ?_)
  obtain ⟨c, hB_st, hF, hW⟩ : ∃ c', GrB ct J ad c' b st_5 ∧ Fr c0 c' b 5 ∧ HW D J ad c' (aA J ad s.heap.size) s.heap H locs := ⟨c1, hP.1, hF.trans hP.2, hW⟩
  refine lv_aload_n hx hb dX1_changed_25 rfl (lv_at hl 0 rfl) ?_
  obtain ⟨r_6, hr_6, h⟩ := zb_e h
  refine k_callVi (rest := []) hE hW hl.1 (mX1_membersIn hB_st hr_6) hB_st.o hB_st.obj rfl q617 q619 qs53 q4 q620 hd_X1_membersIn ⟨Nat.le_of_ble_eq_true rfl, Nat.le_of_ble_eq_true rfl⟩ ⟨rfl, rfl⟩ rfl (Nat.le_of_ble_eq_true rfl) dX1_changed_26 ⟨Nat.zero_le _, Nat.zero_le _⟩ (fun c1 H locs hP hW => ?_)
  rw [hP] at hW
  refine lv_istore_n (lv' := [(3, .int r_6), (0, .ref (ad b)), (1, .int a1), (2, .int a2)]) hx hb dX1_changed_29 rfl hl (by decide) rfl (fun ls hl => ?_)
  refine lv_iload_n hx hb dX1_changed_30 rfl (lv_at hl 0 rfl) ?_
  refine lv_if_le (tgt := 55) hx hb dX1_changed_31 (by decide) (fun k_7 => ?_) (fun k_7 => ?_)
  · have h := it_t k_7 h
    exact wX1_changed_55 hE hr hlk _ _ _ _ _ hW hB_st hF (lv_sub hl [1] rfl) h
  · have h := it_f k_7 h
    refine lv_iconst (v := (4 : Int32)) hx hb dX1_changed_34 (by decide) ?_
    refine lv_iload_n hx hb dX1_changed_35 rfl (lv_at hl 0 rfl) ?_
    obtain ⟨g_9, h⟩ := zz_e h
    refine lv_idiv hx hb dX1_changed_36 g_9 ?_
    refine lv_istore (lv' := [(4, .int ((4 : Int32) / r_6)), (3, .int r_6), (0, .ref (ad b)), (1, .int a1), (2, .int a2)]) hx hb dX1_changed_37 hl (by decide) rfl (fun ls hl => ?_)
    refine lv_aload_n hx hb dX1_changed_39 rfl (lv_at hl 2 rfl) ?_
    refine lv_iload hx hb dX1_changed_40 (lv_at hl 0 rfl) ?_
    refine lv_iconst (v := (4 : Int32)) hx hb dX1_changed_42 (by decide) ?_
    refine lv_iload hx hb dX1_changed_43 (lv_at hl 0 rfl) ?_
    refine lv_iload_n hx hb dX1_changed_45 rfl (lv_at hl 1 rfl) ?_
    refine lv_imul hx hb dX1_changed_46 ?_
    refine lv_isub hx hb dX1_changed_47 ?_
    obtain ⟨st_10, hst_10, h⟩ := zb_e h
    refine k_callVv (rest := []) hE hW hl.1 (mX1_freeLogsBeyond hB_st hst_10) hB_st.o hB_st.obj rfl q631 q633 qs55 q4 q634 hd_X1_freeLogsBeyond ⟨Nat.le_of_ble_eq_true rfl, Nat.le_of_ble_eq_true rfl⟩ ⟨rfl, rfl⟩ rfl (Nat.le_of_ble_eq_true rfl) dX1_changed_48 ⟨Nat.zero_le _, Nat.zero_le _⟩ (fun c1 H locs hP hW => ?_)
    obtain ⟨c, hB_st, hF, hW⟩ : ∃ c', GrB ct J ad c' b st_10 ∧ Fr c0 c' b 5 ∧ HW D J ad c' (aA J ad s.heap.size) s.heap H locs := ⟨c1, hP.1, hF.trans hP.2, hW⟩
    refine lv_aload_n hx hb dX1_changed_51 rfl (lv_at hl 2 rfl) ?_
    obtain ⟨st_11, hst_11, h⟩ := zb_e h
    refine k_callVv (rest := []) hE hW hl.1 (mX1_giveFreeLogs hB_st hst_11) hB_st.o hB_st.obj rfl q647 q649 qs59 q4 q650 hd_X1_giveFreeLogs ⟨Nat.le_of_ble_eq_true rfl, Nat.le_of_ble_eq_true rfl⟩ ⟨rfl, rfl⟩ rfl (Nat.le_of_ble_eq_true rfl) dX1_changed_52 ⟨Nat.zero_le _, Nat.zero_le _⟩ (fun c1 H locs hP hW => ?_)
    obtain ⟨c, hB_st, hF, hW⟩ : ∃ c', GrB ct J ad c' b st_11 ∧ Fr c0 c' b 5 ∧ HW D J ad c' (aA J ad s.heap.size) s.heap H locs := ⟨c1, hP.1, hF.trans hP.2, hW⟩
    exact wX1_changed_55 hE hr hlk _ _ _ _ _ hW hB_st hF (lv_sub hl [2] rfl) h
set_option maxHeartbeats 4000000 in
set_option maxRecDepth 100000 in
theorem mX2_takeRecord {l : Launch} {D : va_G} {ct : Nat → ClassId} {J : List Nat} {ad : Nat → Nat} {c0 : CF} {a2 : Int32} {b : Nat} {st : CS} (hB_st : KrB ct J ad c0 b st) {b2 : Nat} {sx : CS} (hB_sx : LgB ct J ad c0 b2 sx) (hdis : b2 + 8 ≤ b ∨ b + 5 ≤ b2) {st9 : CS} (h : fX2_takeRecord  a2 sx st = some st9) : Mv l D ct J ad yX2_takeRecord cX2_takeRecord 3 none (rr 0 0) [.ref (ad b), .ref (ad b2), .int a2] c0 (fun c' => KrB ct J ad c' b st9 ∧ Fr c0 c' b 5) := by
  refine Mv_of (own := RX2) (by decide) rfl (Nat.le_of_ble_eq_true rfl) (fun p e s m below meth cd hE hr hlk hW ls hl => ?_)
  have hx := hE.1
  have hb := hE.2.1
  have hl : lv_has ls 3 [(0, .ref (ad b)), (1, .ref (ad b2)), (2, .int a2)] := hl
  rw [fX2_takeRecord] at h
  obtain ⟨c, hB_st, hF, hW⟩ : ∃ c', KrB ct J ad c' b st ∧ Fr c0 c' b 5 ∧ HW D J ad c' (aA J ad s.heap.size) s.heap s.heap [] := ⟨c0, hB_st, Fr.rf, hW⟩
  refine lv_aload_n hx hb dX2_takeRecord_0 rfl (lv_at hl 0 rfl) ?_
  refine k_get (v := .ref (ad (b + 1 + 0))) hE hW hB_st.o hB_st.obj rfl inX2 0 (by decide) q207 rfl dX2_takeRecord_1 ?_
  refine lv_aload_n hx hb dX2_takeRecord_4 rfl (lv_at hl 0 rfl) ?_
  refine k_get (v := .int (st.2 0)) hE hW hB_st.o hB_st.obj rfl inX2 4 (by decide) q211 rfl dX2_takeRecord_5 ?_
  refine lv_iload_n hx hb dX2_takeRecord_8 rfl (lv_at hl 2 rfl) ?_
  obtain ⟨g_1, h⟩ := zi_e h
  obtain ⟨st_2, est_2, h⟩ := zl_e h
  refine k_iast hE hW (hB_st.memA 0 (Nat.le_of_ble_eq_true rfl)) (hB_st.arr 0 rfl) g_1 dX2_takeRecord_9 (fun H locs hW => ?_)
  obtain ⟨c, hB_st, hF, hW⟩ : ∃ c', KrB ct J ad c' b st_2 ∧ Fr c0 c' b 5 ∧ HW D J ad c' (aA J ad s.heap.size) s.heap H locs := ⟨_, hB_st.wA (k := 0) rfl est_2, hF.up (by omega) (by omega), hW⟩
  refine lv_aload_n hx hb dX2_takeRecord_10 rfl (lv_at hl 0 rfl) ?_
  refine k_get (v := .ref (ad (b + 1 + 1))) hE hW hB_st.o hB_st.obj rfl inX2 1 (by decide) q208 rfl dX2_takeRecord_11 ?_
  refine lv_aload_n hx hb dX2_takeRecord_14 rfl (lv_at hl 0 rfl) ?_
  refine k_get (v := .int (st_2.2 0)) hE hW hB_st.o hB_st.obj rfl inX2 4 (by decide) q211 rfl dX2_takeRecord_15 ?_
  refine lv_aload_n hx hb dX2_takeRecord_18 rfl (lv_at hl 1 rfl) ?_
  refine k_getN (v := .ref (ad (b2 + 1 + 1))) hE hW (hB_sx.fr hF (by omega)).o (hB_sx.fr hF (by omega)).obj rfl inX3 1 (by decide) q41 rfl dX2_takeRecord_19 ?_
  refine lv_iload_n hx hb dX2_takeRecord_22 rfl (lv_at hl 2 rfl) ?_
  obtain ⟨g_3, h⟩ := zi_e h
  refine k_iald hE hW ((hB_sx.fr hF (by omega)).memA 1 (Nat.le_of_ble_eq_true rfl)) ((hB_sx.fr hF (by omega)).arr 1 rfl) g_3 dX2_takeRecord_23 ?_
  obtain ⟨g_4, h⟩ := zi_e h
  obtain ⟨st_5, est_5, h⟩ := zl_e h
  refine k_iast hE hW (hB_st.memA 1 (Nat.le_of_ble_eq_true rfl)) (hB_st.arr 1 rfl) g_4 dX2_takeRecord_24 (fun H locs hW => ?_)
  obtain ⟨c, hB_st, hF, hW⟩ : ∃ c', KrB ct J ad c' b st_5 ∧ Fr c0 c' b 5 ∧ HW D J ad c' (aA J ad s.heap.size) s.heap H locs := ⟨_, hB_st.wA (k := 1) rfl est_5, hF.up (by omega) (by omega), hW⟩
  refine lv_aload_n hx hb dX2_takeRecord_25 rfl (lv_at hl 0 rfl) ?_
  refine k_get (v := .ref (ad (b + 1 + 2))) hE hW hB_st.o hB_st.obj rfl inX2 2 (by decide) q209 rfl dX2_takeRecord_26 ?_
  refine lv_aload_n hx hb dX2_takeRecord_29 rfl (lv_at hl 0 rfl) ?_
  refine k_get (v := .int (st_5.2 0)) hE hW hB_st.o hB_st.obj rfl inX2 4 (by decide) q211 rfl dX2_takeRecord_30 ?_
  refine lv_aload_n hx hb dX2_takeRecord_33 rfl (lv_at hl 1 rfl) ?_
  refine k_getN (v := .ref (ad (b2 + 1 + 0))) hE hW (hB_sx.fr hF (by omega)).o (hB_sx.fr hF (by omega)).obj rfl inX3 0 (by decide) q38 rfl dX2_takeRecord_34 ?_
  refine lv_iload_n hx hb dX2_takeRecord_37 rfl (lv_at hl 2 rfl) ?_
  obtain ⟨g_6, h⟩ := zi_e h
  refine k_iald hE hW ((hB_sx.fr hF (by omega)).memA 0 (Nat.le_of_ble_eq_true rfl)) ((hB_sx.fr hF (by omega)).arr 0 rfl) g_6 dX2_takeRecord_38 ?_
  obtain ⟨g_7, h⟩ := zi_e h
  obtain ⟨st_8, est_8, h⟩ := zl_e h
  refine k_iast hE hW (hB_st.memA 2 (Nat.le_of_ble_eq_true rfl)) (hB_st.arr 2 rfl) g_7 dX2_takeRecord_39 (fun H locs hW => ?_)
  obtain ⟨c, hB_st, hF, hW⟩ : ∃ c', KrB ct J ad c' b st_8 ∧ Fr c0 c' b 5 ∧ HW D J ad c' (aA J ad s.heap.size) s.heap H locs := ⟨_, hB_st.wA (k := 2) rfl est_8, hF.up (by omega) (by omega), hW⟩
  refine lv_aload_n hx hb dX2_takeRecord_40 rfl (lv_at hl 0 rfl) ?_
  refine k_get (v := .ref (ad (b + 1 + 3))) hE hW hB_st.o hB_st.obj rfl inX2 3 (by decide) q210 rfl dX2_takeRecord_41 ?_
  refine lv_aload_n hx hb dX2_takeRecord_44 rfl (lv_at hl 0 rfl) ?_
  refine k_get (v := .int (st_8.2 0)) hE hW hB_st.o hB_st.obj rfl inX2 4 (by decide) q211 rfl dX2_takeRecord_45 ?_
  refine lv_aload_n hx hb dX2_takeRecord_48 rfl (lv_at hl 1 rfl) ?_
  refine k_getN (v := .ref (ad (b2 + 1 + 4))) hE hW (hB_sx.fr hF (by omega)).o (hB_sx.fr hF (by omega)).obj rfl inX3 4 (by decide) q48 rfl dX2_takeRecord_49 ?_
  refine lv_iload_n hx hb dX2_takeRecord_52 rfl (lv_at hl 2 rfl) ?_
  obtain ⟨g_9, h⟩ := zi_e h
  refine k_iald hE hW ((hB_sx.fr hF (by omega)).memA 4 (Nat.le_of_ble_eq_true rfl)) ((hB_sx.fr hF (by omega)).arr 4 rfl) g_9 dX2_takeRecord_53 ?_
  obtain ⟨g_10, h⟩ := zi_e h
  obtain ⟨st_11, est_11, h⟩ := zl_e h
  refine k_iast hE hW (hB_st.memA 3 (Nat.le_of_ble_eq_true rfl)) (hB_st.arr 3 rfl) g_10 dX2_takeRecord_54 (fun H locs hW => ?_)
  obtain ⟨c, hB_st, hF, hW⟩ : ∃ c', KrB ct J ad c' b st_11 ∧ Fr c0 c' b 5 ∧ HW D J ad c' (aA J ad s.heap.size) s.heap H locs := ⟨_, hB_st.wA (k := 3) rfl est_11, hF.up (by omega) (by omega), hW⟩
  refine lv_aload_n hx hb dX2_takeRecord_55 rfl (lv_at hl 0 rfl) ?_
  refine lv_dup hx hb dX2_takeRecord_56 rfl ?_
  refine k_get (v := .int (st_11.2 0)) hE hW hB_st.o hB_st.obj rfl inX2 4 (by decide) q211 rfl dX2_takeRecord_57 ?_
  refine lv_iconst (v := (1 : Int32)) hx hb dX2_takeRecord_60 (by decide) ?_
  refine lv_iadd hx hb dX2_takeRecord_61 ?_
  obtain ⟨st_12, est_12, h⟩ := zl_e h
  refine k_put hE hW hB_st.o hB_st.obj rfl inX2 tyX2 tyX2_ok nmX2 4 (by decide) q211 rfl rfl rfl (Nat.le_of_ble_eq_true rfl) dX2_takeRecord_62 (fun H locs hW => ?_)
  obtain ⟨c, hB_st, hF, hW⟩ : ∃ c', KrB ct J ad c' b st_12 ∧ Fr c0 c' b 5 ∧ HW D J ad c' (aA J ad s.heap.size) s.heap H locs := ⟨_, hB_st.wF (k := 4) (j := 0) rfl est_12, hF.up (by omega) (by omega), hW⟩
  obtain rfl := Option.some.inj h
  exact k_vret hE hr hlk hW ⟨hB_st, hF⟩ dX2_takeRecord_65
set_option maxHeartbeats 4000000 in
set_option maxRecDepth 100000 in
theorem wX2_filled_64 {p : Program} {l : Launch} {e : Env} {s : State} {m : MethodId} {args : Array Value} {below : List Frame} {meth : Method} {cd : Code} {D : va_G} {ct : Nat → ClassId} {J : List Nat} {ad : Nat → Nat} {c0 : CF} {b : Nat} (hE : ME p s m cd args D ct cX2_filled RX2 5) (hr : meth.sig.returnType = (some .int)) (hlk : meth.locks = false) {x2 : Int32} {x3 : Int32} {b2 : Nat} {sx : CS} (hB_sx : LgB ct J ad c0 b2 sx) (hdis : b2 + 8 ≤ b ∨ b + 5 ≤ b2) {r : Int32} {st9 : CS} {K8 : Int32 → CS → Option (Int32 × CS)} (hK8 : ∀ (x4 : Int32) (st : CS) (c : CF) (H : Heap) (locs : List Loc) (ls : Array Slot), HW D J ad c (aA J ad s.heap.size) s.heap H locs → KrB ct J ad c b st → Fr c0 c b 5 → lv_has ls 5 [(0, .ref (ad b)), (1, .ref (ad b2)), (2, .int x2), (3, .int x3), (4, .int x4)] → K8 x4 st = some (r, st9) → W p l e (rr 1 22) s m args below meth cd H locs 0 0 (MQ below (Qi D J ad s.heap.size r (fun c' => KrB ct J ad c' b st9 ∧ Fr c0 c' b 5)) args s 0 0 (aA J ad s.heap.size)) (F0 m 8 ls [])) : ∀ (x4 : Int32) (st : CS) (c : CF) (H : Heap) (locs : List Loc) (ls : Array Slot), HW D J ad c (aA J ad s.heap.size) s.heap H locs → KrB ct J ad c b st → Fr c0 c b 5 → lv_has ls 5 [(0, .ref (ad b)), (1, .ref (ad b2)), (2, .int x2), (3, .int x3), (4, .int x4)] → fX2_filled_64 sx x2 x3 K8 x4 st = some (r, st9) → W p l e (rr 1 22) s m args below meth cd H locs 0 0 (MQ below (Qi D J ad s.heap.size r (fun c' => KrB ct J ad c' b st9 ∧ Fr c0 c' b 5)) args s 0 0 (aA J ad s.heap.size)) (F0 m 64 ls []) := by
  have hx := hE.1
  have hb := hE.2.1
  intro x4 st c H locs ls hW hB_st hF hl h
  rw [fX2_filled_64] at h
  refine lv_aload_n hx hb dX2_filled_64 rfl (lv_at hl 0 rfl) ?_
  refine lv_aload_n hx hb dX2_filled_65 rfl (lv_at hl 1 rfl) ?_
  refine lv_iload hx hb dX2_filled_66 (lv_at hl 4 rfl) ?_
  obtain ⟨st_8, hst_8, h⟩ := zb_e h
  refine k_callVv (rest := []) hE hW hl.1 (mX2_takeRecord hB_st (hB_sx.fr hF (by omega)) (by omega) hst_8) hB_st.o hB_st.obj rfl q776 q778 qs76 q8 q779 hd_X2_takeRecord ⟨Nat.le_of_ble_eq_true rfl, Nat.le_of_ble_eq_true rfl⟩ ⟨rfl, rfl⟩ rfl (Nat.le_of_ble_eq_true rfl) dX2_filled_68 ⟨Nat.zero_le _, Nat.zero_le _⟩ (fun c1 H locs hP hW => ?_)
  obtain ⟨c, hB_st, hF, hW⟩ : ∃ c', KrB ct J ad c' b st_8 ∧ Fr c0 c' b 5 ∧ HW D J ad c' (aA J ad s.heap.size) s.heap H locs := ⟨c1, hP.1, hF.trans hP.2, hW⟩
  refine lv_iinc (v := (x4 + (1 : Int32))) (lv' := [(4, .int (x4 + (1 : Int32))), (0, .ref (ad b)), (1, .ref (ad b2)), (2, .int x2), (3, .int x3)]) hx hb dX2_filled_71 hl (k := 4) rfl rfl (by decide) rfl (fun ls hl => ?_)
  refine lv_goto (tgt := 8) hx hb dX2_filled_74 (by decide) ?_
  exact hK8 _ _ _ _ _ _ hW hB_st hF (lv_sub hl [1, 2, 3, 4, 0] rfl) h
set_option maxHeartbeats 4000000 in
set_option maxRecDepth 100000 in
theorem wX2_filled_8 {p : Program} {l : Launch} {e : Env} {s : State} {m : MethodId} {args : Array Value} {below : List Frame} {meth : Method} {cd : Code} {D : va_G} {ct : Nat → ClassId} {J : List Nat} {ad : Nat → Nat} {c0 : CF} {b : Nat} (hE : ME p s m cd args D ct cX2_filled RX2 5) (hr : meth.sig.returnType = (some .int)) (hlk : meth.locks = false) {x2 : Int32} {x3 : Int32} {b2 : Nat} {sx : CS} (hB_sx : LgB ct J ad c0 b2 sx) (hdis : b2 + 8 ≤ b ∨ b + 5 ≤ b2) {r : Int32} {st9 : CS} : ∀ (n : Nat) (x4 : Int32) (st : CS) (c : CF) (H : Heap) (locs : List Loc) (ls : Array Slot), HW D J ad c (aA J ad s.heap.size) s.heap H locs → KrB ct J ad c b st → Fr c0 c b 5 → lv_has ls 5 [(0, .ref (ad b)), (1, .ref (ad b2)), (2, .int x2), (3, .int x3), (4, .int x4)] → fX2_filled_8 sx x2 x3 n x4 st = some (r, st9) → W p l e (rr 1 22) s m args below meth cd H locs 0 0 (MQ below (Qi D J ad s.heap.size r (fun c' => KrB ct J ad c' b st9 ∧ Fr c0 c' b 5)) args s 0 0 (aA J ad s.heap.size)) (F0 m 8 ls []) := by
  have hx := hE.1
  have hb := hE.2.1
  intro n
  induction n with
  | zero =>
    intro x4 st c H locs ls hW hB_st hF hl h
    have h2 : (none : Option (Int32 × CS)) = some (r, st9) := h
    cases h2
  | succ n ih =>
    intro x4 st c H locs ls hW hB_st hF hl h
    rw [fX2_filled_8] at h
    refine lv_iload hx hb dX2_filled_8 (lv_at hl 4 rfl) ?_
    refine lv_aload_n hx hb dX2_filled_10 rfl (lv_at hl 1 rfl) ?_
    refine k_getN (v := .int (sx.2 0)) hE hW (hB_sx.fr hF (by omega)).o (hB_sx.fr hF (by omega)).obj rfl inX3 7 (by decide) q53 rfl dX2_filled_11 ?_
    refine lv_icmp_ge (tgt := 77) hx hb dX2_filled_14 (by decide) (fun k_2 => ?_) (fun k_2 => ?_)
    · have h := it_t k_2 h
      refine lv_aload_n hx hb dX2_filled_77 rfl (lv_at hl 0 rfl) ?_
      refine k_get (v := .int (st.2 0)) hE hW hB_st.o hB_st.obj rfl inX2 4 (by decide) q211 rfl dX2_filled_78 ?_
      obtain ⟨rfl, rfl⟩ := Prod.mk.inj (Option.some.inj h)
      exact k_iret hE hr hlk hW ⟨hB_st, hF⟩ rfl dX2_filled_81
    · have h := it_f k_2 h
      refine lv_aload_n hx hb dX2_filled_17 rfl (lv_at hl 1 rfl) ?_
      refine lv_iload hx hb dX2_filled_18 (lv_at hl 4 rfl) ?_
      obtain ⟨r_3, hr_3, h⟩ := zb_e h
      refine k_callVNi (rest := []) hE hW hl.1 (mX3_has (hB_sx.fr hF (by omega)) hr_3) (hB_sx.fr hF (by omega)).o (hB_sx.fr hF (by omega)).obj rfl q775 q468 qs34 q3 q469 hd_X3_has.2 ⟨Nat.le_of_ble_eq_true rfl, Nat.le_of_ble_eq_true rfl⟩ ⟨rfl, rfl⟩ rfl (Nat.le_of_ble_eq_true rfl) dX2_filled_20 ⟨Nat.zero_le _, Nat.zero_le _⟩ (fun c1 H locs hP hW => ?_)
      rw [hP] at hW
      refine lv_if_eq (tgt := 71) hx hb dX2_filled_23 (by decide) (fun k_4 => ?_) (fun k_4 => ?_)
      · have h := it_t k_4 h
        refine lv_iinc (v := (x4 + (1 : Int32))) (lv' := [(4, .int (x4 + (1 : Int32))), (0, .ref (ad b)), (1, .ref (ad b2)), (2, .int x2), (3, .int x3)]) hx hb dX2_filled_71 hl (k := 4) rfl rfl (by decide) rfl (fun ls hl => ?_)
        refine lv_goto (tgt := 8) hx hb dX2_filled_74 (by decide) ?_
        exact ih _ _ _ _ _ _ hW hB_st hF (lv_sub hl [1, 2, 3, 4, 0] rfl) h
      · have h := it_f k_4 h
        refine lv_aload_n hx hb dX2_filled_26 rfl (lv_at hl 0 rfl) ?_
        refine k_get (v := .int (st.2 0)) hE hW hB_st.o hB_st.obj rfl inX2 4 (by decide) q211 rfl dX2_filled_27 ?_
        refine lv_iload_n hx hb dX2_filled_30 rfl (lv_at hl 3 rfl) ?_
        refine lv_icmp_ge (tgt := 43) hx hb dX2_filled_31 (by decide) (fun k_5 => ?_) (fun k_5 => ?_)
        · have h := it_t k_5 h
          refine lv_bipush (v := (-13 : Int32)) hx hb dX2_filled_43 (by decide) ?_
          obtain ⟨rfl, rfl⟩ := Prod.mk.inj (Option.some.inj h)
          exact k_iret hE hr hlk hW ⟨hB_st, hF⟩ rfl dX2_filled_45
        · have h := it_f k_5 h
          refine lv_aload_n hx hb dX2_filled_34 rfl (lv_at hl 0 rfl) ?_
          refine k_get (v := .int (st.2 0)) hE hW hB_st.o hB_st.obj rfl inX2 4 (by decide) q211 rfl dX2_filled_35 ?_
          refine lv_bipush (v := (60 : Int32)) hx hb dX2_filled_38 (by decide) ?_
          refine lv_icmp_lt (tgt := 46) hx hb dX2_filled_40 (by decide) (fun k_6 => ?_) (fun k_6 => ?_)
          · have h := it_t k_6 h
            refine lv_iload_n hx hb dX2_filled_46 rfl (lv_at hl 2 rfl) ?_
            refine lv_if_eq (tgt := 64) hx hb dX2_filled_47 (by decide) (fun k_7 => ?_) (fun k_7 => ?_)
            · have h := it_t k_7 h
              exact wX2_filled_64 hE hr hlk hB_sx hdis ih _ _ _ _ _ _ hW hB_st hF (lv_sub hl [0, 1, 2, 3, 4] rfl) h
            · have h := it_f k_7 h
              refine lv_aload_n hx hb dX2_filled_50 rfl (lv_at hl 1 rfl) ?_
              refine k_getN (v := .ref (ad (b2 + 1 + 0))) hE hW (hB_sx.fr hF (by omega)).o (hB_sx.fr hF (by omega)).obj rfl inX3 0 (by decide) q38 rfl dX2_filled_51 ?_
              refine lv_iload hx hb dX2_filled_54 (lv_at hl 4 rfl) ?_
              obtain ⟨g_9, h⟩ := zi_e h
              refine k_iald hE hW ((hB_sx.fr hF (by omega)).memA 0 (Nat.le_of_ble_eq_true rfl)) ((hB_sx.fr hF (by omega)).arr 0 rfl) g_9 dX2_filled_56 ?_
              refine lv_iconst (v := (2 : Int32)) hx hb dX2_filled_57 (by decide) ?_
              refine lv_icmp_ne (tgt := 64) hx hb dX2_filled_58 (by decide) (fun k_10 => ?_) (fun k_10 => ?_)
              · have h := it_f k_10 h
                exact wX2_filled_64 hE hr hlk hB_sx hdis ih _ _ _ _ _ _ hW hB_st hF (lv_sub hl [0, 1, 2, 3, 4] rfl) h
              · have h := it_t k_10 h
                refine lv_bipush (v := (-16 : Int32)) hx hb dX2_filled_61 (by decide) ?_
                obtain ⟨rfl, rfl⟩ := Prod.mk.inj (Option.some.inj h)
                exact k_iret hE hr hlk hW ⟨hB_st, hF⟩ rfl dX2_filled_63
          · have h := it_f k_6 h
            refine lv_bipush (v := (-13 : Int32)) hx hb dX2_filled_43 (by decide) ?_
            obtain ⟨rfl, rfl⟩ := Prod.mk.inj (Option.some.inj h)
            exact k_iret hE hr hlk hW ⟨hB_st, hF⟩ rfl dX2_filled_45
set_option maxHeartbeats 4000000 in
set_option maxRecDepth 100000 in
theorem mX2_filled {l : Launch} {D : va_G} {ct : Nat → ClassId} {J : List Nat} {ad : Nat → Nat} {c0 : CF} {a2 : Int32} {a3 : Int32} {b : Nat} {st : CS} (hB_st : KrB ct J ad c0 b st) {b2 : Nat} {sx : CS} (hB_sx : LgB ct J ad c0 b2 sx) (hdis : b2 + 8 ≤ b ∨ b + 5 ≤ b2) {r : Int32} {st9 : CS} (h : fX2_filled  a2 a3 sx st = some (r, st9)) : Mi l D ct J ad yX2_filled cX2_filled 5 (some .int) (rr 1 22) [.ref (ad b), .ref (ad b2), .int a2, .int a3] c0 r (fun c' => KrB ct J ad c' b st9 ∧ Fr c0 c' b 5) := by
  refine Mi_of (own := RX2) (by decide) rfl (Nat.le_of_ble_eq_true rfl) (fun p e s m below meth cd hE hr hlk hW ls hl => ?_)
  have hx := hE.1
  have hb := hE.2.1
  have hl : lv_has ls 5 [(0, .ref (ad b)), (1, .ref (ad b2)), (2, .int a2), (3, .int a3)] := hl
  rw [fX2_filled] at h
  obtain ⟨c, hB_st, hF, hW⟩ : ∃ c', KrB ct J ad c' b st ∧ Fr c0 c' b 5 ∧ HW D J ad c' (aA J ad s.heap.size) s.heap s.heap [] := ⟨c0, hB_st, Fr.rf, hW⟩
  refine lv_aload_n hx hb dX2_filled_0 rfl (lv_at hl 0 rfl) ?_
  refine lv_iconst (v := (0 : Int32)) hx hb dX2_filled_1 (by decide) ?_
  obtain ⟨st_1, est_1, h⟩ := zl_e h
  refine k_put hE hW hB_st.o hB_st.obj rfl inX2 tyX2 tyX2_ok nmX2 4 (by decide) q211 rfl rfl rfl (Nat.le_of_ble_eq_true rfl) dX2_filled_2 (fun H locs hW => ?_)
  obtain ⟨c, hB_st, hF, hW⟩ : ∃ c', KrB ct J ad c' b st_1 ∧ Fr c0 c' b 5 ∧ HW D J ad c' (aA J ad s.heap.size) s.heap H locs := ⟨_, hB_st.wF (k := 4) (j := 0) rfl est_1, hF.up (by omega) (by omega), hW⟩
  refine lv_iconst (v := (0 : Int32)) hx hb dX2_filled_5 (by decide) ?_
  refine lv_istore (lv' := [(4, .int (0 : Int32)), (0, .ref (ad b)), (1, .ref (ad b2)), (2, .int a2), (3, .int a3)]) hx hb dX2_filled_6 hl (by decide) rfl (fun ls hl => ?_)
  exact wX2_filled_8 hE hr hlk hB_sx hdis _ _ _ _ _ _ _ hW hB_st hF (lv_sub hl [1, 2, 3, 4, 0] rfl) h
set_option maxHeartbeats 4000000 in
set_option maxRecDepth 100000 in
theorem mX2_about {l : Launch} {D : va_G} {ct : Nat → ClassId} {J : List Nat} {ad : Nat → Nat} {c0 : CF} {a1 : Int32} {a2 : Int32} {b : Nat} {st : CS} (hB_st : KrB ct J ad c0 b st) {r : Int64} (h : fX2_about  a1 a2 st = some r) : Ml l D ct J ad yX2_about cX2_about 3 (some .long) (rr 0 0) [.ref (ad b), .int a1, .int a2] c0 r (fun c' => c' = c0) := by
  refine Ml_of (own := RX2) (by decide) rfl (Nat.le_of_ble_eq_true rfl) (fun p e s m below meth cd hE hr hlk hW ls hl => ?_)
  have hx := hE.1
  have hb := hE.2.1
  have hl : lv_has ls 3 [(0, .ref (ad b)), (1, .int a1), (2, .int a2)] := hl
  rw [fX2_about] at h
  refine lv_iload_n hx hb dX2_about_0 rfl (lv_at hl 2 rfl) ?_
  rcases Classical.em (a2 = (0 : Int32)) with k_1 | k_1
  · have h := it_t k_1 h
    refine lv_tableIn (tgt := 32) hx hb dX2_about_1 (by rw [k_1]; decide) (by rw [k_1]; decide) (by rw [k_1]; rfl) (by decide) ?_
    refine lv_aload_n hx hb dX2_about_32 rfl (lv_at hl 0 rfl) ?_
    refine k_get (v := .ref (ad (b + 1 + 0))) hE hW hB_st.o hB_st.obj rfl inX2 0 (by decide) q207 rfl dX2_about_33 ?_
    refine lv_iload_n hx hb dX2_about_36 rfl (lv_at hl 1 rfl) ?_
    obtain ⟨g_2, h⟩ := zi_e h
    refine k_iald hE hW (hB_st.memA 0 (Nat.le_of_ble_eq_true rfl)) (hB_st.arr 0 rfl) g_2 dX2_about_37 ?_
    refine lv_i2l (v := (st.1 0 a1.toNatClampNeg).toInt64) hx hb dX2_about_38 rfl ?_
    obtain rfl := Option.some.inj h
    exact k_lret hE hr hlk hW rfl rfl dX2_about_39
  have h := it_f k_1 h
  rcases Classical.em (a2 = (1 : Int32)) with k_3 | k_3
  · have h := it_t k_3 h
    refine lv_tableIn (tgt := 40) hx hb dX2_about_1 (by rw [k_3]; decide) (by rw [k_3]; decide) (by rw [k_3]; rfl) (by decide) ?_
    refine lv_aload_n hx hb dX2_about_40 rfl (lv_at hl 0 rfl) ?_
    refine k_get (v := .ref (ad (b + 1 + 1))) hE hW hB_st.o hB_st.obj rfl inX2 1 (by decide) q208 rfl dX2_about_41 ?_
    refine lv_iload_n hx hb dX2_about_44 rfl (lv_at hl 1 rfl) ?_
    obtain ⟨g_4, h⟩ := zi_e h
    refine k_iald hE hW (hB_st.memA 1 (Nat.le_of_ble_eq_true rfl)) (hB_st.arr 1 rfl) g_4 dX2_about_45 ?_
    refine lv_i2l (v := (st.1 1 a1.toNatClampNeg).toInt64) hx hb dX2_about_46 rfl ?_
    obtain rfl := Option.some.inj h
    exact k_lret hE hr hlk hW rfl rfl dX2_about_47
  have h := it_f k_3 h
  rcases Classical.em (a2 = (2 : Int32)) with k_5 | k_5
  · have h := it_t k_5 h
    refine lv_tableIn (tgt := 48) hx hb dX2_about_1 (by rw [k_5]; decide) (by rw [k_5]; decide) (by rw [k_5]; rfl) (by decide) ?_
    refine lv_aload_n hx hb dX2_about_48 rfl (lv_at hl 0 rfl) ?_
    refine k_get (v := .ref (ad (b + 1 + 2))) hE hW hB_st.o hB_st.obj rfl inX2 2 (by decide) q209 rfl dX2_about_49 ?_
    refine lv_iload_n hx hb dX2_about_52 rfl (lv_at hl 1 rfl) ?_
    obtain ⟨g_6, h⟩ := zi_e h
    refine k_iald hE hW (hB_st.memA 2 (Nat.le_of_ble_eq_true rfl)) (hB_st.arr 2 rfl) g_6 dX2_about_53 ?_
    refine lv_iconst (v := (2 : Int32)) hx hb dX2_about_54 (by decide) ?_
    refine lv_icmp_ne (tgt := 62) hx hb dX2_about_55 (by decide) (fun k_7 => ?_) (fun k_7 => ?_)
    · have h := it_f k_7 h
      refine lv_lconst (v := (0 : Int64)) hx hb dX2_about_62 (by decide) ?_
      obtain rfl := Option.some.inj h
      exact k_lret hE hr hlk hW rfl rfl dX2_about_63
    · have h := it_t k_7 h
      refine lv_lconst (v := (1 : Int64)) hx hb dX2_about_58 (by decide) ?_
      refine lv_goto (tgt := 63) hx hb dX2_about_59 (by decide) ?_
      obtain rfl := Option.some.inj h
      exact k_lret hE hr hlk hW rfl rfl dX2_about_63
  have h := it_f k_5 h
  rcases Classical.em (a2 = (3 : Int32)) with k_8 | k_8
  · have h := it_t k_8 h
    refine lv_tableIn (tgt := 64) hx hb dX2_about_1 (by rw [k_8]; decide) (by rw [k_8]; decide) (by rw [k_8]; rfl) (by decide) ?_
    refine lv_aload_n hx hb dX2_about_64 rfl (lv_at hl 0 rfl) ?_
    refine k_get (v := .ref (ad (b + 1 + 2))) hE hW hB_st.o hB_st.obj rfl inX2 2 (by decide) q209 rfl dX2_about_65 ?_
    refine lv_iload_n hx hb dX2_about_68 rfl (lv_at hl 1 rfl) ?_
    obtain ⟨g_9, h⟩ := zi_e h
    refine k_iald hE hW (hB_st.memA 2 (Nat.le_of_ble_eq_true rfl)) (hB_st.arr 2 rfl) g_9 dX2_about_69 ?_
    refine lv_iconst (v := (2 : Int32)) hx hb dX2_about_70 (by decide) ?_
    refine lv_icmp_ne (tgt := 80) hx hb dX2_about_71 (by decide) (fun k_10 => ?_) (fun k_10 => ?_)
    · have h := it_f k_10 h
      refine lv_aload_n hx hb dX2_about_80 rfl (lv_at hl 0 rfl) ?_
      refine k_get (v := .ref (ad (b + 1 + 3))) hE hW hB_st.o hB_st.obj rfl inX2 3 (by decide) q210 rfl dX2_about_81 ?_
      refine lv_iload_n hx hb dX2_about_84 rfl (lv_at hl 1 rfl) ?_
      obtain ⟨g_11, h⟩ := zi_e h
      refine k_iald hE hW (hB_st.memA 3 (Nat.le_of_ble_eq_true rfl)) (hB_st.arr 3 rfl) g_11 dX2_about_85 ?_
      refine lv_i2l (v := (st.1 3 a1.toNatClampNeg).toInt64) hx hb dX2_about_86 rfl ?_
      obtain rfl := Option.some.inj h
      exact k_lret hE hr hlk hW rfl rfl dX2_about_87
    · have h := it_t k_10 h
      refine lv_ldc2 (v := (-9223372036854775808 : Int64)) hx hb hE.2.2.2.1 (hE.2.2.2.2.1 _ q788) dX2_about_74 ?_
      refine lv_goto (tgt := 87) hx hb dX2_about_77 (by decide) ?_
      obtain rfl := Option.some.inj h
      exact k_lret hE hr hlk hW rfl rfl dX2_about_87
  have h := it_f k_8 h
  refine lv_tableOut (tgt := 88) hx hb dX2_about_1 (tb_out4 k_1 k_3 k_5 k_8) (by decide) ?_
  refine lv_ldc2 (v := (-9223372036854775808 : Int64)) hx hb hE.2.2.2.1 (hE.2.2.2.2.1 _ q788) dX2_about_88 ?_
  obtain rfl := Option.some.inj h
  exact k_lret hE hr hlk hW rfl rfl dX2_about_91
set_option maxHeartbeats 4000000 in
set_option maxRecDepth 100000 in
theorem mX3_copyFrom {l : Launch} {D : va_G} {ct : Nat → ClassId} {J : List Nat} {ad : Nat → Nat} {c0 : CF} {b : Nat} {st : CS} (hB_st : LgB ct J ad c0 b st) {b2 : Nat} {sx : CS} (hB_sx : LgB ct J ad c0 b2 sx) (hdis : b2 + 8 ≤ b ∨ b + 8 ≤ b2) {st9 : CS} (h : fX3_copyFrom   sx st = some st9) : Mv l D ct J ad yX3_copyFrom cX3_copyFrom 2 none (rr 1 40) [.ref (ad b), .ref (ad b2)] c0 (fun c' => LgB ct J ad c' b st9 ∧ Fr c0 c' b 8) := by
  refine Mv_of (own := RX3) (by decide) rfl (Nat.le_of_ble_eq_true rfl) (fun p e s m below meth cd hE hr hlk hW ls hl => ?_)
  have hx := hE.1
  have hb := hE.2.1
  have hl : lv_has ls 2 [(0, .ref (ad b)), (1, .ref (ad b2))] := hl
  rw [fX3_copyFrom] at h
  obtain ⟨c, hB_st, hF, hW⟩ : ∃ c', LgB ct J ad c' b st ∧ Fr c0 c' b 8 ∧ HW D J ad c' (aA J ad s.heap.size) s.heap s.heap [] := ⟨c0, hB_st, Fr.rf, hW⟩
  refine lv_aload_n hx hb dX3_copyFrom_0 rfl (lv_at hl 1 rfl) ?_
  refine k_get (v := .ref (ad (b2 + 1 + 0))) hE hW (hB_sx.fr hF (by omega)).o (hB_sx.fr hF (by omega)).obj rfl inX3 0 (by decide) q37 rfl dX3_copyFrom_1 ?_
  refine lv_iconst (v := (0 : Int32)) hx hb dX3_copyFrom_4 (by decide) ?_
  refine lv_aload_n hx hb dX3_copyFrom_5 rfl (lv_at hl 0 rfl) ?_
  refine k_get (v := .ref (ad (b + 1 + 0))) hE hW hB_st.o hB_st.obj rfl inX3 0 (by decide) q37 rfl dX3_copyFrom_6 ?_
  refine lv_iconst (v := (0 : Int32)) hx hb dX3_copyFrom_9 (by decide) ?_
  refine lv_sipush (v := (200 : Int32)) hx hb dX3_copyFrom_10 (by decide) ?_
  obtain ⟨g_1, h⟩ := zc_e h
  obtain ⟨st_2, est_2, h⟩ := zl_e h
  refine k_copyi (t := 0) (rest := []) hE hW (hE.2.2.1.symm.trans (hE.2.2.1.trans hl.1.symm)) q727 q612 q611 q14 ((hB_sx.fr hF (by omega)).memA 0 (Nat.le_of_ble_eq_true rfl)) ((hB_sx.fr hF (by omega)).arr 0 rfl) (hB_st.memA 0 (Nat.le_of_ble_eq_true rfl)) (hB_st.arr 0 rfl) rfl rfl g_1 (fun _ _ => rfl) (Nat.le_of_ble_eq_true rfl) (Nat.le_of_ble_eq_true rfl) dX3_copyFrom_13 (fun H locs hW => ?_)
  obtain ⟨c, hB_st, hF, hW⟩ : ∃ c', LgB ct J ad c' b st_2 ∧ Fr c0 c' b 8 ∧ HW D J ad c' (aA J ad s.heap.size) s.heap H locs := ⟨_, hB_st.wA (k := 0) rfl est_2, hF.up (by omega) (by omega), hW⟩
  refine lv_aload_n hx hb dX3_copyFrom_16 rfl (lv_at hl 1 rfl) ?_
  refine k_get (v := .ref (ad (b2 + 1 + 1))) hE hW (hB_sx.fr hF (by omega)).o (hB_sx.fr hF (by omega)).obj rfl inX3 1 (by decide) q40 rfl dX3_copyFrom_17 ?_
  refine lv_iconst (v := (0 : Int32)) hx hb dX3_copyFrom_20 (by decide) ?_
  refine lv_aload_n hx hb dX3_copyFrom_21 rfl (lv_at hl 0 rfl) ?_
  refine k_get (v := .ref (ad (b + 1 + 1))) hE hW hB_st.o hB_st.obj rfl inX3 1 (by decide) q40 rfl dX3_copyFrom_22 ?_
  refine lv_iconst (v := (0 : Int32)) hx hb dX3_copyFrom_25 (by decide) ?_
  refine lv_sipush (v := (200 : Int32)) hx hb dX3_copyFrom_26 (by decide) ?_
  obtain ⟨g_3, h⟩ := zc_e h
  obtain ⟨st_4, est_4, h⟩ := zl_e h
  refine k_copyi (t := 0) (rest := []) hE hW (hE.2.2.1.symm.trans (hE.2.2.1.trans hl.1.symm)) q727 q612 q611 q14 ((hB_sx.fr hF (by omega)).memA 1 (Nat.le_of_ble_eq_true rfl)) ((hB_sx.fr hF (by omega)).arr 1 rfl) (hB_st.memA 1 (Nat.le_of_ble_eq_true rfl)) (hB_st.arr 1 rfl) rfl rfl g_3 (fun _ _ => rfl) (Nat.le_of_ble_eq_true rfl) (Nat.le_of_ble_eq_true rfl) dX3_copyFrom_29 (fun H locs hW => ?_)
  obtain ⟨c, hB_st, hF, hW⟩ : ∃ c', LgB ct J ad c' b st_4 ∧ Fr c0 c' b 8 ∧ HW D J ad c' (aA J ad s.heap.size) s.heap H locs := ⟨_, hB_st.wA (k := 1) rfl est_4, hF.up (by omega) (by omega), hW⟩
  refine lv_aload_n hx hb dX3_copyFrom_32 rfl (lv_at hl 1 rfl) ?_
  refine k_get (v := .ref (ad (b2 + 1 + 2))) hE hW (hB_sx.fr hF (by omega)).o (hB_sx.fr hF (by omega)).obj rfl inX3 2 (by decide) q43 rfl dX3_copyFrom_33 ?_
  refine lv_iconst (v := (0 : Int32)) hx hb dX3_copyFrom_36 (by decide) ?_
  refine lv_aload_n hx hb dX3_copyFrom_37 rfl (lv_at hl 0 rfl) ?_
  refine k_get (v := .ref (ad (b + 1 + 2))) hE hW hB_st.o hB_st.obj rfl inX3 2 (by decide) q43 rfl dX3_copyFrom_38 ?_
  refine lv_iconst (v := (0 : Int32)) hx hb dX3_copyFrom_41 (by decide) ?_
  refine lv_sipush (v := (200 : Int32)) hx hb dX3_copyFrom_42 (by decide) ?_
  obtain ⟨g_5, h⟩ := zc_e h
  obtain ⟨st_6, est_6, h⟩ := zl_e h
  refine k_copyi (t := 0) (rest := []) hE hW (hE.2.2.1.symm.trans (hE.2.2.1.trans hl.1.symm)) q727 q612 q611 q14 ((hB_sx.fr hF (by omega)).memA 2 (Nat.le_of_ble_eq_true rfl)) ((hB_sx.fr hF (by omega)).arr 2 rfl) (hB_st.memA 2 (Nat.le_of_ble_eq_true rfl)) (hB_st.arr 2 rfl) rfl rfl g_5 (fun _ _ => rfl) (Nat.le_of_ble_eq_true rfl) (Nat.le_of_ble_eq_true rfl) dX3_copyFrom_45 (fun H locs hW => ?_)
  obtain ⟨c, hB_st, hF, hW⟩ : ∃ c', LgB ct J ad c' b st_6 ∧ Fr c0 c' b 8 ∧ HW D J ad c' (aA J ad s.heap.size) s.heap H locs := ⟨_, hB_st.wA (k := 2) rfl est_6, hF.up (by omega) (by omega), hW⟩
  refine lv_aload_n hx hb dX3_copyFrom_48 rfl (lv_at hl 1 rfl) ?_
  refine k_get (v := .ref (ad (b2 + 1 + 3))) hE hW (hB_sx.fr hF (by omega)).o (hB_sx.fr hF (by omega)).obj rfl inX3 3 (by decide) q45 rfl dX3_copyFrom_49 ?_
  refine lv_iconst (v := (0 : Int32)) hx hb dX3_copyFrom_52 (by decide) ?_
  refine lv_aload_n hx hb dX3_copyFrom_53 rfl (lv_at hl 0 rfl) ?_
  refine k_get (v := .ref (ad (b + 1 + 3))) hE hW hB_st.o hB_st.obj rfl inX3 3 (by decide) q45 rfl dX3_copyFrom_54 ?_
  refine lv_iconst (v := (0 : Int32)) hx hb dX3_copyFrom_57 (by decide) ?_
  refine lv_sipush (v := (200 : Int32)) hx hb dX3_copyFrom_58 (by decide) ?_
  obtain ⟨g_7, h⟩ := zc_e h
  obtain ⟨st_8, est_8, h⟩ := zl_e h
  refine k_copyi (t := 0) (rest := []) hE hW (hE.2.2.1.symm.trans (hE.2.2.1.trans hl.1.symm)) q727 q612 q611 q14 ((hB_sx.fr hF (by omega)).memA 3 (Nat.le_of_ble_eq_true rfl)) ((hB_sx.fr hF (by omega)).arr 3 rfl) (hB_st.memA 3 (Nat.le_of_ble_eq_true rfl)) (hB_st.arr 3 rfl) rfl rfl g_7 (fun _ _ => rfl) (Nat.le_of_ble_eq_true rfl) (Nat.le_of_ble_eq_true rfl) dX3_copyFrom_61 (fun H locs hW => ?_)
  obtain ⟨c, hB_st, hF, hW⟩ : ∃ c', LgB ct J ad c' b st_8 ∧ Fr c0 c' b 8 ∧ HW D J ad c' (aA J ad s.heap.size) s.heap H locs := ⟨_, hB_st.wA (k := 3) rfl est_8, hF.up (by omega) (by omega), hW⟩
  refine lv_aload_n hx hb dX3_copyFrom_64 rfl (lv_at hl 1 rfl) ?_
  refine k_get (v := .ref (ad (b2 + 1 + 4))) hE hW (hB_sx.fr hF (by omega)).o (hB_sx.fr hF (by omega)).obj rfl inX3 4 (by decide) q47 rfl dX3_copyFrom_65 ?_
  refine lv_iconst (v := (0 : Int32)) hx hb dX3_copyFrom_68 (by decide) ?_
  refine lv_aload_n hx hb dX3_copyFrom_69 rfl (lv_at hl 0 rfl) ?_
  refine k_get (v := .ref (ad (b + 1 + 4))) hE hW hB_st.o hB_st.obj rfl inX3 4 (by decide) q47 rfl dX3_copyFrom_70 ?_
  refine lv_iconst (v := (0 : Int32)) hx hb dX3_copyFrom_73 (by decide) ?_
  refine lv_sipush (v := (200 : Int32)) hx hb dX3_copyFrom_74 (by decide) ?_
  obtain ⟨g_9, h⟩ := zc_e h
  obtain ⟨st_10, est_10, h⟩ := zl_e h
  refine k_copyi (t := 0) (rest := []) hE hW (hE.2.2.1.symm.trans (hE.2.2.1.trans hl.1.symm)) q727 q612 q611 q14 ((hB_sx.fr hF (by omega)).memA 4 (Nat.le_of_ble_eq_true rfl)) ((hB_sx.fr hF (by omega)).arr 4 rfl) (hB_st.memA 4 (Nat.le_of_ble_eq_true rfl)) (hB_st.arr 4 rfl) rfl rfl g_9 (fun _ _ => rfl) (Nat.le_of_ble_eq_true rfl) (Nat.le_of_ble_eq_true rfl) dX3_copyFrom_77 (fun H locs hW => ?_)
  obtain ⟨c, hB_st, hF, hW⟩ : ∃ c', LgB ct J ad c' b st_10 ∧ Fr c0 c' b 8 ∧ HW D J ad c' (aA J ad s.heap.size) s.heap H locs := ⟨_, hB_st.wA (k := 4) rfl est_10, hF.up (by omega) (by omega), hW⟩
  refine lv_aload_n hx hb dX3_copyFrom_80 rfl (lv_at hl 1 rfl) ?_
  refine k_get (v := .ref (ad (b2 + 1 + 5))) hE hW (hB_sx.fr hF (by omega)).o (hB_sx.fr hF (by omega)).obj rfl inX3 5 (by decide) q50 rfl dX3_copyFrom_81 ?_
  refine lv_iconst (v := (0 : Int32)) hx hb dX3_copyFrom_84 (by decide) ?_
  refine lv_aload_n hx hb dX3_copyFrom_85 rfl (lv_at hl 0 rfl) ?_
  refine k_get (v := .ref (ad (b + 1 + 5))) hE hW hB_st.o hB_st.obj rfl inX3 5 (by decide) q50 rfl dX3_copyFrom_86 ?_
  refine lv_iconst (v := (0 : Int32)) hx hb dX3_copyFrom_89 (by decide) ?_
  refine lv_sipush (v := (201 : Int32)) hx hb dX3_copyFrom_90 (by decide) ?_
  obtain ⟨g_11, h⟩ := zc_e h
  obtain ⟨st_12, est_12, h⟩ := zl_e h
  refine k_copyi (t := 0) (rest := []) hE hW (hE.2.2.1.symm.trans (hE.2.2.1.trans hl.1.symm)) q727 q612 q611 q14 ((hB_sx.fr hF (by omega)).memA 5 (Nat.le_of_ble_eq_true rfl)) ((hB_sx.fr hF (by omega)).arr 5 rfl) (hB_st.memA 5 (Nat.le_of_ble_eq_true rfl)) (hB_st.arr 5 rfl) rfl rfl g_11 (fun _ _ => rfl) (Nat.le_of_ble_eq_true rfl) (Nat.le_of_ble_eq_true rfl) dX3_copyFrom_93 (fun H locs hW => ?_)
  obtain ⟨c, hB_st, hF, hW⟩ : ∃ c', LgB ct J ad c' b st_12 ∧ Fr c0 c' b 8 ∧ HW D J ad c' (aA J ad s.heap.size) s.heap H locs := ⟨_, hB_st.wA (k := 5) rfl est_12, hF.up (by omega) (by omega), hW⟩
  refine lv_aload_n hx hb dX3_copyFrom_96 rfl (lv_at hl 0 rfl) ?_
  refine lv_aload_n hx hb dX3_copyFrom_97 rfl (lv_at hl 1 rfl) ?_
  refine k_get (v := .int (sx.2 0)) hE hW (hB_sx.fr hF (by omega)).o (hB_sx.fr hF (by omega)).obj rfl inX3 7 (by decide) q54 rfl dX3_copyFrom_98 ?_
  obtain ⟨st_13, est_13, h⟩ := zl_e h
  refine k_put hE hW hB_st.o hB_st.obj rfl inX3 tyX3 tyX3_ok nmX3 7 (by decide) q54 rfl rfl rfl (Nat.le_of_ble_eq_true rfl) dX3_copyFrom_101 (fun H locs hW => ?_)
  obtain ⟨c, hB_st, hF, hW⟩ : ∃ c', LgB ct J ad c' b st_13 ∧ Fr c0 c' b 8 ∧ HW D J ad c' (aA J ad s.heap.size) s.heap H locs := ⟨_, hB_st.wF (k := 7) (j := 0) rfl est_13, hF.up (by omega) (by omega), hW⟩
  refine lv_aload_n hx hb dX3_copyFrom_104 rfl (lv_at hl 0 rfl) ?_
  refine lv_aload_n hx hb dX3_copyFrom_105 rfl (lv_at hl 1 rfl) ?_
  refine k_get (v := .int (sx.2 1)) hE hW (hB_sx.fr hF (by omega)).o (hB_sx.fr hF (by omega)).obj rfl inX3 8 (by decide) q58 rfl dX3_copyFrom_106 ?_
  obtain ⟨st_14, est_14, h⟩ := zl_e h
  refine k_put hE hW hB_st.o hB_st.obj rfl inX3 tyX3 tyX3_ok nmX3 8 (by decide) q58 rfl rfl rfl (Nat.le_of_ble_eq_true rfl) dX3_copyFrom_109 (fun H locs hW => ?_)
  obtain ⟨c, hB_st, hF, hW⟩ : ∃ c', LgB ct J ad c' b st_14 ∧ Fr c0 c' b 8 ∧ HW D J ad c' (aA J ad s.heap.size) s.heap H locs := ⟨_, hB_st.wF (k := 8) (j := 1) rfl est_14, hF.up (by omega) (by omega), hW⟩
  obtain rfl := Option.some.inj h
  exact k_vret hE hr hlk hW ⟨hB_st, hF⟩ dX3_copyFrom_112
set_option maxHeartbeats 4000000 in
set_option maxRecDepth 100000 in
theorem mX4_copyFrom {l : Launch} {D : va_G} {ct : Nat → ClassId} {J : List Nat} {ad : Nat → Nat} {c0 : CF} {nR : Nat} (hnR : nR < 2147483648) {b : Nat} {st : CS} (hB_st : RwB nR ct J ad c0 b st) {b2 : Nat} {sx : CS} (hB_sx : RwB nR ct J ad c0 b2 sx) (hdis : b2 + 3 ≤ b ∨ b + 3 ≤ b2) {st9 : CS} (h : fX4_copyFrom  nR  sx st = some st9) : Mv l D ct J ad yX4_copyFrom cX4_copyFrom 2 none (rr 1 40) [.ref (ad b), .ref (ad b2)] c0 (fun c' => RwB nR ct J ad c' b st9 ∧ Fr c0 c' b 3) := by
  refine Mv_of (own := RX4) (by decide) rfl (Nat.le_of_ble_eq_true rfl) (fun p e s m below meth cd hE hr hlk hW ls hl => ?_)
  have hx := hE.1
  have hb := hE.2.1
  have hl : lv_has ls 2 [(0, .ref (ad b)), (1, .ref (ad b2))] := hl
  rw [fX4_copyFrom] at h
  obtain ⟨c, hB_st, hF, hW⟩ : ∃ c', RwB nR ct J ad c' b st ∧ Fr c0 c' b 3 ∧ HW D J ad c' (aA J ad s.heap.size) s.heap s.heap [] := ⟨c0, hB_st, Fr.rf, hW⟩
  refine lv_aload_n hx hb dX4_copyFrom_0 rfl (lv_at hl 0 rfl) ?_
  refine lv_aload_n hx hb dX4_copyFrom_1 rfl (lv_at hl 1 rfl) ?_
  refine k_get (v := .int (sx.2 0)) hE hW (hB_sx.fr hF (by omega)).o (hB_sx.fr hF (by omega)).obj rfl inX4 2 (by decide) q120 rfl dX4_copyFrom_2 ?_
  refine lv_aload_n hx hb dX4_copyFrom_5 rfl (lv_at hl 0 rfl) ?_
  refine k_get (v := .ref (ad (b + 1 + 0))) hE hW hB_st.o hB_st.obj rfl inX4 0 (by decide) q116 rfl dX4_copyFrom_6 ?_
  refine k_alen (t := 0) hE hW (hB_st.memA 0 (Nat.le_of_ble_eq_true rfl)) (hB_st.arr 0 rfl) rfl dX4_copyFrom_9 ?_
  refine va_mmin hx hb (hE.2.2.1.trans hl.1.symm) hE.2.2.2.1 (hE.2.2.2.2.1 _ q736) (hE.2.2.2.2.1 _ q460) (hE.2.2.2.2.1 _ q6) (hE.2.2.2.2.1 _ q461) (Nat.le_of_ble_eq_true rfl) (Nat.le_of_ble_eq_true rfl) (Nat.zero_le _) (Nat.zero_le _) dX4_copyFrom_10 ?_
  obtain ⟨st_1, est_1, h⟩ := zl_e h
  refine k_put hE hW hB_st.o hB_st.obj rfl inX4 tyX4 tyX4_ok nmX4 2 (by decide) q120 rfl rfl rfl (Nat.le_of_ble_eq_true rfl) dX4_copyFrom_13 (fun H locs hW => ?_)
  obtain ⟨c, hB_st, hF, hW⟩ : ∃ c', RwB nR ct J ad c' b st_1 ∧ Fr c0 c' b 3 ∧ HW D J ad c' (aA J ad s.heap.size) s.heap H locs := ⟨_, hB_st.wF (k := 2) (j := 0) rfl est_1, hF.up (by omega) (by omega), hW⟩
  refine lv_aload_n hx hb dX4_copyFrom_16 rfl (lv_at hl 1 rfl) ?_
  refine k_get (v := .ref (ad (b2 + 1 + 0))) hE hW (hB_sx.fr hF (by omega)).o (hB_sx.fr hF (by omega)).obj rfl inX4 0 (by decide) q116 rfl dX4_copyFrom_17 ?_
  refine lv_iconst (v := (0 : Int32)) hx hb dX4_copyFrom_20 (by decide) ?_
  refine lv_aload_n hx hb dX4_copyFrom_21 rfl (lv_at hl 0 rfl) ?_
  refine k_get (v := .ref (ad (b + 1 + 0))) hE hW hB_st.o hB_st.obj rfl inX4 0 (by decide) q116 rfl dX4_copyFrom_22 ?_
  refine lv_iconst (v := (0 : Int32)) hx hb dX4_copyFrom_25 (by decide) ?_
  refine lv_aload_n hx hb dX4_copyFrom_26 rfl (lv_at hl 0 rfl) ?_
  refine k_get (v := .int (st_1.2 0)) hE hW hB_st.o hB_st.obj rfl inX4 2 (by decide) q120 rfl dX4_copyFrom_27 ?_
  obtain ⟨g_2, h⟩ := zc_e h
  obtain ⟨st_3, est_3, h⟩ := zl_e h
  refine k_copyi (t := 0) (rest := []) hE hW (hE.2.2.1.symm.trans (hE.2.2.1.trans hl.1.symm)) q737 q612 q611 q14 ((hB_sx.fr hF (by omega)).memA 0 (Nat.le_of_ble_eq_true rfl)) ((hB_sx.fr hF (by omega)).arr 0 rfl) (hB_st.memA 0 (Nat.le_of_ble_eq_true rfl)) (hB_st.arr 0 rfl) rfl rfl g_2 (fun _ _ => rfl) (Nat.le_of_ble_eq_true rfl) (Nat.le_of_ble_eq_true rfl) dX4_copyFrom_30 (fun H locs hW => ?_)
  obtain ⟨c, hB_st, hF, hW⟩ : ∃ c', RwB nR ct J ad c' b st_3 ∧ Fr c0 c' b 3 ∧ HW D J ad c' (aA J ad s.heap.size) s.heap H locs := ⟨_, hB_st.wA (k := 0) rfl est_3, hF.up (by omega) (by omega), hW⟩
  refine lv_aload_n hx hb dX4_copyFrom_33 rfl (lv_at hl 1 rfl) ?_
  refine k_get (v := .ref (ad (b2 + 1 + 1))) hE hW (hB_sx.fr hF (by omega)).o (hB_sx.fr hF (by omega)).obj rfl inX4 1 (by decide) q118 rfl dX4_copyFrom_34 ?_
  refine lv_iconst (v := (0 : Int32)) hx hb dX4_copyFrom_37 (by decide) ?_
  refine lv_aload_n hx hb dX4_copyFrom_38 rfl (lv_at hl 0 rfl) ?_
  refine k_get (v := .ref (ad (b + 1 + 1))) hE hW hB_st.o hB_st.obj rfl inX4 1 (by decide) q118 rfl dX4_copyFrom_39 ?_
  refine lv_iconst (v := (0 : Int32)) hx hb dX4_copyFrom_42 (by decide) ?_
  refine lv_aload_n hx hb dX4_copyFrom_43 rfl (lv_at hl 0 rfl) ?_
  refine k_get (v := .int (st_3.2 0)) hE hW hB_st.o hB_st.obj rfl inX4 2 (by decide) q120 rfl dX4_copyFrom_44 ?_
  obtain ⟨g_4, h⟩ := zc_e h
  obtain ⟨st_5, est_5, h⟩ := zl_e h
  refine k_copyi (t := 0) (rest := []) hE hW (hE.2.2.1.symm.trans (hE.2.2.1.trans hl.1.symm)) q737 q612 q611 q14 ((hB_sx.fr hF (by omega)).memA 1 (Nat.le_of_ble_eq_true rfl)) ((hB_sx.fr hF (by omega)).arr 1 rfl) (hB_st.memA 1 (Nat.le_of_ble_eq_true rfl)) (hB_st.arr 1 rfl) rfl rfl g_4 (fun _ _ => rfl) (Nat.le_of_ble_eq_true rfl) (Nat.le_of_ble_eq_true rfl) dX4_copyFrom_47 (fun H locs hW => ?_)
  obtain ⟨c, hB_st, hF, hW⟩ : ∃ c', RwB nR ct J ad c' b st_5 ∧ Fr c0 c' b 3 ∧ HW D J ad c' (aA J ad s.heap.size) s.heap H locs := ⟨_, hB_st.wA (k := 1) rfl est_5, hF.up (by omega) (by omega), hW⟩
  obtain rfl := Option.some.inj h
  exact k_vret hE hr hlk hW ⟨hB_st, hF⟩ dX4_copyFrom_50
set_option maxHeartbeats 4000000 in
set_option maxRecDepth 100000 in
theorem mX4_isFull {l : Launch} {D : va_G} {ct : Nat → ClassId} {J : List Nat} {ad : Nat → Nat} {c0 : CF} {nR : Nat} (hnR : nR < 2147483648) {b : Nat} {st : CS} (hB_st : RwB nR ct J ad c0 b st) {r : Int32} (h : fX4_isFull  nR  st = some r) : Mi l D ct J ad yX4_isFull cX4_isFull 1 (some .boolean) (rr 0 0) [.ref (ad b)] c0 r (fun c' => c' = c0) := by
  refine Mi_of (own := RX4) (by decide) rfl (Nat.le_of_ble_eq_true rfl) (fun p e s m below meth cd hE hr hlk hW ls hl => ?_)
  have hx := hE.1
  have hb := hE.2.1
  have hl : lv_has ls 1 [(0, .ref (ad b))] := hl
  rw [fX4_isFull] at h
  refine lv_aload_n hx hb dX4_isFull_0 rfl (lv_at hl 0 rfl) ?_
  refine k_get (v := .int (st.2 0)) hE hW hB_st.o hB_st.obj rfl inX4 2 (by decide) q120 rfl dX4_isFull_1 ?_
  refine lv_aload_n hx hb dX4_isFull_4 rfl (lv_at hl 0 rfl) ?_
  refine k_get (v := .ref (ad (b + 1 + 0))) hE hW hB_st.o hB_st.obj rfl inX4 0 (by decide) q116 rfl dX4_isFull_5 ?_
  refine k_alen (t := 0) hE hW (hB_st.memA 0 (Nat.le_of_ble_eq_true rfl)) (hB_st.arr 0 rfl) rfl dX4_isFull_8 ?_
  refine lv_icmp_lt (tgt := 16) hx hb dX4_isFull_9 (by decide) (fun k_1 => ?_) (fun k_1 => ?_)
  · have h := it_t k_1 h
    refine lv_iconst (v := (0 : Int32)) hx hb dX4_isFull_16 (by decide) ?_
    obtain rfl := Option.some.inj h
    exact k_zret hE hr hlk hW rfl rfl rfl dX4_isFull_17
  · have h := it_f k_1 h
    refine lv_iconst (v := (1 : Int32)) hx hb dX4_isFull_12 (by decide) ?_
    refine lv_goto (tgt := 17) hx hb dX4_isFull_13 (by decide) ?_
    obtain rfl := Option.some.inj h
    exact k_zret hE hr hlk hW rfl rfl rfl dX4_isFull_17
set_option maxHeartbeats 4000000 in
set_option maxRecDepth 100000 in
theorem mX4_takeRow {l : Launch} {D : va_G} {ct : Nat → ClassId} {J : List Nat} {ad : Nat → Nat} {c0 : CF} {a1 : Int32} {a2 : Int32} {nR : Nat} (hnR : nR < 2147483648) {b : Nat} {st : CS} (hB_st : RwB nR ct J ad c0 b st) {r : Int32} {st9 : CS} (h : fX4_takeRow  nR a1 a2 st = some (r, st9)) : Mi l D ct J ad yX4_takeRow cX4_takeRow 3 (some .int) (rr 0 0) [.ref (ad b), .int a1, .int a2] c0 r (fun c' => RwB nR ct J ad c' b st9 ∧ Fr c0 c' b 3) := by
  refine Mi_of (own := RX4) (by decide) rfl (Nat.le_of_ble_eq_true rfl) (fun p e s m below meth cd hE hr hlk hW ls hl => ?_)
  have hx := hE.1
  have hb := hE.2.1
  have hl : lv_has ls 3 [(0, .ref (ad b)), (1, .int a1), (2, .int a2)] := hl
  rw [fX4_takeRow] at h
  obtain ⟨c, hB_st, hF, hW⟩ : ∃ c', RwB nR ct J ad c' b st ∧ Fr c0 c' b 3 ∧ HW D J ad c' (aA J ad s.heap.size) s.heap s.heap [] := ⟨c0, hB_st, Fr.rf, hW⟩
  refine lv_aload_n hx hb dX4_takeRow_0 rfl (lv_at hl 0 rfl) ?_
  refine k_get (v := .ref (ad (b + 1 + 0))) hE hW hB_st.o hB_st.obj rfl inX4 0 (by decide) q116 rfl dX4_takeRow_1 ?_
  refine lv_aload_n hx hb dX4_takeRow_4 rfl (lv_at hl 0 rfl) ?_
  refine k_get (v := .int (st.2 0)) hE hW hB_st.o hB_st.obj rfl inX4 2 (by decide) q120 rfl dX4_takeRow_5 ?_
  refine lv_iload_n hx hb dX4_takeRow_8 rfl (lv_at hl 1 rfl) ?_
  obtain ⟨g_1, h⟩ := zi_e h
  obtain ⟨st_2, est_2, h⟩ := zl_e h
  refine k_iast hE hW (hB_st.memA 0 (Nat.le_of_ble_eq_true rfl)) (hB_st.arr 0 rfl) g_1 dX4_takeRow_9 (fun H locs hW => ?_)
  obtain ⟨c, hB_st, hF, hW⟩ : ∃ c', RwB nR ct J ad c' b st_2 ∧ Fr c0 c' b 3 ∧ HW D J ad c' (aA J ad s.heap.size) s.heap H locs := ⟨_, hB_st.wA (k := 0) rfl est_2, hF.up (by omega) (by omega), hW⟩
  refine lv_aload_n hx hb dX4_takeRow_10 rfl (lv_at hl 0 rfl) ?_
  refine k_get (v := .ref (ad (b + 1 + 1))) hE hW hB_st.o hB_st.obj rfl inX4 1 (by decide) q118 rfl dX4_takeRow_11 ?_
  refine lv_aload_n hx hb dX4_takeRow_14 rfl (lv_at hl 0 rfl) ?_
  refine k_get (v := .int (st_2.2 0)) hE hW hB_st.o hB_st.obj rfl inX4 2 (by decide) q120 rfl dX4_takeRow_15 ?_
  refine lv_iload_n hx hb dX4_takeRow_18 rfl (lv_at hl 2 rfl) ?_
  obtain ⟨g_3, h⟩ := zi_e h
  obtain ⟨st_4, est_4, h⟩ := zl_e h
  refine k_iast hE hW (hB_st.memA 1 (Nat.le_of_ble_eq_true rfl)) (hB_st.arr 1 rfl) g_3 dX4_takeRow_19 (fun H locs hW => ?_)
  obtain ⟨c, hB_st, hF, hW⟩ : ∃ c', RwB nR ct J ad c' b st_4 ∧ Fr c0 c' b 3 ∧ HW D J ad c' (aA J ad s.heap.size) s.heap H locs := ⟨_, hB_st.wA (k := 1) rfl est_4, hF.up (by omega) (by omega), hW⟩
  refine lv_aload_n hx hb dX4_takeRow_20 rfl (lv_at hl 0 rfl) ?_
  refine lv_dup hx hb dX4_takeRow_21 rfl ?_
  refine k_get (v := .int (st_4.2 0)) hE hW hB_st.o hB_st.obj rfl inX4 2 (by decide) q120 rfl dX4_takeRow_22 ?_
  refine lv_iconst (v := (1 : Int32)) hx hb dX4_takeRow_25 (by decide) ?_
  refine lv_iadd hx hb dX4_takeRow_26 ?_
  obtain ⟨st_5, est_5, h⟩ := zl_e h
  refine k_put hE hW hB_st.o hB_st.obj rfl inX4 tyX4 tyX4_ok nmX4 2 (by decide) q120 rfl rfl rfl (Nat.le_of_ble_eq_true rfl) dX4_takeRow_27 (fun H locs hW => ?_)
  obtain ⟨c, hB_st, hF, hW⟩ : ∃ c', RwB nR ct J ad c' b st_5 ∧ Fr c0 c' b 3 ∧ HW D J ad c' (aA J ad s.heap.size) s.heap H locs := ⟨_, hB_st.wF (k := 2) (j := 0) rfl est_5, hF.up (by omega) (by omega), hW⟩
  refine lv_aload_n hx hb dX4_takeRow_30 rfl (lv_at hl 0 rfl) ?_
  refine k_get (v := .int (st_5.2 0)) hE hW hB_st.o hB_st.obj rfl inX4 2 (by decide) q120 rfl dX4_takeRow_31 ?_
  obtain ⟨rfl, rfl⟩ := Prod.mk.inj (Option.some.inj h)
  exact k_iret hE hr hlk hW ⟨hB_st, hF⟩ rfl dX4_takeRow_34
set_option maxHeartbeats 4000000 in
set_option maxRecDepth 100000 in
theorem wX5_copyFrom_2 {p : Program} {l : Launch} {e : Env} {s : State} {m : MethodId} {args : Array Value} {below : List Frame} {meth : Method} {cd : Code} {D : va_G} {ct : Nat → ClassId} {J : List Nat} {ad : Nat → Nat} {c0 : CF} {b : Nat} (hE : ME p s m cd args D ct cX5_copyFrom RX5 3) (hr : meth.sig.returnType = none) (hlk : meth.locks = false) {b2 : Nat} {sx : SS} (hB_sx : StB ct J ad c0 b2 sx) (hdis : b2 + 45 ≤ b ∨ b + 45 ≤ b2) {st9 : SS} : ∀ (n : Nat) (x2 : Int32) (st : SS) (c : CF) (H : Heap) (locs : List Loc) (ls : Array Slot), HW D J ad c (aA J ad s.heap.size) s.heap H locs → StB ct J ad c b st → Fr c0 c b 45 → lv_has ls 3 [(0, .ref (ad b)), (1, .ref (ad b2)), (2, .int x2)] → fX5_copyFrom_2 sx n x2 st = some st9 → W p l e (rr 2 62) s m args below meth cd H locs 0 0 (MQ below (Qv D J ad s.heap.size (fun c' => StB ct J ad c' b st9 ∧ Fr c0 c' b 45)) args s 0 0 (aA J ad s.heap.size)) (F0 m 2 ls []) := by
  have hx := hE.1
  have hb := hE.2.1
  intro n
  induction n with
  | zero =>
    intro x2 st c H locs ls hW hB_st hF hl h
    have h2 : (none : Option SS) = some st9 := h
    cases h2
  | succ n ih =>
    intro x2 st c H locs ls hW hB_st hF hl h
    rw [fX5_copyFrom_2] at h
    refine lv_iload_n hx hb dX5_copyFrom_2 rfl (lv_at hl 2 rfl) ?_
    refine lv_iconst (v := (4 : Int32)) hx hb dX5_copyFrom_3 (by decide) ?_
    refine lv_icmp_ge (tgt := 28) hx hb dX5_copyFrom_4 (by decide) (fun k_1 => ?_) (fun k_1 => ?_)
    · have h := it_t k_1 h
      refine lv_aload_n hx hb dX5_copyFrom_28 rfl (lv_at hl 0 rfl) ?_
      refine k_get (v := .ref (ad (b + 34))) hE hW hB_st.o hB_st.obj rfl inX5 1 (by decide) q132 rfl dX5_copyFrom_29 ?_
      refine lv_aload_n hx hb dX5_copyFrom_32 rfl (lv_at hl 1 rfl) ?_
      refine k_get (v := .ref (ad (b2 + 34))) hE hW (hB_sx.fr hF (by omega)).o (hB_sx.fr hF (by omega)).obj rfl inX5 1 (by decide) q132 rfl dX5_copyFrom_33 ?_
      obtain ⟨y_3, hy_3, h⟩ := zb_e h
      obtain ⟨st_2, est_2, h⟩ := zl_e h
      refine k_callVNv (rest := []) hE hW hl.1 (mX1_copyFrom (hB_st.gr) ((hB_sx.fr hF (by omega)).gr) (by omega) hy_3) (hB_st.gr).o (hB_st.gr).obj rfl q728 q730 qs69 q4 q731 hd_X1_copyFrom.2 ⟨Nat.le_of_ble_eq_true rfl, Nat.le_of_ble_eq_true rfl⟩ ⟨rfl, rfl⟩ rfl (Nat.le_of_ble_eq_true rfl) dX5_copyFrom_36 ⟨Nat.zero_le _, Nat.zero_le _⟩ (fun c1 H locs hP hW => ?_)
      obtain ⟨c, hB_st, hF, hW⟩ : ∃ c', StB ct J ad c' b st_2 ∧ Fr c0 c' b 45 ∧ HW D J ad c' (aA J ad s.heap.size) s.heap H locs := ⟨c1, by rw [est_2]; exact (hB_st.pGr hP.1 hP.2), hF.trans (hP.2.wide (by omega) (by omega)), hW⟩
      refine lv_aload_n hx hb dX5_copyFrom_39 rfl (lv_at hl 0 rfl) ?_
      refine k_get (v := .ref (ad (b + 39))) hE hW hB_st.o hB_st.obj rfl inX5 2 (by decide) q134 rfl dX5_copyFrom_40 ?_
      refine lv_aload_n hx hb dX5_copyFrom_43 rfl (lv_at hl 1 rfl) ?_
      refine k_get (v := .ref (ad (b2 + 39))) hE hW (hB_sx.fr hF (by omega)).o (hB_sx.fr hF (by omega)).obj rfl inX5 2 (by decide) q134 rfl dX5_copyFrom_44 ?_
      obtain ⟨y_5, hy_5, h⟩ := zb_e h
      obtain ⟨st_4, est_4, h⟩ := zl_e h
      refine k_callVNv (rest := []) hE hW hl.1 (mX4_copyFrom (Nat.le_of_ble_eq_true rfl) (hB_st.pl) ((hB_sx.fr hF (by omega)).pl) (by omega) hy_5) (hB_st.pl).o (hB_st.pl).obj rfl q732 q734 qs70 q5 q735 hd_X4_copyFrom.2 ⟨Nat.le_of_ble_eq_true rfl, Nat.le_of_ble_eq_true rfl⟩ ⟨rfl, rfl⟩ rfl (Nat.le_of_ble_eq_true rfl) dX5_copyFrom_47 ⟨Nat.zero_le _, Nat.zero_le _⟩ (fun c1 H locs hP hW => ?_)
      obtain ⟨c, hB_st, hF, hW⟩ : ∃ c', StB ct J ad c' b st_4 ∧ Fr c0 c' b 45 ∧ HW D J ad c' (aA J ad s.heap.size) s.heap H locs := ⟨c1, by rw [est_4]; exact (hB_st.pPl hP.1 hP.2), hF.trans (hP.2.wide (by omega) (by omega)), hW⟩
      refine lv_aload_n hx hb dX5_copyFrom_50 rfl (lv_at hl 0 rfl) ?_
      refine k_get (v := .ref (ad (b + 42))) hE hW hB_st.o hB_st.obj rfl inX5 3 (by decide) q136 rfl dX5_copyFrom_51 ?_
      refine lv_aload_n hx hb dX5_copyFrom_54 rfl (lv_at hl 1 rfl) ?_
      refine k_get (v := .ref (ad (b2 + 42))) hE hW (hB_sx.fr hF (by omega)).o (hB_sx.fr hF (by omega)).obj rfl inX5 3 (by decide) q136 rfl dX5_copyFrom_55 ?_
      obtain ⟨y_7, hy_7, h⟩ := zb_e h
      obtain ⟨st_6, est_6, h⟩ := zl_e h
      refine k_callVNv (rest := []) hE hW hl.1 (mX4_copyFrom (Nat.le_of_ble_eq_true rfl) (hB_st.bk) ((hB_sx.fr hF (by omega)).bk) (by omega) hy_7) (hB_st.bk).o (hB_st.bk).obj rfl q732 q734 qs70 q5 q735 hd_X4_copyFrom.2 ⟨Nat.le_of_ble_eq_true rfl, Nat.le_of_ble_eq_true rfl⟩ ⟨rfl, rfl⟩ rfl (Nat.le_of_ble_eq_true rfl) dX5_copyFrom_58 ⟨Nat.zero_le _, Nat.zero_le _⟩ (fun c1 H locs hP hW => ?_)
      obtain ⟨c, hB_st, hF, hW⟩ : ∃ c', StB ct J ad c' b st_6 ∧ Fr c0 c' b 45 ∧ HW D J ad c' (aA J ad s.heap.size) s.heap H locs := ⟨c1, by rw [est_6]; exact (hB_st.pBk hP.1 hP.2), hF.trans (hP.2.wide (by omega) (by omega)), hW⟩
      refine lv_aload_n hx hb dX5_copyFrom_61 rfl (lv_at hl 0 rfl) ?_
      refine lv_aload_n hx hb dX5_copyFrom_62 rfl (lv_at hl 1 rfl) ?_
      refine k_get (v := .int (sx.2.2.2.2 0)) hE hW (hB_sx.fr hF (by omega)).o (hB_sx.fr hF (by omega)).obj rfl inX5 4 (by decide) q138 rfl dX5_copyFrom_63 ?_
      obtain ⟨st_8, est_8, h⟩ := zl_e h
      refine k_put hE hW hB_st.o hB_st.obj rfl inX5 tyX5 tyX5_ok nmX5 4 (by decide) q138 rfl rfl rfl (Nat.le_of_ble_eq_true rfl) dX5_copyFrom_66 (fun H locs hW => ?_)
      obtain ⟨c, hB_st, hF, hW⟩ : ∃ c', StB ct J ad c' b st_8 ∧ Fr c0 c' b 45 ∧ HW D J ad c' (aA J ad s.heap.size) s.heap H locs := ⟨_, hB_st.wF (k := 4) (j := 0) rfl est_8, hF.up (by omega) (by omega), hW⟩
      refine lv_aload_n hx hb dX5_copyFrom_69 rfl (lv_at hl 0 rfl) ?_
      refine lv_aload_n hx hb dX5_copyFrom_70 rfl (lv_at hl 1 rfl) ?_
      refine k_get (v := .int (sx.2.2.2.2 1)) hE hW (hB_sx.fr hF (by omega)).o (hB_sx.fr hF (by omega)).obj rfl inX5 5 (by decide) q140 rfl dX5_copyFrom_71 ?_
      obtain ⟨st_9, est_9, h⟩ := zl_e h
      refine k_put hE hW hB_st.o hB_st.obj rfl inX5 tyX5 tyX5_ok nmX5 5 (by decide) q140 rfl rfl rfl (Nat.le_of_ble_eq_true rfl) dX5_copyFrom_74 (fun H locs hW => ?_)
      obtain ⟨c, hB_st, hF, hW⟩ : ∃ c', StB ct J ad c' b st_9 ∧ Fr c0 c' b 45 ∧ HW D J ad c' (aA J ad s.heap.size) s.heap H locs := ⟨_, hB_st.wF (k := 5) (j := 1) rfl est_9, hF.up (by omega) (by omega), hW⟩
      refine lv_aload_n hx hb dX5_copyFrom_77 rfl (lv_at hl 0 rfl) ?_
      refine lv_aload_n hx hb dX5_copyFrom_78 rfl (lv_at hl 1 rfl) ?_
      refine k_get (v := .int (sx.2.2.2.2 2)) hE hW (hB_sx.fr hF (by omega)).o (hB_sx.fr hF (by omega)).obj rfl inX5 6 (by decide) q142 rfl dX5_copyFrom_79 ?_
      obtain ⟨st_10, est_10, h⟩ := zl_e h
      refine k_put hE hW hB_st.o hB_st.obj rfl inX5 tyX5 tyX5_ok nmX5 6 (by decide) q142 rfl rfl rfl (Nat.le_of_ble_eq_true rfl) dX5_copyFrom_82 (fun H locs hW => ?_)
      obtain ⟨c, hB_st, hF, hW⟩ : ∃ c', StB ct J ad c' b st_10 ∧ Fr c0 c' b 45 ∧ HW D J ad c' (aA J ad s.heap.size) s.heap H locs := ⟨_, hB_st.wF (k := 6) (j := 2) rfl est_10, hF.up (by omega) (by omega), hW⟩
      refine lv_aload_n hx hb dX5_copyFrom_85 rfl (lv_at hl 0 rfl) ?_
      refine lv_aload_n hx hb dX5_copyFrom_86 rfl (lv_at hl 1 rfl) ?_
      refine k_get (v := .int (sx.2.2.2.2 3)) hE hW (hB_sx.fr hF (by omega)).o (hB_sx.fr hF (by omega)).obj rfl inX5 7 (by decide) q144 rfl dX5_copyFrom_87 ?_
      obtain ⟨st_11, est_11, h⟩ := zl_e h
      refine k_put hE hW hB_st.o hB_st.obj rfl inX5 tyX5 tyX5_ok nmX5 7 (by decide) q144 rfl rfl rfl (Nat.le_of_ble_eq_true rfl) dX5_copyFrom_90 (fun H locs hW => ?_)
      obtain ⟨c, hB_st, hF, hW⟩ : ∃ c', StB ct J ad c' b st_11 ∧ Fr c0 c' b 45 ∧ HW D J ad c' (aA J ad s.heap.size) s.heap H locs := ⟨_, hB_st.wF (k := 7) (j := 3) rfl est_11, hF.up (by omega) (by omega), hW⟩
      obtain rfl := Option.some.inj h
      exact k_vret hE hr hlk hW ⟨hB_st, hF⟩ dX5_copyFrom_93
    · have h := it_f k_1 h
      refine lv_aload_n hx hb dX5_copyFrom_7 rfl (lv_at hl 0 rfl) ?_
      refine k_get (v := .ref (ad (b + 1))) hE hW hB_st.o hB_st.obj rfl inX5 0 (by decide) q130 rfl dX5_copyFrom_8 ?_
      refine lv_iload_n hx hb dX5_copyFrom_11 rfl (lv_at hl 2 rfl) ?_
      obtain ⟨g_12, h⟩ := zi_e h
      have hg_12 := vp_lt g_12
      refine k_aaldR3 (g := fun i => b + 1 + 1 + 8 * i) hE hW hB_st.logs.o hB_st.logs.out g_12 dX5_copyFrom_12 ?_
      refine lv_aload_n hx hb dX5_copyFrom_13 rfl (lv_at hl 1 rfl) ?_
      refine k_get (v := .ref (ad (b2 + 1))) hE hW (hB_sx.fr hF (by omega)).o (hB_sx.fr hF (by omega)).obj rfl inX5 0 (by decide) q130 rfl dX5_copyFrom_14 ?_
      refine lv_iload_n hx hb dX5_copyFrom_17 rfl (lv_at hl 2 rfl) ?_
      obtain ⟨g_13, h⟩ := zi_e h
      have hg_13 := vp_lt g_13
      refine k_aaldR3 (g := fun i => b2 + 1 + 1 + 8 * i) hE hW (hB_sx.fr hF (by omega)).logs.o (hB_sx.fr hF (by omega)).logs.out g_13 dX5_copyFrom_18 ?_
      obtain ⟨y_15, hy_15, h⟩ := zb_e h
      obtain ⟨st_14, est_14, h⟩ := zl_e h
      refine k_callVNv (rest := []) hE hW hl.1 (mX3_copyFrom (hB_st.log hg_12) ((hB_sx.fr hF (by omega)).log hg_13) (by omega) hy_15) (hB_st.log hg_12).o (hB_st.log hg_12).obj rfl q723 q725 qs68 q3 q726 hd_X3_copyFrom.2 ⟨Nat.le_of_ble_eq_true rfl, Nat.le_of_ble_eq_true rfl⟩ ⟨rfl, rfl⟩ rfl (Nat.le_of_ble_eq_true rfl) dX5_copyFrom_19 ⟨Nat.zero_le _, Nat.zero_le _⟩ (fun c1 H locs hP hW => ?_)
      obtain ⟨c, hB_st, hF, hW⟩ : ∃ c', StB ct J ad c' b st_14 ∧ Fr c0 c' b 45 ∧ HW D J ad c' (aA J ad s.heap.size) s.heap H locs := ⟨c1, by rw [est_14]; exact (hB_st.pLog hg_12 hP.1 hP.2), hF.trans (hP.2.wide (by omega) (by omega)), hW⟩
      refine lv_iinc (v := (x2 + (1 : Int32))) (lv' := [(2, .int (x2 + (1 : Int32))), (0, .ref (ad b)), (1, .ref (ad b2))]) hx hb dX5_copyFrom_22 hl (k := 2) rfl rfl (by decide) rfl (fun ls hl => ?_)
      refine lv_goto (tgt := 2) hx hb dX5_copyFrom_25 (by decide) ?_
      exact ih _ _ _ _ _ _ hW hB_st hF (lv_sub hl [1, 2, 0] rfl) h
set_option maxHeartbeats 4000000 in
set_option maxRecDepth 100000 in
theorem mX5_copyFrom {l : Launch} {D : va_G} {ct : Nat → ClassId} {J : List Nat} {ad : Nat → Nat} {c0 : CF} {b : Nat} {st : SS} (hB_st : StB ct J ad c0 b st) {b2 : Nat} {sx : SS} (hB_sx : StB ct J ad c0 b2 sx) (hdis : b2 + 45 ≤ b ∨ b + 45 ≤ b2) {st9 : SS} (h : fX5_copyFrom   sx st = some st9) : Mv l D ct J ad yX5_copyFrom cX5_copyFrom 3 none (rr 2 62) [.ref (ad b), .ref (ad b2)] c0 (fun c' => StB ct J ad c' b st9 ∧ Fr c0 c' b 45) := by
  refine Mv_of (own := RX5) (by decide) rfl (Nat.le_of_ble_eq_true rfl) (fun p e s m below meth cd hE hr hlk hW ls hl => ?_)
  have hx := hE.1
  have hb := hE.2.1
  have hl : lv_has ls 3 [(0, .ref (ad b)), (1, .ref (ad b2))] := hl
  rw [fX5_copyFrom] at h
  obtain ⟨c, hB_st, hF, hW⟩ : ∃ c', StB ct J ad c' b st ∧ Fr c0 c' b 45 ∧ HW D J ad c' (aA J ad s.heap.size) s.heap s.heap [] := ⟨c0, hB_st, Fr.rf, hW⟩
  refine lv_iconst (v := (0 : Int32)) hx hb dX5_copyFrom_0 (by decide) ?_
  refine lv_istore_n (lv' := [(2, .int (0 : Int32)), (0, .ref (ad b)), (1, .ref (ad b2))]) hx hb dX5_copyFrom_1 rfl hl (by decide) rfl (fun ls hl => ?_)
  exact wX5_copyFrom_2 hE hr hlk hB_sx hdis _ _ _ _ _ _ _ hW hB_st hF (lv_sub hl [1, 2, 0] rfl) h
set_option maxHeartbeats 4000000 in
set_option maxRecDepth 100000 in
theorem wX5_records_4 {p : Program} {l : Launch} {e : Env} {s : State} {m : MethodId} {args : Array Value} {below : List Frame} {meth : Method} {cd : Code} {D : va_G} {ct : Nat → ClassId} {J : List Nat} {ad : Nat → Nat} {c0 : CF} {b : Nat} (hE : ME p s m cd args D ct cX5_records RX5 3) (hr : meth.sig.returnType = (some .int)) (hlk : meth.locks = false) {st : SS} (hB_st : StB ct J ad c0 b st) {r : Int32} : ∀ (n : Nat) (x1 : Int32) (x2 : Int32) (H : Heap) (locs : List Loc) (ls : Array Slot), HW D J ad c0 (aA J ad s.heap.size) s.heap H locs → lv_has ls 3 [(0, .ref (ad b)), (1, .int x1), (2, .int x2)] → fX5_records_4 st n x1 x2 = some r → W p l e (rr 3 64) s m args below meth cd H locs 0 0 (MQ below (Qi D J ad s.heap.size r (fun c' => c' = c0)) args s 0 0 (aA J ad s.heap.size)) (F0 m 4 ls []) := by
  have hx := hE.1
  have hb := hE.2.1
  intro n
  induction n with
  | zero =>
    intro x1 x2 H locs ls hW hl h
    have h2 : (none : Option Int32) = some r := h
    cases h2
  | succ n ih =>
    intro x1 x2 H locs ls hW hl h
    rw [fX5_records_4] at h
    refine lv_iload_n hx hb dX5_records_4 rfl (lv_at hl 2 rfl) ?_
    refine lv_iconst (v := (4 : Int32)) hx hb dX5_records_5 (by decide) ?_
    refine lv_icmp_ge (tgt := 27) hx hb dX5_records_6 (by decide) (fun k_1 => ?_) (fun k_1 => ?_)
    · have h := it_t k_1 h
      refine lv_iload_n hx hb dX5_records_27 rfl (lv_at hl 1 rfl) ?_
      obtain rfl := Option.some.inj h
      exact k_iret hE hr hlk hW rfl rfl dX5_records_28
    · have h := it_f k_1 h
      refine lv_iload_n hx hb dX5_records_9 rfl (lv_at hl 1 rfl) ?_
      refine lv_aload_n hx hb dX5_records_10 rfl (lv_at hl 0 rfl) ?_
      refine k_get (v := .ref (ad (b + 1))) hE hW hB_st.o hB_st.obj rfl inX5 0 (by decide) q130 rfl dX5_records_11 ?_
      refine lv_iload_n hx hb dX5_records_14 rfl (lv_at hl 2 rfl) ?_
      obtain ⟨g_2, h⟩ := zi_e h
      have hg_2 := vp_lt g_2
      refine k_aaldR3 (g := fun i => b + 1 + 1 + 8 * i) hE hW hB_st.logs.o hB_st.logs.out g_2 dX5_records_15 ?_
      obtain ⟨r_3, hr_3, h⟩ := zb_e h
      refine k_callVNi (rest := [.int x1]) hE hW hl.1 (mX3_records (hB_st.log hg_2) hr_3) (hB_st.log hg_2).o (hB_st.log hg_2).obj rfl q753 q436 qs28 q3 q437 hd_X3_records.2 ⟨Nat.le_of_ble_eq_true rfl, Nat.le_of_ble_eq_true rfl⟩ ⟨rfl, rfl⟩ rfl (Nat.le_of_ble_eq_true rfl) dX5_records_16 ⟨Nat.zero_le _, Nat.zero_le _⟩ (fun c1 H locs hP hW => ?_)
      rw [hP] at hW
      refine lv_iadd hx hb dX5_records_19 ?_
      refine lv_istore_n (lv' := [(1, .int (x1 + r_3)), (0, .ref (ad b)), (2, .int x2)]) hx hb dX5_records_20 rfl hl (by decide) rfl (fun ls hl => ?_)
      refine lv_iinc (v := (x2 + (1 : Int32))) (lv' := [(2, .int (x2 + (1 : Int32))), (1, .int (x1 + r_3)), (0, .ref (ad b))]) hx hb dX5_records_21 hl (k := 2) rfl rfl (by decide) rfl (fun ls hl => ?_)
      refine lv_goto (tgt := 4) hx hb dX5_records_24 (by decide) ?_
      exact ih _ _ _ _ _ hW (lv_sub hl [2, 1, 0] rfl) h
set_option maxHeartbeats 4000000 in
set_option maxRecDepth 100000 in
theorem mX5_records {l : Launch} {D : va_G} {ct : Nat → ClassId} {J : List Nat} {ad : Nat → Nat} {c0 : CF} {b : Nat} {st : SS} (hB_st : StB ct J ad c0 b st) {r : Int32} (h : fX5_records   st = some r) : Mi l D ct J ad yX5_records cX5_records 3 (some .int) (rr 3 64) [.ref (ad b)] c0 r (fun c' => c' = c0) := by
  refine Mi_of (own := RX5) (by decide) rfl (Nat.le_of_ble_eq_true rfl) (fun p e s m below meth cd hE hr hlk hW ls hl => ?_)
  have hx := hE.1
  have hb := hE.2.1
  have hl : lv_has ls 3 [(0, .ref (ad b))] := hl
  rw [fX5_records] at h
  refine lv_iconst (v := (0 : Int32)) hx hb dX5_records_0 (by decide) ?_
  refine lv_istore_n (lv' := [(1, .int (0 : Int32)), (0, .ref (ad b))]) hx hb dX5_records_1 rfl hl (by decide) rfl (fun ls hl => ?_)
  refine lv_iconst (v := (0 : Int32)) hx hb dX5_records_2 (by decide) ?_
  refine lv_istore_n (lv' := [(2, .int (0 : Int32)), (1, .int (0 : Int32)), (0, .ref (ad b))]) hx hb dX5_records_3 rfl hl (by decide) rfl (fun ls hl => ?_)
  exact wX5_records_4 hE hr hlk hB_st _ _ _ _ _ _ hW (lv_sub hl [2, 1, 0] rfl) h
set_option maxHeartbeats 4000000 in
set_option maxRecDepth 100000 in
theorem mX5_follow {l : Launch} {D : va_G} {ct : Nat → ClassId} {J : List Nat} {ad : Nat → Nat} {c0 : CF} {a1 : Int32} {a2 : Int32} {b : Nat} {st : SS} (hB_st : StB ct J ad c0 b st) {st9 : SS} (h : fX5_follow  a1 a2 st = some st9) : Mv l D ct J ad yX5_follow cX5_follow 3 none (rr 5 117) [.ref (ad b), .int a1, .int a2] c0 (fun c' => StB ct J ad c' b st9 ∧ Fr c0 c' b 45) := by
  refine Mv_of (own := RX5) (by decide) rfl (Nat.le_of_ble_eq_true rfl) (fun p e s m below meth cd hE hr hlk hW ls hl => ?_)
  have hx := hE.1
  have hb := hE.2.1
  have hl : lv_has ls 3 [(0, .ref (ad b)), (1, .int a1), (2, .int a2)] := hl
  rw [fX5_follow] at h
  obtain ⟨c, hB_st, hF, hW⟩ : ∃ c', StB ct J ad c' b st ∧ Fr c0 c' b 45 ∧ HW D J ad c' (aA J ad s.heap.size) s.heap s.heap [] := ⟨c0, hB_st, Fr.rf, hW⟩
  refine lv_iload_n hx hb dX5_follow_0 rfl (lv_at hl 1 rfl) ?_
  rcases Classical.em (a1 = (0 : Int32)) with k_1 | k_1
  · have h := it_t k_1 h
    refine lv_tableIn (tgt := 28) hx hb dX5_follow_1 (by rw [k_1]; decide) (by rw [k_1]; decide) (by rw [k_1]; rfl) (by decide) ?_
    refine lv_aload_n hx hb dX5_follow_28 rfl (lv_at hl 0 rfl) ?_
    refine k_get (v := .ref (ad (b + 1))) hE hW hB_st.o hB_st.obj rfl inX5 0 (by decide) q130 rfl dX5_follow_29 ?_
    refine lv_iload_n hx hb dX5_follow_32 rfl (lv_at hl 2 rfl) ?_
    obtain ⟨g_2, h⟩ := zi_e h
    have hg_2 := vp_lt g_2
    refine k_aaldR3 (g := fun i => b + 1 + 1 + 8 * i) hE hW hB_st.logs.o hB_st.logs.out g_2 dX5_follow_33 ?_
    refine lv_aload_n hx hb dX5_follow_34 rfl (lv_at hl 0 rfl) ?_
    refine k_get (v := .int (st.2.2.2.2 0)) hE hW hB_st.o hB_st.obj rfl inX5 4 (by decide) q138 rfl dX5_follow_35 ?_
    refine lv_aload_n hx hb dX5_follow_38 rfl (lv_at hl 0 rfl) ?_
    refine k_get (v := .int (st.2.2.2.2 1)) hE hW hB_st.o hB_st.obj rfl inX5 5 (by decide) q140 rfl dX5_follow_39 ?_
    obtain ⟨r_3, y_5, hr_3, h⟩ := zb2_e h
    obtain ⟨st_4, est_4, h⟩ := zl_e h
    refine k_callVNi (rest := []) hE hW hl.1 (mX3_compacted (hB_st.log hg_2) hr_3) (hB_st.log hg_2).o (hB_st.log hg_2).obj rfl q746 q339 qs8 q3 q340 hd_X3_compacted.2 ⟨Nat.le_of_ble_eq_true rfl, Nat.le_of_ble_eq_true rfl⟩ ⟨rfl, rfl⟩ rfl (Nat.le_of_ble_eq_true rfl) dX5_follow_42 ⟨Nat.zero_le _, Nat.zero_le _⟩ (fun c1 H locs hP hW => ?_)
    obtain ⟨c, hB_st, hF, hW⟩ : ∃ c', StB ct J ad c' b st_4 ∧ Fr c0 c' b 45 ∧ HW D J ad c' (aA J ad s.heap.size) s.heap H locs := ⟨c1, by rw [est_4]; exact (hB_st.pLog hg_2 hP.1 hP.2), hF.trans (hP.2.wide (by omega) (by omega)), hW⟩
    refine lv_pop hx hb dX5_follow_45 rfl ?_
    refine lv_goto (tgt := 100) hx hb dX5_follow_46 (by decide) ?_
    obtain rfl := Option.some.inj h
    exact k_vret hE hr hlk hW ⟨hB_st, hF⟩ dX5_follow_100
  have h := it_f k_1 h
  rcases Classical.em (a1 = (1 : Int32)) with k_6 | k_6
  · have h := it_t k_6 h
    refine lv_tableIn (tgt := 49) hx hb dX5_follow_1 (by rw [k_6]; decide) (by rw [k_6]; decide) (by rw [k_6]; rfl) (by decide) ?_
    refine lv_aload_n hx hb dX5_follow_49 rfl (lv_at hl 0 rfl) ?_
    refine k_get (v := .ref (ad (b + 1))) hE hW hB_st.o hB_st.obj rfl inX5 0 (by decide) q130 rfl dX5_follow_50 ?_
    refine lv_iload_n hx hb dX5_follow_53 rfl (lv_at hl 2 rfl) ?_
    obtain ⟨g_7, h⟩ := zi_e h
    have hg_7 := vp_lt g_7
    refine k_aaldR3 (g := fun i => b + 1 + 1 + 8 * i) hE hW hB_st.logs.o hB_st.logs.out g_7 dX5_follow_54 ?_
    refine lv_aload_n hx hb dX5_follow_55 rfl (lv_at hl 0 rfl) ?_
    refine k_get (v := .int (st.2.2.2.2 2)) hE hW hB_st.o hB_st.obj rfl inX5 6 (by decide) q142 rfl dX5_follow_56 ?_
    refine lv_aload_n hx hb dX5_follow_59 rfl (lv_at hl 0 rfl) ?_
    refine k_get (v := .int (st.2.2.2.2 0)) hE hW hB_st.o hB_st.obj rfl inX5 4 (by decide) q138 rfl dX5_follow_60 ?_
    refine lv_aload_n hx hb dX5_follow_63 rfl (lv_at hl 0 rfl) ?_
    refine k_get (v := .int (st.2.2.2.2 3)) hE hW hB_st.o hB_st.obj rfl inX5 7 (by decide) q144 rfl dX5_follow_64 ?_
    obtain ⟨r_8, y_10, hr_8, h⟩ := zb2_e h
    obtain ⟨st_9, est_9, h⟩ := zl_e h
    refine k_callVNi (rest := []) hE hW hl.1 (mX3_retained (hB_st.log hg_7) hr_8) (hB_st.log hg_7).o (hB_st.log hg_7).obj rfl q747 q375 qs16 q3 q376 hd_X3_retained.2 ⟨Nat.le_of_ble_eq_true rfl, Nat.le_of_ble_eq_true rfl⟩ ⟨rfl, rfl⟩ rfl (Nat.le_of_ble_eq_true rfl) dX5_follow_67 ⟨Nat.zero_le _, Nat.zero_le _⟩ (fun c1 H locs hP hW => ?_)
    obtain ⟨c, hB_st, hF, hW⟩ : ∃ c', StB ct J ad c' b st_9 ∧ Fr c0 c' b 45 ∧ HW D J ad c' (aA J ad s.heap.size) s.heap H locs := ⟨c1, by rw [est_9]; exact (hB_st.pLog hg_7 hP.1 hP.2), hF.trans (hP.2.wide (by omega) (by omega)), hW⟩
    refine lv_pop hx hb dX5_follow_70 rfl ?_
    refine lv_goto (tgt := 100) hx hb dX5_follow_71 (by decide) ?_
    obtain rfl := Option.some.inj h
    exact k_vret hE hr hlk hW ⟨hB_st, hF⟩ dX5_follow_100
  have h := it_f k_6 h
  rcases Classical.em (a1 = (2 : Int32)) with k_11 | k_11
  · have h := it_t k_11 h
    refine lv_tableIn (tgt := 74) hx hb dX5_follow_1 (by rw [k_11]; decide) (by rw [k_11]; decide) (by rw [k_11]; rfl) (by decide) ?_
    refine lv_aload_n hx hb dX5_follow_74 rfl (lv_at hl 0 rfl) ?_
    refine k_get (v := .ref (ad (b + 34))) hE hW hB_st.o hB_st.obj rfl inX5 1 (by decide) q132 rfl dX5_follow_75 ?_
    refine lv_iload_n hx hb dX5_follow_78 rfl (lv_at hl 2 rfl) ?_
    refine lv_aload_n hx hb dX5_follow_79 rfl (lv_at hl 0 rfl) ?_
    refine k_get (v := .ref (ad (b + 1))) hE hW hB_st.o hB_st.obj rfl inX5 0 (by decide) q130 rfl dX5_follow_80 ?_
    obtain ⟨r_12, y_14, hr_12, h⟩ := zb2_e h
    obtain ⟨st_13, est_13, h⟩ := zl_e h
    refine k_callVNi (rest := []) hE hW hl.1 (mX1_polled (hB_st.gr) hB_st.logs (by omega) hr_12) (hB_st.gr).o (hB_st.gr).obj rfl q748 q669 qs62 q4 q670 hd_X1_polled.2 ⟨Nat.le_of_ble_eq_true rfl, Nat.le_of_ble_eq_true rfl⟩ ⟨rfl, rfl⟩ rfl (Nat.le_of_ble_eq_true rfl) dX5_follow_83 ⟨Nat.zero_le _, Nat.zero_le _⟩ (fun c1 H locs hP hW => ?_)
    obtain ⟨c, hB_st, hF, hW⟩ : ∃ c', StB ct J ad c' b st_13 ∧ Fr c0 c' b 45 ∧ HW D J ad c' (aA J ad s.heap.size) s.heap H locs := ⟨c1, by rw [est_13]; exact (hB_st.pGr hP.1 hP.2), hF.trans (hP.2.wide (by omega) (by omega)), hW⟩
    refine lv_pop hx hb dX5_follow_86 rfl ?_
    refine lv_goto (tgt := 100) hx hb dX5_follow_87 (by decide) ?_
    obtain rfl := Option.some.inj h
    exact k_vret hE hr hlk hW ⟨hB_st, hF⟩ dX5_follow_100
  have h := it_f k_11 h
  refine lv_tableOut (tgt := 90) hx hb dX5_follow_1 (tb_out3 k_1 k_6 k_11) (by decide) ?_
  refine lv_aload_n hx hb dX5_follow_90 rfl (lv_at hl 0 rfl) ?_
  refine lv_dup hx hb dX5_follow_91 rfl ?_
  refine k_get (v := .int (st.2.2.2.2 0)) hE hW hB_st.o hB_st.obj rfl inX5 4 (by decide) q138 rfl dX5_follow_92 ?_
  refine lv_iload_n hx hb dX5_follow_95 rfl (lv_at hl 2 rfl) ?_
  refine lv_iadd hx hb dX5_follow_96 ?_
  obtain ⟨st_15, est_15, h⟩ := zl_e h
  refine k_put hE hW hB_st.o hB_st.obj rfl inX5 tyX5 tyX5_ok nmX5 4 (by decide) q138 rfl rfl rfl (Nat.le_of_ble_eq_true rfl) dX5_follow_97 (fun H locs hW => ?_)
  obtain ⟨c, hB_st, hF, hW⟩ : ∃ c', StB ct J ad c' b st_15 ∧ Fr c0 c' b 45 ∧ HW D J ad c' (aA J ad s.heap.size) s.heap H locs := ⟨_, hB_st.wF (k := 4) (j := 0) rfl est_15, hF.up (by omega) (by omega), hW⟩
  obtain rfl := Option.some.inj h
  exact k_vret hE hr hlk hW ⟨hB_st, hF⟩ dX5_follow_100
set_option maxHeartbeats 4000000 in
set_option maxRecDepth 100000 in
theorem wX5_followPlan_2 {p : Program} {l : Launch} {e : Env} {s : State} {m : MethodId} {args : Array Value} {below : List Frame} {meth : Method} {cd : Code} {D : va_G} {ct : Nat → ClassId} {J : List Nat} {ad : Nat → Nat} {c0 : CF} {b : Nat} (hE : ME p s m cd args D ct cX5_followPlan RX5 2) (hr : meth.sig.returnType = none) (hlk : meth.locks = false) {st9 : SS} : ∀ (n : Nat) (x1 : Int32) (st : SS) (c : CF) (H : Heap) (locs : List Loc) (ls : Array Slot), HW D J ad c (aA J ad s.heap.size) s.heap H locs → StB ct J ad c b st → Fr c0 c b 45 → lv_has ls 2 [(0, .ref (ad b)), (1, .int x1)] → fX5_followPlan_2 n x1 st = some st9 → W p l e (rr 6 139) s m args below meth cd H locs 0 0 (MQ below (Qv D J ad s.heap.size (fun c' => StB ct J ad c' b st9 ∧ Fr c0 c' b 45)) args s 0 0 (aA J ad s.heap.size)) (F0 m 2 ls []) := by
  have hx := hE.1
  have hb := hE.2.1
  intro n
  induction n with
  | zero =>
    intro x1 st c H locs ls hW hB_st hF hl h
    have h2 : (none : Option SS) = some st9 := h
    cases h2
  | succ n ih =>
    intro x1 st c H locs ls hW hB_st hF hl h
    rw [fX5_followPlan_2] at h
    refine lv_iload_n hx hb dX5_followPlan_2 rfl (lv_at hl 1 rfl) ?_
    refine lv_aload_n hx hb dX5_followPlan_3 rfl (lv_at hl 0 rfl) ?_
    refine k_get (v := .ref (ad (b + 39))) hE hW hB_st.o hB_st.obj rfl inX5 2 (by decide) q134 rfl dX5_followPlan_4 ?_
    refine k_getN (v := .int (st.2.2.1.2 0)) hE hW (hB_st.pl).o (hB_st.pl).obj rfl inX4 2 (by decide) q121 rfl dX5_followPlan_7 ?_
    refine lv_icmp_ge (tgt := 41) hx hb dX5_followPlan_10 (by decide) (fun k_1 => ?_) (fun k_1 => ?_)
    · have h := it_t k_1 h
      obtain rfl := Option.some.inj h
      exact k_vret hE hr hlk hW ⟨hB_st, hF⟩ dX5_followPlan_41
    · have h := it_f k_1 h
      refine lv_aload_n hx hb dX5_followPlan_13 rfl (lv_at hl 0 rfl) ?_
      refine lv_aload_n hx hb dX5_followPlan_14 rfl (lv_at hl 0 rfl) ?_
      refine k_get (v := .ref (ad (b + 39))) hE hW hB_st.o hB_st.obj rfl inX5 2 (by decide) q134 rfl dX5_followPlan_15 ?_
      refine k_getN (v := .ref (ad (b + 39 + 1 + 0))) hE hW (hB_st.pl).o (hB_st.pl).obj rfl inX4 0 (by decide) q117 rfl dX5_followPlan_18 ?_
      refine lv_iload_n hx hb dX5_followPlan_21 rfl (lv_at hl 1 rfl) ?_
      obtain ⟨g_2, h⟩ := zi_e h
      refine k_iald hE hW ((hB_st.pl).memA 0 (Nat.le_of_ble_eq_true rfl)) ((hB_st.pl).arr 0 rfl) g_2 dX5_followPlan_22 ?_
      refine lv_aload_n hx hb dX5_followPlan_23 rfl (lv_at hl 0 rfl) ?_
      refine k_get (v := .ref (ad (b + 39))) hE hW hB_st.o hB_st.obj rfl inX5 2 (by decide) q134 rfl dX5_followPlan_24 ?_
      refine k_getN (v := .ref (ad (b + 39 + 1 + 1))) hE hW (hB_st.pl).o (hB_st.pl).obj rfl inX4 1 (by decide) q119 rfl dX5_followPlan_27 ?_
      refine lv_iload_n hx hb dX5_followPlan_30 rfl (lv_at hl 1 rfl) ?_
      obtain ⟨g_3, h⟩ := zi_e h
      refine k_iald hE hW ((hB_st.pl).memA 1 (Nat.le_of_ble_eq_true rfl)) ((hB_st.pl).arr 1 rfl) g_3 dX5_followPlan_31 ?_
      obtain ⟨st_4, hst_4, h⟩ := zb_e h
      refine k_callVv (rest := []) hE hW hl.1 (mX5_follow hB_st hst_4) hB_st.o hB_st.obj rfl q742 q744 qs72 q2 q745 hd_X5_follow ⟨Nat.le_of_ble_eq_true rfl, Nat.le_of_ble_eq_true rfl⟩ ⟨rfl, rfl⟩ rfl (Nat.le_of_ble_eq_true rfl) dX5_followPlan_32 ⟨Nat.zero_le _, Nat.zero_le _⟩ (fun c1 H locs hP hW => ?_)
      obtain ⟨c, hB_st, hF, hW⟩ : ∃ c', StB ct J ad c' b st_4 ∧ Fr c0 c' b 45 ∧ HW D J ad c' (aA J ad s.heap.size) s.heap H locs := ⟨c1, hP.1, hF.trans hP.2, hW⟩
      refine lv_iinc (v := (x1 + (1 : Int32))) (lv' := [(1, .int (x1 + (1 : Int32))), (0, .ref (ad b))]) hx hb dX5_followPlan_35 hl (k := 1) rfl rfl (by decide) rfl (fun ls hl => ?_)
      refine lv_goto (tgt := 2) hx hb dX5_followPlan_38 (by decide) ?_
      exact ih _ _ _ _ _ _ hW hB_st hF (lv_sub hl [1, 0] rfl) h
set_option maxHeartbeats 4000000 in
set_option maxRecDepth 100000 in
theorem mX5_followPlan {l : Launch} {D : va_G} {ct : Nat → ClassId} {J : List Nat} {ad : Nat → Nat} {c0 : CF} {b : Nat} {st : SS} (hB_st : StB ct J ad c0 b st) {st9 : SS} (h : fX5_followPlan   st = some st9) : Mv l D ct J ad yX5_followPlan cX5_followPlan 2 none (rr 6 139) [.ref (ad b)] c0 (fun c' => StB ct J ad c' b st9 ∧ Fr c0 c' b 45) := by
  refine Mv_of (own := RX5) (by decide) rfl (Nat.le_of_ble_eq_true rfl) (fun p e s m below meth cd hE hr hlk hW ls hl => ?_)
  have hx := hE.1
  have hb := hE.2.1
  have hl : lv_has ls 2 [(0, .ref (ad b))] := hl
  rw [fX5_followPlan] at h
  obtain ⟨c, hB_st, hF, hW⟩ : ∃ c', StB ct J ad c' b st ∧ Fr c0 c' b 45 ∧ HW D J ad c' (aA J ad s.heap.size) s.heap s.heap [] := ⟨c0, hB_st, Fr.rf, hW⟩
  refine lv_iconst (v := (0 : Int32)) hx hb dX5_followPlan_0 (by decide) ?_
  refine lv_istore_n (lv' := [(1, .int (0 : Int32)), (0, .ref (ad b))]) hx hb dX5_followPlan_1 rfl hl (by decide) rfl (fun ls hl => ?_)
  exact wX5_followPlan_2 hE hr hlk _ _ _ _ _ _ _ hW hB_st hF (lv_sub hl [1, 0] rfl) h
set_option maxHeartbeats 4000000 in
set_option maxRecDepth 100000 in
theorem wX5_firstOtherwise_2 {p : Program} {l : Launch} {e : Env} {s : State} {m : MethodId} {args : Array Value} {below : List Frame} {meth : Method} {cd : Code} {D : va_G} {ct : Nat → ClassId} {J : List Nat} {ad : Nat → Nat} {c0 : CF} {b : Nat} (hE : ME p s m cd args D ct cX5_firstOtherwise RX5 2) (hr : meth.sig.returnType = (some .int)) (hlk : meth.locks = false) {st : SS} (hB_st : StB ct J ad c0 b st) {r : Int32} : ∀ (n : Nat) (x1 : Int32) (H : Heap) (locs : List Loc) (ls : Array Slot), HW D J ad c0 (aA J ad s.heap.size) s.heap H locs → lv_has ls 2 [(0, .ref (ad b)), (1, .int x1)] → fX5_firstOtherwise_2 st n x1 = some r → W p l e (rr 1 20) s m args below meth cd H locs 0 0 (MQ below (Qi D J ad s.heap.size r (fun c' => c' = c0)) args s 0 0 (aA J ad s.heap.size)) (F0 m 2 ls []) := by
  have hx := hE.1
  have hb := hE.2.1
  intro n
  induction n with
  | zero =>
    intro x1 H locs ls hW hl h
    have h2 : (none : Option Int32) = some r := h
    cases h2
  | succ n ih =>
    intro x1 H locs ls hW hl h
    rw [fX5_firstOtherwise_2] at h
    refine lv_iload_n hx hb dX5_firstOtherwise_2 rfl (lv_at hl 1 rfl) ?_
    refine lv_aload_n hx hb dX5_firstOtherwise_3 rfl (lv_at hl 0 rfl) ?_
    refine k_get (v := .ref (ad (b + 42))) hE hW hB_st.o hB_st.obj rfl inX5 3 (by decide) q136 rfl dX5_firstOtherwise_4 ?_
    refine k_getN (v := .int (st.2.2.2.1.2 0)) hE hW (hB_st.bk).o (hB_st.bk).obj rfl inX4 2 (by decide) q121 rfl dX5_firstOtherwise_7 ?_
    refine lv_icmp_ge (tgt := 50) hx hb dX5_firstOtherwise_10 (by decide) (fun k_1 => ?_) (fun k_1 => ?_)
    · have h := it_t k_1 h
      refine lv_bipush (v := (-5 : Int32)) hx hb dX5_firstOtherwise_50 (by decide) ?_
      obtain rfl := Option.some.inj h
      exact k_iret hE hr hlk hW rfl rfl dX5_firstOtherwise_52
    · have h := it_f k_1 h
      refine lv_aload_n hx hb dX5_firstOtherwise_13 rfl (lv_at hl 0 rfl) ?_
      refine k_get (v := .ref (ad (b + 1))) hE hW hB_st.o hB_st.obj rfl inX5 0 (by decide) q130 rfl dX5_firstOtherwise_14 ?_
      refine lv_aload_n hx hb dX5_firstOtherwise_17 rfl (lv_at hl 0 rfl) ?_
      refine k_get (v := .ref (ad (b + 42))) hE hW hB_st.o hB_st.obj rfl inX5 3 (by decide) q136 rfl dX5_firstOtherwise_18 ?_
      refine k_getN (v := .ref (ad (b + 42 + 1 + 0))) hE hW (hB_st.bk).o (hB_st.bk).obj rfl inX4 0 (by decide) q117 rfl dX5_firstOtherwise_21 ?_
      refine lv_iload_n hx hb dX5_firstOtherwise_24 rfl (lv_at hl 1 rfl) ?_
      obtain ⟨g_2, h⟩ := zi_e h
      refine k_iald hE hW ((hB_st.bk).memA 0 (Nat.le_of_ble_eq_true rfl)) ((hB_st.bk).arr 0 rfl) g_2 dX5_firstOtherwise_25 ?_
      obtain ⟨g_3, h⟩ := zi_e h
      have hg_3 := vp_lt g_3
      refine k_aaldR3 (g := fun i => b + 1 + 1 + 8 * i) hE hW hB_st.logs.o hB_st.logs.out g_3 dX5_firstOtherwise_26 ?_
      obtain ⟨r_4, hr_4, h⟩ := zb_e h
      refine k_callVNi (rest := []) hE hW hl.1 (mX3_start (hB_st.log hg_3) hr_4) (hB_st.log hg_3).o (hB_st.log hg_3).obj rfl q766 q440 qs29 q3 q441 hd_X3_start.2 ⟨Nat.le_of_ble_eq_true rfl, Nat.le_of_ble_eq_true rfl⟩ ⟨rfl, rfl⟩ rfl (Nat.le_of_ble_eq_true rfl) dX5_firstOtherwise_27 ⟨Nat.zero_le _, Nat.zero_le _⟩ (fun c1 H locs hP hW => ?_)
      rw [hP] at hW
      refine lv_aload_n hx hb dX5_firstOtherwise_30 rfl (lv_at hl 0 rfl) ?_
      refine k_get (v := .ref (ad (b + 42))) hE hW hB_st.o hB_st.obj rfl inX5 3 (by decide) q136 rfl dX5_firstOtherwise_31 ?_
      refine k_getN (v := .ref (ad (b + 42 + 1 + 1))) hE hW (hB_st.bk).o (hB_st.bk).obj rfl inX4 1 (by decide) q119 rfl dX5_firstOtherwise_34 ?_
      refine lv_iload_n hx hb dX5_firstOtherwise_37 rfl (lv_at hl 1 rfl) ?_
      obtain ⟨g_5, h⟩ := zi_e h
      refine k_iald hE hW ((hB_st.bk).memA 1 (Nat.le_of_ble_eq_true rfl)) ((hB_st.bk).arr 1 rfl) g_5 dX5_firstOtherwise_38 ?_
      refine lv_icmp_eq (tgt := 44) hx hb dX5_firstOtherwise_39 (by decide) (fun k_6 => ?_) (fun k_6 => ?_)
      · have h := it_t k_6 h
        refine lv_iinc (v := (x1 + (1 : Int32))) (lv' := [(1, .int (x1 + (1 : Int32))), (0, .ref (ad b))]) hx hb dX5_firstOtherwise_44 hl (k := 1) rfl rfl (by decide) rfl (fun ls hl => ?_)
        refine lv_goto (tgt := 2) hx hb dX5_firstOtherwise_47 (by decide) ?_
        exact ih _ _ _ _ hW (lv_sub hl [1, 0] rfl) h
      · have h := it_f k_6 h
        refine lv_iload_n hx hb dX5_firstOtherwise_42 rfl (lv_at hl 1 rfl) ?_
        obtain rfl := Option.some.inj h
        exact k_iret hE hr hlk hW rfl rfl dX5_firstOtherwise_43
set_option maxHeartbeats 4000000 in
set_option maxRecDepth 100000 in
theorem mX5_firstOtherwise {l : Launch} {D : va_G} {ct : Nat → ClassId} {J : List Nat} {ad : Nat → Nat} {c0 : CF} {b : Nat} {st : SS} (hB_st : StB ct J ad c0 b st) {r : Int32} (h : fX5_firstOtherwise   st = some r) : Mi l D ct J ad yX5_firstOtherwise cX5_firstOtherwise 2 (some .int) (rr 1 20) [.ref (ad b)] c0 r (fun c' => c' = c0) := by
  refine Mi_of (own := RX5) (by decide) rfl (Nat.le_of_ble_eq_true rfl) (fun p e s m below meth cd hE hr hlk hW ls hl => ?_)
  have hx := hE.1
  have hb := hE.2.1
  have hl : lv_has ls 2 [(0, .ref (ad b))] := hl
  rw [fX5_firstOtherwise] at h
  refine lv_iconst (v := (0 : Int32)) hx hb dX5_firstOtherwise_0 (by decide) ?_
  refine lv_istore_n (lv' := [(1, .int (0 : Int32)), (0, .ref (ad b))]) hx hb dX5_firstOtherwise_1 rfl hl (by decide) rfl (fun ls hl => ?_)
  exact wX5_firstOtherwise_2 hE hr hlk hB_st _ _ _ _ _ hW (lv_sub hl [1, 0] rfl) h
set_option maxHeartbeats 4000000 in
set_option maxRecDepth 100000 in
theorem mX6_isNothing {l : Launch} {D : va_G} {ct : Nat → ClassId} {J : List Nat} {ad : Nat → Nat} {c0 : CF} {b : Nat} {st : TS} (hB_st : TpB ct J ad c0 b st) {r : Int32} (h : fX6_isNothing   st = some r) : Mi l D ct J ad yX6_isNothing cX6_isNothing 1 (some .boolean) (rr 0 0) [.ref (ad b)] c0 r (fun c' => c' = c0) := by
  refine Mi_of (own := RX6) (by decide) rfl (Nat.le_of_ble_eq_true rfl) (fun p e s m below meth cd hE hr hlk hW ls hl => ?_)
  have hx := hE.1
  have hb := hE.2.1
  have hl : lv_has ls 1 [(0, .ref (ad b))] := hl
  rw [fX6_isNothing] at h
  refine lv_aload_n hx hb dX6_isNothing_0 rfl (lv_at hl 0 rfl) ?_
  refine k_get (v := .int (st.2 0)) hE hW hB_st.o hB_st.obj rfl inX6 1 (by decide) q233 rfl dX6_isNothing_1 ?_
  refine lv_iconst (v := (-1 : Int32)) hx hb dX6_isNothing_4 (by decide) ?_
  refine lv_icmp_ne (tgt := 12) hx hb dX6_isNothing_5 (by decide) (fun k_1 => ?_) (fun k_1 => ?_)
  · have h := it_f k_1 h
    refine lv_iconst (v := (0 : Int32)) hx hb dX6_isNothing_12 (by decide) ?_
    obtain rfl := Option.some.inj h
    exact k_zret hE hr hlk hW rfl rfl rfl dX6_isNothing_13
  · have h := it_t k_1 h
    refine lv_iconst (v := (1 : Int32)) hx hb dX6_isNothing_8 (by decide) ?_
    refine lv_goto (tgt := 13) hx hb dX6_isNothing_9 (by decide) ?_
    obtain rfl := Option.some.inj h
    exact k_zret hE hr hlk hW rfl rfl rfl dX6_isNothing_13
set_option maxHeartbeats 4000000 in
set_option maxRecDepth 100000 in
theorem mX6_empty {l : Launch} {D : va_G} {ct : Nat → ClassId} {J : List Nat} {ad : Nat → Nat} {c0 : CF} {b : Nat} {st : TS} (hB_st : TpB ct J ad c0 b st) {st9 : TS} (h : fX6_empty   st = some st9) : Mv l D ct J ad yX6_empty cX6_empty 1 none (rr 0 0) [.ref (ad b)] c0 (fun c' => TpB ct J ad c' b st9 ∧ Fr c0 c' b 2) := by
  refine Mv_of (own := RX6) (by decide) rfl (Nat.le_of_ble_eq_true rfl) (fun p e s m below meth cd hE hr hlk hW ls hl => ?_)
  have hx := hE.1
  have hb := hE.2.1
  have hl : lv_has ls 1 [(0, .ref (ad b))] := hl
  rw [fX6_empty] at h
  obtain ⟨c, hB_st, hF, hW⟩ : ∃ c', TpB ct J ad c' b st ∧ Fr c0 c' b 2 ∧ HW D J ad c' (aA J ad s.heap.size) s.heap s.heap [] := ⟨c0, hB_st, Fr.rf, hW⟩
  refine lv_aload_n hx hb dX6_empty_0 rfl (lv_at hl 0 rfl) ?_
  refine lv_iconst (v := (-1 : Int32)) hx hb dX6_empty_1 (by decide) ?_
  obtain ⟨st_1, est_1, h⟩ := zl_e h
  refine k_put hE hW hB_st.o hB_st.obj rfl inX6 tyX6 tyX6_ok nmX6 1 (by decide) q233 rfl rfl rfl (Nat.le_of_ble_eq_true rfl) dX6_empty_2 (fun H locs hW => ?_)
  obtain ⟨c, hB_st, hF, hW⟩ : ∃ c', TpB ct J ad c' b st_1 ∧ Fr c0 c' b 2 ∧ HW D J ad c' (aA J ad s.heap.size) s.heap H locs := ⟨_, hB_st.wF0 est_1, hF.up (by omega) (by omega), hW⟩
  refine lv_aload_n hx hb dX6_empty_5 rfl (lv_at hl 0 rfl) ?_
  refine lv_iconst (v := (0 : Int32)) hx hb dX6_empty_6 (by decide) ?_
  obtain ⟨st_2, est_2, h⟩ := zl_e h
  refine k_put hE hW hB_st.o hB_st.obj rfl inX6 tyX6 tyX6_ok nmX6 2 (by decide) q235 rfl rfl rfl (Nat.le_of_ble_eq_true rfl) dX6_empty_7 (fun H locs hW => ?_)
  obtain ⟨c, hB_st, hF, hW⟩ : ∃ c', TpB ct J ad c' b st_2 ∧ Fr c0 c' b 2 ∧ HW D J ad c' (aA J ad s.heap.size) s.heap H locs := ⟨_, hB_st.wF1 est_2, hF.up (by omega) (by omega), hW⟩
  obtain rfl := Option.some.inj h
  exact k_vret hE hr hlk hW ⟨hB_st, hF⟩ dX6_empty_10
set_option maxHeartbeats 4000000 in
set_option maxRecDepth 100000 in
theorem wX6_become_17 {p : Program} {l : Launch} {e : Env} {s : State} {m : MethodId} {args : Array Value} {below : List Frame} {meth : Method} {cd : Code} {D : va_G} {ct : Nat → ClassId} {J : List Nat} {ad : Nat → Nat} {c0 : CF} {b : Nat} (hE : ME p s m cd args D ct cX6_become RX6 4) (hr : meth.sig.returnType = none) (hlk : meth.locks = false) {st9 : TS} : ∀ (n : Nat) (x3 : Int32) (st : TS) (c : CF) (H : Heap) (locs : List Loc) (ls : Array Slot), HW D J ad c (aA J ad s.heap.size) s.heap H locs → TpB ct J ad c b st → Fr c0 c b 2 → lv_has ls 4 [(0, .ref (ad b)), (3, .int x3)] → fX6_become_17 n x3 st = some st9 → W p l e (rr 1 20) s m args below meth cd H locs 0 0 (MQ below (Qv D J ad s.heap.size (fun c' => TpB ct J ad c' b st9 ∧ Fr c0 c' b 2)) args s 0 0 (aA J ad s.heap.size)) (F0 m 17 ls []) := by
  have hx := hE.1
  have hb := hE.2.1
  intro n
  induction n with
  | zero =>
    intro x3 st c H locs ls hW hB_st hF hl h
    have h2 : (none : Option TS) = some st9 := h
    cases h2
  | succ n ih =>
    intro x3 st c H locs ls hW hB_st hF hl h
    rw [fX6_become_17] at h
    refine lv_iload_n hx hb dX6_become_17 rfl (lv_at hl 1 rfl) ?_
    refine lv_bipush (v := (60 : Int32)) hx hb dX6_become_18 (by decide) ?_
    refine lv_icmp_ge (tgt := 36) hx hb dX6_become_20 (by decide) (fun k_3 => ?_) (fun k_3 => ?_)
    · have h := it_t k_3 h
      obtain rfl := Option.some.inj h
      exact k_vret hE hr hlk hW ⟨hB_st, hF⟩ dX6_become_36
    · have h := it_f k_3 h
      refine lv_aload_n hx hb dX6_become_23 rfl (lv_at hl 0 rfl) ?_
      refine k_get (v := .ref (ad (b + 1 + 0))) hE hW hB_st.o hB_st.obj rfl inX6 0 (by decide) q231 rfl dX6_become_24 ?_
      refine lv_iload_n hx hb dX6_become_27 rfl (lv_at hl 1 rfl) ?_
      refine lv_lconst (v := (0 : Int64)) hx hb dX6_become_28 (by decide) ?_
      obtain ⟨g_4, h⟩ := zi_e h
      obtain ⟨st_5, est_5, h⟩ := zl_e h
      refine k_last hE hW (hB_st.memR 0 (Nat.le_of_ble_eq_true rfl)) (hB_st.row 0 (Nat.le_of_ble_eq_true rfl)) g_4 dX6_become_29 (fun H locs hW => ?_)
      obtain ⟨c, hB_st, hF, hW⟩ : ∃ c', TpB ct J ad c' b st_5 ∧ Fr c0 c' b 2 ∧ HW D J ad c' (aA J ad s.heap.size) s.heap H locs := ⟨_, hB_st.wL (t := 0) (Nat.le_of_ble_eq_true rfl) est_5, hF.up (by omega) (by omega), hW⟩
      refine lv_iinc (v := (x3 + (1 : Int32))) (lv' := [(3, .int (x3 + (1 : Int32))), (0, .ref (ad b))]) hx hb dX6_become_30 hl (k := 1) rfl rfl (by decide) rfl (fun ls hl => ?_)
      refine lv_goto (tgt := 17) hx hb dX6_become_33 (by decide) ?_
      exact ih _ _ _ _ _ _ hW hB_st hF (lv_sub hl [1, 0] rfl) h
set_option maxHeartbeats 4000000 in
set_option maxRecDepth 100000 in
theorem mX6_become {l : Launch} {D : va_G} {ct : Nat → ClassId} {J : List Nat} {ad : Nat → Nat} {c0 : CF} {a1 : Int32} {a2 : Int32} {b : Nat} {st : TS} (hB_st : TpB ct J ad c0 b st) {st9 : TS} (h : fX6_become  a1 a2 st = some st9) : Mv l D ct J ad yX6_become cX6_become 4 none (rr 1 20) [.ref (ad b), .int a1, .int a2] c0 (fun c' => TpB ct J ad c' b st9 ∧ Fr c0 c' b 2) := by
  refine Mv_of (own := RX6) (by decide) rfl (Nat.le_of_ble_eq_true rfl) (fun p e s m below meth cd hE hr hlk hW ls hl => ?_)
  have hx := hE.1
  have hb := hE.2.1
  have hl : lv_has ls 4 [(0, .ref (ad b)), (1, .int a1), (2, .int a2)] := hl
  rw [fX6_become] at h
  obtain ⟨c, hB_st, hF, hW⟩ : ∃ c', TpB ct J ad c' b st ∧ Fr c0 c' b 2 ∧ HW D J ad c' (aA J ad s.heap.size) s.heap s.heap [] := ⟨c0, hB_st, Fr.rf, hW⟩
  refine lv_aload_n hx hb dX6_become_0 rfl (lv_at hl 0 rfl) ?_
  refine lv_iload_n hx hb dX6_become_1 rfl (lv_at hl 1 rfl) ?_
  obtain ⟨st_1, est_1, h⟩ := zl_e h
  refine k_put hE hW hB_st.o hB_st.obj rfl inX6 tyX6 tyX6_ok nmX6 1 (by decide) q233 rfl rfl rfl (Nat.le_of_ble_eq_true rfl) dX6_become_2 (fun H locs hW => ?_)
  obtain ⟨c, hB_st, hF, hW⟩ : ∃ c', TpB ct J ad c' b st_1 ∧ Fr c0 c' b 2 ∧ HW D J ad c' (aA J ad s.heap.size) s.heap H locs := ⟨_, hB_st.wF0 est_1, hF.up (by omega) (by omega), hW⟩
  refine lv_aload_n hx hb dX6_become_5 rfl (lv_at hl 0 rfl) ?_
  refine lv_iload_n hx hb dX6_become_6 rfl (lv_at hl 2 rfl) ?_
  refine lv_bipush (v := (60 : Int32)) hx hb dX6_become_7 (by decide) ?_
  refine va_mmin hx hb (hE.2.2.1.trans hl.1.symm) hE.2.2.2.1 (hE.2.2.2.2.1 _ q830) (hE.2.2.2.2.1 _ q460) (hE.2.2.2.2.1 _ q6) (hE.2.2.2.2.1 _ q461) (Nat.le_of_ble_eq_true rfl) (Nat.le_of_ble_eq_true rfl) (Nat.zero_le _) (Nat.zero_le _) dX6_become_9 ?_
  obtain ⟨st_2, est_2, h⟩ := zl_e h
  refine k_put hE hW hB_st.o hB_st.obj rfl inX6 tyX6 tyX6_ok nmX6 2 (by decide) q235 rfl rfl rfl (Nat.le_of_ble_eq_true rfl) dX6_become_12 (fun H locs hW => ?_)
  obtain ⟨c, hB_st, hF, hW⟩ : ∃ c', TpB ct J ad c' b st_2 ∧ Fr c0 c' b 2 ∧ HW D J ad c' (aA J ad s.heap.size) s.heap H locs := ⟨_, hB_st.wF1 est_2, hF.up (by omega) (by omega), hW⟩
  refine lv_iconst (v := (0 : Int32)) hx hb dX6_become_15 (by decide) ?_
  refine lv_istore_n (lv' := [(3, .int (0 : Int32)), (0, .ref (ad b)), (1, .int a1), (2, .int a2)]) hx hb dX6_become_16 rfl hl (by decide) rfl (fun ls hl => ?_)
  exact wX6_become_17 hE hr hlk _ _ _ _ _ _ _ hW hB_st hF (lv_sub hl [1, 0] rfl) h
set_option maxHeartbeats 4000000 in
set_option maxRecDepth 100000 in
theorem mX6_hasPlace {l : Launch} {D : va_G} {ct : Nat → ClassId} {J : List Nat} {ad : Nat → Nat} {c0 : CF} {a1 : Int32} {b : Nat} {st : TS} (hB_st : TpB ct J ad c0 b st) {r : Int32} (h : fX6_hasPlace  a1 st = some r) : Mi l D ct J ad yX6_hasPlace cX6_hasPlace 2 (some .boolean) (rr 0 0) [.ref (ad b), .int a1] c0 r (fun c' => c' = c0) := by
  refine Mi_of (own := RX6) (by decide) rfl (Nat.le_of_ble_eq_true rfl) (fun p e s m below meth cd hE hr hlk hW ls hl => ?_)
  have hx := hE.1
  have hb := hE.2.1
  have hl : lv_has ls 2 [(0, .ref (ad b)), (1, .int a1)] := hl
  rw [fX6_hasPlace] at h
  refine lv_iload_n hx hb dX6_hasPlace_0 rfl (lv_at hl 1 rfl) ?_
  refine lv_if_lt (tgt := 16) hx hb dX6_hasPlace_1 (by decide) (fun k_1 => ?_) (fun k_1 => ?_)
  · have h := it_t k_1 h
    refine lv_iconst (v := (0 : Int32)) hx hb dX6_hasPlace_16 (by decide) ?_
    obtain rfl := Option.some.inj h
    exact k_zret hE hr hlk hW rfl rfl rfl dX6_hasPlace_17
  · have h := it_f k_1 h
    refine lv_iload_n hx hb dX6_hasPlace_4 rfl (lv_at hl 1 rfl) ?_
    refine lv_aload_n hx hb dX6_hasPlace_5 rfl (lv_at hl 0 rfl) ?_
    refine k_get (v := .int (st.2 1)) hE hW hB_st.o hB_st.obj rfl inX6 2 (by decide) q235 rfl dX6_hasPlace_6 ?_
    refine lv_icmp_ge (tgt := 16) hx hb dX6_hasPlace_9 (by decide) (fun k_2 => ?_) (fun k_2 => ?_)
    · have h := it_t k_2 h
      refine lv_iconst (v := (0 : Int32)) hx hb dX6_hasPlace_16 (by decide) ?_
      obtain rfl := Option.some.inj h
      exact k_zret hE hr hlk hW rfl rfl rfl dX6_hasPlace_17
    · have h := it_f k_2 h
      refine lv_iconst (v := (1 : Int32)) hx hb dX6_hasPlace_12 (by decide) ?_
      refine lv_goto (tgt := 17) hx hb dX6_hasPlace_13 (by decide) ?_
      obtain rfl := Option.some.inj h
      exact k_zret hE hr hlk hW rfl rfl rfl dX6_hasPlace_17
set_option maxHeartbeats 4000000 in
set_option maxRecDepth 100000 in
theorem mX6_hasPlaces {l : Launch} {D : va_G} {ct : Nat → ClassId} {J : List Nat} {ad : Nat → Nat} {c0 : CF} {a1 : Int32} {a2 : Int32} {b : Nat} {st : TS} (hB_st : TpB ct J ad c0 b st) {r : Int32} (h : fX6_hasPlaces  a1 a2 st = some r) : Mi l D ct J ad yX6_hasPlaces cX6_hasPlaces 3 (some .boolean) (rr 0 0) [.ref (ad b), .int a1, .int a2] c0 r (fun c' => c' = c0) := by
  refine Mi_of (own := RX6) (by decide) rfl (Nat.le_of_ble_eq_true rfl) (fun p e s m below meth cd hE hr hlk hW ls hl => ?_)
  have hx := hE.1
  have hb := hE.2.1
  have hl : lv_has ls 3 [(0, .ref (ad b)), (1, .int a1), (2, .int a2)] := hl
  rw [fX6_hasPlaces] at h
  refine lv_iload_n hx hb dX6_hasPlaces_0 rfl (lv_at hl 1 rfl) ?_
  refine lv_if_lt (tgt := 30) hx hb dX6_hasPlaces_1 (by decide) (fun k_1 => ?_) (fun k_1 => ?_)
  · have h := it_t k_1 h
    refine lv_iconst (v := (0 : Int32)) hx hb dX6_hasPlaces_30 (by decide) ?_
    obtain rfl := Option.some.inj h
    exact k_zret hE hr hlk hW rfl rfl rfl dX6_hasPlaces_31
  · have h := it_f k_1 h
    refine lv_iload_n hx hb dX6_hasPlaces_4 rfl (lv_at hl 2 rfl) ?_
    refine lv_if_lt (tgt := 30) hx hb dX6_hasPlaces_5 (by decide) (fun k_2 => ?_) (fun k_2 => ?_)
    · have h := it_t k_2 h
      refine lv_iconst (v := (0 : Int32)) hx hb dX6_hasPlaces_30 (by decide) ?_
      obtain rfl := Option.some.inj h
      exact k_zret hE hr hlk hW rfl rfl rfl dX6_hasPlaces_31
    · have h := it_f k_2 h
      refine lv_iload_n hx hb dX6_hasPlaces_8 rfl (lv_at hl 1 rfl) ?_
      refine lv_aload_n hx hb dX6_hasPlaces_9 rfl (lv_at hl 0 rfl) ?_
      refine k_get (v := .int (st.2 1)) hE hW hB_st.o hB_st.obj rfl inX6 2 (by decide) q235 rfl dX6_hasPlaces_10 ?_
      refine lv_icmp_gt (tgt := 30) hx hb dX6_hasPlaces_13 (by decide) (fun k_3 => ?_) (fun k_3 => ?_)
      · have h := it_t k_3 h
        refine lv_iconst (v := (0 : Int32)) hx hb dX6_hasPlaces_30 (by decide) ?_
        obtain rfl := Option.some.inj h
        exact k_zret hE hr hlk hW rfl rfl rfl dX6_hasPlaces_31
      · have h := it_f k_3 h
        refine lv_iload_n hx hb dX6_hasPlaces_16 rfl (lv_at hl 2 rfl) ?_
        refine lv_aload_n hx hb dX6_hasPlaces_17 rfl (lv_at hl 0 rfl) ?_
        refine k_get (v := .int (st.2 1)) hE hW hB_st.o hB_st.obj rfl inX6 2 (by decide) q235 rfl dX6_hasPlaces_18 ?_
        refine lv_iload_n hx hb dX6_hasPlaces_21 rfl (lv_at hl 1 rfl) ?_
        refine lv_isub hx hb dX6_hasPlaces_22 ?_
        refine lv_icmp_gt (tgt := 30) hx hb dX6_hasPlaces_23 (by decide) (fun k_4 => ?_) (fun k_4 => ?_)
        · have h := it_t k_4 h
          refine lv_iconst (v := (0 : Int32)) hx hb dX6_hasPlaces_30 (by decide) ?_
          obtain rfl := Option.some.inj h
          exact k_zret hE hr hlk hW rfl rfl rfl dX6_hasPlaces_31
        · have h := it_f k_4 h
          refine lv_iconst (v := (1 : Int32)) hx hb dX6_hasPlaces_26 (by decide) ?_
          refine lv_goto (tgt := 31) hx hb dX6_hasPlaces_27 (by decide) ?_
          obtain rfl := Option.some.inj h
          exact k_zret hE hr hlk hW rfl rfl rfl dX6_hasPlaces_31
set_option maxHeartbeats 4000000 in
set_option maxRecDepth 100000 in
theorem mX6_asItem {l : Launch} {D : va_G} {ct : Nat → ClassId} {J : List Nat} {ad : Nat → Nat} {c0 : CF} {a1 : Int64} {b : Nat} {st : TS} (hB_st : TpB ct J ad c0 b st) {r : Int64} (h : fX6_asItem  a1 st = some r) : Ml l D ct J ad yX6_asItem cX6_asItem 3 (some .long) (rr 0 0) [.ref (ad b), .long a1] c0 r (fun c' => c' = c0) := by
  refine Ml_of (own := RX6) (by decide) rfl (Nat.le_of_ble_eq_true rfl) (fun p e s m below meth cd hE hr hlk hW ls hl => ?_)
  have hx := hE.1
  have hb := hE.2.1
  have hl : lv_has ls 3 [(0, .ref (ad b)), (1, .long a1)] := hl
  rw [fX6_asItem] at h
  refine lv_aload_n hx hb dX6_asItem_0 rfl (lv_at hl 0 rfl) ?_
  refine k_get (v := .int (st.2 0)) hE hW hB_st.o hB_st.obj rfl inX6 1 (by decide) q233 rfl dX6_asItem_1 ?_
  rcases Classical.em ((st.2 0) = (0 : Int32)) with k_1 | k_1
  · have h := it_t k_1 h
    refine lv_tableIn (tgt := 36) hx hb dX6_asItem_4 (by rw [k_1]; decide) (by rw [k_1]; decide) (by rw [k_1]; rfl) (by decide) ?_
    refine lv_lload_n hx hb dX6_asItem_36 rfl (lv_at hl 1 rfl) ?_
    refine lv_l2i (v := a1.toInt32) hx hb dX6_asItem_37 rfl ?_
    refine lv_i2b (v := a1.toInt32.toInt8.toInt32) hx hb dX6_asItem_38 rfl ?_
    refine lv_i2l (v := a1.toInt32.toInt8.toInt32.toInt64) hx hb dX6_asItem_39 rfl ?_
    obtain rfl := Option.some.inj h
    exact k_lret hE hr hlk hW rfl rfl dX6_asItem_40
  have h := it_f k_1 h
  rcases Classical.em ((st.2 0) = (1 : Int32)) with k_2 | k_2
  · have h := it_t k_2 h
    refine lv_tableIn (tgt := 41) hx hb dX6_asItem_4 (by rw [k_2]; decide) (by rw [k_2]; decide) (by rw [k_2]; rfl) (by decide) ?_
    refine lv_lload_n hx hb dX6_asItem_41 rfl (lv_at hl 1 rfl) ?_
    refine lv_l2i (v := a1.toInt32) hx hb dX6_asItem_42 rfl ?_
    refine lv_i2s (v := a1.toInt32.toInt16.toInt32) hx hb dX6_asItem_43 rfl ?_
    refine lv_i2l (v := a1.toInt32.toInt16.toInt32.toInt64) hx hb dX6_asItem_44 rfl ?_
    obtain rfl := Option.some.inj h
    exact k_lret hE hr hlk hW rfl rfl dX6_asItem_45
  have h := it_f k_2 h
  rcases Classical.em ((st.2 0) = (2 : Int32)) with k_3 | k_3
  · have h := it_t k_3 h
    refine lv_tableIn (tgt := 46) hx hb dX6_asItem_4 (by rw [k_3]; decide) (by rw [k_3]; decide) (by rw [k_3]; rfl) (by decide) ?_
    refine lv_lload_n hx hb dX6_asItem_46 rfl (lv_at hl 1 rfl) ?_
    refine lv_l2i (v := a1.toInt32) hx hb dX6_asItem_47 rfl ?_
    refine lv_i2l (v := a1.toInt32.toInt64) hx hb dX6_asItem_48 rfl ?_
    obtain rfl := Option.some.inj h
    exact k_lret hE hr hlk hW rfl rfl dX6_asItem_49
  have h := it_f k_3 h
  rcases Classical.em ((st.2 0) = (3 : Int32)) with k_4 | k_4
  · have h := it_t k_4 h
    refine lv_tableIn (tgt := 50) hx hb dX6_asItem_4 (by rw [k_4]; decide) (by rw [k_4]; decide) (by rw [k_4]; rfl) (by decide) ?_
    refine lv_lload_n hx hb dX6_asItem_50 rfl (lv_at hl 1 rfl) ?_
    obtain rfl := Option.some.inj h
    exact k_lret hE hr hlk hW rfl rfl dX6_asItem_51
  have h := it_f k_4 h
  refine lv_tableOut (tgt := 52) hx hb dX6_asItem_4 (tb_out4 k_1 k_2 k_3 k_4) (by decide) ?_
  refine lv_lload_n hx hb dX6_asItem_52 rfl (lv_at hl 1 rfl) ?_
  refine lv_lconst (v := (0 : Int64)) hx hb dX6_asItem_53 (by decide) ?_
  refine W.lcmp hx hb dX6_asItem_54 ?_
  refine lv_if_eq (tgt := 62) hx hb dX6_asItem_55 (by decide) (fun k_5 => ?_) (fun k_5 => ?_)
  · have h := it_t k_5 h
    refine lv_lconst (v := (0 : Int64)) hx hb dX6_asItem_62 (by decide) ?_
    obtain rfl := Option.some.inj h
    exact k_lret hE hr hlk hW rfl rfl dX6_asItem_63
  · have h := it_f k_5 h
    refine lv_lconst (v := (1 : Int64)) hx hb dX6_asItem_58 (by decide) ?_
    refine lv_goto (tgt := 63) hx hb dX6_asItem_59 (by decide) ?_
    obtain rfl := Option.some.inj h
    exact k_lret hE hr hlk hW rfl rfl dX6_asItem_63
set_option maxHeartbeats 4000000 in
set_option maxRecDepth 100000 in
theorem wX6_judged_5 {p : Program} {l : Launch} {e : Env} {s : State} {m : MethodId} {args : Array Value} {below : List Frame} {meth : Method} {cd : Code} {D : va_G} {ct : Nat → ClassId} {J : List Nat} {ad : Nat → Nat} {c0 : CF} {b : Nat} (hE : ME p s m cd args D ct cX6_judged RX6 5) (hr : meth.sig.returnType = (some .int)) (hlk : meth.locks = false) {x2 : Int32} {st : TS} (hB_st : TpB ct J ad c0 b st) {b2 : Nat} {sx : CS} (hB_sx : LgB ct J ad c0 b2 sx) {r : Int32} : ∀ (n : Nat) (x3 : Int32) (x4 : Int32) (H : Heap) (locs : List Loc) (ls : Array Slot), HW D J ad c0 (aA J ad s.heap.size) s.heap H locs → lv_has ls 5 [(0, .ref (ad b)), (1, .ref (ad b2)), (2, .int x2), (3, .int x3), (4, .int x4)] → fX6_judged_5 sx x2 st n x3 x4 = some r → W p l e (rr 1 21) s m args below meth cd H locs 0 0 (MQ below (Qi D J ad s.heap.size r (fun c' => c' = c0)) args s 0 0 (aA J ad s.heap.size)) (F0 m 5 ls []) := by
  have hx := hE.1
  have hb := hE.2.1
  intro n
  induction n with
  | zero =>
    intro x3 x4 H locs ls hW hl h
    have h2 : (none : Option Int32) = some r := h
    cases h2
  | succ n ih =>
    intro x3 x4 H locs ls hW hl h
    rw [fX6_judged_5] at h
    refine lv_iload hx hb dX6_judged_5 (lv_at hl 4 rfl) ?_
    refine lv_aload_n hx hb dX6_judged_7 rfl (lv_at hl 1 rfl) ?_
    refine k_getN (v := .int (sx.2 0)) hE hW hB_sx.o hB_sx.obj rfl inX3 7 (by decide) q56 rfl dX6_judged_8 ?_
    refine lv_icmp_ge (tgt := 68) hx hb dX6_judged_11 (by decide) (fun k_1 => ?_) (fun k_1 => ?_)
    · have h := it_t k_1 h
      refine lv_bipush (v := (-5 : Int32)) hx hb dX6_judged_68 (by decide) ?_
      obtain rfl := Option.some.inj h
      exact k_iret hE hr hlk hW rfl rfl dX6_judged_70
    · have h := it_f k_1 h
      refine lv_aload_n hx hb dX6_judged_14 rfl (lv_at hl 1 rfl) ?_
      refine lv_iload hx hb dX6_judged_15 (lv_at hl 4 rfl) ?_
      obtain ⟨r_2, hr_2, h⟩ := zb_e h
      refine k_callVNi (rest := []) hE hW hl.1 (mX3_has hB_sx hr_2) hB_sx.o hB_sx.obj rfl q804 q468 qs34 q3 q469 hd_X3_has.2 ⟨Nat.le_of_ble_eq_true rfl, Nat.le_of_ble_eq_true rfl⟩ ⟨rfl, rfl⟩ rfl (Nat.le_of_ble_eq_true rfl) dX6_judged_17 ⟨Nat.zero_le _, Nat.zero_le _⟩ (fun c1 H locs hP hW => ?_)
      rw [hP] at hW
      refine lv_if_eq (tgt := 62) hx hb dX6_judged_20 (by decide) (fun k_3 => ?_) (fun k_3 => ?_)
      · have h := it_t k_3 h
        refine lv_iinc (v := (x4 + (1 : Int32))) (lv' := [(4, .int (x4 + (1 : Int32))), (0, .ref (ad b)), (1, .ref (ad b2)), (2, .int x2), (3, .int x3)]) hx hb dX6_judged_62 hl (k := 4) rfl rfl (by decide) rfl (fun ls hl => ?_)
        refine lv_goto (tgt := 5) hx hb dX6_judged_65 (by decide) ?_
        exact ih _ _ _ _ _ hW (lv_sub hl [1, 2, 3, 4, 0] rfl) h
      · have h := it_f k_3 h
        refine lv_iload_n hx hb dX6_judged_23 rfl (lv_at hl 2 rfl) ?_
        refine lv_if_lt (tgt := 37) hx hb dX6_judged_24 (by decide) (fun k_4 => ?_) (fun k_4 => ?_)
        · have h := it_t k_4 h
          refine lv_bipush (v := (100 : Int32)) hx hb dX6_judged_37 (by decide) ?_
          refine lv_iload_n hx hb dX6_judged_39 rfl (lv_at hl 3 rfl) ?_
          refine lv_iadd hx hb dX6_judged_40 ?_
          obtain rfl := Option.some.inj h
          exact k_iret hE hr hlk hW rfl rfl dX6_judged_41
        · have h := it_f k_4 h
          refine lv_iload_n hx hb dX6_judged_27 rfl (lv_at hl 3 rfl) ?_
          refine lv_aload_n hx hb dX6_judged_28 rfl (lv_at hl 0 rfl) ?_
          refine k_get (v := .int (st.2 1)) hE hW hB_st.o hB_st.obj rfl inX6 2 (by decide) q235 rfl dX6_judged_29 ?_
          refine lv_iload_n hx hb dX6_judged_32 rfl (lv_at hl 2 rfl) ?_
          refine lv_isub hx hb dX6_judged_33 ?_
          refine lv_icmp_lt (tgt := 42) hx hb dX6_judged_34 (by decide) (fun k_5 => ?_) (fun k_5 => ?_)
          · have h := it_t k_5 h
            refine lv_aload_n hx hb dX6_judged_42 rfl (lv_at hl 0 rfl) ?_
            refine k_get (v := .ref (ad (b + 1 + 0))) hE hW hB_st.o hB_st.obj rfl inX6 0 (by decide) q231 rfl dX6_judged_43 ?_
            refine lv_iload_n hx hb dX6_judged_46 rfl (lv_at hl 2 rfl) ?_
            refine lv_iload_n hx hb dX6_judged_47 rfl (lv_at hl 3 rfl) ?_
            refine lv_iadd hx hb dX6_judged_48 ?_
            obtain ⟨g_6, h⟩ := zi_e h
            refine k_lald hE hW (hB_st.memR 0 (Nat.le_of_ble_eq_true rfl)) (hB_st.row 0 (Nat.le_of_ble_eq_true rfl)) g_6 dX6_judged_49 ?_
            refine lv_iload hx hb dX6_judged_50 (lv_at hl 4 rfl) ?_
            refine lv_i2l (v := x4.toInt64) hx hb dX6_judged_52 rfl ?_
            refine W.lcmp hx hb dX6_judged_53 ?_
            refine lv_if_eq (tgt := 59) hx hb dX6_judged_54 (by decide) (fun k_7 => ?_) (fun k_7 => ?_)
            · have h := it_t k_7 h
              refine lv_iinc (v := (x3 + (1 : Int32))) (lv' := [(3, .int (x3 + (1 : Int32))), (0, .ref (ad b)), (1, .ref (ad b2)), (2, .int x2), (4, .int x4)]) hx hb dX6_judged_59 hl (k := 3) rfl rfl (by decide) rfl (fun ls hl => ?_)
              refine lv_iinc (v := (x4 + (1 : Int32))) (lv' := [(4, .int (x4 + (1 : Int32))), (3, .int (x3 + (1 : Int32))), (0, .ref (ad b)), (1, .ref (ad b2)), (2, .int x2)]) hx hb dX6_judged_62 hl (k := 4) rfl rfl (by decide) rfl (fun ls hl => ?_)
              refine lv_goto (tgt := 5) hx hb dX6_judged_65 (by decide) ?_
              exact ih _ _ _ _ _ hW (lv_sub hl [2, 3, 4, 1, 0] rfl) h
            · have h := it_f k_7 h
              refine lv_iload_n hx hb dX6_judged_57 rfl (lv_at hl 3 rfl) ?_
              obtain rfl := Option.some.inj h
              exact k_iret hE hr hlk hW rfl rfl dX6_judged_58
          · have h := it_f k_5 h
            refine lv_bipush (v := (100 : Int32)) hx hb dX6_judged_37 (by decide) ?_
            refine lv_iload_n hx hb dX6_judged_39 rfl (lv_at hl 3 rfl) ?_
            refine lv_iadd hx hb dX6_judged_40 ?_
            obtain rfl := Option.some.inj h
            exact k_iret hE hr hlk hW rfl rfl dX6_judged_41
set_option maxHeartbeats 4000000 in
set_option maxRecDepth 100000 in
theorem mX6_judged {l : Launch} {D : va_G} {ct : Nat → ClassId} {J : List Nat} {ad : Nat → Nat} {c0 : CF} {a2 : Int32} {b : Nat} {st : TS} (hB_st : TpB ct J ad c0 b st) {b2 : Nat} {sx : CS} (hB_sx : LgB ct J ad c0 b2 sx) {r : Int32} (h : fX6_judged  a2 sx st = some r) : Mi l D ct J ad yX6_judged cX6_judged 5 (some .int) (rr 1 21) [.ref (ad b), .ref (ad b2), .int a2] c0 r (fun c' => c' = c0) := by
  refine Mi_of (own := RX6) (by decide) rfl (Nat.le_of_ble_eq_true rfl) (fun p e s m below meth cd hE hr hlk hW ls hl => ?_)
  have hx := hE.1
  have hb := hE.2.1
  have hl : lv_has ls 5 [(0, .ref (ad b)), (1, .ref (ad b2)), (2, .int a2)] := hl
  rw [fX6_judged] at h
  refine lv_iconst (v := (0 : Int32)) hx hb dX6_judged_0 (by decide) ?_
  refine lv_istore_n (lv' := [(3, .int (0 : Int32)), (0, .ref (ad b)), (1, .ref (ad b2)), (2, .int a2)]) hx hb dX6_judged_1 rfl hl (by decide) rfl (fun ls hl => ?_)
  refine lv_iconst (v := (0 : Int32)) hx hb dX6_judged_2 (by decide) ?_
  refine lv_istore (lv' := [(4, .int (0 : Int32)), (3, .int (0 : Int32)), (0, .ref (ad b)), (1, .ref (ad b2)), (2, .int a2)]) hx hb dX6_judged_3 hl (by decide) rfl (fun ls hl => ?_)
  exact wX6_judged_5 hE hr hlk hB_st hB_sx _ _ _ _ _ _ hW (lv_sub hl [2, 3, 4, 1, 0] rfl) h
set_option maxHeartbeats 4000000 in
set_option maxRecDepth 100000 in
theorem mX7_isFull {l : Launch} {D : va_G} {ct : Nat → ClassId} {J : List Nat} {ad : Nat → Nat} {c0 : CF} {b : Nat} {st : CS} (hB_st : TxB ct J ad c0 b st) {r : Int32} (h : fX7_isFull   st = some r) : Mi l D ct J ad yX7_isFull cX7_isFull 1 (some .boolean) (rr 0 0) [.ref (ad b)] c0 r (fun c' => c' = c0) := by
  refine Mi_of (own := RX7) (by decide) rfl (Nat.le_of_ble_eq_true rfl) (fun p e s m below meth cd hE hr hlk hW ls hl => ?_)
  have hx := hE.1
  have hb := hE.2.1
  have hl : lv_has ls 1 [(0, .ref (ad b))] := hl
  rw [fX7_isFull] at h
  refine lv_aload_n hx hb dX7_isFull_0 rfl (lv_at hl 0 rfl) ?_
  refine k_get (v := .int (st.2 0)) hE hW hB_st.o hB_st.obj rfl inX7 1 (by decide) q170 rfl dX7_isFull_1 ?_
  refine lv_bipush (v := (100 : Int32)) hx hb dX7_isFull_4 (by decide) ?_
  refine lv_icmp_lt (tgt := 13) hx hb dX7_isFull_6 (by decide) (fun k_1 => ?_) (fun k_1 => ?_)
  · have h := it_t k_1 h
    refine lv_iconst (v := (0 : Int32)) hx hb dX7_isFull_13 (by decide) ?_
    obtain rfl := Option.some.inj h
    exact k_zret hE hr hlk hW rfl rfl rfl dX7_isFull_14
  · have h := it_f k_1 h
    refine lv_iconst (v := (1 : Int32)) hx hb dX7_isFull_9 (by decide) ?_
    refine lv_goto (tgt := 14) hx hb dX7_isFull_10 (by decide) ?_
    obtain rfl := Option.some.inj h
    exact k_zret hE hr hlk hW rfl rfl rfl dX7_isFull_14
set_option maxHeartbeats 4000000 in
set_option maxRecDepth 100000 in
theorem mX7_takeSign {l : Launch} {D : va_G} {ct : Nat → ClassId} {J : List Nat} {ad : Nat → Nat} {c0 : CF} {a1 : Int32} {b : Nat} {st : CS} (hB_st : TxB ct J ad c0 b st) {r : Int32} {st9 : CS} (h : fX7_takeSign  a1 st = some (r, st9)) : Mi l D ct J ad yX7_takeSign cX7_takeSign 2 (some .int) (rr 0 0) [.ref (ad b), .int a1] c0 r (fun c' => TxB ct J ad c' b st9 ∧ Fr c0 c' b 6) := by
  refine Mi_of (own := RX7) (by decide) rfl (Nat.le_of_ble_eq_true rfl) (fun p e s m below meth cd hE hr hlk hW ls hl => ?_)
  have hx := hE.1
  have hb := hE.2.1
  have hl : lv_has ls 2 [(0, .ref (ad b)), (1, .int a1)] := hl
  rw [fX7_takeSign] at h
  obtain ⟨c, hB_st, hF, hW⟩ : ∃ c', TxB ct J ad c' b st ∧ Fr c0 c' b 6 ∧ HW D J ad c' (aA J ad s.heap.size) s.heap s.heap [] := ⟨c0, hB_st, Fr.rf, hW⟩
  refine lv_aload_n hx hb dX7_takeSign_0 rfl (lv_at hl 0 rfl) ?_
  refine k_get (v := .ref (ad (b + 1 + 0))) hE hW hB_st.o hB_st.obj rfl inX7 0 (by decide) q169 rfl dX7_takeSign_1 ?_
  refine lv_aload_n hx hb dX7_takeSign_4 rfl (lv_at hl 0 rfl) ?_
  refine k_get (v := .int (st.2 0)) hE hW hB_st.o hB_st.obj rfl inX7 1 (by decide) q170 rfl dX7_takeSign_5 ?_
  refine lv_iload_n hx hb dX7_takeSign_8 rfl (lv_at hl 1 rfl) ?_
  obtain ⟨g_1, h⟩ := zi_e h
  obtain ⟨st_2, est_2, h⟩ := zl_e h
  refine k_iast hE hW (hB_st.memA 0 (Nat.le_of_ble_eq_true rfl)) (hB_st.arr 0 rfl) g_1 dX7_takeSign_9 (fun H locs hW => ?_)
  obtain ⟨c, hB_st, hF, hW⟩ : ∃ c', TxB ct J ad c' b st_2 ∧ Fr c0 c' b 6 ∧ HW D J ad c' (aA J ad s.heap.size) s.heap H locs := ⟨_, hB_st.wA (k := 0) rfl est_2, hF.up (by omega) (by omega), hW⟩
  refine lv_aload_n hx hb dX7_takeSign_10 rfl (lv_at hl 0 rfl) ?_
  refine lv_dup hx hb dX7_takeSign_11 rfl ?_
  refine k_get (v := .int (st_2.2 0)) hE hW hB_st.o hB_st.obj rfl inX7 1 (by decide) q170 rfl dX7_takeSign_12 ?_
  refine lv_iconst (v := (1 : Int32)) hx hb dX7_takeSign_15 (by decide) ?_
  refine lv_iadd hx hb dX7_takeSign_16 ?_
  obtain ⟨st_3, est_3, h⟩ := zl_e h
  refine k_put hE hW hB_st.o hB_st.obj rfl inX7 tyX7 tyX7_ok nmX7 1 (by decide) q170 rfl rfl rfl (Nat.le_of_ble_eq_true rfl) dX7_takeSign_17 (fun H locs hW => ?_)
  obtain ⟨c, hB_st, hF, hW⟩ : ∃ c', TxB ct J ad c' b st_3 ∧ Fr c0 c' b 6 ∧ HW D J ad c' (aA J ad s.heap.size) s.heap H locs := ⟨_, hB_st.wF (k := 1) (j := 0) rfl est_3, hF.up (by omega) (by omega), hW⟩
  refine lv_aload_n hx hb dX7_takeSign_20 rfl (lv_at hl 0 rfl) ?_
  refine k_get (v := .int (st_3.2 0)) hE hW hB_st.o hB_st.obj rfl inX7 1 (by decide) q170 rfl dX7_takeSign_21 ?_
  obtain ⟨rfl, rfl⟩ := Prod.mk.inj (Option.some.inj h)
  exact k_iret hE hr hlk hW ⟨hB_st, hF⟩ rfl dX7_takeSign_24
set_option maxHeartbeats 4000000 in
set_option maxRecDepth 100000 in
theorem mX7_isBetween {l : Launch} {D : va_G} {ct : Nat → ClassId} {J : List Nat} {ad : Nat → Nat} {c0 : CF} {a1 : Int32} {a2 : Int32} {b : Nat} {st : CS} (hB_st : TxB ct J ad c0 b st) {r : Int32} (h : fX7_isBetween  a1 a2 st = some r) : Mi l D ct J ad yX7_isBetween cX7_isBetween 3 (some .boolean) (rr 0 0) [.ref (ad b), .int a1, .int a2] c0 r (fun c' => c' = c0) := by
  refine Mi_of (own := RX7) (by decide) rfl (Nat.le_of_ble_eq_true rfl) (fun p e s m below meth cd hE hr hlk hW ls hl => ?_)
  have hx := hE.1
  have hb := hE.2.1
  have hl : lv_has ls 3 [(0, .ref (ad b)), (1, .int a1), (2, .int a2)] := hl
  rw [fX7_isBetween] at h
  refine lv_aload_n hx hb dX7_isBetween_0 rfl (lv_at hl 0 rfl) ?_
  refine k_get (v := .int (st.2 2)) hE hW hB_st.o hB_st.obj rfl inX7 7 (by decide) q182 rfl dX7_isBetween_1 ?_
  refine lv_aload_n hx hb dX7_isBetween_4 rfl (lv_at hl 0 rfl) ?_
  refine k_get (v := .int (st.2 0)) hE hW hB_st.o hB_st.obj rfl inX7 1 (by decide) q170 rfl dX7_isBetween_5 ?_
  refine lv_icmp_ge (tgt := 41) hx hb dX7_isBetween_8 (by decide) (fun k_1 => ?_) (fun k_1 => ?_)
  · have h := it_t k_1 h
    refine lv_iconst (v := (0 : Int32)) hx hb dX7_isBetween_41 (by decide) ?_
    obtain rfl := Option.some.inj h
    exact k_zret hE hr hlk hW rfl rfl rfl dX7_isBetween_42
  · have h := it_f k_1 h
    refine lv_aload_n hx hb dX7_isBetween_11 rfl (lv_at hl 0 rfl) ?_
    refine k_get (v := .ref (ad (b + 1 + 0))) hE hW hB_st.o hB_st.obj rfl inX7 0 (by decide) q169 rfl dX7_isBetween_12 ?_
    refine lv_aload_n hx hb dX7_isBetween_15 rfl (lv_at hl 0 rfl) ?_
    refine k_get (v := .int (st.2 2)) hE hW hB_st.o hB_st.obj rfl inX7 7 (by decide) q182 rfl dX7_isBetween_16 ?_
    obtain ⟨g_2, h⟩ := zi_e h
    refine k_iald hE hW (hB_st.memA 0 (Nat.le_of_ble_eq_true rfl)) (hB_st.arr 0 rfl) g_2 dX7_isBetween_19 ?_
    refine lv_iload_n hx hb dX7_isBetween_20 rfl (lv_at hl 1 rfl) ?_
    refine lv_icmp_lt (tgt := 41) hx hb dX7_isBetween_21 (by decide) (fun k_3 => ?_) (fun k_3 => ?_)
    · have h := it_t k_3 h
      refine lv_iconst (v := (0 : Int32)) hx hb dX7_isBetween_41 (by decide) ?_
      obtain rfl := Option.some.inj h
      exact k_zret hE hr hlk hW rfl rfl rfl dX7_isBetween_42
    · have h := it_f k_3 h
      refine lv_aload_n hx hb dX7_isBetween_24 rfl (lv_at hl 0 rfl) ?_
      refine k_get (v := .ref (ad (b + 1 + 0))) hE hW hB_st.o hB_st.obj rfl inX7 0 (by decide) q169 rfl dX7_isBetween_25 ?_
      refine lv_aload_n hx hb dX7_isBetween_28 rfl (lv_at hl 0 rfl) ?_
      refine k_get (v := .int (st.2 2)) hE hW hB_st.o hB_st.obj rfl inX7 7 (by decide) q182 rfl dX7_isBetween_29 ?_
      obtain ⟨g_4, h⟩ := zi_e h
      refine k_iald hE hW (hB_st.memA 0 (Nat.le_of_ble_eq_true rfl)) (hB_st.arr 0 rfl) g_4 dX7_isBetween_32 ?_
      refine lv_iload_n hx hb dX7_isBetween_33 rfl (lv_at hl 2 rfl) ?_
      refine lv_icmp_gt (tgt := 41) hx hb dX7_isBetween_34 (by decide) (fun k_5 => ?_) (fun k_5 => ?_)
      · have h := it_t k_5 h
        refine lv_iconst (v := (0 : Int32)) hx hb dX7_isBetween_41 (by decide) ?_
        obtain rfl := Option.some.inj h
        exact k_zret hE hr hlk hW rfl rfl rfl dX7_isBetween_42
      · have h := it_f k_5 h
        refine lv_iconst (v := (1 : Int32)) hx hb dX7_isBetween_37 (by decide) ?_
        refine lv_goto (tgt := 42) hx hb dX7_isBetween_38 (by decide) ?_
        obtain rfl := Option.some.inj h
        exact k_zret hE hr hlk hW rfl rfl rfl dX7_isBetween_42
set_option maxHeartbeats 4000000 in
set_option maxRecDepth 100000 in
theorem mX7_skipped {l : Launch} {D : va_G} {ct : Nat → ClassId} {J : List Nat} {ad : Nat → Nat} {c0 : CF} {a1 : Int32} {b : Nat} {st : CS} (hB_st : TxB ct J ad c0 b st) {r : Int32} {st9 : CS} (h : fX7_skipped  a1 st = some (r, st9)) : Mi l D ct J ad yX7_skipped cX7_skipped 2 (some .boolean) (rr 1 22) [.ref (ad b), .int a1] c0 r (fun c' => TxB ct J ad c' b st9 ∧ Fr c0 c' b 6) := by
  refine Mi_of (own := RX7) (by decide) rfl (Nat.le_of_ble_eq_true rfl) (fun p e s m below meth cd hE hr hlk hW ls hl => ?_)
  have hx := hE.1
  have hb := hE.2.1
  have hl : lv_has ls 2 [(0, .ref (ad b)), (1, .int a1)] := hl
  rw [fX7_skipped] at h
  obtain ⟨c, hB_st, hF, hW⟩ : ∃ c', TxB ct J ad c' b st ∧ Fr c0 c' b 6 ∧ HW D J ad c' (aA J ad s.heap.size) s.heap s.heap [] := ⟨c0, hB_st, Fr.rf, hW⟩
  refine lv_aload_n hx hb dX7_skipped_0 rfl (lv_at hl 0 rfl) ?_
  refine lv_iload_n hx hb dX7_skipped_1 rfl (lv_at hl 1 rfl) ?_
  refine lv_iload_n hx hb dX7_skipped_2 rfl (lv_at hl 1 rfl) ?_
  obtain ⟨r_1, hr_1, h⟩ := zb_e h
  refine k_callVi (rest := []) hE hW hl.1 (mX7_isBetween hB_st hr_1) hB_st.o hB_st.obj rfl q409 q411 qs23 q7 q412 hd_X7_isBetween ⟨Nat.le_of_ble_eq_true rfl, Nat.le_of_ble_eq_true rfl⟩ ⟨rfl, rfl⟩ rfl (Nat.le_of_ble_eq_true rfl) dX7_skipped_3 ⟨Nat.zero_le _, Nat.zero_le _⟩ (fun c1 H locs hP hW => ?_)
  rw [hP] at hW
  refine lv_if_ne (tgt := 11) hx hb dX7_skipped_6 (by decide) (fun k_2 => ?_) (fun k_2 => ?_)
  · have h := it_f k_2 h
    refine lv_aload_n hx hb dX7_skipped_11 rfl (lv_at hl 0 rfl) ?_
    refine lv_dup hx hb dX7_skipped_12 rfl ?_
    refine k_get (v := .int (st.2 2)) hE hW hB_st.o hB_st.obj rfl inX7 7 (by decide) q182 rfl dX7_skipped_13 ?_
    refine lv_iconst (v := (1 : Int32)) hx hb dX7_skipped_16 (by decide) ?_
    refine lv_iadd hx hb dX7_skipped_17 ?_
    obtain ⟨st_3, est_3, h⟩ := zl_e h
    refine k_put hE hW hB_st.o hB_st.obj rfl inX7 tyX7 tyX7_ok nmX7 7 (by decide) q182 rfl rfl rfl (Nat.le_of_ble_eq_true rfl) dX7_skipped_18 (fun H locs hW => ?_)
    obtain ⟨c, hB_st, hF, hW⟩ : ∃ c', TxB ct J ad c' b st_3 ∧ Fr c0 c' b 6 ∧ HW D J ad c' (aA J ad s.heap.size) s.heap H locs := ⟨_, hB_st.wF (k := 7) (j := 2) rfl est_3, hF.up (by omega) (by omega), hW⟩
    refine lv_iconst (v := (1 : Int32)) hx hb dX7_skipped_21 (by decide) ?_
    obtain ⟨rfl, rfl⟩ := Prod.mk.inj (Option.some.inj h)
    exact k_zret hE hr hlk hW ⟨hB_st, hF⟩ rfl rfl dX7_skipped_22
  · have h := it_t k_2 h
    refine lv_iconst (v := (0 : Int32)) hx hb dX7_skipped_9 (by decide) ?_
    obtain ⟨rfl, rfl⟩ := Prod.mk.inj (Option.some.inj h)
    exact k_zret hE hr hlk hW ⟨hB_st, hF⟩ rfl rfl dX7_skipped_10
set_option maxHeartbeats 4000000 in
set_option maxRecDepth 100000 in
theorem wX7_digits_4 {p : Program} {l : Launch} {e : Env} {s : State} {m : MethodId} {args : Array Value} {below : List Frame} {meth : Method} {cd : Code} {D : va_G} {ct : Nat → ClassId} {J : List Nat} {ad : Nat → Nat} {c0 : CF} {b : Nat} (hE : ME p s m cd args D ct cX7_digits RX7 4) (hr : meth.sig.returnType = (some .int)) (hlk : meth.locks = false) {x1 : Int32} {r : Int32} {st9 : CS} : ∀ (n : Nat) (x2 : Int32) (x3 : Int32) (st : CS) (c : CF) (H : Heap) (locs : List Loc) (ls : Array Slot), HW D J ad c (aA J ad s.heap.size) s.heap H locs → TxB ct J ad c b st → Fr c0 c b 6 → lv_has ls 4 [(0, .ref (ad b)), (1, .int x1), (2, .int x2), (3, .int x3)] → fX7_digits_4 x1 n x2 x3 st = some (r, st9) → W p l e (rr 1 22) s m args below meth cd H locs 0 0 (MQ below (Qi D J ad s.heap.size r (fun c' => TxB ct J ad c' b st9 ∧ Fr c0 c' b 6)) args s 0 0 (aA J ad s.heap.size)) (F0 m 4 ls []) := by
  have hx := hE.1
  have hb := hE.2.1
  intro n
  induction n with
  | zero =>
    intro x2 x3 st c H locs ls hW hB_st hF hl h
    have h2 : (none : Option (Int32 × CS)) = some (r, st9) := h
    cases h2
  | succ n ih =>
    intro x2 x3 st c H locs ls hW hB_st hF hl h
    rw [fX7_digits_4] at h
    refine lv_iload_n hx hb dX7_digits_4 rfl (lv_at hl 3 rfl) ?_
    refine lv_iload_n hx hb dX7_digits_5 rfl (lv_at hl 1 rfl) ?_
    refine lv_icmp_ge (tgt := 54) hx hb dX7_digits_6 (by decide) (fun k_1 => ?_) (fun k_1 => ?_)
    · have h := it_t k_1 h
      refine lv_iload_n hx hb dX7_digits_54 rfl (lv_at hl 2 rfl) ?_
      obtain ⟨rfl, rfl⟩ := Prod.mk.inj (Option.some.inj h)
      exact k_iret hE hr hlk hW ⟨hB_st, hF⟩ rfl dX7_digits_55
    · have h := it_f k_1 h
      refine lv_aload_n hx hb dX7_digits_9 rfl (lv_at hl 0 rfl) ?_
      refine lv_bipush (v := (48 : Int32)) hx hb dX7_digits_10 (by decide) ?_
      refine lv_bipush (v := (57 : Int32)) hx hb dX7_digits_12 (by decide) ?_
      obtain ⟨r_2, hr_2, h⟩ := zb_e h
      refine k_callVi (rest := []) hE hW hl.1 (mX7_isBetween hB_st hr_2) hB_st.o hB_st.obj rfl q409 q411 qs23 q7 q412 hd_X7_isBetween ⟨Nat.le_of_ble_eq_true rfl, Nat.le_of_ble_eq_true rfl⟩ ⟨rfl, rfl⟩ rfl (Nat.le_of_ble_eq_true rfl) dX7_digits_14 ⟨Nat.zero_le _, Nat.zero_le _⟩ (fun c1 H locs hP hW => ?_)
      rw [hP] at hW
      refine lv_if_eq (tgt := 54) hx hb dX7_digits_17 (by decide) (fun k_3 => ?_) (fun k_3 => ?_)
      · have h := it_t k_3 h
        refine lv_iload_n hx hb dX7_digits_54 rfl (lv_at hl 2 rfl) ?_
        obtain ⟨rfl, rfl⟩ := Prod.mk.inj (Option.some.inj h)
        exact k_iret hE hr hlk hW ⟨hB_st, hF⟩ rfl dX7_digits_55
      · have h := it_f k_3 h
        refine lv_bipush (v := (10 : Int32)) hx hb dX7_digits_20 (by decide) ?_
        refine lv_iload_n hx hb dX7_digits_22 rfl (lv_at hl 2 rfl) ?_
        refine lv_imul hx hb dX7_digits_23 ?_
        refine lv_aload_n hx hb dX7_digits_24 rfl (lv_at hl 0 rfl) ?_
        refine k_get (v := .ref (ad (b + 1 + 0))) hE hW hB_st.o hB_st.obj rfl inX7 0 (by decide) q169 rfl dX7_digits_25 ?_
        refine lv_aload_n hx hb dX7_digits_28 rfl (lv_at hl 0 rfl) ?_
        refine k_get (v := .int (st.2 2)) hE hW hB_st.o hB_st.obj rfl inX7 7 (by decide) q182 rfl dX7_digits_29 ?_
        obtain ⟨g_4, h⟩ := zi_e h
        refine k_iald hE hW (hB_st.memA 0 (Nat.le_of_ble_eq_true rfl)) (hB_st.arr 0 rfl) g_4 dX7_digits_32 ?_
        refine lv_iadd hx hb dX7_digits_33 ?_
        refine lv_bipush (v := (48 : Int32)) hx hb dX7_digits_34 (by decide) ?_
        refine lv_isub hx hb dX7_digits_36 ?_
        refine lv_topi (fun x_5 ex_5 => ?_)
        have h := zl_n h ex_5
        refine lv_istore_n (lv' := [(2, .int x_5), (0, .ref (ad b)), (1, .int x1), (3, .int x3)]) hx hb dX7_digits_37 rfl hl (by decide) rfl (fun ls hl => ?_)
        refine lv_aload_n hx hb dX7_digits_38 rfl (lv_at hl 1 rfl) ?_
        refine lv_dup hx hb dX7_digits_39 rfl ?_
        refine k_get (v := .int (st.2 2)) hE hW hB_st.o hB_st.obj rfl inX7 7 (by decide) q182 rfl dX7_digits_40 ?_
        refine lv_iconst (v := (1 : Int32)) hx hb dX7_digits_43 (by decide) ?_
        refine lv_iadd hx hb dX7_digits_44 ?_
        obtain ⟨st_6, est_6, h⟩ := zl_e h
        refine k_put hE hW hB_st.o hB_st.obj rfl inX7 tyX7 tyX7_ok nmX7 7 (by decide) q182 rfl rfl rfl (Nat.le_of_ble_eq_true rfl) dX7_digits_45 (fun H locs hW => ?_)
        obtain ⟨c, hB_st, hF, hW⟩ : ∃ c', TxB ct J ad c' b st_6 ∧ Fr c0 c' b 6 ∧ HW D J ad c' (aA J ad s.heap.size) s.heap H locs := ⟨_, hB_st.wF (k := 7) (j := 2) rfl est_6, hF.up (by omega) (by omega), hW⟩
        refine lv_iinc (v := (x3 + (1 : Int32))) (lv' := [(3, .int (x3 + (1 : Int32))), (2, .int x_5), (0, .ref (ad b)), (1, .int x1)]) hx hb dX7_digits_48 hl (k := 3) rfl rfl (by decide) rfl (fun ls hl => ?_)
        refine lv_goto (tgt := 4) hx hb dX7_digits_51 (by decide) ?_
        exact ih _ _ _ _ _ _ _ hW hB_st hF (lv_sub hl [2, 3, 1, 0] rfl) h
set_option maxHeartbeats 4000000 in
set_option maxRecDepth 100000 in
theorem mX7_digits {l : Launch} {D : va_G} {ct : Nat → ClassId} {J : List Nat} {ad : Nat → Nat} {c0 : CF} {a1 : Int32} {b : Nat} {st : CS} (hB_st : TxB ct J ad c0 b st) {r : Int32} {st9 : CS} (h : fX7_digits  a1 st = some (r, st9)) : Mi l D ct J ad yX7_digits cX7_digits 4 (some .int) (rr 1 22) [.ref (ad b), .int a1] c0 r (fun c' => TxB ct J ad c' b st9 ∧ Fr c0 c' b 6) := by
  refine Mi_of (own := RX7) (by decide) rfl (Nat.le_of_ble_eq_true rfl) (fun p e s m below meth cd hE hr hlk hW ls hl => ?_)
  have hx := hE.1
  have hb := hE.2.1
  have hl : lv_has ls 4 [(0, .ref (ad b)), (1, .int a1)] := hl
  rw [fX7_digits] at h
  obtain ⟨c, hB_st, hF, hW⟩ : ∃ c', TxB ct J ad c' b st ∧ Fr c0 c' b 6 ∧ HW D J ad c' (aA J ad s.heap.size) s.heap s.heap [] := ⟨c0, hB_st, Fr.rf, hW⟩
  refine lv_iconst (v := (0 : Int32)) hx hb dX7_digits_0 (by decide) ?_
  refine lv_istore_n (lv' := [(2, .int (0 : Int32)), (0, .ref (ad b)), (1, .int a1)]) hx hb dX7_digits_1 rfl hl (by decide) rfl (fun ls hl => ?_)
  refine lv_iconst (v := (0 : Int32)) hx hb dX7_digits_2 (by decide) ?_
  refine lv_istore_n (lv' := [(3, .int (0 : Int32)), (2, .int (0 : Int32)), (0, .ref (ad b)), (1, .int a1)]) hx hb dX7_digits_3 rfl hl (by decide) rfl (fun ls hl => ?_)
  exact wX7_digits_4 hE hr hlk _ _ _ _ _ _ _ _ hW hB_st hF (lv_sub hl [2, 3, 1, 0] rfl) h
set_option maxHeartbeats 4000000 in
set_option maxRecDepth 100000 in
theorem wX7_valueParsed_74 {p : Program} {l : Launch} {e : Env} {s : State} {m : MethodId} {args : Array Value} {below : List Frame} {meth : Method} {cd : Code} {D : va_G} {ct : Nat → ClassId} {J : List Nat} {ad : Nat → Nat} {c0 : CF} {b : Nat} (hE : ME p s m cd args D ct cX7_valueParsed RX7 4) (hr : meth.sig.returnType = (some .boolean)) (hlk : meth.locks = false) {r : Int32} {st9 : CS} : ∀ (x3 : Int32) (y0 : Int32) (y1 : Int32) (st : CS) (c : CF) (H : Heap) (locs : List Loc) (ls : Array Slot), HW D J ad c (aA J ad s.heap.size) s.heap H locs → TxB ct J ad c b st → Fr c0 c b 6 → lv_has ls 4 [(3, .int x3)] → fX7_valueParsed_74 x3 y0 y1 st = some (r, st9) → W p l e (rr 3 70) s m args below meth cd H locs 0 0 (MQ below (Qi D J ad s.heap.size r (fun c' => TxB ct J ad c' b st9 ∧ Fr c0 c' b 6)) args s 0 0 (aA J ad s.heap.size)) (F0 m 74 ls [.int y0, .int y1, .ref (ad (b + 1 + 4))]) := by
  have hx := hE.1
  have hb := hE.2.1
  intro x3 y0 y1 st c H locs ls hW hB_st hF hl h
  rw [fX7_valueParsed_74] at h
  refine lv_iload_n hx hb dX7_valueParsed_74 rfl (lv_at hl 0 rfl) ?_
  obtain ⟨r_11, hr_11, h⟩ := zb_e h
  refine k_callSNi (rest := [.int y1, .ref (ad (b + 1 + 4))]) hE hW hl.1 (mX0_quotient hr_11) q425 q268 q11 q269 hd_X0_quotient.2 ⟨Nat.le_of_ble_eq_true rfl, Nat.le_of_ble_eq_true rfl⟩ ⟨rfl, rfl⟩ rfl (Nat.le_of_ble_eq_true rfl) dX7_valueParsed_75 ⟨Nat.zero_le _, Nat.zero_le _⟩ (fun c1 H locs hP hW => ?_)
  rw [hP] at hW
  obtain ⟨g_12, h⟩ := zi_e h
  obtain ⟨st_13, est_13, h⟩ := zl_e h
  refine k_iast hE hW (hB_st.memA 4 (Nat.le_of_ble_eq_true rfl)) (hB_st.arr 4 rfl) g_12 dX7_valueParsed_78 (fun H locs hW => ?_)
  obtain ⟨c, hB_st, hF, hW⟩ : ∃ c', TxB ct J ad c' b st_13 ∧ Fr c0 c' b 6 ∧ HW D J ad c' (aA J ad s.heap.size) s.heap H locs := ⟨_, hB_st.wA (k := 4) rfl est_13, hF.up (by omega) (by omega), hW⟩
  refine lv_iconst (v := (1 : Int32)) hx hb dX7_valueParsed_79 (by decide) ?_
  obtain ⟨rfl, rfl⟩ := Prod.mk.inj (Option.some.inj h)
  exact k_zret hE hr hlk hW ⟨hB_st, hF⟩ rfl rfl dX7_valueParsed_80
set_option maxHeartbeats 4000000 in
set_option maxRecDepth 100000 in
theorem wX7_valueParsed_56 {p : Program} {l : Launch} {e : Env} {s : State} {m : MethodId} {args : Array Value} {below : List Frame} {meth : Method} {cd : Code} {D : va_G} {ct : Nat → ClassId} {J : List Nat} {ad : Nat → Nat} {c0 : CF} {b : Nat} (hE : ME p s m cd args D ct cX7_valueParsed RX7 4) (hr : meth.sig.returnType = (some .boolean)) (hlk : meth.locks = false) {r : Int32} {st9 : CS} : ∀ (x1 : Int32) (x2 : Int32) (x3 : Int32) (st : CS) (c : CF) (H : Heap) (locs : List Loc) (ls : Array Slot), HW D J ad c (aA J ad s.heap.size) s.heap H locs → TxB ct J ad c b st → Fr c0 c b 6 → lv_has ls 4 [(0, .ref (ad b)), (1, .int x1), (2, .int x2), (3, .int x3)] → fX7_valueParsed_56 x1 x2 x3 st = some (r, st9) → W p l e (rr 3 70) s m args below meth cd H locs 0 0 (MQ below (Qi D J ad s.heap.size r (fun c' => TxB ct J ad c' b st9 ∧ Fr c0 c' b 6)) args s 0 0 (aA J ad s.heap.size)) (F0 m 56 ls []) := by
  have hx := hE.1
  have hb := hE.2.1
  intro x1 x2 x3 st c H locs ls hW hB_st hF hl h
  rw [fX7_valueParsed_56] at h
  refine lv_aload_n hx hb dX7_valueParsed_56 rfl (lv_at hl 0 rfl) ?_
  refine k_get (v := .ref (ad (b + 1 + 4))) hE hW hB_st.o hB_st.obj rfl inX7 5 (by decide) q178 rfl dX7_valueParsed_57 ?_
  refine lv_aload_n hx hb dX7_valueParsed_60 rfl (lv_at hl 0 rfl) ?_
  refine k_get (v := .int (st.2 1)) hE hW hB_st.o hB_st.obj rfl inX7 6 (by decide) q180 rfl dX7_valueParsed_61 ?_
  refine lv_iload_n hx hb dX7_valueParsed_64 rfl (lv_at hl 1 rfl) ?_
  refine lv_if_eq (tgt := 73) hx hb dX7_valueParsed_65 (by decide) (fun k_10 => ?_) (fun k_10 => ?_)
  · have h := it_t k_10 h
    refine lv_iload_n hx hb dX7_valueParsed_73 rfl (lv_at hl 2 rfl) ?_
    exact wX7_valueParsed_74 hE hr hlk _ _ _ _ _ _ _ _ hW hB_st hF (lv_sub hl [3] rfl) h
  · have h := it_f k_10 h
    refine lv_iload_n hx hb dX7_valueParsed_68 rfl (lv_at hl 2 rfl) ?_
    refine lv_ineg hx hb dX7_valueParsed_69 ?_
    refine lv_goto (tgt := 74) hx hb dX7_valueParsed_70 (by decide) ?_
    exact wX7_valueParsed_74 hE hr hlk _ _ _ _ _ _ _ _ hW hB_st hF (lv_sub hl [3] rfl) h
set_option maxHeartbeats 4000000 in
set_option maxRecDepth 100000 in
theorem mX7_valueParsed {l : Launch} {D : va_G} {ct : Nat → ClassId} {J : List Nat} {ad : Nat → Nat} {c0 : CF} {b : Nat} {st : CS} (hB_st : TxB ct J ad c0 b st) {r : Int32} {st9 : CS} (h : fX7_valueParsed   st = some (r, st9)) : Mi l D ct J ad yX7_valueParsed cX7_valueParsed 4 (some .boolean) (rr 3 70) [.ref (ad b)] c0 r (fun c' => TxB ct J ad c' b st9 ∧ Fr c0 c' b 6) := by
  refine Mi_of (own := RX7) (by decide) rfl (Nat.le_of_ble_eq_true rfl) (fun p e s m below meth cd hE hr hlk hW ls hl => ?_)
  have hx := hE.1
  have hb := hE.2.1
  have hl : lv_has ls 4 [(0, .ref (ad b))] := hl
  rw [fX7_valueParsed] at h
  obtain ⟨c, hB_st, hF, hW⟩ : ∃ c', TxB ct J ad c' b st ∧ Fr c0 c' b 6 ∧ HW D J ad c' (aA J ad s.heap.size) s.heap s.heap [] := ⟨c0, hB_st, Fr.rf, hW⟩
  refine lv_aload_n hx hb dX7_valueParsed_0 rfl (lv_at hl 0 rfl) ?_
  refine lv_bipush (v := (45 : Int32)) hx hb dX7_valueParsed_1 (by decide) ?_
  obtain ⟨r_1, st_2, hr_1, h⟩ := zb2_e h
  refine k_callVi (rest := []) hE hW hl.1 (mX7_skipped hB_st hr_1) hB_st.o hB_st.obj rfl q413 q415 qs24 q7 q416 hd_X7_skipped ⟨Nat.le_of_ble_eq_true rfl, Nat.le_of_ble_eq_true rfl⟩ ⟨rfl, rfl⟩ rfl (Nat.le_of_ble_eq_true rfl) dX7_valueParsed_3 ⟨Nat.zero_le _, Nat.zero_le _⟩ (fun c1 H locs hP hW => ?_)
  obtain ⟨c, hB_st, hF, hW⟩ : ∃ c', TxB ct J ad c' b st_2 ∧ Fr c0 c' b 6 ∧ HW D J ad c' (aA J ad s.heap.size) s.heap H locs := ⟨c1, hP.1, hF.trans hP.2, hW⟩
  refine lv_istore_n (lv' := [(1, .int r_1), (0, .ref (ad b))]) hx hb dX7_valueParsed_6 rfl hl (by decide) rfl (fun ls hl => ?_)
  refine lv_aload_n hx hb dX7_valueParsed_7 rfl (lv_at hl 1 rfl) ?_
  refine lv_bipush (v := (48 : Int32)) hx hb dX7_valueParsed_8 (by decide) ?_
  refine lv_bipush (v := (57 : Int32)) hx hb dX7_valueParsed_10 (by decide) ?_
  obtain ⟨r_3, hr_3, h⟩ := zb_e h
  refine k_callVi (rest := []) hE hW hl.1 (mX7_isBetween hB_st hr_3) hB_st.o hB_st.obj rfl q409 q411 qs23 q7 q412 hd_X7_isBetween ⟨Nat.le_of_ble_eq_true rfl, Nat.le_of_ble_eq_true rfl⟩ ⟨rfl, rfl⟩ rfl (Nat.le_of_ble_eq_true rfl) dX7_valueParsed_12 ⟨Nat.zero_le _, Nat.zero_le _⟩ (fun c1 H locs hP hW => ?_)
  rw [hP] at hW
  refine lv_if_ne (tgt := 20) hx hb dX7_valueParsed_15 (by decide) (fun k_4 => ?_) (fun k_4 => ?_)
  · have h := it_f k_4 h
    refine lv_aload_n hx hb dX7_valueParsed_20 rfl (lv_at hl 1 rfl) ?_
    refine lv_iconst (v := (4 : Int32)) hx hb dX7_valueParsed_21 (by decide) ?_
    obtain ⟨r_5, st_6, hr_5, h⟩ := zb2_e h
    refine k_callVi (rest := []) hE hW hl.1 (mX7_digits hB_st hr_5) hB_st.o hB_st.obj rfl q421 q423 qs26 q7 q424 hd_X7_digits ⟨Nat.le_of_ble_eq_true rfl, Nat.le_of_ble_eq_true rfl⟩ ⟨rfl, rfl⟩ rfl (Nat.le_of_ble_eq_true rfl) dX7_valueParsed_22 ⟨Nat.zero_le _, Nat.zero_le _⟩ (fun c1 H locs hP hW => ?_)
    obtain ⟨c, hB_st, hF, hW⟩ : ∃ c', TxB ct J ad c' b st_6 ∧ Fr c0 c' b 6 ∧ HW D J ad c' (aA J ad s.heap.size) s.heap H locs := ⟨c1, hP.1, hF.trans hP.2, hW⟩
    refine lv_istore_n (lv' := [(2, .int r_5), (1, .int r_1), (0, .ref (ad b))]) hx hb dX7_valueParsed_25 rfl hl (by decide) rfl (fun ls hl => ?_)
    refine lv_iconst (v := (1 : Int32)) hx hb dX7_valueParsed_26 (by decide) ?_
    refine lv_istore_n (lv' := [(3, .int (1 : Int32)), (2, .int r_5), (1, .int r_1), (0, .ref (ad b))]) hx hb dX7_valueParsed_27 rfl hl (by decide) rfl (fun ls hl => ?_)
    refine lv_aload_n hx hb dX7_valueParsed_28 rfl (lv_at hl 3 rfl) ?_
    refine lv_bipush (v := (47 : Int32)) hx hb dX7_valueParsed_29 (by decide) ?_
    obtain ⟨r_7, st_8, hr_7, h⟩ := zb2_e h
    refine k_callVi (rest := []) hE hW hl.1 (mX7_skipped hB_st hr_7) hB_st.o hB_st.obj rfl q413 q415 qs24 q7 q416 hd_X7_skipped ⟨Nat.le_of_ble_eq_true rfl, Nat.le_of_ble_eq_true rfl⟩ ⟨rfl, rfl⟩ rfl (Nat.le_of_ble_eq_true rfl) dX7_valueParsed_31 ⟨Nat.zero_le _, Nat.zero_le _⟩ (fun c1 H locs hP hW => ?_)
    obtain ⟨c, hB_st, hF, hW⟩ : ∃ c', TxB ct J ad c' b st_8 ∧ Fr c0 c' b 6 ∧ HW D J ad c' (aA J ad s.heap.size) s.heap H locs := ⟨c1, hP.1, hF.trans hP.2, hW⟩
    refine lv_if_eq (tgt := 56) hx hb dX7_valueParsed_34 (by decide) (fun k_9 => ?_) (fun k_9 => ?_)
    · have h := it_t k_9 h
      exact wX7_valueParsed_56 hE hr hlk _ _ _ _ _ _ _ _ hW hB_st hF (lv_sub hl [3, 2, 1, 0] rfl) h
    · have h := it_f k_9 h
      refine lv_aload_n hx hb dX7_valueParsed_37 rfl (lv_at hl 3 rfl) ?_
      refine lv_bipush (v := (48 : Int32)) hx hb dX7_valueParsed_38 (by decide) ?_
      refine lv_bipush (v := (57 : Int32)) hx hb dX7_valueParsed_40 (by decide) ?_
      obtain ⟨r_14, hr_14, h⟩ := zb_e h
      refine k_callVi (rest := []) hE hW hl.1 (mX7_isBetween hB_st hr_14) hB_st.o hB_st.obj rfl q409 q411 qs23 q7 q412 hd_X7_isBetween ⟨Nat.le_of_ble_eq_true rfl, Nat.le_of_ble_eq_true rfl⟩ ⟨rfl, rfl⟩ rfl (Nat.le_of_ble_eq_true rfl) dX7_valueParsed_42 ⟨Nat.zero_le _, Nat.zero_le _⟩ (fun c1 H locs hP hW => ?_)
      rw [hP] at hW
      refine lv_if_ne (tgt := 50) hx hb dX7_valueParsed_45 (by decide) (fun k_15 => ?_) (fun k_15 => ?_)
      · have h := it_f k_15 h
        refine lv_aload_n hx hb dX7_valueParsed_50 rfl (lv_at hl 3 rfl) ?_
        refine lv_iconst (v := (2 : Int32)) hx hb dX7_valueParsed_51 (by decide) ?_
        obtain ⟨r_16, st_17, hr_16, h⟩ := zb2_e h
        refine k_callVi (rest := []) hE hW hl.1 (mX7_digits hB_st hr_16) hB_st.o hB_st.obj rfl q421 q423 qs26 q7 q424 hd_X7_digits ⟨Nat.le_of_ble_eq_true rfl, Nat.le_of_ble_eq_true rfl⟩ ⟨rfl, rfl⟩ rfl (Nat.le_of_ble_eq_true rfl) dX7_valueParsed_52 ⟨Nat.zero_le _, Nat.zero_le _⟩ (fun c1 H locs hP hW => ?_)
        obtain ⟨c, hB_st, hF, hW⟩ : ∃ c', TxB ct J ad c' b st_17 ∧ Fr c0 c' b 6 ∧ HW D J ad c' (aA J ad s.heap.size) s.heap H locs := ⟨c1, hP.1, hF.trans hP.2, hW⟩
        refine lv_istore_n (lv' := [(3, .int r_16), (2, .int r_5), (1, .int r_1), (0, .ref (ad b))]) hx hb dX7_valueParsed_55 rfl hl (by decide) rfl (fun ls hl => ?_)
        exact wX7_valueParsed_56 hE hr hlk _ _ _ _ _ _ _ _ hW hB_st hF (lv_sub hl [3, 2, 1, 0] rfl) h
      · have h := it_t k_15 h
        refine lv_iconst (v := (0 : Int32)) hx hb dX7_valueParsed_48 (by decide) ?_
        obtain ⟨rfl, rfl⟩ := Prod.mk.inj (Option.some.inj h)
        exact k_zret hE hr hlk hW ⟨hB_st, hF⟩ rfl rfl dX7_valueParsed_49
  · have h := it_t k_4 h
    refine lv_iconst (v := (0 : Int32)) hx hb dX7_valueParsed_18 (by decide) ?_
    obtain ⟨rfl, rfl⟩ := Prod.mk.inj (Option.some.inj h)
    exact k_zret hE hr hlk hW ⟨hB_st, hF⟩ rfl rfl dX7_valueParsed_19
set_option maxHeartbeats 4000000 in
set_option maxRecDepth 100000 in
theorem mX7_clauseParsed {l : Launch} {D : va_G} {ct : Nat → ClassId} {J : List Nat} {ad : Nat → Nat} {c0 : CF} {b : Nat} {st : CS} (hB_st : TxB ct J ad c0 b st) {r : Int32} {st9 : CS} (h : fX7_clauseParsed   st = some (r, st9)) : Mi l D ct J ad yX7_clauseParsed cX7_clauseParsed 1 (some .boolean) (rr 4 93) [.ref (ad b)] c0 r (fun c' => TxB ct J ad c' b st9 ∧ Fr c0 c' b 6) := by
  refine Mi_of (own := RX7) (by decide) rfl (Nat.le_of_ble_eq_true rfl) (fun p e s m below meth cd hE hr hlk hW ls hl => ?_)
  have hx := hE.1
  have hb := hE.2.1
  have hl : lv_has ls 1 [(0, .ref (ad b))] := hl
  rw [fX7_clauseParsed] at h
  obtain ⟨c, hB_st, hF, hW⟩ : ∃ c', TxB ct J ad c' b st ∧ Fr c0 c' b 6 ∧ HW D J ad c' (aA J ad s.heap.size) s.heap s.heap [] := ⟨c0, hB_st, Fr.rf, hW⟩
  refine lv_aload_n hx hb dX7_clauseParsed_0 rfl (lv_at hl 0 rfl) ?_
  refine lv_bipush (v := (48 : Int32)) hx hb dX7_clauseParsed_1 (by decide) ?_
  refine lv_bipush (v := (51 : Int32)) hx hb dX7_clauseParsed_3 (by decide) ?_
  obtain ⟨r_1, hr_1, h⟩ := zb_e h
  refine k_callVi (rest := []) hE hW hl.1 (mX7_isBetween hB_st hr_1) hB_st.o hB_st.obj rfl q409 q411 qs23 q7 q412 hd_X7_isBetween ⟨Nat.le_of_ble_eq_true rfl, Nat.le_of_ble_eq_true rfl⟩ ⟨rfl, rfl⟩ rfl (Nat.le_of_ble_eq_true rfl) dX7_clauseParsed_5 ⟨Nat.zero_le _, Nat.zero_le _⟩ (fun c1 H locs hP hW => ?_)
  rw [hP] at hW
  refine lv_if_ne (tgt := 13) hx hb dX7_clauseParsed_8 (by decide) (fun k_2 => ?_) (fun k_2 => ?_)
  · have h := it_f k_2 h
    refine lv_aload_n hx hb dX7_clauseParsed_13 rfl (lv_at hl 0 rfl) ?_
    refine k_get (v := .ref (ad (b + 1 + 1))) hE hW hB_st.o hB_st.obj rfl inX7 2 (by decide) q172 rfl dX7_clauseParsed_14 ?_
    refine lv_aload_n hx hb dX7_clauseParsed_17 rfl (lv_at hl 0 rfl) ?_
    refine k_get (v := .int (st.2 1)) hE hW hB_st.o hB_st.obj rfl inX7 6 (by decide) q180 rfl dX7_clauseParsed_18 ?_
    refine lv_aload_n hx hb dX7_clauseParsed_21 rfl (lv_at hl 0 rfl) ?_
    refine k_get (v := .ref (ad (b + 1 + 0))) hE hW hB_st.o hB_st.obj rfl inX7 0 (by decide) q169 rfl dX7_clauseParsed_22 ?_
    refine lv_aload_n hx hb dX7_clauseParsed_25 rfl (lv_at hl 0 rfl) ?_
    refine k_get (v := .int (st.2 2)) hE hW hB_st.o hB_st.obj rfl inX7 7 (by decide) q182 rfl dX7_clauseParsed_26 ?_
    obtain ⟨g_3, h⟩ := zi_e h
    refine k_iald hE hW (hB_st.memA 0 (Nat.le_of_ble_eq_true rfl)) (hB_st.arr 0 rfl) g_3 dX7_clauseParsed_29 ?_
    refine lv_bipush (v := (48 : Int32)) hx hb dX7_clauseParsed_30 (by decide) ?_
    refine lv_isub hx hb dX7_clauseParsed_32 ?_
    obtain ⟨g_4, h⟩ := zi_e h
    obtain ⟨st_5, est_5, h⟩ := zl_e h
    refine k_iast hE hW (hB_st.memA 1 (Nat.le_of_ble_eq_true rfl)) (hB_st.arr 1 rfl) g_4 dX7_clauseParsed_33 (fun H locs hW => ?_)
    obtain ⟨c, hB_st, hF, hW⟩ : ∃ c', TxB ct J ad c' b st_5 ∧ Fr c0 c' b 6 ∧ HW D J ad c' (aA J ad s.heap.size) s.heap H locs := ⟨_, hB_st.wA (k := 1) rfl est_5, hF.up (by omega) (by omega), hW⟩
    refine lv_aload_n hx hb dX7_clauseParsed_34 rfl (lv_at hl 0 rfl) ?_
    refine lv_dup hx hb dX7_clauseParsed_35 rfl ?_
    refine k_get (v := .int (st_5.2 2)) hE hW hB_st.o hB_st.obj rfl inX7 7 (by decide) q182 rfl dX7_clauseParsed_36 ?_
    refine lv_iconst (v := (1 : Int32)) hx hb dX7_clauseParsed_39 (by decide) ?_
    refine lv_iadd hx hb dX7_clauseParsed_40 ?_
    obtain ⟨st_6, est_6, h⟩ := zl_e h
    refine k_put hE hW hB_st.o hB_st.obj rfl inX7 tyX7 tyX7_ok nmX7 7 (by decide) q182 rfl rfl rfl (Nat.le_of_ble_eq_true rfl) dX7_clauseParsed_41 (fun H locs hW => ?_)
    obtain ⟨c, hB_st, hF, hW⟩ : ∃ c', TxB ct J ad c' b st_6 ∧ Fr c0 c' b 6 ∧ HW D J ad c' (aA J ad s.heap.size) s.heap H locs := ⟨_, hB_st.wF (k := 7) (j := 2) rfl est_6, hF.up (by omega) (by omega), hW⟩
    refine lv_aload_n hx hb dX7_clauseParsed_44 rfl (lv_at hl 0 rfl) ?_
    refine lv_bipush (v := (97 : Int32)) hx hb dX7_clauseParsed_45 (by decide) ?_
    refine lv_bipush (v := (122 : Int32)) hx hb dX7_clauseParsed_47 (by decide) ?_
    obtain ⟨r_7, hr_7, h⟩ := zb_e h
    refine k_callVi (rest := []) hE hW hl.1 (mX7_isBetween hB_st hr_7) hB_st.o hB_st.obj rfl q409 q411 qs23 q7 q412 hd_X7_isBetween ⟨Nat.le_of_ble_eq_true rfl, Nat.le_of_ble_eq_true rfl⟩ ⟨rfl, rfl⟩ rfl (Nat.le_of_ble_eq_true rfl) dX7_clauseParsed_49 ⟨Nat.zero_le _, Nat.zero_le _⟩ (fun c1 H locs hP hW => ?_)
    rw [hP] at hW
    refine lv_if_ne (tgt := 57) hx hb dX7_clauseParsed_52 (by decide) (fun k_8 => ?_) (fun k_8 => ?_)
    · have h := it_f k_8 h
      refine lv_aload_n hx hb dX7_clauseParsed_57 rfl (lv_at hl 0 rfl) ?_
      refine k_get (v := .ref (ad (b + 1 + 2))) hE hW hB_st.o hB_st.obj rfl inX7 3 (by decide) q174 rfl dX7_clauseParsed_58 ?_
      refine lv_aload_n hx hb dX7_clauseParsed_61 rfl (lv_at hl 0 rfl) ?_
      refine k_get (v := .int (st_6.2 1)) hE hW hB_st.o hB_st.obj rfl inX7 6 (by decide) q180 rfl dX7_clauseParsed_62 ?_
      refine lv_aload_n hx hb dX7_clauseParsed_65 rfl (lv_at hl 0 rfl) ?_
      refine k_get (v := .ref (ad (b + 1 + 0))) hE hW hB_st.o hB_st.obj rfl inX7 0 (by decide) q169 rfl dX7_clauseParsed_66 ?_
      refine lv_aload_n hx hb dX7_clauseParsed_69 rfl (lv_at hl 0 rfl) ?_
      refine k_get (v := .int (st_6.2 2)) hE hW hB_st.o hB_st.obj rfl inX7 7 (by decide) q182 rfl dX7_clauseParsed_70 ?_
      obtain ⟨g_9, h⟩ := zi_e h
      refine k_iald hE hW (hB_st.memA 0 (Nat.le_of_ble_eq_true rfl)) (hB_st.arr 0 rfl) g_9 dX7_clauseParsed_73 ?_
      refine lv_bipush (v := (97 : Int32)) hx hb dX7_clauseParsed_74 (by decide) ?_
      refine lv_isub hx hb dX7_clauseParsed_76 ?_
      obtain ⟨g_10, h⟩ := zi_e h
      obtain ⟨st_11, est_11, h⟩ := zl_e h
      refine k_iast hE hW (hB_st.memA 2 (Nat.le_of_ble_eq_true rfl)) (hB_st.arr 2 rfl) g_10 dX7_clauseParsed_77 (fun H locs hW => ?_)
      obtain ⟨c, hB_st, hF, hW⟩ : ∃ c', TxB ct J ad c' b st_11 ∧ Fr c0 c' b 6 ∧ HW D J ad c' (aA J ad s.heap.size) s.heap H locs := ⟨_, hB_st.wA (k := 2) rfl est_11, hF.up (by omega) (by omega), hW⟩
      refine lv_aload_n hx hb dX7_clauseParsed_78 rfl (lv_at hl 0 rfl) ?_
      refine lv_dup hx hb dX7_clauseParsed_79 rfl ?_
      refine k_get (v := .int (st_11.2 2)) hE hW hB_st.o hB_st.obj rfl inX7 7 (by decide) q182 rfl dX7_clauseParsed_80 ?_
      refine lv_iconst (v := (1 : Int32)) hx hb dX7_clauseParsed_83 (by decide) ?_
      refine lv_iadd hx hb dX7_clauseParsed_84 ?_
      obtain ⟨st_12, est_12, h⟩ := zl_e h
      refine k_put hE hW hB_st.o hB_st.obj rfl inX7 tyX7 tyX7_ok nmX7 7 (by decide) q182 rfl rfl rfl (Nat.le_of_ble_eq_true rfl) dX7_clauseParsed_85 (fun H locs hW => ?_)
      obtain ⟨c, hB_st, hF, hW⟩ : ∃ c', TxB ct J ad c' b st_12 ∧ Fr c0 c' b 6 ∧ HW D J ad c' (aA J ad s.heap.size) s.heap H locs := ⟨_, hB_st.wF (k := 7) (j := 2) rfl est_12, hF.up (by omega) (by omega), hW⟩
      refine lv_aload_n hx hb dX7_clauseParsed_88 rfl (lv_at hl 0 rfl) ?_
      refine lv_bipush (v := (45 : Int32)) hx hb dX7_clauseParsed_89 (by decide) ?_
      obtain ⟨r_13, st_14, hr_13, h⟩ := zb2_e h
      refine k_callVi (rest := []) hE hW hl.1 (mX7_skipped hB_st hr_13) hB_st.o hB_st.obj rfl q413 q415 qs24 q7 q416 hd_X7_skipped ⟨Nat.le_of_ble_eq_true rfl, Nat.le_of_ble_eq_true rfl⟩ ⟨rfl, rfl⟩ rfl (Nat.le_of_ble_eq_true rfl) dX7_clauseParsed_91 ⟨Nat.zero_le _, Nat.zero_le _⟩ (fun c1 H locs hP hW => ?_)
      obtain ⟨c, hB_st, hF, hW⟩ : ∃ c', TxB ct J ad c' b st_14 ∧ Fr c0 c' b 6 ∧ HW D J ad c' (aA J ad s.heap.size) s.heap H locs := ⟨c1, hP.1, hF.trans hP.2, hW⟩
      refine lv_if_eq (tgt := 119) hx hb dX7_clauseParsed_94 (by decide) (fun k_15 => ?_) (fun k_15 => ?_)
      · have h := it_t k_15 h
        refine lv_aload_n hx hb dX7_clauseParsed_119 rfl (lv_at hl 0 rfl) ?_
        refine k_get (v := .ref (ad (b + 1 + 3))) hE hW hB_st.o hB_st.obj rfl inX7 4 (by decide) q176 rfl dX7_clauseParsed_120 ?_
        refine lv_aload_n hx hb dX7_clauseParsed_123 rfl (lv_at hl 0 rfl) ?_
        refine k_get (v := .int (st_14.2 1)) hE hW hB_st.o hB_st.obj rfl inX7 6 (by decide) q180 rfl dX7_clauseParsed_124 ?_
        refine lv_iconst (v := (1 : Int32)) hx hb dX7_clauseParsed_127 (by decide) ?_
        obtain ⟨g_16, h⟩ := zi_e h
        obtain ⟨st_17, est_17, h⟩ := zl_e h
        refine k_iast hE hW (hB_st.memA 3 (Nat.le_of_ble_eq_true rfl)) (hB_st.arr 3 rfl) g_16 dX7_clauseParsed_128 (fun H locs hW => ?_)
        obtain ⟨c, hB_st, hF, hW⟩ : ∃ c', TxB ct J ad c' b st_17 ∧ Fr c0 c' b 6 ∧ HW D J ad c' (aA J ad s.heap.size) s.heap H locs := ⟨_, hB_st.wA (k := 3) rfl est_17, hF.up (by omega) (by omega), hW⟩
        refine lv_aload_n hx hb dX7_clauseParsed_129 rfl (lv_at hl 0 rfl) ?_
        refine lv_bipush (v := (61 : Int32)) hx hb dX7_clauseParsed_130 (by decide) ?_
        obtain ⟨r_18, st_19, hr_18, h⟩ := zb2_e h
        refine k_callVi (rest := []) hE hW hl.1 (mX7_skipped hB_st hr_18) hB_st.o hB_st.obj rfl q413 q415 qs24 q7 q416 hd_X7_skipped ⟨Nat.le_of_ble_eq_true rfl, Nat.le_of_ble_eq_true rfl⟩ ⟨rfl, rfl⟩ rfl (Nat.le_of_ble_eq_true rfl) dX7_clauseParsed_132 ⟨Nat.zero_le _, Nat.zero_le _⟩ (fun c1 H locs hP hW => ?_)
        obtain ⟨c, hB_st, hF, hW⟩ : ∃ c', TxB ct J ad c' b st_19 ∧ Fr c0 c' b 6 ∧ HW D J ad c' (aA J ad s.heap.size) s.heap H locs := ⟨c1, hP.1, hF.trans hP.2, hW⟩
        refine lv_if_eq (tgt := 149) hx hb dX7_clauseParsed_135 (by decide) (fun k_20 => ?_) (fun k_20 => ?_)
        · have h := it_t k_20 h
          refine lv_iconst (v := (0 : Int32)) hx hb dX7_clauseParsed_149 (by decide) ?_
          obtain ⟨rfl, rfl⟩ := Prod.mk.inj (Option.some.inj h)
          exact k_zret hE hr hlk hW ⟨hB_st, hF⟩ rfl rfl dX7_clauseParsed_150
        · have h := it_f k_20 h
          refine lv_aload_n hx hb dX7_clauseParsed_138 rfl (lv_at hl 0 rfl) ?_
          obtain ⟨r_21, st_22, hr_21, h⟩ := zb2_e h
          refine k_callVi (rest := []) hE hW hl.1 (mX7_valueParsed hB_st hr_21) hB_st.o hB_st.obj rfl q417 q419 qs25 q7 q420 hd_X7_valueParsed ⟨Nat.le_of_ble_eq_true rfl, Nat.le_of_ble_eq_true rfl⟩ ⟨rfl, rfl⟩ rfl (Nat.le_of_ble_eq_true rfl) dX7_clauseParsed_139 ⟨Nat.zero_le _, Nat.zero_le _⟩ (fun c1 H locs hP hW => ?_)
          obtain ⟨c, hB_st, hF, hW⟩ : ∃ c', TxB ct J ad c' b st_22 ∧ Fr c0 c' b 6 ∧ HW D J ad c' (aA J ad s.heap.size) s.heap H locs := ⟨c1, hP.1, hF.trans hP.2, hW⟩
          refine lv_if_eq (tgt := 149) hx hb dX7_clauseParsed_142 (by decide) (fun k_23 => ?_) (fun k_23 => ?_)
          · have h := it_t k_23 h
            refine lv_iconst (v := (0 : Int32)) hx hb dX7_clauseParsed_149 (by decide) ?_
            obtain ⟨rfl, rfl⟩ := Prod.mk.inj (Option.some.inj h)
            exact k_zret hE hr hlk hW ⟨hB_st, hF⟩ rfl rfl dX7_clauseParsed_150
          · have h := it_f k_23 h
            refine lv_iconst (v := (1 : Int32)) hx hb dX7_clauseParsed_145 (by decide) ?_
            refine lv_goto (tgt := 150) hx hb dX7_clauseParsed_146 (by decide) ?_
            obtain ⟨rfl, rfl⟩ := Prod.mk.inj (Option.some.inj h)
            exact k_zret hE hr hlk hW ⟨hB_st, hF⟩ rfl rfl dX7_clauseParsed_150
      · have h := it_f k_15 h
        refine lv_aload_n hx hb dX7_clauseParsed_97 rfl (lv_at hl 0 rfl) ?_
        refine k_get (v := .ref (ad (b + 1 + 3))) hE hW hB_st.o hB_st.obj rfl inX7 4 (by decide) q176 rfl dX7_clauseParsed_98 ?_
        refine lv_aload_n hx hb dX7_clauseParsed_101 rfl (lv_at hl 0 rfl) ?_
        refine k_get (v := .int (st_14.2 1)) hE hW hB_st.o hB_st.obj rfl inX7 6 (by decide) q180 rfl dX7_clauseParsed_102 ?_
        refine lv_iconst (v := (2 : Int32)) hx hb dX7_clauseParsed_105 (by decide) ?_
        obtain ⟨g_24, h⟩ := zi_e h
        obtain ⟨st_25, est_25, h⟩ := zl_e h
        refine k_iast hE hW (hB_st.memA 3 (Nat.le_of_ble_eq_true rfl)) (hB_st.arr 3 rfl) g_24 dX7_clauseParsed_106 (fun H locs hW => ?_)
        obtain ⟨c, hB_st, hF, hW⟩ : ∃ c', TxB ct J ad c' b st_25 ∧ Fr c0 c' b 6 ∧ HW D J ad c' (aA J ad s.heap.size) s.heap H locs := ⟨_, hB_st.wA (k := 3) rfl est_25, hF.up (by omega) (by omega), hW⟩
        refine lv_aload_n hx hb dX7_clauseParsed_107 rfl (lv_at hl 0 rfl) ?_
        refine k_get (v := .ref (ad (b + 1 + 4))) hE hW hB_st.o hB_st.obj rfl inX7 5 (by decide) q178 rfl dX7_clauseParsed_108 ?_
        refine lv_aload_n hx hb dX7_clauseParsed_111 rfl (lv_at hl 0 rfl) ?_
        refine k_get (v := .int (st_25.2 1)) hE hW hB_st.o hB_st.obj rfl inX7 6 (by decide) q180 rfl dX7_clauseParsed_112 ?_
        refine lv_iconst (v := (0 : Int32)) hx hb dX7_clauseParsed_115 (by decide) ?_
        obtain ⟨g_26, h⟩ := zi_e h
        obtain ⟨st_27, est_27, h⟩ := zl_e h
        refine k_iast hE hW (hB_st.memA 4 (Nat.le_of_ble_eq_true rfl)) (hB_st.arr 4 rfl) g_26 dX7_clauseParsed_116 (fun H locs hW => ?_)
        obtain ⟨c, hB_st, hF, hW⟩ : ∃ c', TxB ct J ad c' b st_27 ∧ Fr c0 c' b 6 ∧ HW D J ad c' (aA J ad s.heap.size) s.heap H locs := ⟨_, hB_st.wA (k := 4) rfl est_27, hF.up (by omega) (by omega), hW⟩
        refine lv_iconst (v := (1 : Int32)) hx hb dX7_clauseParsed_117 (by decide) ?_
        obtain ⟨rfl, rfl⟩ := Prod.mk.inj (Option.some.inj h)
        exact k_zret hE hr hlk hW ⟨hB_st, hF⟩ rfl rfl dX7_clauseParsed_118
    · have h := it_t k_8 h
      refine lv_iconst (v := (0 : Int32)) hx hb dX7_clauseParsed_55 (by decide) ?_
      obtain ⟨rfl, rfl⟩ := Prod.mk.inj (Option.some.inj h)
      exact k_zret hE hr hlk hW ⟨hB_st, hF⟩ rfl rfl dX7_clauseParsed_56
  · have h := it_t k_2 h
    refine lv_iconst (v := (0 : Int32)) hx hb dX7_clauseParsed_11 (by decide) ?_
    obtain ⟨rfl, rfl⟩ := Prod.mk.inj (Option.some.inj h)
    exact k_zret hE hr hlk hW ⟨hB_st, hF⟩ rfl rfl dX7_clauseParsed_12
set_option maxHeartbeats 4000000 in
set_option maxRecDepth 100000 in
theorem wX7_parsed_10 {p : Program} {l : Launch} {e : Env} {s : State} {m : MethodId} {args : Array Value} {below : List Frame} {meth : Method} {cd : Code} {D : va_G} {ct : Nat → ClassId} {J : List Nat} {ad : Nat → Nat} {c0 : CF} {b : Nat} (hE : ME p s m cd args D ct cX7_parsed RX7 1) (hr : meth.sig.returnType = (some .boolean)) (hlk : meth.locks = false) {r : Int32} {st9 : CS} : ∀ (n : Nat) (st : CS) (c : CF) (H : Heap) (locs : List Loc) (ls : Array Slot), HW D J ad c (aA J ad s.heap.size) s.heap H locs → TxB ct J ad c b st → Fr c0 c b 6 → lv_has ls 1 [(0, .ref (ad b))] → fX7_parsed_10 n st = some (r, st9) → W p l e (rr 5 113) s m args below meth cd H locs 0 0 (MQ below (Qi D J ad s.heap.size r (fun c' => TxB ct J ad c' b st9 ∧ Fr c0 c' b 6)) args s 0 0 (aA J ad s.heap.size)) (F0 m 10 ls []) := by
  have hx := hE.1
  have hb := hE.2.1
  intro n
  induction n with
  | zero =>
    intro st c H locs ls hW hB_st hF hl h
    have h2 : (none : Option (Int32 × CS)) = some (r, st9) := h
    cases h2
  | succ n ih =>
    intro st c H locs ls hW hB_st hF hl h
    rw [fX7_parsed_10] at h
    refine lv_aload_n hx hb dX7_parsed_10 rfl (lv_at hl 0 rfl) ?_
    refine k_get (v := .int (st.2 1)) hE hW hB_st.o hB_st.obj rfl inX7 6 (by decide) q180 rfl dX7_parsed_11 ?_
    refine lv_bipush (v := (12 : Int32)) hx hb dX7_parsed_14 (by decide) ?_
    refine lv_icmp_ge (tgt := 71) hx hb dX7_parsed_16 (by decide) (fun k_3 => ?_) (fun k_3 => ?_)
    · have h := it_t k_3 h
      refine lv_iconst (v := (0 : Int32)) hx hb dX7_parsed_71 (by decide) ?_
      obtain ⟨rfl, rfl⟩ := Prod.mk.inj (Option.some.inj h)
      exact k_zret hE hr hlk hW ⟨hB_st, hF⟩ rfl rfl dX7_parsed_72
    · have h := it_f k_3 h
      refine lv_aload_n hx hb dX7_parsed_19 rfl (lv_at hl 0 rfl) ?_
      obtain ⟨r_4, st_5, hr_4, h⟩ := zb2_e h
      refine k_callVi (rest := []) hE hW hl.1 (mX7_clauseParsed hB_st hr_4) hB_st.o hB_st.obj rfl q405 q407 qs22 q7 q408 hd_X7_clauseParsed ⟨Nat.le_of_ble_eq_true rfl, Nat.le_of_ble_eq_true rfl⟩ ⟨rfl, rfl⟩ rfl (Nat.le_of_ble_eq_true rfl) dX7_parsed_20 ⟨Nat.zero_le _, Nat.zero_le _⟩ (fun c1 H locs hP hW => ?_)
      obtain ⟨c, hB_st, hF, hW⟩ : ∃ c', TxB ct J ad c' b st_5 ∧ Fr c0 c' b 6 ∧ HW D J ad c' (aA J ad s.heap.size) s.heap H locs := ⟨c1, hP.1, hF.trans hP.2, hW⟩
      refine lv_if_ne (tgt := 28) hx hb dX7_parsed_23 (by decide) (fun k_6 => ?_) (fun k_6 => ?_)
      · have h := it_f k_6 h
        refine lv_aload_n hx hb dX7_parsed_28 rfl (lv_at hl 0 rfl) ?_
        refine lv_dup hx hb dX7_parsed_29 rfl ?_
        refine k_get (v := .int (st_5.2 1)) hE hW hB_st.o hB_st.obj rfl inX7 6 (by decide) q180 rfl dX7_parsed_30 ?_
        refine lv_iconst (v := (1 : Int32)) hx hb dX7_parsed_33 (by decide) ?_
        refine lv_iadd hx hb dX7_parsed_34 ?_
        obtain ⟨st_7, est_7, h⟩ := zl_e h
        refine k_put hE hW hB_st.o hB_st.obj rfl inX7 tyX7 tyX7_ok nmX7 6 (by decide) q180 rfl rfl rfl (Nat.le_of_ble_eq_true rfl) dX7_parsed_35 (fun H locs hW => ?_)
        obtain ⟨c, hB_st, hF, hW⟩ : ∃ c', TxB ct J ad c' b st_7 ∧ Fr c0 c' b 6 ∧ HW D J ad c' (aA J ad s.heap.size) s.heap H locs := ⟨_, hB_st.wF (k := 6) (j := 1) rfl est_7, hF.up (by omega) (by omega), hW⟩
        refine lv_aload_n hx hb dX7_parsed_38 rfl (lv_at hl 0 rfl) ?_
        refine k_get (v := .int (st_7.2 2)) hE hW hB_st.o hB_st.obj rfl inX7 7 (by decide) q182 rfl dX7_parsed_39 ?_
        refine lv_aload_n hx hb dX7_parsed_42 rfl (lv_at hl 0 rfl) ?_
        refine k_get (v := .int (st_7.2 0)) hE hW hB_st.o hB_st.obj rfl inX7 1 (by decide) q170 rfl dX7_parsed_43 ?_
        refine lv_icmp_ne (tgt := 51) hx hb dX7_parsed_46 (by decide) (fun k_8 => ?_) (fun k_8 => ?_)
        · have h := it_f k_8 h
          refine lv_aload_n hx hb dX7_parsed_51 rfl (lv_at hl 0 rfl) ?_
          refine k_get (v := .int (st_7.2 1)) hE hW hB_st.o hB_st.obj rfl inX7 6 (by decide) q180 rfl dX7_parsed_52 ?_
          refine lv_bipush (v := (12 : Int32)) hx hb dX7_parsed_55 (by decide) ?_
          refine lv_icmp_eq (tgt := 69) hx hb dX7_parsed_57 (by decide) (fun k_9 => ?_) (fun k_9 => ?_)
          · have h := it_t k_9 h
            refine lv_iconst (v := (0 : Int32)) hx hb dX7_parsed_69 (by decide) ?_
            obtain ⟨rfl, rfl⟩ := Prod.mk.inj (Option.some.inj h)
            exact k_zret hE hr hlk hW ⟨hB_st, hF⟩ rfl rfl dX7_parsed_70
          · have h := it_f k_9 h
            refine lv_aload_n hx hb dX7_parsed_60 rfl (lv_at hl 0 rfl) ?_
            refine lv_bipush (v := (59 : Int32)) hx hb dX7_parsed_61 (by decide) ?_
            obtain ⟨r_10, st_11, hr_10, h⟩ := zb2_e h
            refine k_callVi (rest := []) hE hW hl.1 (mX7_skipped hB_st hr_10) hB_st.o hB_st.obj rfl q413 q415 qs24 q7 q416 hd_X7_skipped ⟨Nat.le_of_ble_eq_true rfl, Nat.le_of_ble_eq_true rfl⟩ ⟨rfl, rfl⟩ rfl (Nat.le_of_ble_eq_true rfl) dX7_parsed_63 ⟨Nat.zero_le _, Nat.zero_le _⟩ (fun c1 H locs hP hW => ?_)
            obtain ⟨c, hB_st, hF, hW⟩ : ∃ c', TxB ct J ad c' b st_11 ∧ Fr c0 c' b 6 ∧ HW D J ad c' (aA J ad s.heap.size) s.heap H locs := ⟨c1, hP.1, hF.trans hP.2, hW⟩
            refine lv_if_ne (tgt := 10) hx hb dX7_parsed_66 (by decide) (fun k_12 => ?_) (fun k_12 => ?_)
            · have h := it_f k_12 h
              exact ih _ _ _ _ _ hW hB_st hF (lv_sub hl [0] rfl) h
            · have h := it_t k_12 h
              refine lv_iconst (v := (0 : Int32)) hx hb dX7_parsed_69 (by decide) ?_
              obtain ⟨rfl, rfl⟩ := Prod.mk.inj (Option.some.inj h)
              exact k_zret hE hr hlk hW ⟨hB_st, hF⟩ rfl rfl dX7_parsed_70
        · have h := it_t k_8 h
          refine lv_iconst (v := (1 : Int32)) hx hb dX7_parsed_49 (by decide) ?_
          obtain ⟨rfl, rfl⟩ := Prod.mk.inj (Option.some.inj h)
          exact k_zret hE hr hlk hW ⟨hB_st, hF⟩ rfl rfl dX7_parsed_50
      · have h := it_t k_6 h
        refine lv_iconst (v := (0 : Int32)) hx hb dX7_parsed_26 (by decide) ?_
        obtain ⟨rfl, rfl⟩ := Prod.mk.inj (Option.some.inj h)
        exact k_zret hE hr hlk hW ⟨hB_st, hF⟩ rfl rfl dX7_parsed_27
set_option maxHeartbeats 4000000 in
set_option maxRecDepth 100000 in
theorem mX7_parsed {l : Launch} {D : va_G} {ct : Nat → ClassId} {J : List Nat} {ad : Nat → Nat} {c0 : CF} {b : Nat} {st : CS} (hB_st : TxB ct J ad c0 b st) {r : Int32} {st9 : CS} (h : fX7_parsed   st = some (r, st9)) : Mi l D ct J ad yX7_parsed cX7_parsed 1 (some .boolean) (rr 5 113) [.ref (ad b)] c0 r (fun c' => TxB ct J ad c' b st9 ∧ Fr c0 c' b 6) := by
  refine Mi_of (own := RX7) (by decide) rfl (Nat.le_of_ble_eq_true rfl) (fun p e s m below meth cd hE hr hlk hW ls hl => ?_)
  have hx := hE.1
  have hb := hE.2.1
  have hl : lv_has ls 1 [(0, .ref (ad b))] := hl
  rw [fX7_parsed] at h
  obtain ⟨c, hB_st, hF, hW⟩ : ∃ c', TxB ct J ad c' b st ∧ Fr c0 c' b 6 ∧ HW D J ad c' (aA J ad s.heap.size) s.heap s.heap [] := ⟨c0, hB_st, Fr.rf, hW⟩
  refine lv_aload_n hx hb dX7_parsed_0 rfl (lv_at hl 0 rfl) ?_
  refine lv_iconst (v := (0 : Int32)) hx hb dX7_parsed_1 (by decide) ?_
  obtain ⟨st_1, est_1, h⟩ := zl_e h
  refine k_put hE hW hB_st.o hB_st.obj rfl inX7 tyX7 tyX7_ok nmX7 7 (by decide) q182 rfl rfl rfl (Nat.le_of_ble_eq_true rfl) dX7_parsed_2 (fun H locs hW => ?_)
  obtain ⟨c, hB_st, hF, hW⟩ : ∃ c', TxB ct J ad c' b st_1 ∧ Fr c0 c' b 6 ∧ HW D J ad c' (aA J ad s.heap.size) s.heap H locs := ⟨_, hB_st.wF (k := 7) (j := 2) rfl est_1, hF.up (by omega) (by omega), hW⟩
  refine lv_aload_n hx hb dX7_parsed_5 rfl (lv_at hl 0 rfl) ?_
  refine lv_iconst (v := (0 : Int32)) hx hb dX7_parsed_6 (by decide) ?_
  obtain ⟨st_2, est_2, h⟩ := zl_e h
  refine k_put hE hW hB_st.o hB_st.obj rfl inX7 tyX7 tyX7_ok nmX7 6 (by decide) q180 rfl rfl rfl (Nat.le_of_ble_eq_true rfl) dX7_parsed_7 (fun H locs hW => ?_)
  obtain ⟨c, hB_st, hF, hW⟩ : ∃ c', TxB ct J ad c' b st_2 ∧ Fr c0 c' b 6 ∧ HW D J ad c' (aA J ad s.heap.size) s.heap H locs := ⟨_, hB_st.wF (k := 6) (j := 1) rfl est_2, hF.up (by omega) (by omega), hW⟩
  exact wX7_parsed_10 hE hr hlk _ _ _ _ _ _ hW hB_st hF (lv_sub hl [0] rfl) h
