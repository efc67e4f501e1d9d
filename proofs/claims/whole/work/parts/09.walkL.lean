theorem hd_X3_isFull : yX3_isFull.cls = RX3 ∧ yX3_isFull.cls ≠ "java/lang/invoke/MethodHandle" ∧ yX3_isFull.cls ≠ "java/lang/invoke/VarHandle" ∧ (parseMethodDescriptor yX3_isFull.desc).map (fun d => d.parameters.length) = some 0 := by decide +kernel
theorem hd_X3_recordsIn : yX3_recordsIn.cls = RX3 ∧ yX3_recordsIn.cls ≠ "java/lang/invoke/MethodHandle" ∧ yX3_recordsIn.cls ≠ "java/lang/invoke/VarHandle" ∧ (parseMethodDescriptor yX3_recordsIn.desc).map (fun d => d.parameters.length) = some 2 := by decide +kernel
theorem hd_X3_sizesIn : yX3_sizesIn.cls = RX3 ∧ yX3_sizesIn.cls ≠ "java/lang/invoke/MethodHandle" ∧ yX3_sizesIn.cls ≠ "java/lang/invoke/VarHandle" ∧ (parseMethodDescriptor yX3_sizesIn.desc).map (fun d => d.parameters.length) = some 2 := by decide +kernel
theorem hd_X3_append : yX3_append.cls = RX3 ∧ yX3_append.cls ≠ "java/lang/invoke/MethodHandle" ∧ yX3_append.cls ≠ "java/lang/invoke/VarHandle" ∧ (parseMethodDescriptor yX3_append.desc).map (fun d => d.parameters.length) = some 5 := by decide +kernel
theorem hd_X3_has : yX3_has.cls = RX3 ∧ yX3_has.cls ≠ "java/lang/invoke/MethodHandle" ∧ yX3_has.cls ≠ "java/lang/invoke/VarHandle" ∧ (parseMethodDescriptor yX3_has.desc).map (fun d => d.parameters.length) = some 1 := by decide +kernel
theorem hd_X3_start : yX3_start.cls = RX3 ∧ yX3_start.cls ≠ "java/lang/invoke/MethodHandle" ∧ yX3_start.cls ≠ "java/lang/invoke/VarHandle" ∧ (parseMethodDescriptor yX3_start.desc).map (fun d => d.parameters.length) = some 0 := by decide +kernel
theorem hd_X3_records : yX3_records.cls = RX3 ∧ yX3_records.cls ≠ "java/lang/invoke/MethodHandle" ∧ yX3_records.cls ≠ "java/lang/invoke/VarHandle" ∧ (parseMethodDescriptor yX3_records.desc).map (fun d => d.parameters.length) = some 0 := by decide +kernel
theorem hd_X3_isClosed : yX3_isClosed.cls = RX3 ∧ yX3_isClosed.cls ≠ "java/lang/invoke/MethodHandle" ∧ yX3_isClosed.cls ≠ "java/lang/invoke/VarHandle" ∧ (parseMethodDescriptor yX3_isClosed.desc).map (fun d => d.parameters.length) = some 1 := by decide +kernel
theorem hd_X3_segmentEnd : yX3_segmentEnd.cls = RX3 ∧ yX3_segmentEnd.cls ≠ "java/lang/invoke/MethodHandle" ∧ yX3_segmentEnd.cls ≠ "java/lang/invoke/VarHandle" ∧ (parseMethodDescriptor yX3_segmentEnd.desc).map (fun d => d.parameters.length) = some 1 := by decide +kernel
theorem hd_X3_segmentOf : yX3_segmentOf.cls = RX3 ∧ yX3_segmentOf.cls ≠ "java/lang/invoke/MethodHandle" ∧ yX3_segmentOf.cls ≠ "java/lang/invoke/VarHandle" ∧ (parseMethodDescriptor yX3_segmentOf.desc).map (fun d => d.parameters.length) = some 1 := by decide +kernel
theorem hd_X3_atOrBefore : yX3_atOrBefore.cls = RX3 ∧ yX3_atOrBefore.cls ≠ "java/lang/invoke/MethodHandle" ∧ yX3_atOrBefore.cls ≠ "java/lang/invoke/VarHandle" ∧ (parseMethodDescriptor yX3_atOrBefore.desc).map (fun d => d.parameters.length) = some 1 := by decide +kernel
theorem hd_X3_atOrBehind : yX3_atOrBehind.cls = RX3 ∧ yX3_atOrBehind.cls ≠ "java/lang/invoke/MethodHandle" ∧ yX3_atOrBehind.cls ≠ "java/lang/invoke/VarHandle" ∧ (parseMethodDescriptor yX3_atOrBehind.desc).map (fun d => d.parameters.length) = some 1 := by decide +kernel
theorem hd_X3_findLast : yX3_findLast.cls = RX3 ∧ yX3_findLast.cls ≠ "java/lang/invoke/MethodHandle" ∧ yX3_findLast.cls ≠ "java/lang/invoke/VarHandle" ∧ (parseMethodDescriptor yX3_findLast.desc).map (fun d => d.parameters.length) = some 1 := by decide +kernel
theorem hd_X3_goesCompacted : yX3_goesCompacted.cls = RX3 ∧ yX3_goesCompacted.cls ≠ "java/lang/invoke/MethodHandle" ∧ yX3_goesCompacted.cls ≠ "java/lang/invoke/VarHandle" ∧ (parseMethodDescriptor yX3_goesCompacted.desc).map (fun d => d.parameters.length) = some 3 := by decide +kernel
theorem hd_X3_fitTogether : yX3_fitTogether.cls = RX3 ∧ yX3_fitTogether.cls ≠ "java/lang/invoke/MethodHandle" ∧ yX3_fitTogether.cls ≠ "java/lang/invoke/VarHandle" ∧ (parseMethodDescriptor yX3_fitTogether.desc).map (fun d => d.parameters.length) = some 1 := by decide +kernel
theorem hd_X3_dropBases : yX3_dropBases.cls = RX3 ∧ yX3_dropBases.cls ≠ "java/lang/invoke/MethodHandle" ∧ yX3_dropBases.cls ≠ "java/lang/invoke/VarHandle" ∧ (parseMethodDescriptor yX3_dropBases.desc).map (fun d => d.parameters.length) = some 2 := by decide +kernel
theorem hd_X3_joinSegments : yX3_joinSegments.cls = RX3 ∧ yX3_joinSegments.cls ≠ "java/lang/invoke/MethodHandle" ∧ yX3_joinSegments.cls ≠ "java/lang/invoke/VarHandle" ∧ (parseMethodDescriptor yX3_joinSegments.desc).map (fun d => d.parameters.length) = some 0 := by decide +kernel
theorem hd_X3_compacted : yX3_compacted.cls = RX3 ∧ yX3_compacted.cls ≠ "java/lang/invoke/MethodHandle" ∧ yX3_compacted.cls ≠ "java/lang/invoke/VarHandle" ∧ (parseMethodDescriptor yX3_compacted.desc).map (fun d => d.parameters.length) = some 2 := by decide +kernel
theorem hd_X3_goneIfCompacted : yX3_goneIfCompacted.cls = RX3 ∧ yX3_goneIfCompacted.cls ≠ "java/lang/invoke/MethodHandle" ∧ yX3_goneIfCompacted.cls ≠ "java/lang/invoke/VarHandle" ∧ (parseMethodDescriptor yX3_goneIfCompacted.desc).map (fun d => d.parameters.length) = some 2 := by decide +kernel
theorem hd_X3_isOutdated : yX3_isOutdated.cls = RX3 ∧ yX3_isOutdated.cls ≠ "java/lang/invoke/MethodHandle" ∧ yX3_isOutdated.cls ≠ "java/lang/invoke/VarHandle" ∧ (parseMethodDescriptor yX3_isOutdated.desc).map (fun d => d.parameters.length) = some 2 := by decide +kernel
theorem hd_X3_segmentsGoing : yX3_segmentsGoing.cls = RX3 ∧ yX3_segmentsGoing.cls ≠ "java/lang/invoke/MethodHandle" ∧ yX3_segmentsGoing.cls ≠ "java/lang/invoke/VarHandle" ∧ (parseMethodDescriptor yX3_segmentsGoing.desc).map (fun d => d.parameters.length) = some 3 := by decide +kernel
theorem hd_X3_retained : yX3_retained.cls = RX3 ∧ yX3_retained.cls ≠ "java/lang/invoke/MethodHandle" ∧ yX3_retained.cls ≠ "java/lang/invoke/VarHandle" ∧ (parseMethodDescriptor yX3_retained.desc).map (fun d => d.parameters.length) = some 3 := by decide +kernel
theorem hd_X3_goneIfRetained : yX3_goneIfRetained.cls = RX3 ∧ yX3_goneIfRetained.cls ≠ "java/lang/invoke/MethodHandle" ∧ yX3_goneIfRetained.cls ≠ "java/lang/invoke/VarHandle" ∧ (parseMethodDescriptor yX3_goneIfRetained.desc).map (fun d => d.parameters.length) = some 3 := by decide +kernel
theorem hd_X3_leftIfRetained : yX3_leftIfRetained.cls = RX3 ∧ yX3_leftIfRetained.cls ≠ "java/lang/invoke/MethodHandle" ∧ yX3_leftIfRetained.cls ≠ "java/lang/invoke/VarHandle" ∧ (parseMethodDescriptor yX3_leftIfRetained.desc).map (fun d => d.parameters.length) = some 3 := by decide +kernel
theorem hd_X3_isMapped : yX3_isMapped.cls = RX3 ∧ yX3_isMapped.cls ≠ "java/lang/invoke/MethodHandle" ∧ yX3_isMapped.cls ≠ "java/lang/invoke/VarHandle" ∧ (parseMethodDescriptor yX3_isMapped.desc).map (fun d => d.parameters.length) = some 1 := by decide +kernel
theorem hd_X3_mapSize : yX3_mapSize.cls = RX3 ∧ yX3_mapSize.cls ≠ "java/lang/invoke/MethodHandle" ∧ yX3_mapSize.cls ≠ "java/lang/invoke/VarHandle" ∧ (parseMethodDescriptor yX3_mapSize.desc).map (fun d => d.parameters.length) = some 1 := by decide +kernel
theorem hd_X3_mapValue : yX3_mapValue.cls = RX3 ∧ yX3_mapValue.cls ≠ "java/lang/invoke/MethodHandle" ∧ yX3_mapValue.cls ≠ "java/lang/invoke/VarHandle" ∧ (parseMethodDescriptor yX3_mapValue.desc).map (fun d => d.parameters.length) = some 2 := by decide +kernel
theorem hd_X3_oddSum : yX3_oddSum.cls = RX3 ∧ yX3_oddSum.cls ≠ "java/lang/invoke/MethodHandle" ∧ yX3_oddSum.cls ≠ "java/lang/invoke/VarHandle" ∧ (parseMethodDescriptor yX3_oddSum.desc).map (fun d => d.parameters.length) = some 0 := by decide +kernel
theorem hd_X3_summand : yX3_summand.cls = RX3 ∧ yX3_summand.cls ≠ "java/lang/invoke/MethodHandle" ∧ yX3_summand.cls ≠ "java/lang/invoke/VarHandle" ∧ (parseMethodDescriptor yX3_summand.desc).map (fun d => d.parameters.length) = some 1 := by decide +kernel
theorem hd_X3_mapSum : yX3_mapSum.cls = RX3 ∧ yX3_mapSum.cls ≠ "java/lang/invoke/MethodHandle" ∧ yX3_mapSum.cls ≠ "java/lang/invoke/VarHandle" ∧ (parseMethodDescriptor yX3_mapSum.desc).map (fun d => d.parameters.length) = some 0 := by decide +kernel
theorem hd_X3_mapMean : yX3_mapMean.cls = RX3 ∧ yX3_mapMean.cls ≠ "java/lang/invoke/MethodHandle" ∧ yX3_mapMean.cls ≠ "java/lang/invoke/VarHandle" ∧ (parseMethodDescriptor yX3_mapMean.desc).map (fun d => d.parameters.length) = some 0 := by decide +kernel
theorem hd_X3_rankAt : yX3_rankAt.cls = RX3 ∧ yX3_rankAt.cls ≠ "java/lang/invoke/MethodHandle" ∧ yX3_rankAt.cls ≠ "java/lang/invoke/VarHandle" ∧ (parseMethodDescriptor yX3_rankAt.desc).map (fun d => d.parameters.length) = some 1 := by decide +kernel
theorem hd_X3_mapLeast : yX3_mapLeast.cls = RX3 ∧ yX3_mapLeast.cls ≠ "java/lang/invoke/MethodHandle" ∧ yX3_mapLeast.cls ≠ "java/lang/invoke/VarHandle" ∧ (parseMethodDescriptor yX3_mapLeast.desc).map (fun d => d.parameters.length) = some 0 := by decide +kernel
theorem hd_X3_mapGreatest : yX3_mapGreatest.cls = RX3 ∧ yX3_mapGreatest.cls ≠ "java/lang/invoke/MethodHandle" ∧ yX3_mapGreatest.cls ≠ "java/lang/invoke/VarHandle" ∧ (parseMethodDescriptor yX3_mapGreatest.desc).map (fun d => d.parameters.length) = some 0 := by decide +kernel
theorem hd_X3_likeTimesEnd : yX3_likeTimesEnd.cls = RX3 ∧ yX3_likeTimesEnd.cls ≠ "java/lang/invoke/MethodHandle" ∧ yX3_likeTimesEnd.cls ≠ "java/lang/invoke/VarHandle" ∧ (parseMethodDescriptor yX3_likeTimesEnd.desc).map (fun d => d.parameters.length) = some 1 := by decide +kernel
theorem hd_X3_bySize : yX3_bySize.cls = RX3 ∧ yX3_bySize.cls ≠ "java/lang/invoke/MethodHandle" ∧ yX3_bySize.cls ≠ "java/lang/invoke/VarHandle" ∧ (parseMethodDescriptor yX3_bySize.desc).map (fun d => d.parameters.length) = some 3 := by decide +kernel
theorem hd_X3_byAge : yX3_byAge.cls = RX3 ∧ yX3_byAge.cls ≠ "java/lang/invoke/MethodHandle" ∧ yX3_byAge.cls ≠ "java/lang/invoke/VarHandle" ∧ (parseMethodDescriptor yX3_byAge.desc).map (fun d => d.parameters.length) = some 1 := by decide +kernel
set_option maxHeartbeats 4000000 in
set_option maxRecDepth 100000 in
theorem mX3_isFull {l : Launch} {D : va_G} {ct : Nat → ClassId} {J : List Nat} {ad : Nat → Nat} {c0 : CF} {b : Nat} {st : CS} (hB_st : LgB ct J ad c0 b st) {r : Int32} (h : fX3_isFull   st = some r) : Mi l D ct J ad yX3_isFull cX3_isFull 1 (some .boolean) (rr 0 0) [.ref (ad b)] c0 r (fun c' => c' = c0) := by
  refine Mi_of (own := RX3) (by decide) rfl (Nat.le_of_ble_eq_true rfl) (fun p e s m below meth cd hE hr hlk hW ls hl => ?_)
  have hx := hE.1
  have hb := hE.2.1
  have hl : lv_has ls 1 [(0, .ref (ad b))] := hl
  rw [fX3_isFull] at h
  refine lv_aload_n hx hb dX3_isFull_0 rfl (lv_at hl 0 rfl) ?_
  refine k_get (v := .int (st.2 0)) hE hW hB_st.o hB_st.obj rfl inX3 7 (by decide) q54 rfl dX3_isFull_1 ?_
  refine lv_sipush (v := (200 : Int32)) hx hb dX3_isFull_4 (by decide) ?_
  refine lv_icmp_lt (tgt := 14) hx hb dX3_isFull_7 (by decide) (fun k_1 => ?_) (fun k_1 => ?_)
  · have h := it_t k_1 h
    refine lv_iconst (v := (0 : Int32)) hx hb dX3_isFull_14 (by decide) ?_
    obtain rfl := Option.some.inj h
    exact k_zret hE hr hlk hW rfl rfl rfl dX3_isFull_15
  · have h := it_f k_1 h
    refine lv_iconst (v := (1 : Int32)) hx hb dX3_isFull_10 (by decide) ?_
    refine lv_goto (tgt := 15) hx hb dX3_isFull_11 (by decide) ?_
    obtain rfl := Option.some.inj h
    exact k_zret hE hr hlk hW rfl rfl rfl dX3_isFull_15
set_option maxHeartbeats 4000000 in
set_option maxRecDepth 100000 in
theorem wX3_recordsIn_9 {p : Program} {l : Launch} {e : Env} {s : State} {m : MethodId} {args : Array Value} {below : List Frame} {meth : Method} {cd : Code} {D : va_G} {ct : Nat → ClassId} {J : List Nat} {ad : Nat → Nat} {c0 : CF} {b : Nat} (hE : ME p s m cd args D ct cX3_recordsIn RX3 5) (hr : meth.sig.returnType = (some .int)) (hlk : meth.locks = false) {x2 : Int32} {st : CS} (hB_st : LgB ct J ad c0 b st) {r : Int32} : ∀ (n : Nat) (x3 : Int32) (x4 : Int32) (H : Heap) (locs : List Loc) (ls : Array Slot), HW D J ad c0 (aA J ad s.heap.size) s.heap H locs → lv_has ls 5 [(0, .ref (ad b)), (2, .int x2), (3, .int x3), (4, .int x4)] → fX3_recordsIn_9 x2 st n x3 x4 = some r → W p l e (rr 1 20) s m args below meth cd H locs 0 0 (MQ below (Qi D J ad s.heap.size r (fun c' => c' = c0)) args s 0 0 (aA J ad s.heap.size)) (F0 m 9 ls []) := by
  have hx := hE.1
  have hb := hE.2.1
  intro n
  induction n with
  | zero =>
    intro x3 x4 H locs ls hW hl h
    have h2 : (none : Option Int32) = some r := h
    cases h2
  | succ n ih =>
    intro x3 x4 H locs ls hW hl h
    rw [fX3_recordsIn_9] at h
    refine lv_iload hx hb dX3_recordsIn_9 (lv_at hl 3 rfl) ?_
    refine lv_iload_n hx hb dX3_recordsIn_11 rfl (lv_at hl 1 rfl) ?_
    refine lv_icmp_ge (tgt := 43) hx hb dX3_recordsIn_12 (by decide) (fun k_2 => ?_) (fun k_2 => ?_)
    · have h := it_t k_2 h
      refine lv_iload_n hx hb dX3_recordsIn_43 rfl (lv_at hl 2 rfl) ?_
      obtain rfl := Option.some.inj h
      exact k_iret hE hr hlk hW rfl rfl dX3_recordsIn_44
    · have h := it_f k_2 h
      refine lv_iload hx hb dX3_recordsIn_15 (lv_at hl 3 rfl) ?_
      refine lv_aload_n hx hb dX3_recordsIn_17 rfl (lv_at hl 0 rfl) ?_
      refine k_get (v := .int (st.2 0)) hE hW hB_st.o hB_st.obj rfl inX3 7 (by decide) q54 rfl dX3_recordsIn_18 ?_
      refine lv_icmp_ge (tgt := 43) hx hb dX3_recordsIn_21 (by decide) (fun k_3 => ?_) (fun k_3 => ?_)
      · have h := it_t k_3 h
        refine lv_iload_n hx hb dX3_recordsIn_43 rfl (lv_at hl 2 rfl) ?_
        obtain rfl := Option.some.inj h
        exact k_iret hE hr hlk hW rfl rfl dX3_recordsIn_44
      · have h := it_f k_3 h
        refine lv_aload_n hx hb dX3_recordsIn_24 rfl (lv_at hl 0 rfl) ?_
        refine k_get (v := .ref (ad (b + 1 + 0))) hE hW hB_st.o hB_st.obj rfl inX3 0 (by decide) q37 rfl dX3_recordsIn_25 ?_
        refine lv_iload hx hb dX3_recordsIn_28 (lv_at hl 3 rfl) ?_
        obtain ⟨g_4, h⟩ := zi_e h
        refine k_iald hE hW (hB_st.memA 0 (Nat.le_of_ble_eq_true rfl)) (hB_st.arr 0 rfl) g_4 dX3_recordsIn_30 ?_
        refine lv_if_eq (tgt := 37) hx hb dX3_recordsIn_31 (by decide) (fun k_5 => ?_) (fun k_5 => ?_)
        · have h := it_t k_5 h
          refine lv_iinc (v := (x4 + (1 : Int32))) (lv' := [(4, .int (x4 + (1 : Int32))), (0, .ref (ad b)), (2, .int x2), (3, .int x3)]) hx hb dX3_recordsIn_37 hl (k := 3) rfl rfl (by decide) rfl (fun ls hl => ?_)
          refine lv_goto (tgt := 9) hx hb dX3_recordsIn_40 (by decide) ?_
          exact ih _ _ _ _ _ hW (lv_sub hl [1, 2, 3, 0] rfl) h
        · have h := it_f k_5 h
          refine lv_iinc (v := (x3 + (1 : Int32))) (lv' := [(3, .int (x3 + (1 : Int32))), (0, .ref (ad b)), (2, .int x2), (4, .int x4)]) hx hb dX3_recordsIn_34 hl (k := 2) rfl rfl (by decide) rfl (fun ls hl => ?_)
          refine lv_iinc (v := (x4 + (1 : Int32))) (lv' := [(4, .int (x4 + (1 : Int32))), (3, .int (x3 + (1 : Int32))), (0, .ref (ad b)), (2, .int x2)]) hx hb dX3_recordsIn_37 hl (k := 3) rfl rfl (by decide) rfl (fun ls hl => ?_)
          refine lv_goto (tgt := 9) hx hb dX3_recordsIn_40 (by decide) ?_
          exact ih _ _ _ _ _ hW (lv_sub hl [2, 3, 1, 0] rfl) h
set_option maxHeartbeats 4000000 in
set_option maxRecDepth 100000 in
theorem mX3_recordsIn {l : Launch} {D : va_G} {ct : Nat → ClassId} {J : List Nat} {ad : Nat → Nat} {c0 : CF} {a1 : Int32} {a2 : Int32} {b : Nat} {st : CS} (hB_st : LgB ct J ad c0 b st) {r : Int32} (h : fX3_recordsIn  a1 a2 st = some r) : Mi l D ct J ad yX3_recordsIn cX3_recordsIn 5 (some .int) (rr 1 20) [.ref (ad b), .int a1, .int a2] c0 r (fun c' => c' = c0) := by
  refine Mi_of (own := RX3) (by decide) rfl (Nat.le_of_ble_eq_true rfl) (fun p e s m below meth cd hE hr hlk hW ls hl => ?_)
  have hx := hE.1
  have hb := hE.2.1
  have hl : lv_has ls 5 [(0, .ref (ad b)), (1, .int a1), (2, .int a2)] := hl
  rw [fX3_recordsIn] at h
  refine lv_iconst (v := (0 : Int32)) hx hb dX3_recordsIn_0 (by decide) ?_
  refine lv_istore_n (lv' := [(3, .int (0 : Int32)), (0, .ref (ad b)), (1, .int a1), (2, .int a2)]) hx hb dX3_recordsIn_1 rfl hl (by decide) rfl (fun ls hl => ?_)
  refine lv_iload_n hx hb dX3_recordsIn_2 rfl (lv_at hl 2 rfl) ?_
  refine lv_iconst (v := (0 : Int32)) hx hb dX3_recordsIn_3 (by decide) ?_
  refine va_mmax hx hb (hE.2.2.1.trans hl.1.symm) hE.2.2.2.1 (hE.2.2.2.2.1 _ q304) (hE.2.2.2.2.1 _ q114) (hE.2.2.2.2.1 _ q6) (hE.2.2.2.2.1 _ q115) (Nat.le_of_ble_eq_true rfl) (Nat.le_of_ble_eq_true rfl) (Nat.zero_le _) (Nat.zero_le _) dX3_recordsIn_4 ?_
  refine lv_topi (fun x_1 ex_1 => ?_)
  have h := zl_n h ex_1
  refine lv_istore (lv' := [(4, .int x_1), (3, .int (0 : Int32)), (0, .ref (ad b)), (1, .int a1), (2, .int a2)]) hx hb dX3_recordsIn_7 hl (by decide) rfl (fun ls hl => ?_)
  exact wX3_recordsIn_9 hE hr hlk hB_st _ _ _ _ _ _ hW (lv_sub hl [2, 4, 1, 0] rfl) h
set_option maxHeartbeats 4000000 in
set_option maxRecDepth 100000 in
theorem wX3_sizesIn_9 {p : Program} {l : Launch} {e : Env} {s : State} {m : MethodId} {args : Array Value} {below : List Frame} {meth : Method} {cd : Code} {D : va_G} {ct : Nat → ClassId} {J : List Nat} {ad : Nat → Nat} {c0 : CF} {b : Nat} (hE : ME p s m cd args D ct cX3_sizesIn RX3 5) (hr : meth.sig.returnType = (some .int)) (hlk : meth.locks = false) {x2 : Int32} {st : CS} (hB_st : LgB ct J ad c0 b st) {r : Int32} : ∀ (n : Nat) (x3 : Int32) (x4 : Int32) (H : Heap) (locs : List Loc) (ls : Array Slot), HW D J ad c0 (aA J ad s.heap.size) s.heap H locs → lv_has ls 5 [(0, .ref (ad b)), (2, .int x2), (3, .int x3), (4, .int x4)] → fX3_sizesIn_9 x2 st n x3 x4 = some r → W p l e (rr 1 20) s m args below meth cd H locs 0 0 (MQ below (Qi D J ad s.heap.size r (fun c' => c' = c0)) args s 0 0 (aA J ad s.heap.size)) (F0 m 9 ls []) := by
  have hx := hE.1
  have hb := hE.2.1
  intro n
  induction n with
  | zero =>
    intro x3 x4 H locs ls hW hl h
    have h2 : (none : Option Int32) = some r := h
    cases h2
  | succ n ih =>
    intro x3 x4 H locs ls hW hl h
    rw [fX3_sizesIn_9] at h
    refine lv_iload hx hb dX3_sizesIn_9 (lv_at hl 3 rfl) ?_
    refine lv_iload_n hx hb dX3_sizesIn_11 rfl (lv_at hl 1 rfl) ?_
    refine lv_icmp_ge (tgt := 50) hx hb dX3_sizesIn_12 (by decide) (fun k_2 => ?_) (fun k_2 => ?_)
    · have h := it_t k_2 h
      refine lv_iload_n hx hb dX3_sizesIn_50 rfl (lv_at hl 2 rfl) ?_
      obtain rfl := Option.some.inj h
      exact k_iret hE hr hlk hW rfl rfl dX3_sizesIn_51
    · have h := it_f k_2 h
      refine lv_iload hx hb dX3_sizesIn_15 (lv_at hl 3 rfl) ?_
      refine lv_aload_n hx hb dX3_sizesIn_17 rfl (lv_at hl 0 rfl) ?_
      refine k_get (v := .int (st.2 0)) hE hW hB_st.o hB_st.obj rfl inX3 7 (by decide) q54 rfl dX3_sizesIn_18 ?_
      refine lv_icmp_ge (tgt := 50) hx hb dX3_sizesIn_21 (by decide) (fun k_3 => ?_) (fun k_3 => ?_)
      · have h := it_t k_3 h
        refine lv_iload_n hx hb dX3_sizesIn_50 rfl (lv_at hl 2 rfl) ?_
        obtain rfl := Option.some.inj h
        exact k_iret hE hr hlk hW rfl rfl dX3_sizesIn_51
      · have h := it_f k_3 h
        refine lv_aload_n hx hb dX3_sizesIn_24 rfl (lv_at hl 0 rfl) ?_
        refine k_get (v := .ref (ad (b + 1 + 0))) hE hW hB_st.o hB_st.obj rfl inX3 0 (by decide) q37 rfl dX3_sizesIn_25 ?_
        refine lv_iload hx hb dX3_sizesIn_28 (lv_at hl 3 rfl) ?_
        obtain ⟨g_4, h⟩ := zi_e h
        refine k_iald hE hW (hB_st.memA 0 (Nat.le_of_ble_eq_true rfl)) (hB_st.arr 0 rfl) g_4 dX3_sizesIn_30 ?_
        refine lv_if_eq (tgt := 44) hx hb dX3_sizesIn_31 (by decide) (fun k_5 => ?_) (fun k_5 => ?_)
        · have h := it_t k_5 h
          refine lv_iinc (v := (x4 + (1 : Int32))) (lv' := [(4, .int (x4 + (1 : Int32))), (0, .ref (ad b)), (2, .int x2), (3, .int x3)]) hx hb dX3_sizesIn_44 hl (k := 3) rfl rfl (by decide) rfl (fun ls hl => ?_)
          refine lv_goto (tgt := 9) hx hb dX3_sizesIn_47 (by decide) ?_
          exact ih _ _ _ _ _ hW (lv_sub hl [1, 2, 3, 0] rfl) h
        · have h := it_f k_5 h
          refine lv_iload_n hx hb dX3_sizesIn_34 rfl (lv_at hl 2 rfl) ?_
          refine lv_aload_n hx hb dX3_sizesIn_35 rfl (lv_at hl 0 rfl) ?_
          refine k_get (v := .ref (ad (b + 1 + 3))) hE hW hB_st.o hB_st.obj rfl inX3 3 (by decide) q45 rfl dX3_sizesIn_36 ?_
          refine lv_iload hx hb dX3_sizesIn_39 (lv_at hl 3 rfl) ?_
          obtain ⟨g_6, h⟩ := zi_e h
          refine k_iald hE hW (hB_st.memA 3 (Nat.le_of_ble_eq_true rfl)) (hB_st.arr 3 rfl) g_6 dX3_sizesIn_41 ?_
          refine lv_iadd hx hb dX3_sizesIn_42 ?_
          refine lv_topi (fun x_7 ex_7 => ?_)
          have h := zl_n h ex_7
          refine lv_istore_n (lv' := [(3, .int x_7), (0, .ref (ad b)), (2, .int x2), (4, .int x4)]) hx hb dX3_sizesIn_43 rfl hl (by decide) rfl (fun ls hl => ?_)
          refine lv_iinc (v := (x4 + (1 : Int32))) (lv' := [(4, .int (x4 + (1 : Int32))), (3, .int x_7), (0, .ref (ad b)), (2, .int x2)]) hx hb dX3_sizesIn_44 hl (k := 3) rfl rfl (by decide) rfl (fun ls hl => ?_)
          refine lv_goto (tgt := 9) hx hb dX3_sizesIn_47 (by decide) ?_
          exact ih _ _ _ _ _ hW (lv_sub hl [2, 3, 1, 0] rfl) h
set_option maxHeartbeats 4000000 in
set_option maxRecDepth 100000 in
theorem mX3_sizesIn {l : Launch} {D : va_G} {ct : Nat → ClassId} {J : List Nat} {ad : Nat → Nat} {c0 : CF} {a1 : Int32} {a2 : Int32} {b : Nat} {st : CS} (hB_st : LgB ct J ad c0 b st) {r : Int32} (h : fX3_sizesIn  a1 a2 st = some r) : Mi l D ct J ad yX3_sizesIn cX3_sizesIn 5 (some .int) (rr 1 20) [.ref (ad b), .int a1, .int a2] c0 r (fun c' => c' = c0) := by
  refine Mi_of (own := RX3) (by decide) rfl (Nat.le_of_ble_eq_true rfl) (fun p e s m below meth cd hE hr hlk hW ls hl => ?_)
  have hx := hE.1
  have hb := hE.2.1
  have hl : lv_has ls 5 [(0, .ref (ad b)), (1, .int a1), (2, .int a2)] := hl
  rw [fX3_sizesIn] at h
  refine lv_iconst (v := (0 : Int32)) hx hb dX3_sizesIn_0 (by decide) ?_
  refine lv_istore_n (lv' := [(3, .int (0 : Int32)), (0, .ref (ad b)), (1, .int a1), (2, .int a2)]) hx hb dX3_sizesIn_1 rfl hl (by decide) rfl (fun ls hl => ?_)
  refine lv_iload_n hx hb dX3_sizesIn_2 rfl (lv_at hl 2 rfl) ?_
  refine lv_iconst (v := (0 : Int32)) hx hb dX3_sizesIn_3 (by decide) ?_
  refine va_mmax hx hb (hE.2.2.1.trans hl.1.symm) hE.2.2.2.1 (hE.2.2.2.2.1 _ q304) (hE.2.2.2.2.1 _ q114) (hE.2.2.2.2.1 _ q6) (hE.2.2.2.2.1 _ q115) (Nat.le_of_ble_eq_true rfl) (Nat.le_of_ble_eq_true rfl) (Nat.zero_le _) (Nat.zero_le _) dX3_sizesIn_4 ?_
  refine lv_topi (fun x_1 ex_1 => ?_)
  have h := zl_n h ex_1
  refine lv_istore (lv' := [(4, .int x_1), (3, .int (0 : Int32)), (0, .ref (ad b)), (1, .int a1), (2, .int a2)]) hx hb dX3_sizesIn_7 hl (by decide) rfl (fun ls hl => ?_)
  exact wX3_sizesIn_9 hE hr hlk hB_st _ _ _ _ _ _ hW (lv_sub hl [2, 4, 1, 0] rfl) h
set_option maxHeartbeats 4000000 in
set_option maxRecDepth 100000 in
theorem wX3_append_100 {p : Program} {l : Launch} {e : Env} {s : State} {m : MethodId} {args : Array Value} {below : List Frame} {meth : Method} {cd : Code} {D : va_G} {ct : Nat → ClassId} {J : List Nat} {ad : Nat → Nat} {c0 : CF} {b : Nat} (hE : ME p s m cd args D ct cX3_append RX3 8) (hr : meth.sig.returnType = (some .int)) (hlk : meth.locks = false) {r : Int32} {st9 : CS} : ∀ (x6 : Int32) (st : CS) (c : CF) (H : Heap) (locs : List Loc) (ls : Array Slot), HW D J ad c (aA J ad s.heap.size) s.heap H locs → LgB ct J ad c b st → Fr c0 c b 8 → lv_has ls 8 [(0, .ref (ad b)), (6, .int x6)] → fX3_append_100 x6 st = some (r, st9) → W p l e (rr 2 44) s m args below meth cd H locs 0 0 (MQ below (Qi D J ad s.heap.size r (fun c' => LgB ct J ad c' b st9 ∧ Fr c0 c' b 8)) args s 0 0 (aA J ad s.heap.size)) (F0 m 100 ls []) := by
  have hx := hE.1
  have hb := hE.2.1
  intro x6 st c H locs ls hW hB_st hF hl h
  rw [fX3_append_100] at h
  refine lv_aload_n hx hb dX3_append_100 rfl (lv_at hl 0 rfl) ?_
  refine k_get (v := .ref (ad (b + 1 + 5))) hE hW hB_st.o hB_st.obj rfl inX3 5 (by decide) q50 rfl dX3_append_101 ?_
  refine lv_aload_n hx hb dX3_append_104 rfl (lv_at hl 0 rfl) ?_
  refine k_get (v := .int (st.2 1)) hE hW hB_st.o hB_st.obj rfl inX3 8 (by decide) q58 rfl dX3_append_105 ?_
  refine lv_aload_n hx hb dX3_append_108 rfl (lv_at hl 0 rfl) ?_
  refine k_get (v := .int (st.2 0)) hE hW hB_st.o hB_st.obj rfl inX3 7 (by decide) q54 rfl dX3_append_109 ?_
  obtain ⟨g_16, h⟩ := zi_e h
  obtain ⟨st_17, est_17, h⟩ := zl_e h
  refine k_iast hE hW (hB_st.memA 5 (Nat.le_of_ble_eq_true rfl)) (hB_st.arr 5 rfl) g_16 dX3_append_112 (fun H locs hW => ?_)
  obtain ⟨c, hB_st, hF, hW⟩ : ∃ c', LgB ct J ad c' b st_17 ∧ Fr c0 c' b 8 ∧ HW D J ad c' (aA J ad s.heap.size) s.heap H locs := ⟨_, hB_st.wA (k := 5) rfl est_17, hF.up (by omega) (by omega), hW⟩
  refine lv_aload_n hx hb dX3_append_113 rfl (lv_at hl 0 rfl) ?_
  refine lv_dup hx hb dX3_append_114 rfl ?_
  refine k_get (v := .int (st_17.2 1)) hE hW hB_st.o hB_st.obj rfl inX3 8 (by decide) q58 rfl dX3_append_115 ?_
  refine lv_iconst (v := (1 : Int32)) hx hb dX3_append_118 (by decide) ?_
  refine lv_iadd hx hb dX3_append_119 ?_
  obtain ⟨st_18, est_18, h⟩ := zl_e h
  refine k_put hE hW hB_st.o hB_st.obj rfl inX3 tyX3 tyX3_ok nmX3 8 (by decide) q58 rfl rfl rfl (Nat.le_of_ble_eq_true rfl) dX3_append_120 (fun H locs hW => ?_)
  obtain ⟨c, hB_st, hF, hW⟩ : ∃ c', LgB ct J ad c' b st_18 ∧ Fr c0 c' b 8 ∧ HW D J ad c' (aA J ad s.heap.size) s.heap H locs := ⟨_, hB_st.wF (k := 8) (j := 1) rfl est_18, hF.up (by omega) (by omega), hW⟩
  refine lv_iload hx hb dX3_append_123 (lv_at hl 1 rfl) ?_
  obtain ⟨rfl, rfl⟩ := Prod.mk.inj (Option.some.inj h)
  exact k_iret hE hr hlk hW ⟨hB_st, hF⟩ rfl dX3_append_125
set_option maxHeartbeats 4000000 in
set_option maxRecDepth 100000 in
theorem mX3_append {l : Launch} {D : va_G} {ct : Nat → ClassId} {J : List Nat} {ad : Nat → Nat} {c0 : CF} {a1 : Int32} {a2 : Int32} {a3 : Int32} {a4 : Int32} {a5 : Int32} {b : Nat} {st : CS} (hB_st : LgB ct J ad c0 b st) {r : Int32} {st9 : CS} (h : fX3_append  a1 a2 a3 a4 a5 st = some (r, st9)) : Mi l D ct J ad yX3_append cX3_append 8 (some .int) (rr 2 44) [.ref (ad b), .int a1, .int a2, .int a3, .int a4, .int a5] c0 r (fun c' => LgB ct J ad c' b st9 ∧ Fr c0 c' b 8) := by
  refine Mi_of (own := RX3) (by decide) rfl (Nat.le_of_ble_eq_true rfl) (fun p e s m below meth cd hE hr hlk hW ls hl => ?_)
  have hx := hE.1
  have hb := hE.2.1
  have hl : lv_has ls 8 [(0, .ref (ad b)), (1, .int a1), (2, .int a2), (3, .int a3), (4, .int a4), (5, .int a5)] := hl
  rw [fX3_append] at h
  obtain ⟨c, hB_st, hF, hW⟩ : ∃ c', LgB ct J ad c' b st ∧ Fr c0 c' b 8 ∧ HW D J ad c' (aA J ad s.heap.size) s.heap s.heap [] := ⟨c0, hB_st, Fr.rf, hW⟩
  refine lv_aload_n hx hb dX3_append_0 rfl (lv_at hl 0 rfl) ?_
  refine k_get (v := .int (st.2 0)) hE hW hB_st.o hB_st.obj rfl inX3 7 (by decide) q54 rfl dX3_append_1 ?_
  refine lv_istore (lv' := [(6, .int (st.2 0)), (0, .ref (ad b)), (1, .int a1), (2, .int a2), (3, .int a3), (4, .int a4), (5, .int a5)]) hx hb dX3_append_4 hl (by decide) rfl (fun ls hl => ?_)
  refine lv_aload_n hx hb dX3_append_6 rfl (lv_at hl 1 rfl) ?_
  refine k_get (v := .ref (ad (b + 1 + 0))) hE hW hB_st.o hB_st.obj rfl inX3 0 (by decide) q37 rfl dX3_append_7 ?_
  refine lv_iload hx hb dX3_append_10 (lv_at hl 0 rfl) ?_
  refine lv_iload_n hx hb dX3_append_12 rfl (lv_at hl 3 rfl) ?_
  obtain ⟨g_1, h⟩ := zi_e h
  obtain ⟨st_2, est_2, h⟩ := zl_e h
  refine k_iast hE hW (hB_st.memA 0 (Nat.le_of_ble_eq_true rfl)) (hB_st.arr 0 rfl) g_1 dX3_append_13 (fun H locs hW => ?_)
  obtain ⟨c, hB_st, hF, hW⟩ : ∃ c', LgB ct J ad c' b st_2 ∧ Fr c0 c' b 8 ∧ HW D J ad c' (aA J ad s.heap.size) s.heap H locs := ⟨_, hB_st.wA (k := 0) rfl est_2, hF.up (by omega) (by omega), hW⟩
  refine lv_aload_n hx hb dX3_append_14 rfl (lv_at hl 1 rfl) ?_
  refine k_get (v := .ref (ad (b + 1 + 1))) hE hW hB_st.o hB_st.obj rfl inX3 1 (by decide) q40 rfl dX3_append_15 ?_
  refine lv_iload hx hb dX3_append_18 (lv_at hl 0 rfl) ?_
  refine lv_iload_n hx hb dX3_append_20 rfl (lv_at hl 2 rfl) ?_
  obtain ⟨g_3, h⟩ := zi_e h
  obtain ⟨st_4, est_4, h⟩ := zl_e h
  refine k_iast hE hW (hB_st.memA 1 (Nat.le_of_ble_eq_true rfl)) (hB_st.arr 1 rfl) g_3 dX3_append_21 (fun H locs hW => ?_)
  obtain ⟨c, hB_st, hF, hW⟩ : ∃ c', LgB ct J ad c' b st_4 ∧ Fr c0 c' b 8 ∧ HW D J ad c' (aA J ad s.heap.size) s.heap H locs := ⟨_, hB_st.wA (k := 1) rfl est_4, hF.up (by omega) (by omega), hW⟩
  refine lv_aload_n hx hb dX3_append_22 rfl (lv_at hl 1 rfl) ?_
  refine k_get (v := .ref (ad (b + 1 + 2))) hE hW hB_st.o hB_st.obj rfl inX3 2 (by decide) q43 rfl dX3_append_23 ?_
  refine lv_iload hx hb dX3_append_26 (lv_at hl 0 rfl) ?_
  refine lv_iload hx hb dX3_append_28 (lv_at hl 6 rfl) ?_
  obtain ⟨g_5, h⟩ := zi_e h
  obtain ⟨st_6, est_6, h⟩ := zl_e h
  refine k_iast hE hW (hB_st.memA 2 (Nat.le_of_ble_eq_true rfl)) (hB_st.arr 2 rfl) g_5 dX3_append_30 (fun H locs hW => ?_)
  obtain ⟨c, hB_st, hF, hW⟩ : ∃ c', LgB ct J ad c' b st_6 ∧ Fr c0 c' b 8 ∧ HW D J ad c' (aA J ad s.heap.size) s.heap H locs := ⟨_, hB_st.wA (k := 2) rfl est_6, hF.up (by omega) (by omega), hW⟩
  refine lv_aload_n hx hb dX3_append_31 rfl (lv_at hl 1 rfl) ?_
  refine k_get (v := .ref (ad (b + 1 + 3))) hE hW hB_st.o hB_st.obj rfl inX3 3 (by decide) q45 rfl dX3_append_32 ?_
  refine lv_iload hx hb dX3_append_35 (lv_at hl 0 rfl) ?_
  refine lv_iload hx hb dX3_append_37 (lv_at hl 5 rfl) ?_
  obtain ⟨g_7, h⟩ := zi_e h
  obtain ⟨st_8, est_8, h⟩ := zl_e h
  refine k_iast hE hW (hB_st.memA 3 (Nat.le_of_ble_eq_true rfl)) (hB_st.arr 3 rfl) g_7 dX3_append_39 (fun H locs hW => ?_)
  obtain ⟨c, hB_st, hF, hW⟩ : ∃ c', LgB ct J ad c' b st_8 ∧ Fr c0 c' b 8 ∧ HW D J ad c' (aA J ad s.heap.size) s.heap H locs := ⟨_, hB_st.wA (k := 3) rfl est_8, hF.up (by omega) (by omega), hW⟩
  refine lv_aload_n hx hb dX3_append_40 rfl (lv_at hl 1 rfl) ?_
  refine k_get (v := .ref (ad (b + 1 + 4))) hE hW hB_st.o hB_st.obj rfl inX3 4 (by decide) q47 rfl dX3_append_41 ?_
  refine lv_iload hx hb dX3_append_44 (lv_at hl 0 rfl) ?_
  refine lv_iload_n hx hb dX3_append_46 rfl (lv_at hl 4 rfl) ?_
  obtain ⟨g_9, h⟩ := zi_e h
  obtain ⟨st_10, est_10, h⟩ := zl_e h
  refine k_iast hE hW (hB_st.memA 4 (Nat.le_of_ble_eq_true rfl)) (hB_st.arr 4 rfl) g_9 dX3_append_47 (fun H locs hW => ?_)
  obtain ⟨c, hB_st, hF, hW⟩ : ∃ c', LgB ct J ad c' b st_10 ∧ Fr c0 c' b 8 ∧ HW D J ad c' (aA J ad s.heap.size) s.heap H locs := ⟨_, hB_st.wA (k := 4) rfl est_10, hF.up (by omega) (by omega), hW⟩
  refine lv_aload_n hx hb dX3_append_48 rfl (lv_at hl 1 rfl) ?_
  refine lv_dup hx hb dX3_append_49 rfl ?_
  refine k_get (v := .int (st_10.2 0)) hE hW hB_st.o hB_st.obj rfl inX3 7 (by decide) q54 rfl dX3_append_50 ?_
  refine lv_iconst (v := (1 : Int32)) hx hb dX3_append_53 (by decide) ?_
  refine lv_iadd hx hb dX3_append_54 ?_
  obtain ⟨st_11, est_11, h⟩ := zl_e h
  refine k_put hE hW hB_st.o hB_st.obj rfl inX3 tyX3 tyX3_ok nmX3 7 (by decide) q54 rfl rfl rfl (Nat.le_of_ble_eq_true rfl) dX3_append_55 (fun H locs hW => ?_)
  obtain ⟨c, hB_st, hF, hW⟩ : ∃ c', LgB ct J ad c' b st_11 ∧ Fr c0 c' b 8 ∧ HW D J ad c' (aA J ad s.heap.size) s.heap H locs := ⟨_, hB_st.wF (k := 7) (j := 0) rfl est_11, hF.up (by omega) (by omega), hW⟩
  refine lv_aload_n hx hb dX3_append_58 rfl (lv_at hl 1 rfl) ?_
  refine k_get (v := .ref (ad (b + 1 + 5))) hE hW hB_st.o hB_st.obj rfl inX3 5 (by decide) q50 rfl dX3_append_59 ?_
  refine lv_aload_n hx hb dX3_append_62 rfl (lv_at hl 1 rfl) ?_
  refine k_get (v := .int (st_11.2 1)) hE hW hB_st.o hB_st.obj rfl inX3 8 (by decide) q58 rfl dX3_append_63 ?_
  refine lv_iconst (v := (1 : Int32)) hx hb dX3_append_66 (by decide) ?_
  refine lv_isub hx hb dX3_append_67 ?_
  obtain ⟨g_12, h⟩ := zi_e h
  refine k_iald hE hW (hB_st.memA 5 (Nat.le_of_ble_eq_true rfl)) (hB_st.arr 5 rfl) g_12 dX3_append_68 ?_
  refine lv_topi (fun x_13 ex_13 => ?_)
  have h := zl_n h ex_13
  refine lv_istore (lv' := [(7, .int x_13), (6, .int (st.2 0)), (0, .ref (ad b)), (1, .int a1), (2, .int a2), (3, .int a3), (4, .int a4), (5, .int a5)]) hx hb dX3_append_69 hl (by decide) rfl (fun ls hl => ?_)
  refine lv_aload_n hx hb dX3_append_71 rfl (lv_at hl 2 rfl) ?_
  refine lv_iload hx hb dX3_append_72 (lv_at hl 0 rfl) ?_
  refine lv_aload_n hx hb dX3_append_74 rfl (lv_at hl 2 rfl) ?_
  refine k_get (v := .int (st_11.2 0)) hE hW hB_st.o hB_st.obj rfl inX3 7 (by decide) q54 rfl dX3_append_75 ?_
  obtain ⟨r_14, hr_14, h⟩ := zb_e h
  refine k_callVi (rest := []) hE hW hl.1 (mX3_recordsIn hB_st hr_14) hB_st.o hB_st.obj rfl q300 q302 qs3 q3 q303 hd_X3_recordsIn ⟨Nat.le_of_ble_eq_true rfl, Nat.le_of_ble_eq_true rfl⟩ ⟨rfl, rfl⟩ rfl (Nat.le_of_ble_eq_true rfl) dX3_append_78 ⟨Nat.zero_le _, Nat.zero_le _⟩ (fun c1 H locs hP hW => ?_)
  rw [hP] at hW
  refine lv_iconst (v := (4 : Int32)) hx hb dX3_append_81 (by decide) ?_
  refine lv_icmp_ge (tgt := 100) hx hb dX3_append_82 (by decide) (fun k_15 => ?_) (fun k_15 => ?_)
  · have h := it_t k_15 h
    exact wX3_append_100 hE hr hlk _ _ _ _ _ _ hW hB_st hF (lv_sub hl [2, 1] rfl) h
  · have h := it_f k_15 h
    refine lv_aload_n hx hb dX3_append_85 rfl (lv_at hl 2 rfl) ?_
    refine lv_iload hx hb dX3_append_86 (lv_at hl 0 rfl) ?_
    refine lv_aload_n hx hb dX3_append_88 rfl (lv_at hl 2 rfl) ?_
    refine k_get (v := .int (st_11.2 0)) hE hW hB_st.o hB_st.obj rfl inX3 7 (by decide) q54 rfl dX3_append_89 ?_
    obtain ⟨r_19, hr_19, h⟩ := zb_e h
    refine k_callVi (rest := []) hE hW hl.1 (mX3_sizesIn hB_st hr_19) hB_st.o hB_st.obj rfl q305 q307 qs4 q3 q308 hd_X3_sizesIn ⟨Nat.le_of_ble_eq_true rfl, Nat.le_of_ble_eq_true rfl⟩ ⟨rfl, rfl⟩ rfl (Nat.le_of_ble_eq_true rfl) dX3_append_92 ⟨Nat.zero_le _, Nat.zero_le _⟩ (fun c1 H locs hP hW => ?_)
    rw [hP] at hW
    refine lv_bipush (v := (20 : Int32)) hx hb dX3_append_95 (by decide) ?_
    refine lv_icmp_lt (tgt := 123) hx hb dX3_append_97 (by decide) (fun k_20 => ?_) (fun k_20 => ?_)
    · have h := it_t k_20 h
      refine lv_iload hx hb dX3_append_123 (lv_at hl 1 rfl) ?_
      obtain ⟨rfl, rfl⟩ := Prod.mk.inj (Option.some.inj h)
      exact k_iret hE hr hlk hW ⟨hB_st, hF⟩ rfl dX3_append_125
    · have h := it_f k_20 h
      exact wX3_append_100 hE hr hlk _ _ _ _ _ _ hW hB_st hF (lv_sub hl [2, 1] rfl) h
set_option maxHeartbeats 4000000 in
set_option maxRecDepth 100000 in
theorem mX3_has {l : Launch} {D : va_G} {ct : Nat → ClassId} {J : List Nat} {ad : Nat → Nat} {c0 : CF} {a1 : Int32} {b : Nat} {st : CS} (hB_st : LgB ct J ad c0 b st) {r : Int32} (h : fX3_has  a1 st = some r) : Mi l D ct J ad yX3_has cX3_has 2 (some .boolean) (rr 0 0) [.ref (ad b), .int a1] c0 r (fun c' => c' = c0) := by
  refine Mi_of (own := RX3) (by decide) rfl (Nat.le_of_ble_eq_true rfl) (fun p e s m below meth cd hE hr hlk hW ls hl => ?_)
  have hx := hE.1
  have hb := hE.2.1
  have hl : lv_has ls 2 [(0, .ref (ad b)), (1, .int a1)] := hl
  rw [fX3_has] at h
  refine lv_iload_n hx hb dX3_has_0 rfl (lv_at hl 1 rfl) ?_
  refine lv_if_lt (tgt := 25) hx hb dX3_has_1 (by decide) (fun k_1 => ?_) (fun k_1 => ?_)
  · have h := it_t k_1 h
    refine lv_iconst (v := (0 : Int32)) hx hb dX3_has_25 (by decide) ?_
    obtain rfl := Option.some.inj h
    exact k_zret hE hr hlk hW rfl rfl rfl dX3_has_26
  · have h := it_f k_1 h
    refine lv_iload_n hx hb dX3_has_4 rfl (lv_at hl 1 rfl) ?_
    refine lv_aload_n hx hb dX3_has_5 rfl (lv_at hl 0 rfl) ?_
    refine k_get (v := .int (st.2 0)) hE hW hB_st.o hB_st.obj rfl inX3 7 (by decide) q54 rfl dX3_has_6 ?_
    refine lv_icmp_ge (tgt := 25) hx hb dX3_has_9 (by decide) (fun k_2 => ?_) (fun k_2 => ?_)
    · have h := it_t k_2 h
      refine lv_iconst (v := (0 : Int32)) hx hb dX3_has_25 (by decide) ?_
      obtain rfl := Option.some.inj h
      exact k_zret hE hr hlk hW rfl rfl rfl dX3_has_26
    · have h := it_f k_2 h
      refine lv_aload_n hx hb dX3_has_12 rfl (lv_at hl 0 rfl) ?_
      refine k_get (v := .ref (ad (b + 1 + 0))) hE hW hB_st.o hB_st.obj rfl inX3 0 (by decide) q37 rfl dX3_has_13 ?_
      refine lv_iload_n hx hb dX3_has_16 rfl (lv_at hl 1 rfl) ?_
      obtain ⟨g_3, h⟩ := zi_e h
      refine k_iald hE hW (hB_st.memA 0 (Nat.le_of_ble_eq_true rfl)) (hB_st.arr 0 rfl) g_3 dX3_has_17 ?_
      refine lv_if_eq (tgt := 25) hx hb dX3_has_18 (by decide) (fun k_4 => ?_) (fun k_4 => ?_)
      · have h := it_t k_4 h
        refine lv_iconst (v := (0 : Int32)) hx hb dX3_has_25 (by decide) ?_
        obtain rfl := Option.some.inj h
        exact k_zret hE hr hlk hW rfl rfl rfl dX3_has_26
      · have h := it_f k_4 h
        refine lv_iconst (v := (1 : Int32)) hx hb dX3_has_21 (by decide) ?_
        refine lv_goto (tgt := 26) hx hb dX3_has_22 (by decide) ?_
        obtain rfl := Option.some.inj h
        exact k_zret hE hr hlk hW rfl rfl rfl dX3_has_26
set_option maxHeartbeats 4000000 in
set_option maxRecDepth 100000 in
theorem mX3_start {l : Launch} {D : va_G} {ct : Nat → ClassId} {J : List Nat} {ad : Nat → Nat} {c0 : CF} {b : Nat} {st : CS} (hB_st : LgB ct J ad c0 b st) {r : Int32} (h : fX3_start   st = some r) : Mi l D ct J ad yX3_start cX3_start 1 (some .int) (rr 0 0) [.ref (ad b)] c0 r (fun c' => c' = c0) := by
  refine Mi_of (own := RX3) (by decide) rfl (Nat.le_of_ble_eq_true rfl) (fun p e s m below meth cd hE hr hlk hW ls hl => ?_)
  have hx := hE.1
  have hb := hE.2.1
  have hl : lv_has ls 1 [(0, .ref (ad b))] := hl
  rw [fX3_start] at h
  refine lv_aload_n hx hb dX3_start_0 rfl (lv_at hl 0 rfl) ?_
  refine k_get (v := .ref (ad (b + 1 + 5))) hE hW hB_st.o hB_st.obj rfl inX3 5 (by decide) q50 rfl dX3_start_1 ?_
  refine lv_iconst (v := (0 : Int32)) hx hb dX3_start_4 (by decide) ?_
  obtain ⟨g_1, h⟩ := zi_e h
  refine k_iald hE hW (hB_st.memA 5 (Nat.le_of_ble_eq_true rfl)) (hB_st.arr 5 rfl) g_1 dX3_start_5 ?_
  obtain rfl := Option.some.inj h
  exact k_iret hE hr hlk hW rfl rfl dX3_start_6
set_option maxHeartbeats 4000000 in
set_option maxRecDepth 100000 in
theorem mX3_records {l : Launch} {D : va_G} {ct : Nat → ClassId} {J : List Nat} {ad : Nat → Nat} {c0 : CF} {b : Nat} {st : CS} (hB_st : LgB ct J ad c0 b st) {r : Int32} (h : fX3_records   st = some r) : Mi l D ct J ad yX3_records cX3_records 1 (some .int) (rr 2 44) [.ref (ad b)] c0 r (fun c' => c' = c0) := by
  refine Mi_of (own := RX3) (by decide) rfl (Nat.le_of_ble_eq_true rfl) (fun p e s m below meth cd hE hr hlk hW ls hl => ?_)
  have hx := hE.1
  have hb := hE.2.1
  have hl : lv_has ls 1 [(0, .ref (ad b))] := hl
  rw [fX3_records] at h
  refine lv_aload_n hx hb dX3_records_0 rfl (lv_at hl 0 rfl) ?_
  refine lv_iconst (v := (0 : Int32)) hx hb dX3_records_1 (by decide) ?_
  refine lv_aload_n hx hb dX3_records_2 rfl (lv_at hl 0 rfl) ?_
  refine k_get (v := .int (st.2 0)) hE hW hB_st.o hB_st.obj rfl inX3 7 (by decide) q54 rfl dX3_records_3 ?_
  obtain ⟨r_1, hr_1, h⟩ := zb_e h
  refine k_callVi (rest := []) hE hW hl.1 (mX3_recordsIn hB_st hr_1) hB_st.o hB_st.obj rfl q300 q302 qs3 q3 q303 hd_X3_recordsIn ⟨Nat.le_of_ble_eq_true rfl, Nat.le_of_ble_eq_true rfl⟩ ⟨rfl, rfl⟩ rfl (Nat.le_of_ble_eq_true rfl) dX3_records_6 ⟨Nat.zero_le _, Nat.zero_le _⟩ (fun c1 H locs hP hW => ?_)
  rw [hP] at hW
  obtain rfl := Option.some.inj h
  exact k_iret hE hr hlk hW rfl rfl dX3_records_9
set_option maxHeartbeats 4000000 in
set_option maxRecDepth 100000 in
theorem mX3_isClosed {l : Launch} {D : va_G} {ct : Nat → ClassId} {J : List Nat} {ad : Nat → Nat} {c0 : CF} {a1 : Int32} {b : Nat} {st : CS} (hB_st : LgB ct J ad c0 b st) {r : Int32} (h : fX3_isClosed  a1 st = some r) : Mi l D ct J ad yX3_isClosed cX3_isClosed 2 (some .boolean) (rr 0 0) [.ref (ad b), .int a1] c0 r (fun c' => c' = c0) := by
  refine Mi_of (own := RX3) (by decide) rfl (Nat.le_of_ble_eq_true rfl) (fun p e s m below meth cd hE hr hlk hW ls hl => ?_)
  have hx := hE.1
  have hb := hE.2.1
  have hl : lv_has ls 2 [(0, .ref (ad b)), (1, .int a1)] := hl
  rw [fX3_isClosed] at h
  refine lv_iload_n hx hb dX3_isClosed_0 rfl (lv_at hl 1 rfl) ?_
  refine lv_aload_n hx hb dX3_isClosed_1 rfl (lv_at hl 0 rfl) ?_
  refine k_get (v := .int (st.2 1)) hE hW hB_st.o hB_st.obj rfl inX3 8 (by decide) q58 rfl dX3_isClosed_2 ?_
  refine lv_iconst (v := (1 : Int32)) hx hb dX3_isClosed_5 (by decide) ?_
  refine lv_isub hx hb dX3_isClosed_6 ?_
  refine lv_icmp_ge (tgt := 14) hx hb dX3_isClosed_7 (by decide) (fun k_1 => ?_) (fun k_1 => ?_)
  · have h := it_t k_1 h
    refine lv_iconst (v := (0 : Int32)) hx hb dX3_isClosed_14 (by decide) ?_
    obtain rfl := Option.some.inj h
    exact k_zret hE hr hlk hW rfl rfl rfl dX3_isClosed_15
  · have h := it_f k_1 h
    refine lv_iconst (v := (1 : Int32)) hx hb dX3_isClosed_10 (by decide) ?_
    refine lv_goto (tgt := 15) hx hb dX3_isClosed_11 (by decide) ?_
    obtain rfl := Option.some.inj h
    exact k_zret hE hr hlk hW rfl rfl rfl dX3_isClosed_15
set_option maxHeartbeats 4000000 in
set_option maxRecDepth 100000 in
theorem mX3_segmentEnd {l : Launch} {D : va_G} {ct : Nat → ClassId} {J : List Nat} {ad : Nat → Nat} {c0 : CF} {a1 : Int32} {b : Nat} {st : CS} (hB_st : LgB ct J ad c0 b st) {r : Int32} (h : fX3_segmentEnd  a1 st = some r) : Mi l D ct J ad yX3_segmentEnd cX3_segmentEnd 2 (some .int) (rr 1 21) [.ref (ad b), .int a1] c0 r (fun c' => c' = c0) := by
  refine Mi_of (own := RX3) (by decide) rfl (Nat.le_of_ble_eq_true rfl) (fun p e s m below meth cd hE hr hlk hW ls hl => ?_)
  have hx := hE.1
  have hb := hE.2.1
  have hl : lv_has ls 2 [(0, .ref (ad b)), (1, .int a1)] := hl
  rw [fX3_segmentEnd] at h
  refine lv_aload_n hx hb dX3_segmentEnd_0 rfl (lv_at hl 0 rfl) ?_
  refine lv_iload_n hx hb dX3_segmentEnd_1 rfl (lv_at hl 1 rfl) ?_
  obtain ⟨r_1, hr_1, h⟩ := zb_e h
  refine k_callVi (rest := []) hE hW hl.1 (mX3_isClosed hB_st hr_1) hB_st.o hB_st.obj rfl q353 q355 qs12 q3 q356 hd_X3_isClosed ⟨Nat.le_of_ble_eq_true rfl, Nat.le_of_ble_eq_true rfl⟩ ⟨rfl, rfl⟩ rfl (Nat.le_of_ble_eq_true rfl) dX3_segmentEnd_2 ⟨Nat.zero_le _, Nat.zero_le _⟩ (fun c1 H locs hP hW => ?_)
  rw [hP] at hW
  refine lv_if_eq (tgt := 19) hx hb dX3_segmentEnd_5 (by decide) (fun k_2 => ?_) (fun k_2 => ?_)
  · have h := it_t k_2 h
    refine lv_aload_n hx hb dX3_segmentEnd_19 rfl (lv_at hl 0 rfl) ?_
    refine k_get (v := .int (st.2 0)) hE hW hB_st.o hB_st.obj rfl inX3 7 (by decide) q54 rfl dX3_segmentEnd_20 ?_
    obtain rfl := Option.some.inj h
    exact k_iret hE hr hlk hW rfl rfl dX3_segmentEnd_23
  · have h := it_f k_2 h
    refine lv_aload_n hx hb dX3_segmentEnd_8 rfl (lv_at hl 0 rfl) ?_
    refine k_get (v := .ref (ad (b + 1 + 5))) hE hW hB_st.o hB_st.obj rfl inX3 5 (by decide) q50 rfl dX3_segmentEnd_9 ?_
    refine lv_iload_n hx hb dX3_segmentEnd_12 rfl (lv_at hl 1 rfl) ?_
    refine lv_iconst (v := (1 : Int32)) hx hb dX3_segmentEnd_13 (by decide) ?_
    refine lv_iadd hx hb dX3_segmentEnd_14 ?_
    obtain ⟨g_3, h⟩ := zi_e h
    refine k_iald hE hW (hB_st.memA 5 (Nat.le_of_ble_eq_true rfl)) (hB_st.arr 5 rfl) g_3 dX3_segmentEnd_15 ?_
    refine lv_goto (tgt := 23) hx hb dX3_segmentEnd_16 (by decide) ?_
    obtain rfl := Option.some.inj h
    exact k_iret hE hr hlk hW rfl rfl dX3_segmentEnd_23
set_option maxHeartbeats 4000000 in
set_option maxRecDepth 100000 in
theorem wX3_segmentOf_2 {p : Program} {l : Launch} {e : Env} {s : State} {m : MethodId} {args : Array Value} {below : List Frame} {meth : Method} {cd : Code} {D : va_G} {ct : Nat → ClassId} {J : List Nat} {ad : Nat → Nat} {c0 : CF} {b : Nat} (hE : ME p s m cd args D ct cX3_segmentOf RX3 3) (hr : meth.sig.returnType = (some .int)) (hlk : meth.locks = false) {x1 : Int32} {st : CS} (hB_st : LgB ct J ad c0 b st) {r : Int32} : ∀ (n : Nat) (x2 : Int32) (H : Heap) (locs : List Loc) (ls : Array Slot), HW D J ad c0 (aA J ad s.heap.size) s.heap H locs → lv_has ls 3 [(0, .ref (ad b)), (1, .int x1), (2, .int x2)] → fX3_segmentOf_2 x1 st n x2 = some r → W p l e (rr 0 0) s m args below meth cd H locs 0 0 (MQ below (Qi D J ad s.heap.size r (fun c' => c' = c0)) args s 0 0 (aA J ad s.heap.size)) (F0 m 2 ls []) := by
  have hx := hE.1
  have hb := hE.2.1
  intro n
  induction n with
  | zero =>
    intro x2 H locs ls hW hl h
    have h2 : (none : Option Int32) = some r := h
    cases h2
  | succ n ih =>
    intro x2 H locs ls hW hl h
    rw [fX3_segmentOf_2] at h
    refine lv_iload_n hx hb dX3_segmentOf_2 rfl (lv_at hl 2 rfl) ?_
    refine lv_aload_n hx hb dX3_segmentOf_3 rfl (lv_at hl 0 rfl) ?_
    refine k_get (v := .int (st.2 1)) hE hW hB_st.o hB_st.obj rfl inX3 8 (by decide) q58 rfl dX3_segmentOf_4 ?_
    refine lv_iconst (v := (1 : Int32)) hx hb dX3_segmentOf_7 (by decide) ?_
    refine lv_isub hx hb dX3_segmentOf_8 ?_
    refine lv_icmp_ge (tgt := 30) hx hb dX3_segmentOf_9 (by decide) (fun k_1 => ?_) (fun k_1 => ?_)
    · have h := it_t k_1 h
      refine lv_iload_n hx hb dX3_segmentOf_30 rfl (lv_at hl 2 rfl) ?_
      obtain rfl := Option.some.inj h
      exact k_iret hE hr hlk hW rfl rfl dX3_segmentOf_31
    · have h := it_f k_1 h
      refine lv_aload_n hx hb dX3_segmentOf_12 rfl (lv_at hl 0 rfl) ?_
      refine k_get (v := .ref (ad (b + 1 + 5))) hE hW hB_st.o hB_st.obj rfl inX3 5 (by decide) q50 rfl dX3_segmentOf_13 ?_
      refine lv_iload_n hx hb dX3_segmentOf_16 rfl (lv_at hl 2 rfl) ?_
      refine lv_iconst (v := (1 : Int32)) hx hb dX3_segmentOf_17 (by decide) ?_
      refine lv_iadd hx hb dX3_segmentOf_18 ?_
      obtain ⟨g_2, h⟩ := zi_e h
      refine k_iald hE hW (hB_st.memA 5 (Nat.le_of_ble_eq_true rfl)) (hB_st.arr 5 rfl) g_2 dX3_segmentOf_19 ?_
      refine lv_iload_n hx hb dX3_segmentOf_20 rfl (lv_at hl 1 rfl) ?_
      refine lv_icmp_gt (tgt := 30) hx hb dX3_segmentOf_21 (by decide) (fun k_3 => ?_) (fun k_3 => ?_)
      · have h := it_t k_3 h
        refine lv_iload_n hx hb dX3_segmentOf_30 rfl (lv_at hl 2 rfl) ?_
        obtain rfl := Option.some.inj h
        exact k_iret hE hr hlk hW rfl rfl dX3_segmentOf_31
      · have h := it_f k_3 h
        refine lv_iinc (v := (x2 + (1 : Int32))) (lv' := [(2, .int (x2 + (1 : Int32))), (0, .ref (ad b)), (1, .int x1)]) hx hb dX3_segmentOf_24 hl (k := 2) rfl rfl (by decide) rfl (fun ls hl => ?_)
        refine lv_goto (tgt := 2) hx hb dX3_segmentOf_27 (by decide) ?_
        exact ih _ _ _ _ hW (lv_sub hl [1, 2, 0] rfl) h
set_option maxHeartbeats 4000000 in
set_option maxRecDepth 100000 in
theorem mX3_segmentOf {l : Launch} {D : va_G} {ct : Nat → ClassId} {J : List Nat} {ad : Nat → Nat} {c0 : CF} {a1 : Int32} {b : Nat} {st : CS} (hB_st : LgB ct J ad c0 b st) {r : Int32} (h : fX3_segmentOf  a1 st = some r) : Mi l D ct J ad yX3_segmentOf cX3_segmentOf 3 (some .int) (rr 0 0) [.ref (ad b), .int a1] c0 r (fun c' => c' = c0) := by
  refine Mi_of (own := RX3) (by decide) rfl (Nat.le_of_ble_eq_true rfl) (fun p e s m below meth cd hE hr hlk hW ls hl => ?_)
  have hx := hE.1
  have hb := hE.2.1
  have hl : lv_has ls 3 [(0, .ref (ad b)), (1, .int a1)] := hl
  rw [fX3_segmentOf] at h
  refine lv_iconst (v := (0 : Int32)) hx hb dX3_segmentOf_0 (by decide) ?_
  refine lv_istore_n (lv' := [(2, .int (0 : Int32)), (0, .ref (ad b)), (1, .int a1)]) hx hb dX3_segmentOf_1 rfl hl (by decide) rfl (fun ls hl => ?_)
  exact wX3_segmentOf_2 hE hr hlk hB_st _ _ _ _ _ hW (lv_sub hl [1, 2, 0] rfl) h
set_option maxHeartbeats 4000000 in
set_option maxRecDepth 100000 in
theorem wX3_atOrBefore_11 {p : Program} {l : Launch} {e : Env} {s : State} {m : MethodId} {args : Array Value} {below : List Frame} {meth : Method} {cd : Code} {D : va_G} {ct : Nat → ClassId} {J : List Nat} {ad : Nat → Nat} {c0 : CF} {b : Nat} (hE : ME p s m cd args D ct cX3_atOrBefore RX3 3) (hr : meth.sig.returnType = (some .int)) (hlk : meth.locks = false) {st : CS} (hB_st : LgB ct J ad c0 b st) {r : Int32} : ∀ (n : Nat) (x2 : Int32) (H : Heap) (locs : List Loc) (ls : Array Slot), HW D J ad c0 (aA J ad s.heap.size) s.heap H locs → lv_has ls 3 [(0, .ref (ad b)), (2, .int x2)] → fX3_atOrBefore_11 st n x2 = some r → W p l e (rr 1 20) s m args below meth cd H locs 0 0 (MQ below (Qi D J ad s.heap.size r (fun c' => c' = c0)) args s 0 0 (aA J ad s.heap.size)) (F0 m 11 ls []) := by
  have hx := hE.1
  have hb := hE.2.1
  intro n
  induction n with
  | zero =>
    intro x2 H locs ls hW hl h
    have h2 : (none : Option Int32) = some r := h
    cases h2
  | succ n ih =>
    intro x2 H locs ls hW hl h
    rw [fX3_atOrBefore_11] at h
    refine lv_iload_n hx hb dX3_atOrBefore_11 rfl (lv_at hl 1 rfl) ?_
    refine lv_if_lt (tgt := 32) hx hb dX3_atOrBefore_12 (by decide) (fun k_2 => ?_) (fun k_2 => ?_)
    · have h := it_t k_2 h
      refine lv_bipush (v := (-5 : Int32)) hx hb dX3_atOrBefore_32 (by decide) ?_
      obtain rfl := Option.some.inj h
      exact k_iret hE hr hlk hW rfl rfl dX3_atOrBefore_34
    · have h := it_f k_2 h
      refine lv_aload_n hx hb dX3_atOrBefore_15 rfl (lv_at hl 0 rfl) ?_
      refine k_get (v := .ref (ad (b + 1 + 0))) hE hW hB_st.o hB_st.obj rfl inX3 0 (by decide) q37 rfl dX3_atOrBefore_16 ?_
      refine lv_iload_n hx hb dX3_atOrBefore_19 rfl (lv_at hl 1 rfl) ?_
      obtain ⟨g_3, h⟩ := zi_e h
      refine k_iald hE hW (hB_st.memA 0 (Nat.le_of_ble_eq_true rfl)) (hB_st.arr 0 rfl) g_3 dX3_atOrBefore_20 ?_
      refine lv_if_eq (tgt := 26) hx hb dX3_atOrBefore_21 (by decide) (fun k_4 => ?_) (fun k_4 => ?_)
      · have h := it_t k_4 h
        refine lv_iinc (v := (x2 + (-1 : Int32))) (lv' := [(2, .int (x2 + (-1 : Int32))), (0, .ref (ad b))]) hx hb dX3_atOrBefore_26 hl (k := 1) rfl rfl (by decide) rfl (fun ls hl => ?_)
        refine lv_goto (tgt := 11) hx hb dX3_atOrBefore_29 (by decide) ?_
        exact ih _ _ _ _ hW (lv_sub hl [1, 0] rfl) h
      · have h := it_f k_4 h
        refine lv_iload_n hx hb dX3_atOrBefore_24 rfl (lv_at hl 1 rfl) ?_
        obtain rfl := Option.some.inj h
        exact k_iret hE hr hlk hW rfl rfl dX3_atOrBefore_25
set_option maxHeartbeats 4000000 in
set_option maxRecDepth 100000 in
theorem mX3_atOrBefore {l : Launch} {D : va_G} {ct : Nat → ClassId} {J : List Nat} {ad : Nat → Nat} {c0 : CF} {a1 : Int32} {b : Nat} {st : CS} (hB_st : LgB ct J ad c0 b st) {r : Int32} (h : fX3_atOrBefore  a1 st = some r) : Mi l D ct J ad yX3_atOrBefore cX3_atOrBefore 3 (some .int) (rr 1 20) [.ref (ad b), .int a1] c0 r (fun c' => c' = c0) := by
  refine Mi_of (own := RX3) (by decide) rfl (Nat.le_of_ble_eq_true rfl) (fun p e s m below meth cd hE hr hlk hW ls hl => ?_)
  have hx := hE.1
  have hb := hE.2.1
  have hl : lv_has ls 3 [(0, .ref (ad b)), (1, .int a1)] := hl
  rw [fX3_atOrBefore] at h
  refine lv_iload_n hx hb dX3_atOrBefore_0 rfl (lv_at hl 1 rfl) ?_
  refine lv_aload_n hx hb dX3_atOrBefore_1 rfl (lv_at hl 0 rfl) ?_
  refine k_get (v := .int (st.2 0)) hE hW hB_st.o hB_st.obj rfl inX3 7 (by decide) q54 rfl dX3_atOrBefore_2 ?_
  refine lv_iconst (v := (1 : Int32)) hx hb dX3_atOrBefore_5 (by decide) ?_
  refine lv_isub hx hb dX3_atOrBefore_6 ?_
  refine va_mmin hx hb (hE.2.2.1.trans hl.1.symm) hE.2.2.2.1 (hE.2.2.2.2.1 _ q459) (hE.2.2.2.2.1 _ q460) (hE.2.2.2.2.1 _ q6) (hE.2.2.2.2.1 _ q461) (Nat.le_of_ble_eq_true rfl) (Nat.le_of_ble_eq_true rfl) (Nat.zero_le _) (Nat.zero_le _) dX3_atOrBefore_7 ?_
  refine lv_topi (fun x_1 ex_1 => ?_)
  have h := zl_n h ex_1
  refine lv_istore_n (lv' := [(2, .int x_1), (0, .ref (ad b)), (1, .int a1)]) hx hb dX3_atOrBefore_10 rfl hl (by decide) rfl (fun ls hl => ?_)
  exact wX3_atOrBefore_11 hE hr hlk hB_st _ _ _ _ _ hW (lv_sub hl [1, 0] rfl) h
set_option maxHeartbeats 4000000 in
set_option maxRecDepth 100000 in
theorem wX3_atOrBehind_6 {p : Program} {l : Launch} {e : Env} {s : State} {m : MethodId} {args : Array Value} {below : List Frame} {meth : Method} {cd : Code} {D : va_G} {ct : Nat → ClassId} {J : List Nat} {ad : Nat → Nat} {c0 : CF} {b : Nat} (hE : ME p s m cd args D ct cX3_atOrBehind RX3 3) (hr : meth.sig.returnType = (some .int)) (hlk : meth.locks = false) {st : CS} (hB_st : LgB ct J ad c0 b st) {r : Int32} : ∀ (n : Nat) (x2 : Int32) (H : Heap) (locs : List Loc) (ls : Array Slot), HW D J ad c0 (aA J ad s.heap.size) s.heap H locs → lv_has ls 3 [(0, .ref (ad b)), (2, .int x2)] → fX3_atOrBehind_6 st n x2 = some r → W p l e (rr 1 20) s m args below meth cd H locs 0 0 (MQ below (Qi D J ad s.heap.size r (fun c' => c' = c0)) args s 0 0 (aA J ad s.heap.size)) (F0 m 6 ls []) := by
  have hx := hE.1
  have hb := hE.2.1
  intro n
  induction n with
  | zero =>
    intro x2 H locs ls hW hl h
    have h2 : (none : Option Int32) = some r := h
    cases h2
  | succ n ih =>
    intro x2 H locs ls hW hl h
    rw [fX3_atOrBehind_6] at h
    refine lv_iload_n hx hb dX3_atOrBehind_6 rfl (lv_at hl 1 rfl) ?_
    refine lv_aload_n hx hb dX3_atOrBehind_7 rfl (lv_at hl 0 rfl) ?_
    refine k_get (v := .int (st.2 0)) hE hW hB_st.o hB_st.obj rfl inX3 7 (by decide) q54 rfl dX3_atOrBehind_8 ?_
    refine lv_icmp_ge (tgt := 31) hx hb dX3_atOrBehind_11 (by decide) (fun k_2 => ?_) (fun k_2 => ?_)
    · have h := it_t k_2 h
      refine lv_bipush (v := (-5 : Int32)) hx hb dX3_atOrBehind_31 (by decide) ?_
      obtain rfl := Option.some.inj h
      exact k_iret hE hr hlk hW rfl rfl dX3_atOrBehind_33
    · have h := it_f k_2 h
      refine lv_aload_n hx hb dX3_atOrBehind_14 rfl (lv_at hl 0 rfl) ?_
      refine k_get (v := .ref (ad (b + 1 + 0))) hE hW hB_st.o hB_st.obj rfl inX3 0 (by decide) q37 rfl dX3_atOrBehind_15 ?_
      refine lv_iload_n hx hb dX3_atOrBehind_18 rfl (lv_at hl 1 rfl) ?_
      obtain ⟨g_3, h⟩ := zi_e h
      refine k_iald hE hW (hB_st.memA 0 (Nat.le_of_ble_eq_true rfl)) (hB_st.arr 0 rfl) g_3 dX3_atOrBehind_19 ?_
      refine lv_if_eq (tgt := 25) hx hb dX3_atOrBehind_20 (by decide) (fun k_4 => ?_) (fun k_4 => ?_)
      · have h := it_t k_4 h
        refine lv_iinc (v := (x2 + (1 : Int32))) (lv' := [(2, .int (x2 + (1 : Int32))), (0, .ref (ad b))]) hx hb dX3_atOrBehind_25 hl (k := 1) rfl rfl (by decide) rfl (fun ls hl => ?_)
        refine lv_goto (tgt := 6) hx hb dX3_atOrBehind_28 (by decide) ?_
        exact ih _ _ _ _ hW (lv_sub hl [1, 0] rfl) h
      · have h := it_f k_4 h
        refine lv_iload_n hx hb dX3_atOrBehind_23 rfl (lv_at hl 1 rfl) ?_
        obtain rfl := Option.some.inj h
        exact k_iret hE hr hlk hW rfl rfl dX3_atOrBehind_24
set_option maxHeartbeats 4000000 in
set_option maxRecDepth 100000 in
theorem mX3_atOrBehind {l : Launch} {D : va_G} {ct : Nat → ClassId} {J : List Nat} {ad : Nat → Nat} {c0 : CF} {a1 : Int32} {b : Nat} {st : CS} (hB_st : LgB ct J ad c0 b st) {r : Int32} (h : fX3_atOrBehind  a1 st = some r) : Mi l D ct J ad yX3_atOrBehind cX3_atOrBehind 3 (some .int) (rr 1 20) [.ref (ad b), .int a1] c0 r (fun c' => c' = c0) := by
  refine Mi_of (own := RX3) (by decide) rfl (Nat.le_of_ble_eq_true rfl) (fun p e s m below meth cd hE hr hlk hW ls hl => ?_)
  have hx := hE.1
  have hb := hE.2.1
  have hl : lv_has ls 3 [(0, .ref (ad b)), (1, .int a1)] := hl
  rw [fX3_atOrBehind] at h
  refine lv_iload_n hx hb dX3_atOrBehind_0 rfl (lv_at hl 1 rfl) ?_
  refine lv_iconst (v := (0 : Int32)) hx hb dX3_atOrBehind_1 (by decide) ?_
  refine va_mmax hx hb (hE.2.2.1.trans hl.1.symm) hE.2.2.2.1 (hE.2.2.2.2.1 _ q304) (hE.2.2.2.2.1 _ q114) (hE.2.2.2.2.1 _ q6) (hE.2.2.2.2.1 _ q115) (Nat.le_of_ble_eq_true rfl) (Nat.le_of_ble_eq_true rfl) (Nat.zero_le _) (Nat.zero_le _) dX3_atOrBehind_2 ?_
  refine lv_topi (fun x_1 ex_1 => ?_)
  have h := zl_n h ex_1
  refine lv_istore_n (lv' := [(2, .int x_1), (0, .ref (ad b)), (1, .int a1)]) hx hb dX3_atOrBehind_5 rfl hl (by decide) rfl (fun ls hl => ?_)
  exact wX3_atOrBehind_6 hE hr hlk hB_st _ _ _ _ _ hW (lv_sub hl [1, 0] rfl) h
set_option maxHeartbeats 4000000 in
set_option maxRecDepth 100000 in
theorem wX3_findLast_24 {p : Program} {l : Launch} {e : Env} {s : State} {m : MethodId} {args : Array Value} {below : List Frame} {meth : Method} {cd : Code} {D : va_G} {ct : Nat → ClassId} {J : List Nat} {ad : Nat → Nat} {c0 : CF} {b : Nat} (hE : ME p s m cd args D ct cX3_findLast RX3 3) (hr : meth.sig.returnType = none) (hlk : meth.locks = false) {x1 : Int32} {st9 : CS} : ∀ (n : Nat) (x2 : Int32) (st : CS) (c : CF) (H : Heap) (locs : List Loc) (ls : Array Slot), HW D J ad c (aA J ad s.heap.size) s.heap H locs → LgB ct J ad c b st → Fr c0 c b 8 → lv_has ls 3 [(0, .ref (ad b)), (1, .int x1), (2, .int x2)] → fX3_findLast_24 x1 n x2 st = some st9 → W p l e (rr 0 0) s m args below meth cd H locs 0 0 (MQ below (Qv D J ad s.heap.size (fun c' => LgB ct J ad c' b st9 ∧ Fr c0 c' b 8)) args s 0 0 (aA J ad s.heap.size)) (F0 m 24 ls []) := by
  have hx := hE.1
  have hb := hE.2.1
  intro n
  induction n with
  | zero =>
    intro x2 st c H locs ls hW hB_st hF hl h
    have h2 : (none : Option CS) = some st9 := h
    cases h2
  | succ n ih =>
    intro x2 st c H locs ls hW hB_st hF hl h
    rw [fX3_findLast_24] at h
    refine lv_iload_n hx hb dX3_findLast_24 rfl (lv_at hl 2 rfl) ?_
    refine lv_iload_n hx hb dX3_findLast_25 rfl (lv_at hl 1 rfl) ?_
    refine lv_icmp_ge (tgt := 64) hx hb dX3_findLast_26 (by decide) (fun k_2 => ?_) (fun k_2 => ?_)
    · have h := it_t k_2 h
      obtain rfl := Option.some.inj h
      exact k_vret hE hr hlk hW ⟨hB_st, hF⟩ dX3_findLast_64
    · have h := it_f k_2 h
      refine lv_iload_n hx hb dX3_findLast_29 rfl (lv_at hl 2 rfl) ?_
      refine lv_aload_n hx hb dX3_findLast_30 rfl (lv_at hl 0 rfl) ?_
      refine k_get (v := .int (st.2 0)) hE hW hB_st.o hB_st.obj rfl inX3 7 (by decide) q54 rfl dX3_findLast_31 ?_
      refine lv_icmp_ge (tgt := 64) hx hb dX3_findLast_34 (by decide) (fun k_3 => ?_) (fun k_3 => ?_)
      · have h := it_t k_3 h
        obtain rfl := Option.some.inj h
        exact k_vret hE hr hlk hW ⟨hB_st, hF⟩ dX3_findLast_64
      · have h := it_f k_3 h
        refine lv_aload_n hx hb dX3_findLast_37 rfl (lv_at hl 0 rfl) ?_
        refine k_get (v := .ref (ad (b + 1 + 0))) hE hW hB_st.o hB_st.obj rfl inX3 0 (by decide) q37 rfl dX3_findLast_38 ?_
        refine lv_iload_n hx hb dX3_findLast_41 rfl (lv_at hl 2 rfl) ?_
        obtain ⟨g_4, h⟩ := zi_e h
        refine k_iald hE hW (hB_st.memA 0 (Nat.le_of_ble_eq_true rfl)) (hB_st.arr 0 rfl) g_4 dX3_findLast_42 ?_
        refine lv_if_eq (tgt := 58) hx hb dX3_findLast_43 (by decide) (fun k_5 => ?_) (fun k_5 => ?_)
        · have h := it_t k_5 h
          refine lv_iinc (v := (x2 + (1 : Int32))) (lv' := [(2, .int (x2 + (1 : Int32))), (0, .ref (ad b)), (1, .int x1)]) hx hb dX3_findLast_58 hl (k := 2) rfl rfl (by decide) rfl (fun ls hl => ?_)
          refine lv_goto (tgt := 24) hx hb dX3_findLast_61 (by decide) ?_
          exact ih _ _ _ _ _ _ hW hB_st hF (lv_sub hl [1, 2, 0] rfl) h
        · have h := it_f k_5 h
          refine lv_aload_n hx hb dX3_findLast_46 rfl (lv_at hl 0 rfl) ?_
          refine k_get (v := .ref (ad (b + 1 + 6))) hE hW hB_st.o hB_st.obj rfl inX3 6 (by decide) q52 rfl dX3_findLast_47 ?_
          refine lv_aload_n hx hb dX3_findLast_50 rfl (lv_at hl 0 rfl) ?_
          refine k_get (v := .ref (ad (b + 1 + 1))) hE hW hB_st.o hB_st.obj rfl inX3 1 (by decide) q40 rfl dX3_findLast_51 ?_
          refine lv_iload_n hx hb dX3_findLast_54 rfl (lv_at hl 2 rfl) ?_
          obtain ⟨g_6, h⟩ := zi_e h
          refine k_iald hE hW (hB_st.memA 1 (Nat.le_of_ble_eq_true rfl)) (hB_st.arr 1 rfl) g_6 dX3_findLast_55 ?_
          refine lv_iload_n hx hb dX3_findLast_56 rfl (lv_at hl 2 rfl) ?_
          obtain ⟨g_7, h⟩ := zi_e h
          obtain ⟨st_8, est_8, h⟩ := zl_e h
          refine k_iast hE hW (hB_st.memA 6 (Nat.le_of_ble_eq_true rfl)) (hB_st.arr 6 rfl) g_7 dX3_findLast_57 (fun H locs hW => ?_)
          obtain ⟨c, hB_st, hF, hW⟩ : ∃ c', LgB ct J ad c' b st_8 ∧ Fr c0 c' b 8 ∧ HW D J ad c' (aA J ad s.heap.size) s.heap H locs := ⟨_, hB_st.wA (k := 6) rfl est_8, hF.up (by omega) (by omega), hW⟩
          refine lv_iinc (v := (x2 + (1 : Int32))) (lv' := [(2, .int (x2 + (1 : Int32))), (0, .ref (ad b)), (1, .int x1)]) hx hb dX3_findLast_58 hl (k := 2) rfl rfl (by decide) rfl (fun ls hl => ?_)
          refine lv_goto (tgt := 24) hx hb dX3_findLast_61 (by decide) ?_
          exact ih _ _ _ _ _ _ hW hB_st hF (lv_sub hl [1, 2, 0] rfl) h
set_option maxHeartbeats 4000000 in
set_option maxRecDepth 100000 in
theorem wX3_findLast_2 {p : Program} {l : Launch} {e : Env} {s : State} {m : MethodId} {args : Array Value} {below : List Frame} {meth : Method} {cd : Code} {D : va_G} {ct : Nat → ClassId} {J : List Nat} {ad : Nat → Nat} {c0 : CF} {b : Nat} (hE : ME p s m cd args D ct cX3_findLast RX3 3) (hr : meth.sig.returnType = none) (hlk : meth.locks = false) {x1 : Int32} {st9 : CS} : ∀ (n : Nat) (x2 : Int32) (st : CS) (c : CF) (H : Heap) (locs : List Loc) (ls : Array Slot), HW D J ad c (aA J ad s.heap.size) s.heap H locs → LgB ct J ad c b st → Fr c0 c b 8 → lv_has ls 3 [(0, .ref (ad b)), (1, .int x1), (2, .int x2)] → fX3_findLast_2 x1 n x2 st = some st9 → W p l e (rr 0 0) s m args below meth cd H locs 0 0 (MQ below (Qv D J ad s.heap.size (fun c' => LgB ct J ad c' b st9 ∧ Fr c0 c' b 8)) args s 0 0 (aA J ad s.heap.size)) (F0 m 2 ls []) := by
  have hx := hE.1
  have hb := hE.2.1
  intro n
  induction n with
  | zero =>
    intro x2 st c H locs ls hW hB_st hF hl h
    have h2 : (none : Option CS) = some st9 := h
    cases h2
  | succ n ih =>
    intro x2 st c H locs ls hW hB_st hF hl h
    rw [fX3_findLast_2] at h
    refine lv_iload_n hx hb dX3_findLast_2 rfl (lv_at hl 2 rfl) ?_
    refine lv_bipush (v := (26 : Int32)) hx hb dX3_findLast_3 (by decide) ?_
    refine lv_icmp_ge (tgt := 22) hx hb dX3_findLast_5 (by decide) (fun k_1 => ?_) (fun k_1 => ?_)
    · have h := it_t k_1 h
      refine lv_iconst (v := (0 : Int32)) hx hb dX3_findLast_22 (by decide) ?_
      refine lv_istore_n (lv' := [(2, .int (0 : Int32)), (0, .ref (ad b)), (1, .int x1)]) hx hb dX3_findLast_23 rfl hl (by decide) rfl (fun ls hl => ?_)
      exact wX3_findLast_24 hE hr hlk _ _ _ _ _ _ _ hW hB_st hF (lv_sub hl [1, 2, 0] rfl) h
    · have h := it_f k_1 h
      refine lv_aload_n hx hb dX3_findLast_8 rfl (lv_at hl 0 rfl) ?_
      refine k_get (v := .ref (ad (b + 1 + 6))) hE hW hB_st.o hB_st.obj rfl inX3 6 (by decide) q52 rfl dX3_findLast_9 ?_
      refine lv_iload_n hx hb dX3_findLast_12 rfl (lv_at hl 2 rfl) ?_
      refine lv_bipush (v := (-5 : Int32)) hx hb dX3_findLast_13 (by decide) ?_
      obtain ⟨g_9, h⟩ := zi_e h
      obtain ⟨st_10, est_10, h⟩ := zl_e h
      refine k_iast hE hW (hB_st.memA 6 (Nat.le_of_ble_eq_true rfl)) (hB_st.arr 6 rfl) g_9 dX3_findLast_15 (fun H locs hW => ?_)
      obtain ⟨c, hB_st, hF, hW⟩ : ∃ c', LgB ct J ad c' b st_10 ∧ Fr c0 c' b 8 ∧ HW D J ad c' (aA J ad s.heap.size) s.heap H locs := ⟨_, hB_st.wA (k := 6) rfl est_10, hF.up (by omega) (by omega), hW⟩
      refine lv_iinc (v := (x2 + (1 : Int32))) (lv' := [(2, .int (x2 + (1 : Int32))), (0, .ref (ad b)), (1, .int x1)]) hx hb dX3_findLast_16 hl (k := 2) rfl rfl (by decide) rfl (fun ls hl => ?_)
      refine lv_goto (tgt := 2) hx hb dX3_findLast_19 (by decide) ?_
      exact ih _ _ _ _ _ _ hW hB_st hF (lv_sub hl [1, 2, 0] rfl) h
set_option maxHeartbeats 4000000 in
set_option maxRecDepth 100000 in
theorem mX3_findLast {l : Launch} {D : va_G} {ct : Nat → ClassId} {J : List Nat} {ad : Nat → Nat} {c0 : CF} {a1 : Int32} {b : Nat} {st : CS} (hB_st : LgB ct J ad c0 b st) {st9 : CS} (h : fX3_findLast  a1 st = some st9) : Mv l D ct J ad yX3_findLast cX3_findLast 3 none (rr 0 0) [.ref (ad b), .int a1] c0 (fun c' => LgB ct J ad c' b st9 ∧ Fr c0 c' b 8) := by
  refine Mv_of (own := RX3) (by decide) rfl (Nat.le_of_ble_eq_true rfl) (fun p e s m below meth cd hE hr hlk hW ls hl => ?_)
  have hx := hE.1
  have hb := hE.2.1
  have hl : lv_has ls 3 [(0, .ref (ad b)), (1, .int a1)] := hl
  rw [fX3_findLast] at h
  obtain ⟨c, hB_st, hF, hW⟩ : ∃ c', LgB ct J ad c' b st ∧ Fr c0 c' b 8 ∧ HW D J ad c' (aA J ad s.heap.size) s.heap s.heap [] := ⟨c0, hB_st, Fr.rf, hW⟩
  refine lv_iconst (v := (0 : Int32)) hx hb dX3_findLast_0 (by decide) ?_
  refine lv_istore_n (lv' := [(2, .int (0 : Int32)), (0, .ref (ad b)), (1, .int a1)]) hx hb dX3_findLast_1 rfl hl (by decide) rfl (fun ls hl => ?_)
  exact wX3_findLast_2 hE hr hlk _ _ _ _ _ _ _ hW hB_st hF (lv_sub hl [1, 2, 0] rfl) h
set_option maxHeartbeats 4000000 in
set_option maxRecDepth 100000 in
theorem mX3_goesCompacted {l : Launch} {D : va_G} {ct : Nat → ClassId} {J : List Nat} {ad : Nat → Nat} {c0 : CF} {a1 : Int32} {a2 : Int32} {a3 : Int32} {b : Nat} {st : CS} (hB_st : LgB ct J ad c0 b st) {r : Int32} (h : fX3_goesCompacted  a1 a2 a3 st = some r) : Mi l D ct J ad yX3_goesCompacted cX3_goesCompacted 4 (some .boolean) (rr 0 0) [.ref (ad b), .int a1, .int a2, .int a3] c0 r (fun c' => c' = c0) := by
  refine Mi_of (own := RX3) (by decide) rfl (Nat.le_of_ble_eq_true rfl) (fun p e s m below meth cd hE hr hlk hW ls hl => ?_)
  have hx := hE.1
  have hb := hE.2.1
  have hl : lv_has ls 4 [(0, .ref (ad b)), (1, .int a1), (2, .int a2), (3, .int a3)] := hl
  rw [fX3_goesCompacted] at h
  refine lv_aload_n hx hb dX3_goesCompacted_0 rfl (lv_at hl 0 rfl) ?_
  refine k_get (v := .ref (ad (b + 1 + 0))) hE hW hB_st.o hB_st.obj rfl inX3 0 (by decide) q37 rfl dX3_goesCompacted_1 ?_
  refine lv_iload_n hx hb dX3_goesCompacted_4 rfl (lv_at hl 1 rfl) ?_
  obtain ⟨g_1, h⟩ := zi_e h
  refine k_iald hE hW (hB_st.memA 0 (Nat.le_of_ble_eq_true rfl)) (hB_st.arr 0 rfl) g_1 dX3_goesCompacted_5 ?_
  refine lv_if_ne (tgt := 11) hx hb dX3_goesCompacted_6 (by decide) (fun k_2 => ?_) (fun k_2 => ?_)
  · have h := it_f k_2 h
    refine lv_aload_n hx hb dX3_goesCompacted_11 rfl (lv_at hl 0 rfl) ?_
    refine k_get (v := .ref (ad (b + 1 + 6))) hE hW hB_st.o hB_st.obj rfl inX3 6 (by decide) q52 rfl dX3_goesCompacted_12 ?_
    refine lv_aload_n hx hb dX3_goesCompacted_15 rfl (lv_at hl 0 rfl) ?_
    refine k_get (v := .ref (ad (b + 1 + 1))) hE hW hB_st.o hB_st.obj rfl inX3 1 (by decide) q40 rfl dX3_goesCompacted_16 ?_
    refine lv_iload_n hx hb dX3_goesCompacted_19 rfl (lv_at hl 1 rfl) ?_
    obtain ⟨g_3, h⟩ := zi_e h
    refine k_iald hE hW (hB_st.memA 1 (Nat.le_of_ble_eq_true rfl)) (hB_st.arr 1 rfl) g_3 dX3_goesCompacted_20 ?_
    obtain ⟨g_4, h⟩ := zi_e h
    refine k_iald hE hW (hB_st.memA 6 (Nat.le_of_ble_eq_true rfl)) (hB_st.arr 6 rfl) g_4 dX3_goesCompacted_21 ?_
    refine lv_iload_n hx hb dX3_goesCompacted_22 rfl (lv_at hl 1 rfl) ?_
    refine lv_icmp_gt (tgt := 48) hx hb dX3_goesCompacted_23 (by decide) (fun k_5 => ?_) (fun k_5 => ?_)
    · have h := it_t k_5 h
      refine lv_iconst (v := (1 : Int32)) hx hb dX3_goesCompacted_48 (by decide) ?_
      refine lv_goto (tgt := 53) hx hb dX3_goesCompacted_49 (by decide) ?_
      obtain rfl := Option.some.inj h
      exact k_zret hE hr hlk hW rfl rfl rfl dX3_goesCompacted_53
    · have h := it_f k_5 h
      refine lv_aload_n hx hb dX3_goesCompacted_26 rfl (lv_at hl 0 rfl) ?_
      refine k_get (v := .ref (ad (b + 1 + 0))) hE hW hB_st.o hB_st.obj rfl inX3 0 (by decide) q37 rfl dX3_goesCompacted_27 ?_
      refine lv_iload_n hx hb dX3_goesCompacted_30 rfl (lv_at hl 1 rfl) ?_
      obtain ⟨g_6, h⟩ := zi_e h
      refine k_iald hE hW (hB_st.memA 0 (Nat.le_of_ble_eq_true rfl)) (hB_st.arr 0 rfl) g_6 dX3_goesCompacted_31 ?_
      refine lv_iconst (v := (2 : Int32)) hx hb dX3_goesCompacted_32 (by decide) ?_
      refine lv_icmp_ne (tgt := 52) hx hb dX3_goesCompacted_33 (by decide) (fun k_7 => ?_) (fun k_7 => ?_)
      · have h := it_f k_7 h
        refine lv_iconst (v := (0 : Int32)) hx hb dX3_goesCompacted_52 (by decide) ?_
        obtain rfl := Option.some.inj h
        exact k_zret hE hr hlk hW rfl rfl rfl dX3_goesCompacted_53
      · have h := it_t k_7 h
        refine lv_iload_n hx hb dX3_goesCompacted_36 rfl (lv_at hl 2 rfl) ?_
        refine lv_aload_n hx hb dX3_goesCompacted_37 rfl (lv_at hl 0 rfl) ?_
        refine k_get (v := .ref (ad (b + 1 + 2))) hE hW hB_st.o hB_st.obj rfl inX3 2 (by decide) q43 rfl dX3_goesCompacted_38 ?_
        refine lv_iload_n hx hb dX3_goesCompacted_41 rfl (lv_at hl 1 rfl) ?_
        obtain ⟨g_8, h⟩ := zi_e h
        refine k_iald hE hW (hB_st.memA 2 (Nat.le_of_ble_eq_true rfl)) (hB_st.arr 2 rfl) g_8 dX3_goesCompacted_42 ?_
        refine lv_isub hx hb dX3_goesCompacted_43 ?_
        refine lv_iload_n hx hb dX3_goesCompacted_44 rfl (lv_at hl 3 rfl) ?_
        refine lv_icmp_lt (tgt := 52) hx hb dX3_goesCompacted_45 (by decide) (fun k_9 => ?_) (fun k_9 => ?_)
        · have h := it_t k_9 h
          refine lv_iconst (v := (0 : Int32)) hx hb dX3_goesCompacted_52 (by decide) ?_
          obtain rfl := Option.some.inj h
          exact k_zret hE hr hlk hW rfl rfl rfl dX3_goesCompacted_53
        · have h := it_f k_9 h
          refine lv_iconst (v := (1 : Int32)) hx hb dX3_goesCompacted_48 (by decide) ?_
          refine lv_goto (tgt := 53) hx hb dX3_goesCompacted_49 (by decide) ?_
          obtain rfl := Option.some.inj h
          exact k_zret hE hr hlk hW rfl rfl rfl dX3_goesCompacted_53
  · have h := it_t k_2 h
    refine lv_iconst (v := (0 : Int32)) hx hb dX3_goesCompacted_9 (by decide) ?_
    obtain rfl := Option.some.inj h
    exact k_zret hE hr hlk hW rfl rfl rfl dX3_goesCompacted_10
set_option maxHeartbeats 4000000 in
set_option maxRecDepth 100000 in
theorem mX3_fitTogether {l : Launch} {D : va_G} {ct : Nat → ClassId} {J : List Nat} {ad : Nat → Nat} {c0 : CF} {a1 : Int32} {b : Nat} {st : CS} (hB_st : LgB ct J ad c0 b st) {r : Int32} (h : fX3_fitTogether  a1 st = some r) : Mi l D ct J ad yX3_fitTogether cX3_fitTogether 4 (some .boolean) (rr 2 44) [.ref (ad b), .int a1] c0 r (fun c' => c' = c0) := by
  refine Mi_of (own := RX3) (by decide) rfl (Nat.le_of_ble_eq_true rfl) (fun p e s m below meth cd hE hr hlk hW ls hl => ?_)
  have hx := hE.1
  have hb := hE.2.1
  have hl : lv_has ls 4 [(0, .ref (ad b)), (1, .int a1)] := hl
  rw [fX3_fitTogether] at h
  refine lv_aload_n hx hb dX3_fitTogether_0 rfl (lv_at hl 0 rfl) ?_
  refine k_get (v := .ref (ad (b + 1 + 5))) hE hW hB_st.o hB_st.obj rfl inX3 5 (by decide) q50 rfl dX3_fitTogether_1 ?_
  refine lv_iload_n hx hb dX3_fitTogether_4 rfl (lv_at hl 1 rfl) ?_
  obtain ⟨g_1, h⟩ := zi_e h
  refine k_iald hE hW (hB_st.memA 5 (Nat.le_of_ble_eq_true rfl)) (hB_st.arr 5 rfl) g_1 dX3_fitTogether_5 ?_
  refine lv_topi (fun x_2 ex_2 => ?_)
  have h := zl_n h ex_2
  refine lv_istore_n (lv' := [(2, .int x_2), (0, .ref (ad b)), (1, .int a1)]) hx hb dX3_fitTogether_6 rfl hl (by decide) rfl (fun ls hl => ?_)
  refine lv_aload_n hx hb dX3_fitTogether_7 rfl (lv_at hl 1 rfl) ?_
  refine lv_iload_n hx hb dX3_fitTogether_8 rfl (lv_at hl 2 rfl) ?_
  refine lv_iconst (v := (1 : Int32)) hx hb dX3_fitTogether_9 (by decide) ?_
  refine lv_iadd hx hb dX3_fitTogether_10 ?_
  obtain ⟨r_3, hr_3, h⟩ := zb_e h
  refine k_callVi (rest := []) hE hW hl.1 (mX3_segmentEnd hB_st hr_3) hB_st.o hB_st.obj rfl q361 q363 qs14 q3 q364 hd_X3_segmentEnd ⟨Nat.le_of_ble_eq_true rfl, Nat.le_of_ble_eq_true rfl⟩ ⟨rfl, rfl⟩ rfl (Nat.le_of_ble_eq_true rfl) dX3_fitTogether_11 ⟨Nat.zero_le _, Nat.zero_le _⟩ (fun c1 H locs hP hW => ?_)
  rw [hP] at hW
  refine lv_istore_n (lv' := [(3, .int r_3), (2, .int x_2), (0, .ref (ad b)), (1, .int a1)]) hx hb dX3_fitTogether_14 rfl hl (by decide) rfl (fun ls hl => ?_)
  refine lv_aload_n hx hb dX3_fitTogether_15 rfl (lv_at hl 2 rfl) ?_
  refine lv_iload_n hx hb dX3_fitTogether_16 rfl (lv_at hl 1 rfl) ?_
  refine lv_iload_n hx hb dX3_fitTogether_17 rfl (lv_at hl 0 rfl) ?_
  obtain ⟨r_4, hr_4, h⟩ := zb_e h
  refine k_callVi (rest := []) hE hW hl.1 (mX3_sizesIn hB_st hr_4) hB_st.o hB_st.obj rfl q305 q307 qs4 q3 q308 hd_X3_sizesIn ⟨Nat.le_of_ble_eq_true rfl, Nat.le_of_ble_eq_true rfl⟩ ⟨rfl, rfl⟩ rfl (Nat.le_of_ble_eq_true rfl) dX3_fitTogether_18 ⟨Nat.zero_le _, Nat.zero_le _⟩ (fun c1 H locs hP hW => ?_)
  rw [hP] at hW
  refine lv_bipush (v := (20 : Int32)) hx hb dX3_fitTogether_21 (by decide) ?_
  refine lv_icmp_gt (tgt := 41) hx hb dX3_fitTogether_23 (by decide) (fun k_5 => ?_) (fun k_5 => ?_)
  · have h := it_t k_5 h
    refine lv_iconst (v := (0 : Int32)) hx hb dX3_fitTogether_41 (by decide) ?_
    obtain rfl := Option.some.inj h
    exact k_zret hE hr hlk hW rfl rfl rfl dX3_fitTogether_42
  · have h := it_f k_5 h
    refine lv_aload_n hx hb dX3_fitTogether_26 rfl (lv_at hl 2 rfl) ?_
    refine lv_iload_n hx hb dX3_fitTogether_27 rfl (lv_at hl 1 rfl) ?_
    refine lv_iload_n hx hb dX3_fitTogether_28 rfl (lv_at hl 0 rfl) ?_
    obtain ⟨r_6, hr_6, h⟩ := zb_e h
    refine k_callVi (rest := []) hE hW hl.1 (mX3_recordsIn hB_st hr_6) hB_st.o hB_st.obj rfl q300 q302 qs3 q3 q303 hd_X3_recordsIn ⟨Nat.le_of_ble_eq_true rfl, Nat.le_of_ble_eq_true rfl⟩ ⟨rfl, rfl⟩ rfl (Nat.le_of_ble_eq_true rfl) dX3_fitTogether_29 ⟨Nat.zero_le _, Nat.zero_le _⟩ (fun c1 H locs hP hW => ?_)
    rw [hP] at hW
    refine lv_bipush (v := (8 : Int32)) hx hb dX3_fitTogether_32 (by decide) ?_
    refine lv_icmp_gt (tgt := 41) hx hb dX3_fitTogether_34 (by decide) (fun k_7 => ?_) (fun k_7 => ?_)
    · have h := it_t k_7 h
      refine lv_iconst (v := (0 : Int32)) hx hb dX3_fitTogether_41 (by decide) ?_
      obtain rfl := Option.some.inj h
      exact k_zret hE hr hlk hW rfl rfl rfl dX3_fitTogether_42
    · have h := it_f k_7 h
      refine lv_iconst (v := (1 : Int32)) hx hb dX3_fitTogether_37 (by decide) ?_
      refine lv_goto (tgt := 42) hx hb dX3_fitTogether_38 (by decide) ?_
      obtain rfl := Option.some.inj h
      exact k_zret hE hr hlk hW rfl rfl rfl dX3_fitTogether_42
set_option maxHeartbeats 4000000 in
set_option maxRecDepth 100000 in
theorem wX3_dropBases_12 {p : Program} {l : Launch} {e : Env} {s : State} {m : MethodId} {args : Array Value} {below : List Frame} {meth : Method} {cd : Code} {D : va_G} {ct : Nat → ClassId} {J : List Nat} {ad : Nat → Nat} {c0 : CF} {b : Nat} (hE : ME p s m cd args D ct cX3_dropBases RX3 4) (hr : meth.sig.returnType = none) (hlk : meth.locks = false) {x2 : Int32} {st9 : CS} : ∀ (n : Nat) (x3 : Int32) (st : CS) (c : CF) (H : Heap) (locs : List Loc) (ls : Array Slot), HW D J ad c (aA J ad s.heap.size) s.heap H locs → LgB ct J ad c b st → Fr c0 c b 8 → lv_has ls 4 [(0, .ref (ad b)), (2, .int x2), (3, .int x3)] → fX3_dropBases_12 x2 n x3 st = some st9 → W p l e (rr 0 0) s m args below meth cd H locs 0 0 (MQ below (Qv D J ad s.heap.size (fun c' => LgB ct J ad c' b st9 ∧ Fr c0 c' b 8)) args s 0 0 (aA J ad s.heap.size)) (F0 m 12 ls []) := by
  have hx := hE.1
  have hb := hE.2.1
  intro n
  induction n with
  | zero =>
    intro x3 st c H locs ls hW hB_st hF hl h
    have h2 : (none : Option CS) = some st9 := h
    cases h2
  | succ n ih =>
    intro x3 st c H locs ls hW hB_st hF hl h
    rw [fX3_dropBases_12] at h
    refine lv_iload_n hx hb dX3_dropBases_12 rfl (lv_at hl 2 rfl) ?_
    refine lv_aload_n hx hb dX3_dropBases_13 rfl (lv_at hl 0 rfl) ?_
    refine k_get (v := .int (st.2 1)) hE hW hB_st.o hB_st.obj rfl inX3 8 (by decide) q58 rfl dX3_dropBases_14 ?_
    refine lv_icmp_ge (tgt := 40) hx hb dX3_dropBases_17 (by decide) (fun k_2 => ?_) (fun k_2 => ?_)
    · have h := it_t k_2 h
      obtain rfl := Option.some.inj h
      exact k_vret hE hr hlk hW ⟨hB_st, hF⟩ dX3_dropBases_40
    · have h := it_f k_2 h
      refine lv_aload_n hx hb dX3_dropBases_20 rfl (lv_at hl 0 rfl) ?_
      refine k_get (v := .ref (ad (b + 1 + 5))) hE hW hB_st.o hB_st.obj rfl inX3 5 (by decide) q50 rfl dX3_dropBases_21 ?_
      refine lv_iload_n hx hb dX3_dropBases_24 rfl (lv_at hl 2 rfl) ?_
      refine lv_aload_n hx hb dX3_dropBases_25 rfl (lv_at hl 0 rfl) ?_
      refine k_get (v := .ref (ad (b + 1 + 5))) hE hW hB_st.o hB_st.obj rfl inX3 5 (by decide) q50 rfl dX3_dropBases_26 ?_
      refine lv_iload_n hx hb dX3_dropBases_29 rfl (lv_at hl 2 rfl) ?_
      refine lv_iload_n hx hb dX3_dropBases_30 rfl (lv_at hl 1 rfl) ?_
      refine lv_iadd hx hb dX3_dropBases_31 ?_
      obtain ⟨g_3, h⟩ := zi_e h
      refine k_iald hE hW (hB_st.memA 5 (Nat.le_of_ble_eq_true rfl)) (hB_st.arr 5 rfl) g_3 dX3_dropBases_32 ?_
      obtain ⟨g_4, h⟩ := zi_e h
      obtain ⟨st_5, est_5, h⟩ := zl_e h
      refine k_iast hE hW (hB_st.memA 5 (Nat.le_of_ble_eq_true rfl)) (hB_st.arr 5 rfl) g_4 dX3_dropBases_33 (fun H locs hW => ?_)
      obtain ⟨c, hB_st, hF, hW⟩ : ∃ c', LgB ct J ad c' b st_5 ∧ Fr c0 c' b 8 ∧ HW D J ad c' (aA J ad s.heap.size) s.heap H locs := ⟨_, hB_st.wA (k := 5) rfl est_5, hF.up (by omega) (by omega), hW⟩
      refine lv_iinc (v := (x3 + (1 : Int32))) (lv' := [(3, .int (x3 + (1 : Int32))), (0, .ref (ad b)), (2, .int x2)]) hx hb dX3_dropBases_34 hl (k := 2) rfl rfl (by decide) rfl (fun ls hl => ?_)
      refine lv_goto (tgt := 12) hx hb dX3_dropBases_37 (by decide) ?_
      exact ih _ _ _ _ _ _ hW hB_st hF (lv_sub hl [1, 2, 0] rfl) h
set_option maxHeartbeats 4000000 in
set_option maxRecDepth 100000 in
theorem mX3_dropBases {l : Launch} {D : va_G} {ct : Nat → ClassId} {J : List Nat} {ad : Nat → Nat} {c0 : CF} {a1 : Int32} {a2 : Int32} {b : Nat} {st : CS} (hB_st : LgB ct J ad c0 b st) {st9 : CS} (h : fX3_dropBases  a1 a2 st = some st9) : Mv l D ct J ad yX3_dropBases cX3_dropBases 4 none (rr 0 0) [.ref (ad b), .int a1, .int a2] c0 (fun c' => LgB ct J ad c' b st9 ∧ Fr c0 c' b 8) := by
  refine Mv_of (own := RX3) (by decide) rfl (Nat.le_of_ble_eq_true rfl) (fun p e s m below meth cd hE hr hlk hW ls hl => ?_)
  have hx := hE.1
  have hb := hE.2.1
  have hl : lv_has ls 4 [(0, .ref (ad b)), (1, .int a1), (2, .int a2)] := hl
  rw [fX3_dropBases] at h
  obtain ⟨c, hB_st, hF, hW⟩ : ∃ c', LgB ct J ad c' b st ∧ Fr c0 c' b 8 ∧ HW D J ad c' (aA J ad s.heap.size) s.heap s.heap [] := ⟨c0, hB_st, Fr.rf, hW⟩
  refine lv_aload_n hx hb dX3_dropBases_0 rfl (lv_at hl 0 rfl) ?_
  refine lv_dup hx hb dX3_dropBases_1 rfl ?_
  refine k_get (v := .int (st.2 1)) hE hW hB_st.o hB_st.obj rfl inX3 8 (by decide) q58 rfl dX3_dropBases_2 ?_
  refine lv_iload_n hx hb dX3_dropBases_5 rfl (lv_at hl 2 rfl) ?_
  refine lv_isub hx hb dX3_dropBases_6 ?_
  obtain ⟨st_1, est_1, h⟩ := zl_e h
  refine k_put hE hW hB_st.o hB_st.obj rfl inX3 tyX3 tyX3_ok nmX3 8 (by decide) q58 rfl rfl rfl (Nat.le_of_ble_eq_true rfl) dX3_dropBases_7 (fun H locs hW => ?_)
  obtain ⟨c, hB_st, hF, hW⟩ : ∃ c', LgB ct J ad c' b st_1 ∧ Fr c0 c' b 8 ∧ HW D J ad c' (aA J ad s.heap.size) s.heap H locs := ⟨_, hB_st.wF (k := 8) (j := 1) rfl est_1, hF.up (by omega) (by omega), hW⟩
  refine lv_iload_n hx hb dX3_dropBases_10 rfl (lv_at hl 1 rfl) ?_
  refine lv_istore_n (lv' := [(3, .int a1), (0, .ref (ad b)), (1, .int a1), (2, .int a2)]) hx hb dX3_dropBases_11 rfl hl (by decide) rfl (fun ls hl => ?_)
  exact wX3_dropBases_12 hE hr hlk _ _ _ _ _ _ _ hW hB_st hF (lv_sub hl [1, 3, 0] rfl) h
set_option maxHeartbeats 4000000 in
set_option maxRecDepth 100000 in
theorem wX3_joinSegments_7 {p : Program} {l : Launch} {e : Env} {s : State} {m : MethodId} {args : Array Value} {below : List Frame} {meth : Method} {cd : Code} {D : va_G} {ct : Nat → ClassId} {J : List Nat} {ad : Nat → Nat} {c0 : CF} {b : Nat} (hE : ME p s m cd args D ct cX3_joinSegments RX3 3) (hr : meth.sig.returnType = none) (hlk : meth.locks = false) {st9 : CS} : ∀ (n : Nat) (x1 : Int32) (x2 : Int32) (st : CS) (c : CF) (H : Heap) (locs : List Loc) (ls : Array Slot), HW D J ad c (aA J ad s.heap.size) s.heap H locs → LgB ct J ad c b st → Fr c0 c b 8 → lv_has ls 3 [(0, .ref (ad b)), (1, .int x1), (2, .int x2)] → fX3_joinSegments_7 n x1 x2 st = some st9 → W p l e (rr 3 67) s m args below meth cd H locs 0 0 (MQ below (Qv D J ad s.heap.size (fun c' => LgB ct J ad c' b st9 ∧ Fr c0 c' b 8)) args s 0 0 (aA J ad s.heap.size)) (F0 m 7 ls []) := by
  have hx := hE.1
  have hb := hE.2.1
  intro n
  induction n with
  | zero =>
    intro x1 x2 st c H locs ls hW hB_st hF hl h
    have h2 : (none : Option CS) = some st9 := h
    cases h2
  | succ n ih =>
    intro x1 x2 st c H locs ls hW hB_st hF hl h
    rw [fX3_joinSegments_7] at h
    refine lv_iload_n hx hb dX3_joinSegments_7 rfl (lv_at hl 2 rfl) ?_
    refine lv_if_le (tgt := 49) hx hb dX3_joinSegments_8 (by decide) (fun k_1 => ?_) (fun k_1 => ?_)
    · have h := it_t k_1 h
      obtain rfl := Option.some.inj h
      exact k_vret hE hr hlk hW ⟨hB_st, hF⟩ dX3_joinSegments_49
    · have h := it_f k_1 h
      refine lv_aload_n hx hb dX3_joinSegments_11 rfl (lv_at hl 0 rfl) ?_
      refine lv_iload_n hx hb dX3_joinSegments_12 rfl (lv_at hl 1 rfl) ?_
      refine lv_iconst (v := (1 : Int32)) hx hb dX3_joinSegments_13 (by decide) ?_
      refine lv_iadd hx hb dX3_joinSegments_14 ?_
      obtain ⟨r_2, hr_2, h⟩ := zb_e h
      refine k_callVi (rest := []) hE hW hl.1 (mX3_isClosed hB_st hr_2) hB_st.o hB_st.obj rfl q353 q355 qs12 q3 q356 hd_X3_isClosed ⟨Nat.le_of_ble_eq_true rfl, Nat.le_of_ble_eq_true rfl⟩ ⟨rfl, rfl⟩ rfl (Nat.le_of_ble_eq_true rfl) dX3_joinSegments_15 ⟨Nat.zero_le _, Nat.zero_le _⟩ (fun c1 H locs hP hW => ?_)
      rw [hP] at hW
      refine lv_if_eq (tgt := 49) hx hb dX3_joinSegments_18 (by decide) (fun k_3 => ?_) (fun k_3 => ?_)
      · have h := it_t k_3 h
        obtain rfl := Option.some.inj h
        exact k_vret hE hr hlk hW ⟨hB_st, hF⟩ dX3_joinSegments_49
      · have h := it_f k_3 h
        refine lv_aload_n hx hb dX3_joinSegments_21 rfl (lv_at hl 0 rfl) ?_
        refine lv_iload_n hx hb dX3_joinSegments_22 rfl (lv_at hl 1 rfl) ?_
        obtain ⟨r_4, hr_4, h⟩ := zb_e h
        refine k_callVi (rest := []) hE hW hl.1 (mX3_fitTogether hB_st hr_4) hB_st.o hB_st.obj rfl q357 q359 qs13 q3 q360 hd_X3_fitTogether ⟨Nat.le_of_ble_eq_true rfl, Nat.le_of_ble_eq_true rfl⟩ ⟨rfl, rfl⟩ rfl (Nat.le_of_ble_eq_true rfl) dX3_joinSegments_23 ⟨Nat.zero_le _, Nat.zero_le _⟩ (fun c1 H locs hP hW => ?_)
        rw [hP] at hW
        refine lv_if_eq (tgt := 40) hx hb dX3_joinSegments_26 (by decide) (fun k_5 => ?_) (fun k_5 => ?_)
        · have h := it_t k_5 h
          refine lv_iinc (v := (x1 + (1 : Int32))) (lv' := [(1, .int (x1 + (1 : Int32))), (0, .ref (ad b)), (2, .int x2)]) hx hb dX3_joinSegments_40 hl (k := 1) rfl rfl (by decide) rfl (fun ls hl => ?_)
          refine lv_iinc (v := (x2 + (-1 : Int32))) (lv' := [(2, .int (x2 + (-1 : Int32))), (1, .int (x1 + (1 : Int32))), (0, .ref (ad b))]) hx hb dX3_joinSegments_43 hl (k := 2) rfl rfl (by decide) rfl (fun ls hl => ?_)
          refine lv_goto (tgt := 7) hx hb dX3_joinSegments_46 (by decide) ?_
          exact ih _ _ _ _ _ _ _ hW hB_st hF (lv_sub hl [2, 1, 0] rfl) h
        · have h := it_f k_5 h
          refine lv_aload_n hx hb dX3_joinSegments_29 rfl (lv_at hl 0 rfl) ?_
          refine lv_iload_n hx hb dX3_joinSegments_30 rfl (lv_at hl 1 rfl) ?_
          refine lv_iconst (v := (1 : Int32)) hx hb dX3_joinSegments_31 (by decide) ?_
          refine lv_iadd hx hb dX3_joinSegments_32 ?_
          refine lv_iconst (v := (1 : Int32)) hx hb dX3_joinSegments_33 (by decide) ?_
          obtain ⟨st_6, hst_6, h⟩ := zb_e h
          refine k_callVv (rest := []) hE hW hl.1 (mX3_dropBases hB_st hst_6) hB_st.o hB_st.obj rfl q365 q367 qs15 q3 q368 hd_X3_dropBases ⟨Nat.le_of_ble_eq_true rfl, Nat.le_of_ble_eq_true rfl⟩ ⟨rfl, rfl⟩ rfl (Nat.le_of_ble_eq_true rfl) dX3_joinSegments_34 ⟨Nat.zero_le _, Nat.zero_le _⟩ (fun c1 H locs hP hW => ?_)
          obtain ⟨c, hB_st, hF, hW⟩ : ∃ c', LgB ct J ad c' b st_6 ∧ Fr c0 c' b 8 ∧ HW D J ad c' (aA J ad s.heap.size) s.heap H locs := ⟨c1, hP.1, hF.trans hP.2, hW⟩
          refine lv_goto (tgt := 43) hx hb dX3_joinSegments_37 (by decide) ?_
          refine lv_iinc (v := (x2 + (-1 : Int32))) (lv' := [(2, .int (x2 + (-1 : Int32))), (0, .ref (ad b)), (1, .int x1)]) hx hb dX3_joinSegments_43 hl (k := 2) rfl rfl (by decide) rfl (fun ls hl => ?_)
          refine lv_goto (tgt := 7) hx hb dX3_joinSegments_46 (by decide) ?_
          exact ih _ _ _ _ _ _ _ hW hB_st hF (lv_sub hl [1, 2, 0] rfl) h
set_option maxHeartbeats 4000000 in
set_option maxRecDepth 100000 in
theorem mX3_joinSegments {l : Launch} {D : va_G} {ct : Nat → ClassId} {J : List Nat} {ad : Nat → Nat} {c0 : CF} {b : Nat} {st : CS} (hB_st : LgB ct J ad c0 b st) {st9 : CS} (h : fX3_joinSegments   st = some st9) : Mv l D ct J ad yX3_joinSegments cX3_joinSegments 3 none (rr 3 67) [.ref (ad b)] c0 (fun c' => LgB ct J ad c' b st9 ∧ Fr c0 c' b 8) := by
  refine Mv_of (own := RX3) (by decide) rfl (Nat.le_of_ble_eq_true rfl) (fun p e s m below meth cd hE hr hlk hW ls hl => ?_)
  have hx := hE.1
  have hb := hE.2.1
  have hl : lv_has ls 3 [(0, .ref (ad b))] := hl
  rw [fX3_joinSegments] at h
  obtain ⟨c, hB_st, hF, hW⟩ : ∃ c', LgB ct J ad c' b st ∧ Fr c0 c' b 8 ∧ HW D J ad c' (aA J ad s.heap.size) s.heap s.heap [] := ⟨c0, hB_st, Fr.rf, hW⟩
  refine lv_iconst (v := (0 : Int32)) hx hb dX3_joinSegments_0 (by decide) ?_
  refine lv_istore_n (lv' := [(1, .int (0 : Int32)), (0, .ref (ad b))]) hx hb dX3_joinSegments_1 rfl hl (by decide) rfl (fun ls hl => ?_)
  refine lv_aload_n hx hb dX3_joinSegments_2 rfl (lv_at hl 1 rfl) ?_
  refine k_get (v := .int (st.2 1)) hE hW hB_st.o hB_st.obj rfl inX3 8 (by decide) q58 rfl dX3_joinSegments_3 ?_
  refine lv_istore_n (lv' := [(2, .int (st.2 1)), (1, .int (0 : Int32)), (0, .ref (ad b))]) hx hb dX3_joinSegments_6 rfl hl (by decide) rfl (fun ls hl => ?_)
  exact wX3_joinSegments_7 hE hr hlk _ _ _ _ _ _ _ _ hW hB_st hF (lv_sub hl [2, 1, 0] rfl) h
set_option maxHeartbeats 4000000 in
set_option maxRecDepth 100000 in
theorem wX3_compacted_13 {p : Program} {l : Launch} {e : Env} {s : State} {m : MethodId} {args : Array Value} {below : List Frame} {meth : Method} {cd : Code} {D : va_G} {ct : Nat → ClassId} {J : List Nat} {ad : Nat → Nat} {c0 : CF} {b : Nat} (hE : ME p s m cd args D ct cX3_compacted RX3 5) (hr : meth.sig.returnType = (some .int)) (hlk : meth.locks = false) {x1 : Int32} {x2 : Int32} {r : Int32} {st9 : CS} : ∀ (n : Nat) (x3 : Int32) (x4 : Int32) (st : CS) (c : CF) (H : Heap) (locs : List Loc) (ls : Array Slot), HW D J ad c (aA J ad s.heap.size) s.heap H locs → LgB ct J ad c b st → Fr c0 c b 8 → lv_has ls 5 [(0, .ref (ad b)), (1, .int x1), (2, .int x2), (3, .int x3), (4, .int x4)] → fX3_compacted_13 x1 x2 n x3 x4 st = some (r, st9) → W p l e (rr 4 89) s m args below meth cd H locs 0 0 (MQ below (Qi D J ad s.heap.size r (fun c' => LgB ct J ad c' b st9 ∧ Fr c0 c' b 8)) args s 0 0 (aA J ad s.heap.size)) (F0 m 13 ls []) := by
  have hx := hE.1
  have hb := hE.2.1
  intro n
  induction n with
  | zero =>
    intro x3 x4 st c H locs ls hW hB_st hF hl h
    have h2 : (none : Option (Int32 × CS)) = some (r, st9) := h
    cases h2
  | succ n ih =>
    intro x3 x4 st c H locs ls hW hB_st hF hl h
    rw [fX3_compacted_13] at h
    refine lv_iload hx hb dX3_compacted_13 (lv_at hl 4 rfl) ?_
    refine lv_aload_n hx hb dX3_compacted_15 rfl (lv_at hl 0 rfl) ?_
    refine k_get (v := .ref (ad (b + 1 + 5))) hE hW hB_st.o hB_st.obj rfl inX3 5 (by decide) q50 rfl dX3_compacted_16 ?_
    refine lv_aload_n hx hb dX3_compacted_19 rfl (lv_at hl 0 rfl) ?_
    refine k_get (v := .int (st.2 1)) hE hW hB_st.o hB_st.obj rfl inX3 8 (by decide) q58 rfl dX3_compacted_20 ?_
    refine lv_iconst (v := (1 : Int32)) hx hb dX3_compacted_23 (by decide) ?_
    refine lv_isub hx hb dX3_compacted_24 ?_
    obtain ⟨g_2, h⟩ := zi_e h
    refine k_iald hE hW (hB_st.memA 5 (Nat.le_of_ble_eq_true rfl)) (hB_st.arr 5 rfl) g_2 dX3_compacted_25 ?_
    refine lv_icmp_ge (tgt := 57) hx hb dX3_compacted_26 (by decide) (fun k_3 => ?_) (fun k_3 => ?_)
    · have h := it_t k_3 h
      refine lv_aload_n hx hb dX3_compacted_57 rfl (lv_at hl 0 rfl) ?_
      obtain ⟨st_4, hst_4, h⟩ := zb_e h
      refine k_callVv (rest := []) hE hW hl.1 (mX3_joinSegments hB_st hst_4) hB_st.o hB_st.obj rfl q349 q351 qs11 q3 q352 hd_X3_joinSegments ⟨Nat.le_of_ble_eq_true rfl, Nat.le_of_ble_eq_true rfl⟩ ⟨rfl, rfl⟩ rfl (Nat.le_of_ble_eq_true rfl) dX3_compacted_58 ⟨Nat.zero_le _, Nat.zero_le _⟩ (fun c1 H locs hP hW => ?_)
      obtain ⟨c, hB_st, hF, hW⟩ : ∃ c', LgB ct J ad c' b st_4 ∧ Fr c0 c' b 8 ∧ HW D J ad c' (aA J ad s.heap.size) s.heap H locs := ⟨c1, hP.1, hF.trans hP.2, hW⟩
      refine lv_iload_n hx hb dX3_compacted_61 rfl (lv_at hl 3 rfl) ?_
      obtain ⟨rfl, rfl⟩ := Prod.mk.inj (Option.some.inj h)
      exact k_iret hE hr hlk hW ⟨hB_st, hF⟩ rfl dX3_compacted_62
    · have h := it_f k_3 h
      refine lv_aload_n hx hb dX3_compacted_29 rfl (lv_at hl 0 rfl) ?_
      refine lv_iload hx hb dX3_compacted_30 (lv_at hl 4 rfl) ?_
      refine lv_iload_n hx hb dX3_compacted_32 rfl (lv_at hl 1 rfl) ?_
      refine lv_iload_n hx hb dX3_compacted_33 rfl (lv_at hl 2 rfl) ?_
      obtain ⟨r_5, hr_5, h⟩ := zb_e h
      refine k_callVi (rest := []) hE hW hl.1 (mX3_goesCompacted hB_st hr_5) hB_st.o hB_st.obj rfl q345 q347 qs10 q3 q348 hd_X3_goesCompacted ⟨Nat.le_of_ble_eq_true rfl, Nat.le_of_ble_eq_true rfl⟩ ⟨rfl, rfl⟩ rfl (Nat.le_of_ble_eq_true rfl) dX3_compacted_34 ⟨Nat.zero_le _, Nat.zero_le _⟩ (fun c1 H locs hP hW => ?_)
      rw [hP] at hW
      refine lv_if_eq (tgt := 51) hx hb dX3_compacted_37 (by decide) (fun k_6 => ?_) (fun k_6 => ?_)
      · have h := it_t k_6 h
        refine lv_iinc (v := (x4 + (1 : Int32))) (lv' := [(4, .int (x4 + (1 : Int32))), (0, .ref (ad b)), (1, .int x1), (2, .int x2), (3, .int x3)]) hx hb dX3_compacted_51 hl (k := 4) rfl rfl (by decide) rfl (fun ls hl => ?_)
        refine lv_goto (tgt := 13) hx hb dX3_compacted_54 (by decide) ?_
        exact ih _ _ _ _ _ _ _ hW hB_st hF (lv_sub hl [1, 2, 3, 4, 0] rfl) h
      · have h := it_f k_6 h
        refine lv_aload_n hx hb dX3_compacted_40 rfl (lv_at hl 0 rfl) ?_
        refine k_get (v := .ref (ad (b + 1 + 0))) hE hW hB_st.o hB_st.obj rfl inX3 0 (by decide) q37 rfl dX3_compacted_41 ?_
        refine lv_iload hx hb dX3_compacted_44 (lv_at hl 4 rfl) ?_
        refine lv_iconst (v := (0 : Int32)) hx hb dX3_compacted_46 (by decide) ?_
        obtain ⟨g_7, h⟩ := zi_e h
        obtain ⟨st_8, est_8, h⟩ := zl_e h
        refine k_iast hE hW (hB_st.memA 0 (Nat.le_of_ble_eq_true rfl)) (hB_st.arr 0 rfl) g_7 dX3_compacted_47 (fun H locs hW => ?_)
        obtain ⟨c, hB_st, hF, hW⟩ : ∃ c', LgB ct J ad c' b st_8 ∧ Fr c0 c' b 8 ∧ HW D J ad c' (aA J ad s.heap.size) s.heap H locs := ⟨_, hB_st.wA (k := 0) rfl est_8, hF.up (by omega) (by omega), hW⟩
        refine lv_iinc (v := (x3 + (1 : Int32))) (lv' := [(3, .int (x3 + (1 : Int32))), (0, .ref (ad b)), (1, .int x1), (2, .int x2), (4, .int x4)]) hx hb dX3_compacted_48 hl (k := 3) rfl rfl (by decide) rfl (fun ls hl => ?_)
        refine lv_iinc (v := (x4 + (1 : Int32))) (lv' := [(4, .int (x4 + (1 : Int32))), (3, .int (x3 + (1 : Int32))), (0, .ref (ad b)), (1, .int x1), (2, .int x2)]) hx hb dX3_compacted_51 hl (k := 4) rfl rfl (by decide) rfl (fun ls hl => ?_)
        refine lv_goto (tgt := 13) hx hb dX3_compacted_54 (by decide) ?_
        exact ih _ _ _ _ _ _ _ hW hB_st hF (lv_sub hl [2, 3, 4, 1, 0] rfl) h
set_option maxHeartbeats 4000000 in
set_option maxRecDepth 100000 in
theorem mX3_compacted {l : Launch} {D : va_G} {ct : Nat → ClassId} {J : List Nat} {ad : Nat → Nat} {c0 : CF} {a1 : Int32} {a2 : Int32} {b : Nat} {st : CS} (hB_st : LgB ct J ad c0 b st) {r : Int32} {st9 : CS} (h : fX3_compacted  a1 a2 st = some (r, st9)) : Mi l D ct J ad yX3_compacted cX3_compacted 5 (some .int) (rr 4 89) [.ref (ad b), .int a1, .int a2] c0 r (fun c' => LgB ct J ad c' b st9 ∧ Fr c0 c' b 8) := by
  refine Mi_of (own := RX3) (by decide) rfl (Nat.le_of_ble_eq_true rfl) (fun p e s m below meth cd hE hr hlk hW ls hl => ?_)
  have hx := hE.1
  have hb := hE.2.1
  have hl : lv_has ls 5 [(0, .ref (ad b)), (1, .int a1), (2, .int a2)] := hl
  rw [fX3_compacted] at h
  obtain ⟨c, hB_st, hF, hW⟩ : ∃ c', LgB ct J ad c' b st ∧ Fr c0 c' b 8 ∧ HW D J ad c' (aA J ad s.heap.size) s.heap s.heap [] := ⟨c0, hB_st, Fr.rf, hW⟩
  refine lv_aload_n hx hb dX3_compacted_0 rfl (lv_at hl 0 rfl) ?_
  refine lv_aload_n hx hb dX3_compacted_1 rfl (lv_at hl 0 rfl) ?_
  refine k_get (v := .int (st.2 0)) hE hW hB_st.o hB_st.obj rfl inX3 7 (by decide) q54 rfl dX3_compacted_2 ?_
  obtain ⟨st_1, hst_1, h⟩ := zb_e h
  refine k_callVv (rest := []) hE hW hl.1 (mX3_findLast hB_st hst_1) hB_st.o hB_st.obj rfl q341 q343 qs9 q3 q344 hd_X3_findLast ⟨Nat.le_of_ble_eq_true rfl, Nat.le_of_ble_eq_true rfl⟩ ⟨rfl, rfl⟩ rfl (Nat.le_of_ble_eq_true rfl) dX3_compacted_5 ⟨Nat.zero_le _, Nat.zero_le _⟩ (fun c1 H locs hP hW => ?_)
  obtain ⟨c, hB_st, hF, hW⟩ : ∃ c', LgB ct J ad c' b st_1 ∧ Fr c0 c' b 8 ∧ HW D J ad c' (aA J ad s.heap.size) s.heap H locs := ⟨c1, hP.1, hF.trans hP.2, hW⟩
  refine lv_iconst (v := (0 : Int32)) hx hb dX3_compacted_8 (by decide) ?_
  refine lv_istore_n (lv' := [(3, .int (0 : Int32)), (0, .ref (ad b)), (1, .int a1), (2, .int a2)]) hx hb dX3_compacted_9 rfl hl (by decide) rfl (fun ls hl => ?_)
  refine lv_iconst (v := (0 : Int32)) hx hb dX3_compacted_10 (by decide) ?_
  refine lv_istore (lv' := [(4, .int (0 : Int32)), (3, .int (0 : Int32)), (0, .ref (ad b)), (1, .int a1), (2, .int a2)]) hx hb dX3_compacted_11 hl (by decide) rfl (fun ls hl => ?_)
  exact wX3_compacted_13 hE hr hlk _ _ _ _ _ _ _ _ hW hB_st hF (lv_sub hl [2, 3, 4, 1, 0] rfl) h
set_option maxHeartbeats 4000000 in
set_option maxRecDepth 100000 in
theorem wX3_goneIfCompacted_13 {p : Program} {l : Launch} {e : Env} {s : State} {m : MethodId} {args : Array Value} {below : List Frame} {meth : Method} {cd : Code} {D : va_G} {ct : Nat → ClassId} {J : List Nat} {ad : Nat → Nat} {c0 : CF} {b : Nat} (hE : ME p s m cd args D ct cX3_goneIfCompacted RX3 5) (hr : meth.sig.returnType = (some .int)) (hlk : meth.locks = false) {x1 : Int32} {x2 : Int32} {r : Int32} {st9 : CS} : ∀ (n : Nat) (x3 : Int32) (x4 : Int32) (st : CS) (c : CF) (H : Heap) (locs : List Loc) (ls : Array Slot), HW D J ad c (aA J ad s.heap.size) s.heap H locs → LgB ct J ad c b st → Fr c0 c b 8 → lv_has ls 5 [(0, .ref (ad b)), (1, .int x1), (2, .int x2), (3, .int x3), (4, .int x4)] → fX3_goneIfCompacted_13 x1 x2 n x3 x4 st = some (r, st9) → W p l e (rr 1 23) s m args below meth cd H locs 0 0 (MQ below (Qi D J ad s.heap.size r (fun c' => LgB ct J ad c' b st9 ∧ Fr c0 c' b 8)) args s 0 0 (aA J ad s.heap.size)) (F0 m 13 ls []) := by
  have hx := hE.1
  have hb := hE.2.1
  intro n
  induction n with
  | zero =>
    intro x3 x4 st c H locs ls hW hB_st hF hl h
    have h2 : (none : Option (Int32 × CS)) = some (r, st9) := h
    cases h2
  | succ n ih =>
    intro x3 x4 st c H locs ls hW hB_st hF hl h
    rw [fX3_goneIfCompacted_13] at h
    refine lv_iload hx hb dX3_goneIfCompacted_13 (lv_at hl 4 rfl) ?_
    refine lv_aload_n hx hb dX3_goneIfCompacted_15 rfl (lv_at hl 0 rfl) ?_
    refine k_get (v := .ref (ad (b + 1 + 5))) hE hW hB_st.o hB_st.obj rfl inX3 5 (by decide) q50 rfl dX3_goneIfCompacted_16 ?_
    refine lv_aload_n hx hb dX3_goneIfCompacted_19 rfl (lv_at hl 0 rfl) ?_
    refine k_get (v := .int (st.2 1)) hE hW hB_st.o hB_st.obj rfl inX3 8 (by decide) q58 rfl dX3_goneIfCompacted_20 ?_
    refine lv_iconst (v := (1 : Int32)) hx hb dX3_goneIfCompacted_23 (by decide) ?_
    refine lv_isub hx hb dX3_goneIfCompacted_24 ?_
    obtain ⟨g_2, h⟩ := zi_e h
    refine k_iald hE hW (hB_st.memA 5 (Nat.le_of_ble_eq_true rfl)) (hB_st.arr 5 rfl) g_2 dX3_goneIfCompacted_25 ?_
    refine lv_icmp_ge (tgt := 49) hx hb dX3_goneIfCompacted_26 (by decide) (fun k_3 => ?_) (fun k_3 => ?_)
    · have h := it_t k_3 h
      refine lv_iload_n hx hb dX3_goneIfCompacted_49 rfl (lv_at hl 3 rfl) ?_
      obtain ⟨rfl, rfl⟩ := Prod.mk.inj (Option.some.inj h)
      exact k_iret hE hr hlk hW ⟨hB_st, hF⟩ rfl dX3_goneIfCompacted_50
    · have h := it_f k_3 h
      refine lv_aload_n hx hb dX3_goneIfCompacted_29 rfl (lv_at hl 0 rfl) ?_
      refine lv_iload hx hb dX3_goneIfCompacted_30 (lv_at hl 4 rfl) ?_
      refine lv_iload_n hx hb dX3_goneIfCompacted_32 rfl (lv_at hl 1 rfl) ?_
      refine lv_iload_n hx hb dX3_goneIfCompacted_33 rfl (lv_at hl 2 rfl) ?_
      obtain ⟨r_4, hr_4, h⟩ := zb_e h
      refine k_callVi (rest := []) hE hW hl.1 (mX3_goesCompacted hB_st hr_4) hB_st.o hB_st.obj rfl q345 q347 qs10 q3 q348 hd_X3_goesCompacted ⟨Nat.le_of_ble_eq_true rfl, Nat.le_of_ble_eq_true rfl⟩ ⟨rfl, rfl⟩ rfl (Nat.le_of_ble_eq_true rfl) dX3_goneIfCompacted_34 ⟨Nat.zero_le _, Nat.zero_le _⟩ (fun c1 H locs hP hW => ?_)
      rw [hP] at hW
      refine lv_if_eq (tgt := 43) hx hb dX3_goneIfCompacted_37 (by decide) (fun k_5 => ?_) (fun k_5 => ?_)
      · have h := it_t k_5 h
        refine lv_iinc (v := (x4 + (1 : Int32))) (lv' := [(4, .int (x4 + (1 : Int32))), (0, .ref (ad b)), (1, .int x1), (2, .int x2), (3, .int x3)]) hx hb dX3_goneIfCompacted_43 hl (k := 4) rfl rfl (by decide) rfl (fun ls hl => ?_)
        refine lv_goto (tgt := 13) hx hb dX3_goneIfCompacted_46 (by decide) ?_
        exact ih _ _ _ _ _ _ _ hW hB_st hF (lv_sub hl [1, 2, 3, 4, 0] rfl) h
      · have h := it_f k_5 h
        refine lv_iinc (v := (x3 + (1 : Int32))) (lv' := [(3, .int (x3 + (1 : Int32))), (0, .ref (ad b)), (1, .int x1), (2, .int x2), (4, .int x4)]) hx hb dX3_goneIfCompacted_40 hl (k := 3) rfl rfl (by decide) rfl (fun ls hl => ?_)
        refine lv_iinc (v := (x4 + (1 : Int32))) (lv' := [(4, .int (x4 + (1 : Int32))), (3, .int (x3 + (1 : Int32))), (0, .ref (ad b)), (1, .int x1), (2, .int x2)]) hx hb dX3_goneIfCompacted_43 hl (k := 4) rfl rfl (by decide) rfl (fun ls hl => ?_)
        refine lv_goto (tgt := 13) hx hb dX3_goneIfCompacted_46 (by decide) ?_
        exact ih _ _ _ _ _ _ _ hW hB_st hF (lv_sub hl [2, 3, 4, 1, 0] rfl) h
set_option maxHeartbeats 4000000 in
set_option maxRecDepth 100000 in
theorem mX3_goneIfCompacted {l : Launch} {D : va_G} {ct : Nat → ClassId} {J : List Nat} {ad : Nat → Nat} {c0 : CF} {a1 : Int32} {a2 : Int32} {b : Nat} {st : CS} (hB_st : LgB ct J ad c0 b st) {r : Int32} {st9 : CS} (h : fX3_goneIfCompacted  a1 a2 st = some (r, st9)) : Mi l D ct J ad yX3_goneIfCompacted cX3_goneIfCompacted 5 (some .int) (rr 1 23) [.ref (ad b), .int a1, .int a2] c0 r (fun c' => LgB ct J ad c' b st9 ∧ Fr c0 c' b 8) := by
  refine Mi_of (own := RX3) (by decide) rfl (Nat.le_of_ble_eq_true rfl) (fun p e s m below meth cd hE hr hlk hW ls hl => ?_)
  have hx := hE.1
  have hb := hE.2.1
  have hl : lv_has ls 5 [(0, .ref (ad b)), (1, .int a1), (2, .int a2)] := hl
  rw [fX3_goneIfCompacted] at h
  obtain ⟨c, hB_st, hF, hW⟩ : ∃ c', LgB ct J ad c' b st ∧ Fr c0 c' b 8 ∧ HW D J ad c' (aA J ad s.heap.size) s.heap s.heap [] := ⟨c0, hB_st, Fr.rf, hW⟩
  refine lv_aload_n hx hb dX3_goneIfCompacted_0 rfl (lv_at hl 0 rfl) ?_
  refine lv_aload_n hx hb dX3_goneIfCompacted_1 rfl (lv_at hl 0 rfl) ?_
  refine k_get (v := .int (st.2 0)) hE hW hB_st.o hB_st.obj rfl inX3 7 (by decide) q54 rfl dX3_goneIfCompacted_2 ?_
  obtain ⟨st_1, hst_1, h⟩ := zb_e h
  refine k_callVv (rest := []) hE hW hl.1 (mX3_findLast hB_st hst_1) hB_st.o hB_st.obj rfl q341 q343 qs9 q3 q344 hd_X3_findLast ⟨Nat.le_of_ble_eq_true rfl, Nat.le_of_ble_eq_true rfl⟩ ⟨rfl, rfl⟩ rfl (Nat.le_of_ble_eq_true rfl) dX3_goneIfCompacted_5 ⟨Nat.zero_le _, Nat.zero_le _⟩ (fun c1 H locs hP hW => ?_)
  obtain ⟨c, hB_st, hF, hW⟩ : ∃ c', LgB ct J ad c' b st_1 ∧ Fr c0 c' b 8 ∧ HW D J ad c' (aA J ad s.heap.size) s.heap H locs := ⟨c1, hP.1, hF.trans hP.2, hW⟩
  refine lv_iconst (v := (0 : Int32)) hx hb dX3_goneIfCompacted_8 (by decide) ?_
  refine lv_istore_n (lv' := [(3, .int (0 : Int32)), (0, .ref (ad b)), (1, .int a1), (2, .int a2)]) hx hb dX3_goneIfCompacted_9 rfl hl (by decide) rfl (fun ls hl => ?_)
  refine lv_iconst (v := (0 : Int32)) hx hb dX3_goneIfCompacted_10 (by decide) ?_
  refine lv_istore (lv' := [(4, .int (0 : Int32)), (3, .int (0 : Int32)), (0, .ref (ad b)), (1, .int a1), (2, .int a2)]) hx hb dX3_goneIfCompacted_11 hl (by decide) rfl (fun ls hl => ?_)
  exact wX3_goneIfCompacted_13 hE hr hlk _ _ _ _ _ _ _ _ hW hB_st hF (lv_sub hl [2, 3, 4, 1, 0] rfl) h
set_option maxHeartbeats 4000000 in
set_option maxRecDepth 100000 in
theorem wX3_isOutdated_7 {p : Program} {l : Launch} {e : Env} {s : State} {m : MethodId} {args : Array Value} {below : List Frame} {meth : Method} {cd : Code} {D : va_G} {ct : Nat → ClassId} {J : List Nat} {ad : Nat → Nat} {c0 : CF} {b : Nat} (hE : ME p s m cd args D ct cX3_isOutdated RX3 4) (hr : meth.sig.returnType = (some .boolean)) (hlk : meth.locks = false) {x1 : Int32} {x2 : Int32} {st : CS} (hB_st : LgB ct J ad c0 b st) {r : Int32} : ∀ (n : Nat) (x3 : Int32) (H : Heap) (locs : List Loc) (ls : Array Slot), HW D J ad c0 (aA J ad s.heap.size) s.heap H locs → lv_has ls 4 [(0, .ref (ad b)), (1, .int x1), (2, .int x2), (3, .int x3)] → fX3_isOutdated_7 x1 x2 st n x3 = some r → W p l e (rr 2 42) s m args below meth cd H locs 0 0 (MQ below (Qi D J ad s.heap.size r (fun c' => c' = c0)) args s 0 0 (aA J ad s.heap.size)) (F0 m 7 ls []) := by
  have hx := hE.1
  have hb := hE.2.1
  intro n
  induction n with
  | zero =>
    intro x3 H locs ls hW hl h
    have h2 : (none : Option Int32) = some r := h
    cases h2
  | succ n ih =>
    intro x3 H locs ls hW hl h
    rw [fX3_isOutdated_7] at h
    refine lv_iload_n hx hb dX3_isOutdated_7 rfl (lv_at hl 3 rfl) ?_
    refine lv_aload_n hx hb dX3_isOutdated_8 rfl (lv_at hl 0 rfl) ?_
    refine lv_iload_n hx hb dX3_isOutdated_9 rfl (lv_at hl 1 rfl) ?_
    obtain ⟨r_3, hr_3, h⟩ := zb_e h
    refine k_callVi (rest := [.int x3]) hE hW hl.1 (mX3_segmentEnd hB_st hr_3) hB_st.o hB_st.obj rfl q361 q363 qs14 q3 q364 hd_X3_segmentEnd ⟨Nat.le_of_ble_eq_true rfl, Nat.le_of_ble_eq_true rfl⟩ ⟨rfl, rfl⟩ rfl (Nat.le_of_ble_eq_true rfl) dX3_isOutdated_10 ⟨Nat.zero_le _, Nat.zero_le _⟩ (fun c1 H locs hP hW => ?_)
    rw [hP] at hW
    refine lv_icmp_ge (tgt := 43) hx hb dX3_isOutdated_13 (by decide) (fun k_4 => ?_) (fun k_4 => ?_)
    · have h := it_t k_4 h
      refine lv_iconst (v := (1 : Int32)) hx hb dX3_isOutdated_43 (by decide) ?_
      obtain rfl := Option.some.inj h
      exact k_zret hE hr hlk hW rfl rfl rfl dX3_isOutdated_44
    · have h := it_f k_4 h
      refine lv_aload_n hx hb dX3_isOutdated_16 rfl (lv_at hl 0 rfl) ?_
      refine k_get (v := .ref (ad (b + 1 + 0))) hE hW hB_st.o hB_st.obj rfl inX3 0 (by decide) q37 rfl dX3_isOutdated_17 ?_
      refine lv_iload_n hx hb dX3_isOutdated_20 rfl (lv_at hl 3 rfl) ?_
      obtain ⟨g_5, h⟩ := zi_e h
      refine k_iald hE hW (hB_st.memA 0 (Nat.le_of_ble_eq_true rfl)) (hB_st.arr 0 rfl) g_5 dX3_isOutdated_21 ?_
      refine lv_if_eq (tgt := 37) hx hb dX3_isOutdated_22 (by decide) (fun k_6 => ?_) (fun k_6 => ?_)
      · have h := it_t k_6 h
        refine lv_iinc (v := (x3 + (1 : Int32))) (lv' := [(3, .int (x3 + (1 : Int32))), (0, .ref (ad b)), (1, .int x1), (2, .int x2)]) hx hb dX3_isOutdated_37 hl (k := 3) rfl rfl (by decide) rfl (fun ls hl => ?_)
        refine lv_goto (tgt := 7) hx hb dX3_isOutdated_40 (by decide) ?_
        exact ih _ _ _ _ hW (lv_sub hl [1, 2, 3, 0] rfl) h
      · have h := it_f k_6 h
        refine lv_aload_n hx hb dX3_isOutdated_25 rfl (lv_at hl 0 rfl) ?_
        refine k_get (v := .ref (ad (b + 1 + 2))) hE hW hB_st.o hB_st.obj rfl inX3 2 (by decide) q43 rfl dX3_isOutdated_26 ?_
        refine lv_iload_n hx hb dX3_isOutdated_29 rfl (lv_at hl 3 rfl) ?_
        obtain ⟨g_7, h⟩ := zi_e h
        refine k_iald hE hW (hB_st.memA 2 (Nat.le_of_ble_eq_true rfl)) (hB_st.arr 2 rfl) g_7 dX3_isOutdated_30 ?_
        refine lv_iload_n hx hb dX3_isOutdated_31 rfl (lv_at hl 2 rfl) ?_
        refine lv_icmp_lt (tgt := 37) hx hb dX3_isOutdated_32 (by decide) (fun k_8 => ?_) (fun k_8 => ?_)
        · have h := it_t k_8 h
          refine lv_iinc (v := (x3 + (1 : Int32))) (lv' := [(3, .int (x3 + (1 : Int32))), (0, .ref (ad b)), (1, .int x1), (2, .int x2)]) hx hb dX3_isOutdated_37 hl (k := 3) rfl rfl (by decide) rfl (fun ls hl => ?_)
          refine lv_goto (tgt := 7) hx hb dX3_isOutdated_40 (by decide) ?_
          exact ih _ _ _ _ hW (lv_sub hl [1, 2, 3, 0] rfl) h
        · have h := it_f k_8 h
          refine lv_iconst (v := (0 : Int32)) hx hb dX3_isOutdated_35 (by decide) ?_
          obtain rfl := Option.some.inj h
          exact k_zret hE hr hlk hW rfl rfl rfl dX3_isOutdated_36
set_option maxHeartbeats 4000000 in
set_option maxRecDepth 100000 in
theorem mX3_isOutdated {l : Launch} {D : va_G} {ct : Nat → ClassId} {J : List Nat} {ad : Nat → Nat} {c0 : CF} {a1 : Int32} {a2 : Int32} {b : Nat} {st : CS} (hB_st : LgB ct J ad c0 b st) {r : Int32} (h : fX3_isOutdated  a1 a2 st = some r) : Mi l D ct J ad yX3_isOutdated cX3_isOutdated 4 (some .boolean) (rr 2 42) [.ref (ad b), .int a1, .int a2] c0 r (fun c' => c' = c0) := by
  refine Mi_of (own := RX3) (by decide) rfl (Nat.le_of_ble_eq_true rfl) (fun p e s m below meth cd hE hr hlk hW ls hl => ?_)
  have hx := hE.1
  have hb := hE.2.1
  have hl : lv_has ls 4 [(0, .ref (ad b)), (1, .int a1), (2, .int a2)] := hl
  rw [fX3_isOutdated] at h
  refine lv_aload_n hx hb dX3_isOutdated_0 rfl (lv_at hl 0 rfl) ?_
  refine k_get (v := .ref (ad (b + 1 + 5))) hE hW hB_st.o hB_st.obj rfl inX3 5 (by decide) q50 rfl dX3_isOutdated_1 ?_
  refine lv_iload_n hx hb dX3_isOutdated_4 rfl (lv_at hl 1 rfl) ?_
  obtain ⟨g_1, h⟩ := zi_e h
  refine k_iald hE hW (hB_st.memA 5 (Nat.le_of_ble_eq_true rfl)) (hB_st.arr 5 rfl) g_1 dX3_isOutdated_5 ?_
  refine lv_topi (fun x_2 ex_2 => ?_)
  have h := zl_n h ex_2
  refine lv_istore_n (lv' := [(3, .int x_2), (0, .ref (ad b)), (1, .int a1), (2, .int a2)]) hx hb dX3_isOutdated_6 rfl hl (by decide) rfl (fun ls hl => ?_)
  exact wX3_isOutdated_7 hE hr hlk hB_st _ _ _ _ _ hW (lv_sub hl [1, 2, 3, 0] rfl) h
set_option maxHeartbeats 4000000 in
set_option maxRecDepth 100000 in
theorem wX3_segmentsGoing_43 {p : Program} {l : Launch} {e : Env} {s : State} {m : MethodId} {args : Array Value} {below : List Frame} {meth : Method} {cd : Code} {D : va_G} {ct : Nat → ClassId} {J : List Nat} {ad : Nat → Nat} {c0 : CF} {b : Nat} (hE : ME p s m cd args D ct cX3_segmentsGoing RX3 6) (hr : meth.sig.returnType = (some .int)) (hlk : meth.locks = false) {x1 : Int32} {x2 : Int32} {x3 : Int32} {st : CS} (hB_st : LgB ct J ad c0 b st) {r : Int32} {K14 : Int32 → Int32 → Option Int32} (hK14 : ∀ (x4 : Int32) (x5 : Int32) (H : Heap) (locs : List Loc) (ls : Array Slot), HW D J ad c0 (aA J ad s.heap.size) s.heap H locs → lv_has ls 6 [(0, .ref (ad b)), (1, .int x1), (2, .int x2), (3, .int x3), (4, .int x4), (5, .int x5)] → K14 x4 x5 = some r → W p l e (rr 3 65) s m args below meth cd H locs 0 0 (MQ below (Qi D J ad s.heap.size r (fun c' => c' = c0)) args s 0 0 (aA J ad s.heap.size)) (F0 m 14 ls [])) : ∀ (x4 : Int32) (x5 : Int32) (H : Heap) (locs : List Loc) (ls : Array Slot), HW D J ad c0 (aA J ad s.heap.size) s.heap H locs → lv_has ls 6 [(0, .ref (ad b)), (1, .int x1), (2, .int x2), (3, .int x3), (4, .int x4), (5, .int x5)] → fX3_segmentsGoing_43 x1 x2 x3 st K14 x4 x5 = some r → W p l e (rr 3 65) s m args below meth cd H locs 0 0 (MQ below (Qi D J ad s.heap.size r (fun c' => c' = c0)) args s 0 0 (aA J ad s.heap.size)) (F0 m 43 ls []) := by
  have hx := hE.1
  have hb := hE.2.1
  intro x4 x5 H locs ls hW hl h
  rw [fX3_segmentsGoing_43] at h
  refine lv_iload hx hb dX3_segmentsGoing_43 (lv_at hl 4 rfl) ?_
  refine lv_aload_n hx hb dX3_segmentsGoing_45 rfl (lv_at hl 0 rfl) ?_
  refine lv_aload_n hx hb dX3_segmentsGoing_46 rfl (lv_at hl 0 rfl) ?_
  refine k_get (v := .ref (ad (b + 1 + 5))) hE hW hB_st.o hB_st.obj rfl inX3 5 (by decide) q50 rfl dX3_segmentsGoing_47 ?_
  refine lv_iload hx hb dX3_segmentsGoing_50 (lv_at hl 5 rfl) ?_
  obtain ⟨g_4, h⟩ := zi_e h
  refine k_iald hE hW (hB_st.memA 5 (Nat.le_of_ble_eq_true rfl)) (hB_st.arr 5 rfl) g_4 dX3_segmentsGoing_52 ?_
  refine lv_aload_n hx hb dX3_segmentsGoing_53 rfl (lv_at hl 0 rfl) ?_
  refine k_get (v := .ref (ad (b + 1 + 5))) hE hW hB_st.o hB_st.obj rfl inX3 5 (by decide) q50 rfl dX3_segmentsGoing_54 ?_
  refine lv_iload hx hb dX3_segmentsGoing_57 (lv_at hl 5 rfl) ?_
  refine lv_iconst (v := (1 : Int32)) hx hb dX3_segmentsGoing_59 (by decide) ?_
  refine lv_iadd hx hb dX3_segmentsGoing_60 ?_
  obtain ⟨g_5, h⟩ := zi_e h
  refine k_iald hE hW (hB_st.memA 5 (Nat.le_of_ble_eq_true rfl)) (hB_st.arr 5 rfl) g_5 dX3_segmentsGoing_61 ?_
  obtain ⟨r_6, hr_6, h⟩ := zb_e h
  refine k_callVi (rest := [.int x4]) hE hW hl.1 (mX3_sizesIn hB_st hr_6) hB_st.o hB_st.obj rfl q305 q307 qs4 q3 q308 hd_X3_sizesIn ⟨Nat.le_of_ble_eq_true rfl, Nat.le_of_ble_eq_true rfl⟩ ⟨rfl, rfl⟩ rfl (Nat.le_of_ble_eq_true rfl) dX3_segmentsGoing_62 ⟨Nat.zero_le _, Nat.zero_le _⟩ (fun c1 H locs hP hW => ?_)
  rw [hP] at hW
  refine lv_isub hx hb dX3_segmentsGoing_65 ?_
  refine lv_istore (lv' := [(4, .int (x4 - r_6)), (0, .ref (ad b)), (1, .int x1), (2, .int x2), (3, .int x3), (5, .int x5)]) hx hb dX3_segmentsGoing_66 hl (by decide) rfl (fun ls hl => ?_)
  refine lv_iinc (v := (x5 + (1 : Int32))) (lv' := [(5, .int (x5 + (1 : Int32))), (4, .int (x4 - r_6)), (0, .ref (ad b)), (1, .int x1), (2, .int x2), (3, .int x3)]) hx hb dX3_segmentsGoing_68 hl (k := 5) rfl rfl (by decide) rfl (fun ls hl => ?_)
  refine lv_goto (tgt := 14) hx hb dX3_segmentsGoing_71 (by decide) ?_
  exact hK14 _ _ _ _ _ hW (lv_sub hl [2, 3, 4, 5, 1, 0] rfl) h
set_option maxHeartbeats 4000000 in
set_option maxRecDepth 100000 in
theorem wX3_segmentsGoing_14 {p : Program} {l : Launch} {e : Env} {s : State} {m : MethodId} {args : Array Value} {below : List Frame} {meth : Method} {cd : Code} {D : va_G} {ct : Nat → ClassId} {J : List Nat} {ad : Nat → Nat} {c0 : CF} {b : Nat} (hE : ME p s m cd args D ct cX3_segmentsGoing RX3 6) (hr : meth.sig.returnType = (some .int)) (hlk : meth.locks = false) {x1 : Int32} {x2 : Int32} {x3 : Int32} {st : CS} (hB_st : LgB ct J ad c0 b st) {r : Int32} : ∀ (n : Nat) (x4 : Int32) (x5 : Int32) (H : Heap) (locs : List Loc) (ls : Array Slot), HW D J ad c0 (aA J ad s.heap.size) s.heap H locs → lv_has ls 6 [(0, .ref (ad b)), (1, .int x1), (2, .int x2), (3, .int x3), (4, .int x4), (5, .int x5)] → fX3_segmentsGoing_14 x1 x2 x3 st n x4 x5 = some r → W p l e (rr 3 65) s m args below meth cd H locs 0 0 (MQ below (Qi D J ad s.heap.size r (fun c' => c' = c0)) args s 0 0 (aA J ad s.heap.size)) (F0 m 14 ls []) := by
  have hx := hE.1
  have hb := hE.2.1
  intro n
  induction n with
  | zero =>
    intro x4 x5 H locs ls hW hl h
    have h2 : (none : Option Int32) = some r := h
    cases h2
  | succ n ih =>
    intro x4 x5 H locs ls hW hl h
    rw [fX3_segmentsGoing_14] at h
    refine lv_iload hx hb dX3_segmentsGoing_14 (lv_at hl 5 rfl) ?_
    refine lv_aload_n hx hb dX3_segmentsGoing_16 rfl (lv_at hl 0 rfl) ?_
    refine k_get (v := .int (st.2 1)) hE hW hB_st.o hB_st.obj rfl inX3 8 (by decide) q58 rfl dX3_segmentsGoing_17 ?_
    refine lv_iconst (v := (1 : Int32)) hx hb dX3_segmentsGoing_20 (by decide) ?_
    refine lv_isub hx hb dX3_segmentsGoing_21 ?_
    refine lv_icmp_ge (tgt := 74) hx hb dX3_segmentsGoing_22 (by decide) (fun k_2 => ?_) (fun k_2 => ?_)
    · have h := it_t k_2 h
      refine lv_iload hx hb dX3_segmentsGoing_74 (lv_at hl 5 rfl) ?_
      obtain rfl := Option.some.inj h
      exact k_iret hE hr hlk hW rfl rfl dX3_segmentsGoing_76
    · have h := it_f k_2 h
      refine lv_iload hx hb dX3_segmentsGoing_25 (lv_at hl 4 rfl) ?_
      refine lv_iload_n hx hb dX3_segmentsGoing_27 rfl (lv_at hl 1 rfl) ?_
      refine lv_icmp_gt (tgt := 43) hx hb dX3_segmentsGoing_28 (by decide) (fun k_3 => ?_) (fun k_3 => ?_)
      · have h := it_t k_3 h
        exact wX3_segmentsGoing_43 hE hr hlk hB_st ih _ _ _ _ _ hW (lv_sub hl [0, 1, 2, 3, 4, 5] rfl) h
      · have h := it_f k_3 h
        refine lv_aload_n hx hb dX3_segmentsGoing_31 rfl (lv_at hl 0 rfl) ?_
        refine lv_iload hx hb dX3_segmentsGoing_32 (lv_at hl 5 rfl) ?_
        refine lv_iload_n hx hb dX3_segmentsGoing_34 rfl (lv_at hl 2 rfl) ?_
        refine lv_iload_n hx hb dX3_segmentsGoing_35 rfl (lv_at hl 3 rfl) ?_
        refine lv_isub hx hb dX3_segmentsGoing_36 ?_
        obtain ⟨r_7, hr_7, h⟩ := zb_e h
        refine k_callVi (rest := []) hE hW hl.1 (mX3_isOutdated hB_st hr_7) hB_st.o hB_st.obj rfl q381 q383 qs18 q3 q384 hd_X3_isOutdated ⟨Nat.le_of_ble_eq_true rfl, Nat.le_of_ble_eq_true rfl⟩ ⟨rfl, rfl⟩ rfl (Nat.le_of_ble_eq_true rfl) dX3_segmentsGoing_37 ⟨Nat.zero_le _, Nat.zero_le _⟩ (fun c1 H locs hP hW => ?_)
        rw [hP] at hW
        refine lv_if_eq (tgt := 74) hx hb dX3_segmentsGoing_40 (by decide) (fun k_8 => ?_) (fun k_8 => ?_)
        · have h := it_t k_8 h
          refine lv_iload hx hb dX3_segmentsGoing_74 (lv_at hl 5 rfl) ?_
          obtain rfl := Option.some.inj h
          exact k_iret hE hr hlk hW rfl rfl dX3_segmentsGoing_76
        · have h := it_f k_8 h
          exact wX3_segmentsGoing_43 hE hr hlk hB_st ih _ _ _ _ _ hW (lv_sub hl [0, 1, 2, 3, 4, 5] rfl) h
set_option maxHeartbeats 4000000 in
set_option maxRecDepth 100000 in
theorem mX3_segmentsGoing {l : Launch} {D : va_G} {ct : Nat → ClassId} {J : List Nat} {ad : Nat → Nat} {c0 : CF} {a1 : Int32} {a2 : Int32} {a3 : Int32} {b : Nat} {st : CS} (hB_st : LgB ct J ad c0 b st) {r : Int32} (h : fX3_segmentsGoing  a1 a2 a3 st = some r) : Mi l D ct J ad yX3_segmentsGoing cX3_segmentsGoing 6 (some .int) (rr 3 65) [.ref (ad b), .int a1, .int a2, .int a3] c0 r (fun c' => c' = c0) := by
  refine Mi_of (own := RX3) (by decide) rfl (Nat.le_of_ble_eq_true rfl) (fun p e s m below meth cd hE hr hlk hW ls hl => ?_)
  have hx := hE.1
  have hb := hE.2.1
  have hl : lv_has ls 6 [(0, .ref (ad b)), (1, .int a1), (2, .int a2), (3, .int a3)] := hl
  rw [fX3_segmentsGoing] at h
  refine lv_aload_n hx hb dX3_segmentsGoing_0 rfl (lv_at hl 0 rfl) ?_
  refine lv_iconst (v := (0 : Int32)) hx hb dX3_segmentsGoing_1 (by decide) ?_
  refine lv_aload_n hx hb dX3_segmentsGoing_2 rfl (lv_at hl 0 rfl) ?_
  refine k_get (v := .int (st.2 0)) hE hW hB_st.o hB_st.obj rfl inX3 7 (by decide) q54 rfl dX3_segmentsGoing_3 ?_
  obtain ⟨r_1, hr_1, h⟩ := zb_e h
  refine k_callVi (rest := []) hE hW hl.1 (mX3_sizesIn hB_st hr_1) hB_st.o hB_st.obj rfl q305 q307 qs4 q3 q308 hd_X3_sizesIn ⟨Nat.le_of_ble_eq_true rfl, Nat.le_of_ble_eq_true rfl⟩ ⟨rfl, rfl⟩ rfl (Nat.le_of_ble_eq_true rfl) dX3_segmentsGoing_6 ⟨Nat.zero_le _, Nat.zero_le _⟩ (fun c1 H locs hP hW => ?_)
  rw [hP] at hW
  refine lv_istore (lv' := [(4, .int r_1), (0, .ref (ad b)), (1, .int a1), (2, .int a2), (3, .int a3)]) hx hb dX3_segmentsGoing_9 hl (by decide) rfl (fun ls hl => ?_)
  refine lv_iconst (v := (0 : Int32)) hx hb dX3_segmentsGoing_11 (by decide) ?_
  refine lv_istore (lv' := [(5, .int (0 : Int32)), (4, .int r_1), (0, .ref (ad b)), (1, .int a1), (2, .int a2), (3, .int a3)]) hx hb dX3_segmentsGoing_12 hl (by decide) rfl (fun ls hl => ?_)
  exact wX3_segmentsGoing_14 hE hr hlk hB_st _ _ _ _ _ _ hW (lv_sub hl [2, 3, 4, 5, 1, 0] rfl) h
set_option maxHeartbeats 4000000 in
set_option maxRecDepth 100000 in
theorem wX3_retained_30 {p : Program} {l : Launch} {e : Env} {s : State} {m : MethodId} {args : Array Value} {below : List Frame} {meth : Method} {cd : Code} {D : va_G} {ct : Nat → ClassId} {J : List Nat} {ad : Nat → Nat} {c0 : CF} {b : Nat} (hE : ME p s m cd args D ct cX3_retained RX3 8) (hr : meth.sig.returnType = (some .int)) (hlk : meth.locks = false) {x4 : Int32} {x5 : Int32} {x6 : Int32} {r : Int32} {st9 : CS} : ∀ (n : Nat) (x7 : Int32) (st : CS) (c : CF) (H : Heap) (locs : List Loc) (ls : Array Slot), HW D J ad c (aA J ad s.heap.size) s.heap H locs → LgB ct J ad c b st → Fr c0 c b 8 → lv_has ls 8 [(0, .ref (ad b)), (4, .int x4), (5, .int x5), (6, .int x6), (7, .int x7)] → fX3_retained_30 x4 x5 x6 n x7 st = some (r, st9) → W p l e (rr 4 90) s m args below meth cd H locs 0 0 (MQ below (Qi D J ad s.heap.size r (fun c' => LgB ct J ad c' b st9 ∧ Fr c0 c' b 8)) args s 0 0 (aA J ad s.heap.size)) (F0 m 30 ls []) := by
  have hx := hE.1
  have hb := hE.2.1
  intro n
  induction n with
  | zero =>
    intro x7 st c H locs ls hW hB_st hF hl h
    have h2 : (none : Option (Int32 × CS)) = some (r, st9) := h
    cases h2
  | succ n ih =>
    intro x7 st c H locs ls hW hB_st hF hl h
    rw [fX3_retained_30] at h
    refine lv_iload hx hb dX3_retained_30 (lv_at hl 4 rfl) ?_
    refine lv_iload hx hb dX3_retained_32 (lv_at hl 2 rfl) ?_
    refine lv_icmp_ge (tgt := 51) hx hb dX3_retained_34 (by decide) (fun k_5 => ?_) (fun k_5 => ?_)
    · have h := it_t k_5 h
      refine lv_aload_n hx hb dX3_retained_51 rfl (lv_at hl 0 rfl) ?_
      refine lv_iconst (v := (0 : Int32)) hx hb dX3_retained_52 (by decide) ?_
      refine lv_iload hx hb dX3_retained_53 (lv_at hl 1 rfl) ?_
      obtain ⟨st_6, hst_6, h⟩ := zb_e h
      refine k_callVv (rest := []) hE hW hl.1 (mX3_dropBases hB_st hst_6) hB_st.o hB_st.obj rfl q365 q367 qs15 q3 q368 hd_X3_dropBases ⟨Nat.le_of_ble_eq_true rfl, Nat.le_of_ble_eq_true rfl⟩ ⟨rfl, rfl⟩ rfl (Nat.le_of_ble_eq_true rfl) dX3_retained_55 ⟨Nat.zero_le _, Nat.zero_le _⟩ (fun c1 H locs hP hW => ?_)
      obtain ⟨c, hB_st, hF, hW⟩ : ∃ c', LgB ct J ad c' b st_6 ∧ Fr c0 c' b 8 ∧ HW D J ad c' (aA J ad s.heap.size) s.heap H locs := ⟨c1, hP.1, hF.trans hP.2, hW⟩
      refine lv_iload hx hb dX3_retained_58 (lv_at hl 3 rfl) ?_
      obtain ⟨rfl, rfl⟩ := Prod.mk.inj (Option.some.inj h)
      exact k_iret hE hr hlk hW ⟨hB_st, hF⟩ rfl dX3_retained_60
    · have h := it_f k_5 h
      refine lv_aload_n hx hb dX3_retained_37 rfl (lv_at hl 0 rfl) ?_
      refine k_get (v := .ref (ad (b + 1 + 0))) hE hW hB_st.o hB_st.obj rfl inX3 0 (by decide) q37 rfl dX3_retained_38 ?_
      refine lv_iload hx hb dX3_retained_41 (lv_at hl 4 rfl) ?_
      refine lv_iconst (v := (0 : Int32)) hx hb dX3_retained_43 (by decide) ?_
      obtain ⟨g_7, h⟩ := zi_e h
      obtain ⟨st_8, est_8, h⟩ := zl_e h
      refine k_iast hE hW (hB_st.memA 0 (Nat.le_of_ble_eq_true rfl)) (hB_st.arr 0 rfl) g_7 dX3_retained_44 (fun H locs hW => ?_)
      obtain ⟨c, hB_st, hF, hW⟩ : ∃ c', LgB ct J ad c' b st_8 ∧ Fr c0 c' b 8 ∧ HW D J ad c' (aA J ad s.heap.size) s.heap H locs := ⟨_, hB_st.wA (k := 0) rfl est_8, hF.up (by omega) (by omega), hW⟩
      refine lv_iinc (v := (x7 + (1 : Int32))) (lv' := [(7, .int (x7 + (1 : Int32))), (0, .ref (ad b)), (4, .int x4), (5, .int x5), (6, .int x6)]) hx hb dX3_retained_45 hl (k := 4) rfl rfl (by decide) rfl (fun ls hl => ?_)
      refine lv_goto (tgt := 30) hx hb dX3_retained_48 (by decide) ?_
      exact ih _ _ _ _ _ _ hW hB_st hF (lv_sub hl [1, 2, 3, 4, 0] rfl) h
set_option maxHeartbeats 4000000 in
set_option maxRecDepth 100000 in
theorem mX3_retained {l : Launch} {D : va_G} {ct : Nat → ClassId} {J : List Nat} {ad : Nat → Nat} {c0 : CF} {a1 : Int32} {a2 : Int32} {a3 : Int32} {b : Nat} {st : CS} (hB_st : LgB ct J ad c0 b st) {r : Int32} {st9 : CS} (h : fX3_retained  a1 a2 a3 st = some (r, st9)) : Mi l D ct J ad yX3_retained cX3_retained 8 (some .int) (rr 4 90) [.ref (ad b), .int a1, .int a2, .int a3] c0 r (fun c' => LgB ct J ad c' b st9 ∧ Fr c0 c' b 8) := by
  refine Mi_of (own := RX3) (by decide) rfl (Nat.le_of_ble_eq_true rfl) (fun p e s m below meth cd hE hr hlk hW ls hl => ?_)
  have hx := hE.1
  have hb := hE.2.1
  have hl : lv_has ls 8 [(0, .ref (ad b)), (1, .int a1), (2, .int a2), (3, .int a3)] := hl
  rw [fX3_retained] at h
  obtain ⟨c, hB_st, hF, hW⟩ : ∃ c', LgB ct J ad c' b st ∧ Fr c0 c' b 8 ∧ HW D J ad c' (aA J ad s.heap.size) s.heap s.heap [] := ⟨c0, hB_st, Fr.rf, hW⟩
  refine lv_aload_n hx hb dX3_retained_0 rfl (lv_at hl 0 rfl) ?_
  refine lv_iload_n hx hb dX3_retained_1 rfl (lv_at hl 1 rfl) ?_
  refine lv_iload_n hx hb dX3_retained_2 rfl (lv_at hl 2 rfl) ?_
  refine lv_iload_n hx hb dX3_retained_3 rfl (lv_at hl 3 rfl) ?_
  obtain ⟨r_1, hr_1, h⟩ := zb_e h
  refine k_callVi (rest := []) hE hW hl.1 (mX3_segmentsGoing hB_st hr_1) hB_st.o hB_st.obj rfl q377 q379 qs17 q3 q380 hd_X3_segmentsGoing ⟨Nat.le_of_ble_eq_true rfl, Nat.le_of_ble_eq_true rfl⟩ ⟨rfl, rfl⟩ rfl (Nat.le_of_ble_eq_true rfl) dX3_retained_4 ⟨Nat.zero_le _, Nat.zero_le _⟩ (fun c1 H locs hP hW => ?_)
  rw [hP] at hW
  refine lv_istore (lv' := [(4, .int r_1), (0, .ref (ad b)), (1, .int a1), (2, .int a2), (3, .int a3)]) hx hb dX3_retained_7 hl (by decide) rfl (fun ls hl => ?_)
  refine lv_aload_n hx hb dX3_retained_9 rfl (lv_at hl 1 rfl) ?_
  refine k_get (v := .ref (ad (b + 1 + 5))) hE hW hB_st.o hB_st.obj rfl inX3 5 (by decide) q50 rfl dX3_retained_10 ?_
  refine lv_iload hx hb dX3_retained_13 (lv_at hl 0 rfl) ?_
  obtain ⟨g_2, h⟩ := zi_e h
  refine k_iald hE hW (hB_st.memA 5 (Nat.le_of_ble_eq_true rfl)) (hB_st.arr 5 rfl) g_2 dX3_retained_15 ?_
  refine lv_topi (fun x_3 ex_3 => ?_)
  have h := zl_n h ex_3
  refine lv_istore (lv' := [(5, .int x_3), (4, .int r_1), (0, .ref (ad b)), (1, .int a1), (2, .int a2), (3, .int a3)]) hx hb dX3_retained_16 hl (by decide) rfl (fun ls hl => ?_)
  refine lv_aload_n hx hb dX3_retained_18 rfl (lv_at hl 2 rfl) ?_
  refine lv_iconst (v := (0 : Int32)) hx hb dX3_retained_19 (by decide) ?_
  refine lv_iload hx hb dX3_retained_20 (lv_at hl 0 rfl) ?_
  obtain ⟨r_4, hr_4, h⟩ := zb_e h
  refine k_callVi (rest := []) hE hW hl.1 (mX3_recordsIn hB_st hr_4) hB_st.o hB_st.obj rfl q300 q302 qs3 q3 q303 hd_X3_recordsIn ⟨Nat.le_of_ble_eq_true rfl, Nat.le_of_ble_eq_true rfl⟩ ⟨rfl, rfl⟩ rfl (Nat.le_of_ble_eq_true rfl) dX3_retained_22 ⟨Nat.zero_le _, Nat.zero_le _⟩ (fun c1 H locs hP hW => ?_)
  rw [hP] at hW
  refine lv_istore (lv' := [(6, .int r_4), (5, .int x_3), (4, .int r_1), (0, .ref (ad b)), (1, .int a1), (2, .int a2), (3, .int a3)]) hx hb dX3_retained_25 hl (by decide) rfl (fun ls hl => ?_)
  refine lv_iconst (v := (0 : Int32)) hx hb dX3_retained_27 (by decide) ?_
  refine lv_istore (lv' := [(7, .int (0 : Int32)), (6, .int r_4), (5, .int x_3), (4, .int r_1), (0, .ref (ad b)), (1, .int a1), (2, .int a2), (3, .int a3)]) hx hb dX3_retained_28 hl (by decide) rfl (fun ls hl => ?_)
  exact wX3_retained_30 hE hr hlk _ _ _ _ _ _ _ hW hB_st hF (lv_sub hl [4, 3, 2, 1, 0] rfl) h
set_option maxHeartbeats 4000000 in
set_option maxRecDepth 100000 in
theorem mX3_goneIfRetained {l : Launch} {D : va_G} {ct : Nat → ClassId} {J : List Nat} {ad : Nat → Nat} {c0 : CF} {a1 : Int32} {a2 : Int32} {a3 : Int32} {b : Nat} {st : CS} (hB_st : LgB ct J ad c0 b st) {r : Int32} (h : fX3_goneIfRetained  a1 a2 a3 st = some r) : Mi l D ct J ad yX3_goneIfRetained cX3_goneIfRetained 4 (some .int) (rr 4 90) [.ref (ad b), .int a1, .int a2, .int a3] c0 r (fun c' => c' = c0) := by
  refine Mi_of (own := RX3) (by decide) rfl (Nat.le_of_ble_eq_true rfl) (fun p e s m below meth cd hE hr hlk hW ls hl => ?_)
  have hx := hE.1
  have hb := hE.2.1
  have hl : lv_has ls 4 [(0, .ref (ad b)), (1, .int a1), (2, .int a2), (3, .int a3)] := hl
  rw [fX3_goneIfRetained] at h
  refine lv_aload_n hx hb dX3_goneIfRetained_0 rfl (lv_at hl 0 rfl) ?_
  refine lv_iconst (v := (0 : Int32)) hx hb dX3_goneIfRetained_1 (by decide) ?_
  refine lv_aload_n hx hb dX3_goneIfRetained_2 rfl (lv_at hl 0 rfl) ?_
  refine k_get (v := .ref (ad (b + 1 + 5))) hE hW hB_st.o hB_st.obj rfl inX3 5 (by decide) q50 rfl dX3_goneIfRetained_3 ?_
  refine lv_aload_n hx hb dX3_goneIfRetained_6 rfl (lv_at hl 0 rfl) ?_
  refine lv_iload_n hx hb dX3_goneIfRetained_7 rfl (lv_at hl 1 rfl) ?_
  refine lv_iload_n hx hb dX3_goneIfRetained_8 rfl (lv_at hl 2 rfl) ?_
  refine lv_iload_n hx hb dX3_goneIfRetained_9 rfl (lv_at hl 3 rfl) ?_
  obtain ⟨r_1, hr_1, h⟩ := zb_e h
  refine k_callVi (rest := [.ref (ad (b + 1 + 5)), .int (0 : Int32), .ref (ad b)]) hE hW hl.1 (mX3_segmentsGoing hB_st hr_1) hB_st.o hB_st.obj rfl q377 q379 qs17 q3 q380 hd_X3_segmentsGoing ⟨Nat.le_of_ble_eq_true rfl, Nat.le_of_ble_eq_true rfl⟩ ⟨rfl, rfl⟩ rfl (Nat.le_of_ble_eq_true rfl) dX3_goneIfRetained_10 ⟨Nat.zero_le _, Nat.zero_le _⟩ (fun c1 H locs hP hW => ?_)
  rw [hP] at hW
  obtain ⟨g_2, h⟩ := zi_e h
  refine k_iald hE hW (hB_st.memA 5 (Nat.le_of_ble_eq_true rfl)) (hB_st.arr 5 rfl) g_2 dX3_goneIfRetained_13 ?_
  obtain ⟨r_3, hr_3, h⟩ := zb_e h
  refine k_callVi (rest := []) hE hW hl.1 (mX3_recordsIn hB_st hr_3) hB_st.o hB_st.obj rfl q300 q302 qs3 q3 q303 hd_X3_recordsIn ⟨Nat.le_of_ble_eq_true rfl, Nat.le_of_ble_eq_true rfl⟩ ⟨rfl, rfl⟩ rfl (Nat.le_of_ble_eq_true rfl) dX3_goneIfRetained_14 ⟨Nat.zero_le _, Nat.zero_le _⟩ (fun c1 H locs hP hW => ?_)
  rw [hP] at hW
  obtain rfl := Option.some.inj h
  exact k_iret hE hr hlk hW rfl rfl dX3_goneIfRetained_17
set_option maxHeartbeats 4000000 in
set_option maxRecDepth 100000 in
theorem mX3_leftIfRetained {l : Launch} {D : va_G} {ct : Nat → ClassId} {J : List Nat} {ad : Nat → Nat} {c0 : CF} {a1 : Int32} {a2 : Int32} {a3 : Int32} {b : Nat} {st : CS} (hB_st : LgB ct J ad c0 b st) {r : Int32} (h : fX3_leftIfRetained  a1 a2 a3 st = some r) : Mi l D ct J ad yX3_leftIfRetained cX3_leftIfRetained 4 (some .int) (rr 4 90) [.ref (ad b), .int a1, .int a2, .int a3] c0 r (fun c' => c' = c0) := by
  refine Mi_of (own := RX3) (by decide) rfl (Nat.le_of_ble_eq_true rfl) (fun p e s m below meth cd hE hr hlk hW ls hl => ?_)
  have hx := hE.1
  have hb := hE.2.1
  have hl : lv_has ls 4 [(0, .ref (ad b)), (1, .int a1), (2, .int a2), (3, .int a3)] := hl
  rw [fX3_leftIfRetained] at h
  refine lv_aload_n hx hb dX3_leftIfRetained_0 rfl (lv_at hl 0 rfl) ?_
  refine lv_aload_n hx hb dX3_leftIfRetained_1 rfl (lv_at hl 0 rfl) ?_
  refine k_get (v := .ref (ad (b + 1 + 5))) hE hW hB_st.o hB_st.obj rfl inX3 5 (by decide) q50 rfl dX3_leftIfRetained_2 ?_
  refine lv_aload_n hx hb dX3_leftIfRetained_5 rfl (lv_at hl 0 rfl) ?_
  refine lv_iload_n hx hb dX3_leftIfRetained_6 rfl (lv_at hl 1 rfl) ?_
  refine lv_iload_n hx hb dX3_leftIfRetained_7 rfl (lv_at hl 2 rfl) ?_
  refine lv_iload_n hx hb dX3_leftIfRetained_8 rfl (lv_at hl 3 rfl) ?_
  obtain ⟨r_1, hr_1, h⟩ := zb_e h
  refine k_callVi (rest := [.ref (ad (b + 1 + 5)), .ref (ad b)]) hE hW hl.1 (mX3_segmentsGoing hB_st hr_1) hB_st.o hB_st.obj rfl q377 q379 qs17 q3 q380 hd_X3_segmentsGoing ⟨Nat.le_of_ble_eq_true rfl, Nat.le_of_ble_eq_true rfl⟩ ⟨rfl, rfl⟩ rfl (Nat.le_of_ble_eq_true rfl) dX3_leftIfRetained_9 ⟨Nat.zero_le _, Nat.zero_le _⟩ (fun c1 H locs hP hW => ?_)
  rw [hP] at hW
  obtain ⟨g_2, h⟩ := zi_e h
  refine k_iald hE hW (hB_st.memA 5 (Nat.le_of_ble_eq_true rfl)) (hB_st.arr 5 rfl) g_2 dX3_leftIfRetained_12 ?_
  refine lv_aload_n hx hb dX3_leftIfRetained_13 rfl (lv_at hl 0 rfl) ?_
  refine k_get (v := .int (st.2 0)) hE hW hB_st.o hB_st.obj rfl inX3 7 (by decide) q54 rfl dX3_leftIfRetained_14 ?_
  obtain ⟨r_3, hr_3, h⟩ := zb_e h
  refine k_callVi (rest := []) hE hW hl.1 (mX3_recordsIn hB_st hr_3) hB_st.o hB_st.obj rfl q300 q302 qs3 q3 q303 hd_X3_recordsIn ⟨Nat.le_of_ble_eq_true rfl, Nat.le_of_ble_eq_true rfl⟩ ⟨rfl, rfl⟩ rfl (Nat.le_of_ble_eq_true rfl) dX3_leftIfRetained_17 ⟨Nat.zero_le _, Nat.zero_le _⟩ (fun c1 H locs hP hW => ?_)
  rw [hP] at hW
  obtain rfl := Option.some.inj h
  exact k_iret hE hr hlk hW rfl rfl dX3_leftIfRetained_20
set_option maxHeartbeats 4000000 in
set_option maxRecDepth 100000 in
theorem mX3_isMapped {l : Launch} {D : va_G} {ct : Nat → ClassId} {J : List Nat} {ad : Nat → Nat} {c0 : CF} {a1 : Int32} {b : Nat} {st : CS} (hB_st : LgB ct J ad c0 b st) {r : Int32} (h : fX3_isMapped  a1 st = some r) : Mi l D ct J ad yX3_isMapped cX3_isMapped 2 (some .boolean) (rr 0 0) [.ref (ad b), .int a1] c0 r (fun c' => c' = c0) := by
  refine Mi_of (own := RX3) (by decide) rfl (Nat.le_of_ble_eq_true rfl) (fun p e s m below meth cd hE hr hlk hW ls hl => ?_)
  have hx := hE.1
  have hb := hE.2.1
  have hl : lv_has ls 2 [(0, .ref (ad b)), (1, .int a1)] := hl
  rw [fX3_isMapped] at h
  refine lv_aload_n hx hb dX3_isMapped_0 rfl (lv_at hl 0 rfl) ?_
  refine k_get (v := .ref (ad (b + 1 + 6))) hE hW hB_st.o hB_st.obj rfl inX3 6 (by decide) q52 rfl dX3_isMapped_1 ?_
  refine lv_iload_n hx hb dX3_isMapped_4 rfl (lv_at hl 1 rfl) ?_
  obtain ⟨g_1, h⟩ := zi_e h
  refine k_iald hE hW (hB_st.memA 6 (Nat.le_of_ble_eq_true rfl)) (hB_st.arr 6 rfl) g_1 dX3_isMapped_5 ?_
  refine lv_if_lt (tgt := 28) hx hb dX3_isMapped_6 (by decide) (fun k_2 => ?_) (fun k_2 => ?_)
  · have h := it_t k_2 h
    refine lv_iconst (v := (0 : Int32)) hx hb dX3_isMapped_28 (by decide) ?_
    obtain rfl := Option.some.inj h
    exact k_zret hE hr hlk hW rfl rfl rfl dX3_isMapped_29
  · have h := it_f k_2 h
    refine lv_aload_n hx hb dX3_isMapped_9 rfl (lv_at hl 0 rfl) ?_
    refine k_get (v := .ref (ad (b + 1 + 0))) hE hW hB_st.o hB_st.obj rfl inX3 0 (by decide) q37 rfl dX3_isMapped_10 ?_
    refine lv_aload_n hx hb dX3_isMapped_13 rfl (lv_at hl 0 rfl) ?_
    refine k_get (v := .ref (ad (b + 1 + 6))) hE hW hB_st.o hB_st.obj rfl inX3 6 (by decide) q52 rfl dX3_isMapped_14 ?_
    refine lv_iload_n hx hb dX3_isMapped_17 rfl (lv_at hl 1 rfl) ?_
    obtain ⟨g_3, h⟩ := zi_e h
    refine k_iald hE hW (hB_st.memA 6 (Nat.le_of_ble_eq_true rfl)) (hB_st.arr 6 rfl) g_3 dX3_isMapped_18 ?_
    obtain ⟨g_4, h⟩ := zi_e h
    refine k_iald hE hW (hB_st.memA 0 (Nat.le_of_ble_eq_true rfl)) (hB_st.arr 0 rfl) g_4 dX3_isMapped_19 ?_
    refine lv_iconst (v := (1 : Int32)) hx hb dX3_isMapped_20 (by decide) ?_
    refine lv_icmp_ne (tgt := 28) hx hb dX3_isMapped_21 (by decide) (fun k_5 => ?_) (fun k_5 => ?_)
    · have h := it_f k_5 h
      refine lv_iconst (v := (0 : Int32)) hx hb dX3_isMapped_28 (by decide) ?_
      obtain rfl := Option.some.inj h
      exact k_zret hE hr hlk hW rfl rfl rfl dX3_isMapped_29
    · have h := it_t k_5 h
      refine lv_iconst (v := (1 : Int32)) hx hb dX3_isMapped_24 (by decide) ?_
      refine lv_goto (tgt := 29) hx hb dX3_isMapped_25 (by decide) ?_
      obtain rfl := Option.some.inj h
      exact k_zret hE hr hlk hW rfl rfl rfl dX3_isMapped_29
set_option maxHeartbeats 4000000 in
set_option maxRecDepth 100000 in
theorem wX3_mapSize_9 {p : Program} {l : Launch} {e : Env} {s : State} {m : MethodId} {args : Array Value} {below : List Frame} {meth : Method} {cd : Code} {D : va_G} {ct : Nat → ClassId} {J : List Nat} {ad : Nat → Nat} {c0 : CF} {b : Nat} (hE : ME p s m cd args D ct cX3_mapSize RX3 4) (hr : meth.sig.returnType = (some .int)) (hlk : meth.locks = false) {r : Int32} {st9 : CS} : ∀ (n : Nat) (x2 : Int32) (x3 : Int32) (st : CS) (c : CF) (H : Heap) (locs : List Loc) (ls : Array Slot), HW D J ad c (aA J ad s.heap.size) s.heap H locs → LgB ct J ad c b st → Fr c0 c b 8 → lv_has ls 4 [(0, .ref (ad b)), (2, .int x2), (3, .int x3)] → fX3_mapSize_9 n x2 x3 st = some (r, st9) → W p l e (rr 1 22) s m args below meth cd H locs 0 0 (MQ below (Qi D J ad s.heap.size r (fun c' => LgB ct J ad c' b st9 ∧ Fr c0 c' b 8)) args s 0 0 (aA J ad s.heap.size)) (F0 m 9 ls []) := by
  have hx := hE.1
  have hb := hE.2.1
  intro n
  induction n with
  | zero =>
    intro x2 x3 st c H locs ls hW hB_st hF hl h
    have h2 : (none : Option (Int32 × CS)) = some (r, st9) := h
    cases h2
  | succ n ih =>
    intro x2 x3 st c H locs ls hW hB_st hF hl h
    rw [fX3_mapSize_9] at h
    refine lv_iload_n hx hb dX3_mapSize_9 rfl (lv_at hl 2 rfl) ?_
    refine lv_bipush (v := (26 : Int32)) hx hb dX3_mapSize_10 (by decide) ?_
    refine lv_icmp_ge (tgt := 32) hx hb dX3_mapSize_12 (by decide) (fun k_2 => ?_) (fun k_2 => ?_)
    · have h := it_t k_2 h
      refine lv_iload_n hx hb dX3_mapSize_32 rfl (lv_at hl 1 rfl) ?_
      obtain ⟨rfl, rfl⟩ := Prod.mk.inj (Option.some.inj h)
      exact k_iret hE hr hlk hW ⟨hB_st, hF⟩ rfl dX3_mapSize_33
    · have h := it_f k_2 h
      refine lv_aload_n hx hb dX3_mapSize_15 rfl (lv_at hl 0 rfl) ?_
      refine lv_iload_n hx hb dX3_mapSize_16 rfl (lv_at hl 2 rfl) ?_
      obtain ⟨r_3, hr_3, h⟩ := zb_e h
      refine k_callVi (rest := []) hE hW hl.1 (mX3_isMapped hB_st hr_3) hB_st.o hB_st.obj rfl q447 q449 qs31 q3 q450 hd_X3_isMapped ⟨Nat.le_of_ble_eq_true rfl, Nat.le_of_ble_eq_true rfl⟩ ⟨rfl, rfl⟩ rfl (Nat.le_of_ble_eq_true rfl) dX3_mapSize_17 ⟨Nat.zero_le _, Nat.zero_le _⟩ (fun c1 H locs hP hW => ?_)
      rw [hP] at hW
      refine lv_if_eq (tgt := 26) hx hb dX3_mapSize_20 (by decide) (fun k_4 => ?_) (fun k_4 => ?_)
      · have h := it_t k_4 h
        refine lv_iinc (v := (x3 + (1 : Int32))) (lv' := [(3, .int (x3 + (1 : Int32))), (0, .ref (ad b)), (2, .int x2)]) hx hb dX3_mapSize_26 hl (k := 2) rfl rfl (by decide) rfl (fun ls hl => ?_)
        refine lv_goto (tgt := 9) hx hb dX3_mapSize_29 (by decide) ?_
        exact ih _ _ _ _ _ _ _ hW hB_st hF (lv_sub hl [1, 2, 0] rfl) h
      · have h := it_f k_4 h
        refine lv_iinc (v := (x2 + (1 : Int32))) (lv' := [(2, .int (x2 + (1 : Int32))), (0, .ref (ad b)), (3, .int x3)]) hx hb dX3_mapSize_23 hl (k := 1) rfl rfl (by decide) rfl (fun ls hl => ?_)
        refine lv_iinc (v := (x3 + (1 : Int32))) (lv' := [(3, .int (x3 + (1 : Int32))), (2, .int (x2 + (1 : Int32))), (0, .ref (ad b))]) hx hb dX3_mapSize_26 hl (k := 2) rfl rfl (by decide) rfl (fun ls hl => ?_)
        refine lv_goto (tgt := 9) hx hb dX3_mapSize_29 (by decide) ?_
        exact ih _ _ _ _ _ _ _ hW hB_st hF (lv_sub hl [2, 1, 0] rfl) h
set_option maxHeartbeats 4000000 in
set_option maxRecDepth 100000 in
theorem mX3_mapSize {l : Launch} {D : va_G} {ct : Nat → ClassId} {J : List Nat} {ad : Nat → Nat} {c0 : CF} {a1 : Int32} {b : Nat} {st : CS} (hB_st : LgB ct J ad c0 b st) {r : Int32} {st9 : CS} (h : fX3_mapSize  a1 st = some (r, st9)) : Mi l D ct J ad yX3_mapSize cX3_mapSize 4 (some .int) (rr 1 22) [.ref (ad b), .int a1] c0 r (fun c' => LgB ct J ad c' b st9 ∧ Fr c0 c' b 8) := by
  refine Mi_of (own := RX3) (by decide) rfl (Nat.le_of_ble_eq_true rfl) (fun p e s m below meth cd hE hr hlk hW ls hl => ?_)
  have hx := hE.1
  have hb := hE.2.1
  have hl : lv_has ls 4 [(0, .ref (ad b)), (1, .int a1)] := hl
  rw [fX3_mapSize] at h
  obtain ⟨c, hB_st, hF, hW⟩ : ∃ c', LgB ct J ad c' b st ∧ Fr c0 c' b 8 ∧ HW D J ad c' (aA J ad s.heap.size) s.heap s.heap [] := ⟨c0, hB_st, Fr.rf, hW⟩
  refine lv_aload_n hx hb dX3_mapSize_0 rfl (lv_at hl 0 rfl) ?_
  refine lv_iload_n hx hb dX3_mapSize_1 rfl (lv_at hl 1 rfl) ?_
  obtain ⟨st_1, hst_1, h⟩ := zb_e h
  refine k_callVv (rest := []) hE hW hl.1 (mX3_findLast hB_st hst_1) hB_st.o hB_st.obj rfl q341 q343 qs9 q3 q344 hd_X3_findLast ⟨Nat.le_of_ble_eq_true rfl, Nat.le_of_ble_eq_true rfl⟩ ⟨rfl, rfl⟩ rfl (Nat.le_of_ble_eq_true rfl) dX3_mapSize_2 ⟨Nat.zero_le _, Nat.zero_le _⟩ (fun c1 H locs hP hW => ?_)
  obtain ⟨c, hB_st, hF, hW⟩ : ∃ c', LgB ct J ad c' b st_1 ∧ Fr c0 c' b 8 ∧ HW D J ad c' (aA J ad s.heap.size) s.heap H locs := ⟨c1, hP.1, hF.trans hP.2, hW⟩
  refine lv_iconst (v := (0 : Int32)) hx hb dX3_mapSize_5 (by decide) ?_
  refine lv_istore_n (lv' := [(2, .int (0 : Int32)), (0, .ref (ad b)), (1, .int a1)]) hx hb dX3_mapSize_6 rfl hl (by decide) rfl (fun ls hl => ?_)
  refine lv_iconst (v := (0 : Int32)) hx hb dX3_mapSize_7 (by decide) ?_
  refine lv_istore_n (lv' := [(3, .int (0 : Int32)), (2, .int (0 : Int32)), (0, .ref (ad b)), (1, .int a1)]) hx hb dX3_mapSize_8 rfl hl (by decide) rfl (fun ls hl => ?_)
  exact wX3_mapSize_9 hE hr hlk _ _ _ _ _ _ _ _ hW hB_st hF (lv_sub hl [2, 1, 0] rfl) h
set_option maxHeartbeats 4000000 in
set_option maxRecDepth 100000 in
theorem mX3_mapValue {l : Launch} {D : va_G} {ct : Nat → ClassId} {J : List Nat} {ad : Nat → Nat} {c0 : CF} {a1 : Int32} {a2 : Int32} {b : Nat} {st : CS} (hB_st : LgB ct J ad c0 b st) {r : Int64} {st9 : CS} (h : fX3_mapValue  a1 a2 st = some (r, st9)) : Ml l D ct J ad yX3_mapValue cX3_mapValue 3 (some .long) (rr 1 22) [.ref (ad b), .int a1, .int a2] c0 r (fun c' => LgB ct J ad c' b st9 ∧ Fr c0 c' b 8) := by
  refine Ml_of (own := RX3) (by decide) rfl (Nat.le_of_ble_eq_true rfl) (fun p e s m below meth cd hE hr hlk hW ls hl => ?_)
  have hx := hE.1
  have hb := hE.2.1
  have hl : lv_has ls 3 [(0, .ref (ad b)), (1, .int a1), (2, .int a2)] := hl
  rw [fX3_mapValue] at h
  obtain ⟨c, hB_st, hF, hW⟩ : ∃ c', LgB ct J ad c' b st ∧ Fr c0 c' b 8 ∧ HW D J ad c' (aA J ad s.heap.size) s.heap s.heap [] := ⟨c0, hB_st, Fr.rf, hW⟩
  refine lv_aload_n hx hb dX3_mapValue_0 rfl (lv_at hl 0 rfl) ?_
  refine lv_iload_n hx hb dX3_mapValue_1 rfl (lv_at hl 2 rfl) ?_
  obtain ⟨st_1, hst_1, h⟩ := zb_e h
  refine k_callVv (rest := []) hE hW hl.1 (mX3_findLast hB_st hst_1) hB_st.o hB_st.obj rfl q341 q343 qs9 q3 q344 hd_X3_findLast ⟨Nat.le_of_ble_eq_true rfl, Nat.le_of_ble_eq_true rfl⟩ ⟨rfl, rfl⟩ rfl (Nat.le_of_ble_eq_true rfl) dX3_mapValue_2 ⟨Nat.zero_le _, Nat.zero_le _⟩ (fun c1 H locs hP hW => ?_)
  obtain ⟨c, hB_st, hF, hW⟩ : ∃ c', LgB ct J ad c' b st_1 ∧ Fr c0 c' b 8 ∧ HW D J ad c' (aA J ad s.heap.size) s.heap H locs := ⟨c1, hP.1, hF.trans hP.2, hW⟩
  refine lv_aload_n hx hb dX3_mapValue_5 rfl (lv_at hl 0 rfl) ?_
  refine lv_iload_n hx hb dX3_mapValue_6 rfl (lv_at hl 1 rfl) ?_
  obtain ⟨r_2, hr_2, h⟩ := zb_e h
  refine k_callVi (rest := []) hE hW hl.1 (mX3_isMapped hB_st hr_2) hB_st.o hB_st.obj rfl q447 q449 qs31 q3 q450 hd_X3_isMapped ⟨Nat.le_of_ble_eq_true rfl, Nat.le_of_ble_eq_true rfl⟩ ⟨rfl, rfl⟩ rfl (Nat.le_of_ble_eq_true rfl) dX3_mapValue_7 ⟨Nat.zero_le _, Nat.zero_le _⟩ (fun c1 H locs hP hW => ?_)
  rw [hP] at hW
  refine lv_if_eq (tgt := 28) hx hb dX3_mapValue_10 (by decide) (fun k_3 => ?_) (fun k_3 => ?_)
  · have h := it_t k_3 h
    refine lv_ldc2 (v := (-9223372036854775808 : Int64)) hx hb hE.2.2.2.1 (hE.2.2.2.2.1 _ q490) dX3_mapValue_28 ?_
    obtain ⟨rfl, rfl⟩ := Prod.mk.inj (Option.some.inj h)
    exact k_lret hE hr hlk hW ⟨hB_st, hF⟩ rfl dX3_mapValue_31
  · have h := it_f k_3 h
    refine lv_aload_n hx hb dX3_mapValue_13 rfl (lv_at hl 0 rfl) ?_
    refine k_get (v := .ref (ad (b + 1 + 4))) hE hW hB_st.o hB_st.obj rfl inX3 4 (by decide) q47 rfl dX3_mapValue_14 ?_
    refine lv_aload_n hx hb dX3_mapValue_17 rfl (lv_at hl 0 rfl) ?_
    refine k_get (v := .ref (ad (b + 1 + 6))) hE hW hB_st.o hB_st.obj rfl inX3 6 (by decide) q52 rfl dX3_mapValue_18 ?_
    refine lv_iload_n hx hb dX3_mapValue_21 rfl (lv_at hl 1 rfl) ?_
    obtain ⟨g_4, h⟩ := zi_e h
    refine k_iald hE hW (hB_st.memA 6 (Nat.le_of_ble_eq_true rfl)) (hB_st.arr 6 rfl) g_4 dX3_mapValue_22 ?_
    obtain ⟨g_5, h⟩ := zi_e h
    refine k_iald hE hW (hB_st.memA 4 (Nat.le_of_ble_eq_true rfl)) (hB_st.arr 4 rfl) g_5 dX3_mapValue_23 ?_
    refine lv_i2l (v := (st_1.1 4 (st_1.1 6 a1.toNatClampNeg).toNatClampNeg).toInt64) hx hb dX3_mapValue_24 rfl ?_
    refine lv_goto (tgt := 31) hx hb dX3_mapValue_25 (by decide) ?_
    obtain ⟨rfl, rfl⟩ := Prod.mk.inj (Option.some.inj h)
    exact k_lret hE hr hlk hW ⟨hB_st, hF⟩ rfl dX3_mapValue_31
set_option maxHeartbeats 4000000 in
set_option maxRecDepth 100000 in
theorem wX3_oddSum_4 {p : Program} {l : Launch} {e : Env} {s : State} {m : MethodId} {args : Array Value} {below : List Frame} {meth : Method} {cd : Code} {D : va_G} {ct : Nat → ClassId} {J : List Nat} {ad : Nat → Nat} {c0 : CF} {b : Nat} (hE : ME p s m cd args D ct cX3_oddSum RX3 4) (hr : meth.sig.returnType = (some .int)) (hlk : meth.locks = false) {st : CS} (hB_st : LgB ct J ad c0 b st) {r : Int32} : ∀ (n : Nat) (x1 : Int32) (x2 : Int32) (H : Heap) (locs : List Loc) (ls : Array Slot), HW D J ad c0 (aA J ad s.heap.size) s.heap H locs → lv_has ls 4 [(0, .ref (ad b)), (1, .int x1), (2, .int x2)] → fX3_oddSum_4 st n x1 x2 = some r → W p l e (rr 1 21) s m args below meth cd H locs 0 0 (MQ below (Qi D J ad s.heap.size r (fun c' => c' = c0)) args s 0 0 (aA J ad s.heap.size)) (F0 m 4 ls []) := by
  have hx := hE.1
  have hb := hE.2.1
  intro n
  induction n with
  | zero =>
    intro x1 x2 H locs ls hW hl h
    have h2 : (none : Option Int32) = some r := h
    cases h2
  | succ n ih =>
    intro x1 x2 H locs ls hW hl h
    rw [fX3_oddSum_4] at h
    refine lv_iload_n hx hb dX3_oddSum_4 rfl (lv_at hl 2 rfl) ?_
    refine lv_bipush (v := (26 : Int32)) hx hb dX3_oddSum_5 (by decide) ?_
    refine lv_icmp_ge (tgt := 67) hx hb dX3_oddSum_7 (by decide) (fun k_1 => ?_) (fun k_1 => ?_)
    · have h := it_t k_1 h
      refine lv_iload_n hx hb dX3_oddSum_67 rfl (lv_at hl 1 rfl) ?_
      obtain rfl := Option.some.inj h
      exact k_iret hE hr hlk hW rfl rfl dX3_oddSum_68
    · have h := it_f k_1 h
      refine lv_aload_n hx hb dX3_oddSum_10 rfl (lv_at hl 0 rfl) ?_
      refine lv_iload_n hx hb dX3_oddSum_11 rfl (lv_at hl 2 rfl) ?_
      obtain ⟨r_2, hr_2, h⟩ := zb_e h
      refine k_callVi (rest := []) hE hW hl.1 (mX3_isMapped hB_st hr_2) hB_st.o hB_st.obj rfl q447 q449 qs31 q3 q450 hd_X3_isMapped ⟨Nat.le_of_ble_eq_true rfl, Nat.le_of_ble_eq_true rfl⟩ ⟨rfl, rfl⟩ rfl (Nat.le_of_ble_eq_true rfl) dX3_oddSum_12 ⟨Nat.zero_le _, Nat.zero_le _⟩ (fun c1 H locs hP hW => ?_)
      rw [hP] at hW
      refine lv_if_eq (tgt := 61) hx hb dX3_oddSum_15 (by decide) (fun k_3 => ?_) (fun k_3 => ?_)
      · have h := it_t k_3 h
        refine lv_iinc (v := (x2 + (1 : Int32))) (lv' := [(2, .int (x2 + (1 : Int32))), (0, .ref (ad b)), (1, .int x1)]) hx hb dX3_oddSum_61 hl (k := 2) rfl rfl (by decide) rfl (fun ls hl => ?_)
        refine lv_goto (tgt := 4) hx hb dX3_oddSum_64 (by decide) ?_
        exact ih _ _ _ _ _ hW (lv_sub hl [1, 2, 0] rfl) h
      · have h := it_f k_3 h
        refine lv_aload_n hx hb dX3_oddSum_18 rfl (lv_at hl 0 rfl) ?_
        refine k_get (v := .ref (ad (b + 1 + 4))) hE hW hB_st.o hB_st.obj rfl inX3 4 (by decide) q47 rfl dX3_oddSum_19 ?_
        refine lv_aload_n hx hb dX3_oddSum_22 rfl (lv_at hl 0 rfl) ?_
        refine k_get (v := .ref (ad (b + 1 + 6))) hE hW hB_st.o hB_st.obj rfl inX3 6 (by decide) q52 rfl dX3_oddSum_23 ?_
        refine lv_iload_n hx hb dX3_oddSum_26 rfl (lv_at hl 2 rfl) ?_
        obtain ⟨g_4, h⟩ := zi_e h
        refine k_iald hE hW (hB_st.memA 6 (Nat.le_of_ble_eq_true rfl)) (hB_st.arr 6 rfl) g_4 dX3_oddSum_27 ?_
        obtain ⟨g_5, h⟩ := zi_e h
        refine k_iald hE hW (hB_st.memA 4 (Nat.le_of_ble_eq_true rfl)) (hB_st.arr 4 rfl) g_5 dX3_oddSum_28 ?_
        obtain ⟨r_6, hr_6, h⟩ := zb_e h
        refine k_callSNi (rest := []) hE hW hl.1 (mX0_isFinite hr_6) q503 q504 q11 q505 hd_X0_isFinite.2 ⟨Nat.le_of_ble_eq_true rfl, Nat.le_of_ble_eq_true rfl⟩ ⟨rfl, rfl⟩ rfl (Nat.le_of_ble_eq_true rfl) dX3_oddSum_29 ⟨Nat.zero_le _, Nat.zero_le _⟩ (fun c1 H locs hP hW => ?_)
        rw [hP] at hW
        refine lv_if_ne (tgt := 61) hx hb dX3_oddSum_32 (by decide) (fun k_7 => ?_) (fun k_7 => ?_)
        · have h := it_f k_7 h
          refine lv_iinc (v := (x2 + (1 : Int32))) (lv' := [(2, .int (x2 + (1 : Int32))), (0, .ref (ad b)), (1, .int x1)]) hx hb dX3_oddSum_61 hl (k := 2) rfl rfl (by decide) rfl (fun ls hl => ?_)
          refine lv_goto (tgt := 4) hx hb dX3_oddSum_64 (by decide) ?_
          exact ih _ _ _ _ _ hW (lv_sub hl [1, 2, 0] rfl) h
        · have h := it_t k_7 h
          refine lv_aload_n hx hb dX3_oddSum_35 rfl (lv_at hl 0 rfl) ?_
          refine k_get (v := .ref (ad (b + 1 + 4))) hE hW hB_st.o hB_st.obj rfl inX3 4 (by decide) q47 rfl dX3_oddSum_36 ?_
          refine lv_aload_n hx hb dX3_oddSum_39 rfl (lv_at hl 0 rfl) ?_
          refine k_get (v := .ref (ad (b + 1 + 6))) hE hW hB_st.o hB_st.obj rfl inX3 6 (by decide) q52 rfl dX3_oddSum_40 ?_
          refine lv_iload_n hx hb dX3_oddSum_43 rfl (lv_at hl 2 rfl) ?_
          obtain ⟨g_8, h⟩ := zi_e h
          refine k_iald hE hW (hB_st.memA 6 (Nat.le_of_ble_eq_true rfl)) (hB_st.arr 6 rfl) g_8 dX3_oddSum_44 ?_
          obtain ⟨g_9, h⟩ := zi_e h
          refine k_iald hE hW (hB_st.memA 4 (Nat.le_of_ble_eq_true rfl)) (hB_st.arr 4 rfl) g_9 dX3_oddSum_45 ?_
          refine lv_topi (fun x_10 ex_10 => ?_)
          have h := zl_n h ex_10
          refine lv_istore_n (lv' := [(3, .int x_10), (0, .ref (ad b)), (1, .int x1), (2, .int x2)]) hx hb dX3_oddSum_46 rfl hl (by decide) rfl (fun ls hl => ?_)
          refine lv_iload_n hx hb dX3_oddSum_47 rfl (lv_at hl 2 rfl) ?_
          refine lv_if_ne (tgt := 55) hx hb dX3_oddSum_48 (by decide) (fun k_11 => ?_) (fun k_11 => ?_)
          · have h := it_f k_11 h
            refine lv_iload_n hx hb dX3_oddSum_55 rfl (lv_at hl 2 rfl) ?_
            refine lv_iload_n hx hb dX3_oddSum_56 rfl (lv_at hl 0 rfl) ?_
            obtain ⟨r_12, hr_12, h⟩ := zb_e h
            refine k_callSNi (rest := []) hE hW hl.1 (mX0_oddSum hr_12) q516 q517 q11 q518 hd_X0_oddSum.2 ⟨Nat.le_of_ble_eq_true rfl, Nat.le_of_ble_eq_true rfl⟩ ⟨rfl, rfl⟩ rfl (Nat.le_of_ble_eq_true rfl) dX3_oddSum_57 ⟨Nat.zero_le _, Nat.zero_le _⟩ (fun c1 H locs hP hW => ?_)
            rw [hP] at hW
            refine lv_istore_n (lv' := [(1, .int r_12), (3, .int x_10), (0, .ref (ad b)), (2, .int x2)]) hx hb dX3_oddSum_60 rfl hl (by decide) rfl (fun ls hl => ?_)
            refine lv_iinc (v := (x2 + (1 : Int32))) (lv' := [(2, .int (x2 + (1 : Int32))), (1, .int r_12), (3, .int x_10), (0, .ref (ad b))]) hx hb dX3_oddSum_61 hl (k := 3) rfl rfl (by decide) rfl (fun ls hl => ?_)
            refine lv_goto (tgt := 4) hx hb dX3_oddSum_64 (by decide) ?_
            exact ih _ _ _ _ _ hW (lv_sub hl [3, 1, 0] rfl) h
          · have h := it_t k_11 h
            refine lv_iload_n hx hb dX3_oddSum_51 rfl (lv_at hl 0 rfl) ?_
            refine lv_goto (tgt := 60) hx hb dX3_oddSum_52 (by decide) ?_
            refine lv_istore_n (lv' := [(1, .int x_10), (3, .int x_10), (0, .ref (ad b)), (2, .int x2)]) hx hb dX3_oddSum_60 rfl hl (by decide) rfl (fun ls hl => ?_)
            refine lv_iinc (v := (x2 + (1 : Int32))) (lv' := [(2, .int (x2 + (1 : Int32))), (1, .int x_10), (3, .int x_10), (0, .ref (ad b))]) hx hb dX3_oddSum_61 hl (k := 3) rfl rfl (by decide) rfl (fun ls hl => ?_)
            refine lv_goto (tgt := 4) hx hb dX3_oddSum_64 (by decide) ?_
            exact ih _ _ _ _ _ hW (lv_sub hl [3, 1, 0] rfl) h
set_option maxHeartbeats 4000000 in
set_option maxRecDepth 100000 in
theorem mX3_oddSum {l : Launch} {D : va_G} {ct : Nat → ClassId} {J : List Nat} {ad : Nat → Nat} {c0 : CF} {b : Nat} {st : CS} (hB_st : LgB ct J ad c0 b st) {r : Int32} (h : fX3_oddSum   st = some r) : Mi l D ct J ad yX3_oddSum cX3_oddSum 4 (some .int) (rr 1 21) [.ref (ad b)] c0 r (fun c' => c' = c0) := by
  refine Mi_of (own := RX3) (by decide) rfl (Nat.le_of_ble_eq_true rfl) (fun p e s m below meth cd hE hr hlk hW ls hl => ?_)
  have hx := hE.1
  have hb := hE.2.1
  have hl : lv_has ls 4 [(0, .ref (ad b))] := hl
  rw [fX3_oddSum] at h
  refine lv_iconst (v := (0 : Int32)) hx hb dX3_oddSum_0 (by decide) ?_
  refine lv_istore_n (lv' := [(1, .int (0 : Int32)), (0, .ref (ad b))]) hx hb dX3_oddSum_1 rfl hl (by decide) rfl (fun ls hl => ?_)
  refine lv_iconst (v := (0 : Int32)) hx hb dX3_oddSum_2 (by decide) ?_
  refine lv_istore_n (lv' := [(2, .int (0 : Int32)), (1, .int (0 : Int32)), (0, .ref (ad b))]) hx hb dX3_oddSum_3 rfl hl (by decide) rfl (fun ls hl => ?_)
  exact wX3_oddSum_4 hE hr hlk hB_st _ _ _ _ _ _ hW (lv_sub hl [2, 1, 0] rfl) h
set_option maxHeartbeats 4000000 in
set_option maxRecDepth 100000 in
theorem wX3_summand_30 {p : Program} {l : Launch} {e : Env} {s : State} {m : MethodId} {args : Array Value} {below : List Frame} {meth : Method} {cd : Code} {D : va_G} {ct : Nat → ClassId} {J : List Nat} {ad : Nat → Nat} {c0 : CF} {b : Nat} (hE : ME p s m cd args D ct cX3_summand RX3 3) (hr : meth.sig.returnType = (some .float)) (hlk : meth.locks = false) {st : CS} (hB_st : LgB ct J ad c0 b st) {r : UInt32} : ∀ (x1 : Int32) (y0 : Int32) (H : Heap) (locs : List Loc) (ls : Array Slot), HW D J ad c0 (aA J ad s.heap.size) s.heap H locs → lv_has ls 3 [(0, .ref (ad b)), (1, .int x1)] → fX3_summand_30 st x1 y0 = some r → W p l e (rr 1 23) s m args below meth cd H locs 0 0 (MQ below (Qf D J ad s.heap.size r (fun c' => c' = c0)) args s 0 0 (aA J ad s.heap.size)) (F0 m 30 ls [.int y0]) := by
  have hx := hE.1
  have hb := hE.2.1
  intro x1 y0 H locs ls hW hl h
  rw [fX3_summand_30] at h
  refine lv_istore_n (lv' := [(2, .int y0), (0, .ref (ad b)), (1, .int x1)]) hx hb dX3_summand_30 rfl hl (by decide) rfl (fun ls hl => ?_)
  refine lv_iload_n hx hb dX3_summand_31 rfl (lv_at hl 0 rfl) ?_
  refine lv_if_eq (tgt := 52) hx hb dX3_summand_32 (by decide) (fun k_3 => ?_) (fun k_3 => ?_)
  · have h := it_t k_3 h
    refine lv_fconst0 hx hb dX3_summand_52 ?_
    obtain rfl := Option.some.inj h
    exact k_fret hE hr hlk hW rfl rfl dX3_summand_53
  · have h := it_f k_3 h
    refine lv_aload_n hx hb dX3_summand_35 rfl (lv_at hl 1 rfl) ?_
    refine k_get (v := .ref (ad (b + 1 + 4))) hE hW hB_st.o hB_st.obj rfl inX3 4 (by decide) q47 rfl dX3_summand_36 ?_
    refine lv_aload_n hx hb dX3_summand_39 rfl (lv_at hl 1 rfl) ?_
    refine k_get (v := .ref (ad (b + 1 + 6))) hE hW hB_st.o hB_st.obj rfl inX3 6 (by decide) q52 rfl dX3_summand_40 ?_
    refine lv_iload_n hx hb dX3_summand_43 rfl (lv_at hl 2 rfl) ?_
    obtain ⟨g_4, h⟩ := zi_e h
    refine k_iald hE hW (hB_st.memA 6 (Nat.le_of_ble_eq_true rfl)) (hB_st.arr 6 rfl) g_4 dX3_summand_44 ?_
    obtain ⟨g_5, h⟩ := zi_e h
    refine k_iald hE hW (hB_st.memA 4 (Nat.le_of_ble_eq_true rfl)) (hB_st.arr 4 rfl) g_5 dX3_summand_45 ?_
    obtain ⟨r_6, hr_6, h⟩ := zb_e h
    refine k_callSNf (rest := []) hE hW hl.1 (mX0_floatOf hr_6) q506 q507 q11 q508 hd_X0_floatOf.2 ⟨Nat.le_of_ble_eq_true rfl, Nat.le_of_ble_eq_true rfl⟩ ⟨rfl, rfl⟩ rfl (Nat.le_of_ble_eq_true rfl) dX3_summand_46 ⟨Nat.zero_le _, Nat.zero_le _⟩ (fun c1 H locs hP hW => ?_)
    rw [hP] at hW
    refine lv_goto (tgt := 53) hx hb dX3_summand_49 (by decide) ?_
    obtain rfl := Option.some.inj h
    exact k_fret hE hr hlk hW rfl rfl dX3_summand_53
set_option maxHeartbeats 4000000 in
set_option maxRecDepth 100000 in
theorem wX3_summand_29 {p : Program} {l : Launch} {e : Env} {s : State} {m : MethodId} {args : Array Value} {below : List Frame} {meth : Method} {cd : Code} {D : va_G} {ct : Nat → ClassId} {J : List Nat} {ad : Nat → Nat} {c0 : CF} {b : Nat} (hE : ME p s m cd args D ct cX3_summand RX3 3) (hr : meth.sig.returnType = (some .float)) (hlk : meth.locks = false) {st : CS} (hB_st : LgB ct J ad c0 b st) {r : UInt32} : ∀ (x1 : Int32) (H : Heap) (locs : List Loc) (ls : Array Slot), HW D J ad c0 (aA J ad s.heap.size) s.heap H locs → lv_has ls 3 [(0, .ref (ad b)), (1, .int x1)] → fX3_summand_29 st x1 = some r → W p l e (rr 1 23) s m args below meth cd H locs 0 0 (MQ below (Qf D J ad s.heap.size r (fun c' => c' = c0)) args s 0 0 (aA J ad s.heap.size)) (F0 m 29 ls []) := by
  have hx := hE.1
  have hb := hE.2.1
  intro x1 H locs ls hW hl h
  rw [fX3_summand_29] at h
  refine lv_iconst (v := (0 : Int32)) hx hb dX3_summand_29 (by decide) ?_
  exact wX3_summand_30 hE hr hlk hB_st _ _ _ _ _ hW (lv_sub hl [0, 1] rfl) h
set_option maxHeartbeats 4000000 in
set_option maxRecDepth 100000 in
theorem mX3_summand {l : Launch} {D : va_G} {ct : Nat → ClassId} {J : List Nat} {ad : Nat → Nat} {c0 : CF} {a1 : Int32} {b : Nat} {st : CS} (hB_st : LgB ct J ad c0 b st) {r : UInt32} (h : fX3_summand  a1 st = some r) : Mf l D ct J ad yX3_summand cX3_summand 3 (some .float) (rr 1 23) [.ref (ad b), .int a1] c0 r (fun c' => c' = c0) := by
  refine Mf_of (own := RX3) (by decide) rfl (Nat.le_of_ble_eq_true rfl) (fun p e s m below meth cd hE hr hlk hW ls hl => ?_)
  have hx := hE.1
  have hb := hE.2.1
  have hl : lv_has ls 3 [(0, .ref (ad b)), (1, .int a1)] := hl
  rw [fX3_summand] at h
  refine lv_aload_n hx hb dX3_summand_0 rfl (lv_at hl 0 rfl) ?_
  refine lv_iload_n hx hb dX3_summand_1 rfl (lv_at hl 1 rfl) ?_
  obtain ⟨r_1, hr_1, h⟩ := zb_e h
  refine k_callVi (rest := []) hE hW hl.1 (mX3_isMapped hB_st hr_1) hB_st.o hB_st.obj rfl q447 q449 qs31 q3 q450 hd_X3_isMapped ⟨Nat.le_of_ble_eq_true rfl, Nat.le_of_ble_eq_true rfl⟩ ⟨rfl, rfl⟩ rfl (Nat.le_of_ble_eq_true rfl) dX3_summand_2 ⟨Nat.zero_le _, Nat.zero_le _⟩ (fun c1 H locs hP hW => ?_)
  rw [hP] at hW
  refine lv_if_eq (tgt := 29) hx hb dX3_summand_5 (by decide) (fun k_2 => ?_) (fun k_2 => ?_)
  · have h := it_t k_2 h
    exact wX3_summand_29 hE hr hlk hB_st _ _ _ _ hW (lv_sub hl [0, 1] rfl) h
  · have h := it_f k_2 h
    refine lv_aload_n hx hb dX3_summand_8 rfl (lv_at hl 0 rfl) ?_
    refine k_get (v := .ref (ad (b + 1 + 4))) hE hW hB_st.o hB_st.obj rfl inX3 4 (by decide) q47 rfl dX3_summand_9 ?_
    refine lv_aload_n hx hb dX3_summand_12 rfl (lv_at hl 0 rfl) ?_
    refine k_get (v := .ref (ad (b + 1 + 6))) hE hW hB_st.o hB_st.obj rfl inX3 6 (by decide) q52 rfl dX3_summand_13 ?_
    refine lv_iload_n hx hb dX3_summand_16 rfl (lv_at hl 1 rfl) ?_
    obtain ⟨g_7, h⟩ := zi_e h
    refine k_iald hE hW (hB_st.memA 6 (Nat.le_of_ble_eq_true rfl)) (hB_st.arr 6 rfl) g_7 dX3_summand_17 ?_
    obtain ⟨g_8, h⟩ := zi_e h
    refine k_iald hE hW (hB_st.memA 4 (Nat.le_of_ble_eq_true rfl)) (hB_st.arr 4 rfl) g_8 dX3_summand_18 ?_
    obtain ⟨r_9, hr_9, h⟩ := zb_e h
    refine k_callSNi (rest := []) hE hW hl.1 (mX0_isFinite hr_9) q503 q504 q11 q505 hd_X0_isFinite.2 ⟨Nat.le_of_ble_eq_true rfl, Nat.le_of_ble_eq_true rfl⟩ ⟨rfl, rfl⟩ rfl (Nat.le_of_ble_eq_true rfl) dX3_summand_19 ⟨Nat.zero_le _, Nat.zero_le _⟩ (fun c1 H locs hP hW => ?_)
    rw [hP] at hW
    refine lv_if_eq (tgt := 29) hx hb dX3_summand_22 (by decide) (fun k_10 => ?_) (fun k_10 => ?_)
    · have h := it_t k_10 h
      exact wX3_summand_29 hE hr hlk hB_st _ _ _ _ hW (lv_sub hl [0, 1] rfl) h
    · have h := it_f k_10 h
      refine lv_iconst (v := (1 : Int32)) hx hb dX3_summand_25 (by decide) ?_
      refine lv_goto (tgt := 30) hx hb dX3_summand_26 (by decide) ?_
      exact wX3_summand_30 hE hr hlk hB_st _ _ _ _ _ hW (lv_sub hl [0, 1] rfl) h
set_option maxHeartbeats 4000000 in
set_option maxRecDepth 100000 in
theorem wX3_mapSum_12 {p : Program} {l : Launch} {e : Env} {s : State} {m : MethodId} {args : Array Value} {below : List Frame} {meth : Method} {cd : Code} {D : va_G} {ct : Nat → ClassId} {J : List Nat} {ad : Nat → Nat} {c0 : CF} {b : Nat} (hE : ME p s m cd args D ct cX3_mapSum RX3 3) (hr : meth.sig.returnType = (some .int)) (hlk : meth.locks = false) {r : Int32} {st9 : CS} : ∀ (n : Nat) (x1 : UInt32) (x2 : Int32) (st : CS) (c : CF) (H : Heap) (locs : List Loc) (ls : Array Slot), HW D J ad c (aA J ad s.heap.size) s.heap H locs → LgB ct J ad c b st → Fr c0 c b 8 → lv_has ls 3 [(0, .ref (ad b)), (1, .float x1), (2, .int x2)] → fX3_mapSum_12 n x1 x2 st = some (r, st9) → W p l e (rr 2 49) s m args below meth cd H locs 0 0 (MQ below (Qi D J ad s.heap.size r (fun c' => LgB ct J ad c' b st9 ∧ Fr c0 c' b 8)) args s 0 0 (aA J ad s.heap.size)) (F0 m 12 ls []) := by
  have hx := hE.1
  have hb := hE.2.1
  intro n
  induction n with
  | zero =>
    intro x1 x2 st c H locs ls hW hB_st hF hl h
    have h2 : (none : Option (Int32 × CS)) = some (r, st9) := h
    cases h2
  | succ n ih =>
    intro x1 x2 st c H locs ls hW hB_st hF hl h
    rw [fX3_mapSum_12] at h
    refine lv_iload_n hx hb dX3_mapSum_12 rfl (lv_at hl 2 rfl) ?_
    refine lv_bipush (v := (26 : Int32)) hx hb dX3_mapSum_13 (by decide) ?_
    refine lv_icmp_ge (tgt := 32) hx hb dX3_mapSum_15 (by decide) (fun k_2 => ?_) (fun k_2 => ?_)
    · have h := it_t k_2 h
      refine lv_aload_n hx hb dX3_mapSum_32 rfl (lv_at hl 0 rfl) ?_
      obtain ⟨r_3, hr_3, h⟩ := zb_e h
      refine k_callVi (rest := []) hE hW hl.1 (mX3_oddSum hB_st hr_3) hB_st.o hB_st.obj rfl q512 q514 qs39 q3 q515 hd_X3_oddSum ⟨Nat.le_of_ble_eq_true rfl, Nat.le_of_ble_eq_true rfl⟩ ⟨rfl, rfl⟩ rfl (Nat.le_of_ble_eq_true rfl) dX3_mapSum_33 ⟨Nat.zero_le _, Nat.zero_le _⟩ (fun c1 H locs hP hW => ?_)
      rw [hP] at hW
      refine lv_istore_n (lv' := [(2, .int r_3), (0, .ref (ad b)), (1, .float x1)]) hx hb dX3_mapSum_36 rfl hl (by decide) rfl (fun ls hl => ?_)
      refine lv_iload_n hx hb dX3_mapSum_37 rfl (lv_at hl 0 rfl) ?_
      refine lv_if_eq (tgt := 45) hx hb dX3_mapSum_38 (by decide) (fun k_4 => ?_) (fun k_4 => ?_)
      · have h := it_t k_4 h
        refine lv_fload_n hx hb dX3_mapSum_45 rfl (lv_at hl 2 rfl) ?_
        obtain ⟨r_5, hr_5, h⟩ := zb_e h
        refine k_callSNi (rest := []) hE hW hl.1 (mX0_bitsOfFloat hr_5) q519 q275 q11 q276 hd_X0_bitsOfFloat.2 ⟨Nat.le_of_ble_eq_true rfl, Nat.le_of_ble_eq_true rfl⟩ ⟨rfl, rfl⟩ rfl (Nat.le_of_ble_eq_true rfl) dX3_mapSum_46 ⟨Nat.zero_le _, Nat.zero_le _⟩ (fun c1 H locs hP hW => ?_)
        rw [hP] at hW
        obtain ⟨rfl, rfl⟩ := Prod.mk.inj (Option.some.inj h)
        exact k_iret hE hr hlk hW ⟨hB_st, hF⟩ rfl dX3_mapSum_49
      · have h := it_f k_4 h
        refine lv_iload_n hx hb dX3_mapSum_41 rfl (lv_at hl 0 rfl) ?_
        refine lv_goto (tgt := 49) hx hb dX3_mapSum_42 (by decide) ?_
        obtain ⟨rfl, rfl⟩ := Prod.mk.inj (Option.some.inj h)
        exact k_iret hE hr hlk hW ⟨hB_st, hF⟩ rfl dX3_mapSum_49
    · have h := it_f k_2 h
      refine lv_fload_n hx hb dX3_mapSum_18 rfl (lv_at hl 1 rfl) ?_
      refine lv_aload_n hx hb dX3_mapSum_19 rfl (lv_at hl 0 rfl) ?_
      refine lv_iload_n hx hb dX3_mapSum_20 rfl (lv_at hl 2 rfl) ?_
      obtain ⟨r_6, hr_6, h⟩ := zb_e h
      refine k_callVf (rest := [.float x1]) hE hW hl.1 (mX3_summand hB_st hr_6) hB_st.o hB_st.obj rfl q499 q501 qs38 q3 q502 hd_X3_summand ⟨Nat.le_of_ble_eq_true rfl, Nat.le_of_ble_eq_true rfl⟩ ⟨rfl, rfl⟩ rfl (Nat.le_of_ble_eq_true rfl) dX3_mapSum_21 ⟨Nat.zero_le _, Nat.zero_le _⟩ (fun c1 H locs hP hW => ?_)
      rw [hP] at hW
      obtain ⟨g_7, h⟩ := zn32_e h
      refine lv_fadd hx hb dX3_mapSum_24 g_7 ?_
      refine lv_fstore_n (lv' := [(1, .float (FP.fadd x1 r_6)), (0, .ref (ad b)), (2, .int x2)]) hx hb dX3_mapSum_25 rfl hl (by decide) rfl (fun ls hl => ?_)
      refine lv_iinc (v := (x2 + (1 : Int32))) (lv' := [(2, .int (x2 + (1 : Int32))), (1, .float (FP.fadd x1 r_6)), (0, .ref (ad b))]) hx hb dX3_mapSum_26 hl (k := 2) rfl rfl (by decide) rfl (fun ls hl => ?_)
      refine lv_goto (tgt := 12) hx hb dX3_mapSum_29 (by decide) ?_
      exact ih _ _ _ _ _ _ _ hW hB_st hF (lv_sub hl [2, 1, 0] rfl) h
set_option maxHeartbeats 4000000 in
set_option maxRecDepth 100000 in
theorem mX3_mapSum {l : Launch} {D : va_G} {ct : Nat → ClassId} {J : List Nat} {ad : Nat → Nat} {c0 : CF} {b : Nat} {st : CS} (hB_st : LgB ct J ad c0 b st) {r : Int32} {st9 : CS} (h : fX3_mapSum   st = some (r, st9)) : Mi l D ct J ad yX3_mapSum cX3_mapSum 3 (some .int) (rr 2 49) [.ref (ad b)] c0 r (fun c' => LgB ct J ad c' b st9 ∧ Fr c0 c' b 8) := by
  refine Mi_of (own := RX3) (by decide) rfl (Nat.le_of_ble_eq_true rfl) (fun p e s m below meth cd hE hr hlk hW ls hl => ?_)
  have hx := hE.1
  have hb := hE.2.1
  have hl : lv_has ls 3 [(0, .ref (ad b))] := hl
  rw [fX3_mapSum] at h
  obtain ⟨c, hB_st, hF, hW⟩ : ∃ c', LgB ct J ad c' b st ∧ Fr c0 c' b 8 ∧ HW D J ad c' (aA J ad s.heap.size) s.heap s.heap [] := ⟨c0, hB_st, Fr.rf, hW⟩
  refine lv_aload_n hx hb dX3_mapSum_0 rfl (lv_at hl 0 rfl) ?_
  refine lv_aload_n hx hb dX3_mapSum_1 rfl (lv_at hl 0 rfl) ?_
  refine k_get (v := .int (st.2 0)) hE hW hB_st.o hB_st.obj rfl inX3 7 (by decide) q54 rfl dX3_mapSum_2 ?_
  obtain ⟨st_1, hst_1, h⟩ := zb_e h
  refine k_callVv (rest := []) hE hW hl.1 (mX3_findLast hB_st hst_1) hB_st.o hB_st.obj rfl q341 q343 qs9 q3 q344 hd_X3_findLast ⟨Nat.le_of_ble_eq_true rfl, Nat.le_of_ble_eq_true rfl⟩ ⟨rfl, rfl⟩ rfl (Nat.le_of_ble_eq_true rfl) dX3_mapSum_5 ⟨Nat.zero_le _, Nat.zero_le _⟩ (fun c1 H locs hP hW => ?_)
  obtain ⟨c, hB_st, hF, hW⟩ : ∃ c', LgB ct J ad c' b st_1 ∧ Fr c0 c' b 8 ∧ HW D J ad c' (aA J ad s.heap.size) s.heap H locs := ⟨c1, hP.1, hF.trans hP.2, hW⟩
  refine lv_fconst0 hx hb dX3_mapSum_8 ?_
  refine lv_fstore_n (lv' := [(1, .float (0 : UInt32)), (0, .ref (ad b))]) hx hb dX3_mapSum_9 rfl hl (by decide) rfl (fun ls hl => ?_)
  refine lv_iconst (v := (0 : Int32)) hx hb dX3_mapSum_10 (by decide) ?_
  refine lv_istore_n (lv' := [(2, .int (0 : Int32)), (1, .float (0 : UInt32)), (0, .ref (ad b))]) hx hb dX3_mapSum_11 rfl hl (by decide) rfl (fun ls hl => ?_)
  exact wX3_mapSum_12 hE hr hlk _ _ _ _ _ _ _ _ hW hB_st hF (lv_sub hl [2, 1, 0] rfl) h
set_option maxHeartbeats 4000000 in
set_option maxRecDepth 100000 in
theorem wX3_mapMean_22 {p : Program} {l : Launch} {e : Env} {s : State} {m : MethodId} {args : Array Value} {below : List Frame} {meth : Method} {cd : Code} {D : va_G} {ct : Nat → ClassId} {J : List Nat} {ad : Nat → Nat} {c0 : CF} {b : Nat} (hE : ME p s m cd args D ct cX3_mapMean RX3 6) (hr : meth.sig.returnType = (some .long)) (hlk : meth.locks = false) {r : Int64} {st9 : CS} : ∀ (x2 : Int32) (st : CS) (c : CF) (H : Heap) (locs : List Loc) (ls : Array Slot), HW D J ad c (aA J ad s.heap.size) s.heap H locs → LgB ct J ad c b st → Fr c0 c b 8 → lv_has ls 6 [(2, .int x2)] → fX3_mapMean_22 x2 st = some (r, st9) → W p l e (rr 2 51) s m args below meth cd H locs 0 0 (MQ below (Ql D J ad s.heap.size r (fun c' => LgB ct J ad c' b st9 ∧ Fr c0 c' b 8)) args s 0 0 (aA J ad s.heap.size)) (F0 m 22 ls []) := by
  have hx := hE.1
  have hb := hE.2.1
  intro x2 st c H locs ls hW hB_st hF hl h
  rw [fX3_mapMean_22] at h
  refine lv_iload_n hx hb dX3_mapMean_22 rfl (lv_at hl 0 rfl) ?_
  refine lv_if_eq (tgt := 33) hx hb dX3_mapMean_23 (by decide) (fun k_5 => ?_) (fun k_5 => ?_)
  · have h := it_t k_5 h
    refine lv_ldc2 (v := (-9223372036854775808 : Int64)) hx hb hE.2.2.2.1 (hE.2.2.2.2.1 _ q490) dX3_mapMean_33 ?_
    obtain ⟨rfl, rfl⟩ := Prod.mk.inj (Option.some.inj h)
    exact k_lret hE hr hlk hW ⟨hB_st, hF⟩ rfl dX3_mapMean_36
  · have h := it_f k_5 h
    refine lv_iload_n hx hb dX3_mapMean_26 rfl (lv_at hl 0 rfl) ?_
    obtain ⟨r_6, hr_6, h⟩ := zb_e h
    refine k_callSNl (rest := []) hE hW hl.1 (mX0_widened hr_6) q541 q542 q11 q543 hd_X0_widened.2 ⟨Nat.le_of_ble_eq_true rfl, Nat.le_of_ble_eq_true rfl⟩ ⟨rfl, rfl⟩ rfl (Nat.le_of_ble_eq_true rfl) dX3_mapMean_27 ⟨Nat.zero_le _, Nat.zero_le _⟩ (fun c1 H locs hP hW => ?_)
    rw [hP] at hW
    refine lv_goto (tgt := 36) hx hb dX3_mapMean_30 (by decide) ?_
    obtain ⟨rfl, rfl⟩ := Prod.mk.inj (Option.some.inj h)
    exact k_lret hE hr hlk hW ⟨hB_st, hF⟩ rfl dX3_mapMean_36
set_option maxHeartbeats 4000000 in
set_option maxRecDepth 100000 in
theorem wX3_mapMean_42 {p : Program} {l : Launch} {e : Env} {s : State} {m : MethodId} {args : Array Value} {below : List Frame} {meth : Method} {cd : Code} {D : va_G} {ct : Nat → ClassId} {J : List Nat} {ad : Nat → Nat} {c0 : CF} {b : Nat} (hE : ME p s m cd args D ct cX3_mapMean RX3 6) (hr : meth.sig.returnType = (some .long)) (hlk : meth.locks = false) {x1 : Int32} {r : Int64} {st9 : CS} : ∀ (n : Nat) (x3 : UInt64) (x5 : Int32) (st : CS) (c : CF) (H : Heap) (locs : List Loc) (ls : Array Slot), HW D J ad c (aA J ad s.heap.size) s.heap H locs → LgB ct J ad c b st → Fr c0 c b 8 → lv_has ls 6 [(0, .ref (ad b)), (1, .int x1), (3, .double x3), (5, .int x5)] → fX3_mapMean_42 x1 n x3 x5 st = some (r, st9) → W p l e (rr 2 51) s m args below meth cd H locs 0 0 (MQ below (Ql D J ad s.heap.size r (fun c' => LgB ct J ad c' b st9 ∧ Fr c0 c' b 8)) args s 0 0 (aA J ad s.heap.size)) (F0 m 42 ls []) := by
  have hx := hE.1
  have hb := hE.2.1
  intro n
  induction n with
  | zero =>
    intro x3 x5 st c H locs ls hW hB_st hF hl h
    have h2 : (none : Option (Int64 × CS)) = some (r, st9) := h
    cases h2
  | succ n ih =>
    intro x3 x5 st c H locs ls hW hB_st hF hl h
    rw [fX3_mapMean_42] at h
    refine lv_iload hx hb dX3_mapMean_42 (lv_at hl 3 rfl) ?_
    refine lv_bipush (v := (26 : Int32)) hx hb dX3_mapMean_44 (by decide) ?_
    refine lv_icmp_ge (tgt := 65) hx hb dX3_mapMean_46 (by decide) (fun k_8 => ?_) (fun k_8 => ?_)
    · have h := it_t k_8 h
      refine lv_dload_n hx hb dX3_mapMean_65 rfl (lv_at hl 2 rfl) ?_
      refine lv_iload_n hx hb dX3_mapMean_66 rfl (lv_at hl 1 rfl) ?_
      refine lv_i2d hx hb dX3_mapMean_67 ?_
      obtain ⟨g_9, h⟩ := zn64_e h
      refine lv_ddiv hx hb dX3_mapMean_68 g_9 ?_
      obtain ⟨r_10, hr_10, h⟩ := zb_e h
      refine k_callSNl (rest := []) hE hW hl.1 (mX0_bitsOfDouble hr_10) q547 q548 q11 q549 hd_X0_bitsOfDouble.2 ⟨Nat.le_of_ble_eq_true rfl, Nat.le_of_ble_eq_true rfl⟩ ⟨rfl, rfl⟩ rfl (Nat.le_of_ble_eq_true rfl) dX3_mapMean_69 ⟨Nat.zero_le _, Nat.zero_le _⟩ (fun c1 H locs hP hW => ?_)
      rw [hP] at hW
      obtain ⟨rfl, rfl⟩ := Prod.mk.inj (Option.some.inj h)
      exact k_lret hE hr hlk hW ⟨hB_st, hF⟩ rfl dX3_mapMean_72
    · have h := it_f k_8 h
      refine lv_dload_n hx hb dX3_mapMean_49 rfl (lv_at hl 2 rfl) ?_
      refine lv_aload_n hx hb dX3_mapMean_50 rfl (lv_at hl 0 rfl) ?_
      refine lv_iload hx hb dX3_mapMean_51 (lv_at hl 3 rfl) ?_
      obtain ⟨r_11, hr_11, h⟩ := zb_e h
      refine k_callVf (rest := [.double x3]) hE hW hl.1 (mX3_summand hB_st hr_11) hB_st.o hB_st.obj rfl q499 q501 qs38 q3 q502 hd_X3_summand ⟨Nat.le_of_ble_eq_true rfl, Nat.le_of_ble_eq_true rfl⟩ ⟨rfl, rfl⟩ rfl (Nat.le_of_ble_eq_true rfl) dX3_mapMean_53 ⟨Nat.zero_le _, Nat.zero_le _⟩ (fun c1 H locs hP hW => ?_)
      rw [hP] at hW
      obtain ⟨g_12, h⟩ := zn64_e h
      refine lv_f2d hx hb dX3_mapMean_56 g_12 ?_
      obtain ⟨g_13, h⟩ := zn64_e h
      refine lv_dadd hx hb dX3_mapMean_57 g_13 ?_
      refine lv_topd (fun x_14 ex_14 => ?_)
      have h := zl_n h ex_14
      refine lv_dstore_n (lv' := [(3, .double x_14), (0, .ref (ad b)), (1, .int x1), (5, .int x5)]) hx hb dX3_mapMean_58 rfl hl (by decide) rfl (fun ls hl => ?_)
      refine lv_iinc (v := (x5 + (1 : Int32))) (lv' := [(5, .int (x5 + (1 : Int32))), (3, .double x_14), (0, .ref (ad b)), (1, .int x1)]) hx hb dX3_mapMean_59 hl (k := 3) rfl rfl (by decide) rfl (fun ls hl => ?_)
      refine lv_goto (tgt := 42) hx hb dX3_mapMean_62 (by decide) ?_
      exact ih _ _ _ _ _ _ _ hW hB_st hF (lv_sub hl [2, 3, 1, 0] rfl) h
set_option maxHeartbeats 4000000 in
set_option maxRecDepth 100000 in
theorem mX3_mapMean {l : Launch} {D : va_G} {ct : Nat → ClassId} {J : List Nat} {ad : Nat → Nat} {c0 : CF} {b : Nat} {st : CS} (hB_st : LgB ct J ad c0 b st) {r : Int64} {st9 : CS} (h : fX3_mapMean   st = some (r, st9)) : Ml l D ct J ad yX3_mapMean cX3_mapMean 6 (some .long) (rr 2 51) [.ref (ad b)] c0 r (fun c' => LgB ct J ad c' b st9 ∧ Fr c0 c' b 8) := by
  refine Ml_of (own := RX3) (by decide) rfl (Nat.le_of_ble_eq_true rfl) (fun p e s m below meth cd hE hr hlk hW ls hl => ?_)
  have hx := hE.1
  have hb := hE.2.1
  have hl : lv_has ls 6 [(0, .ref (ad b))] := hl
  rw [fX3_mapMean] at h
  obtain ⟨c, hB_st, hF, hW⟩ : ∃ c', LgB ct J ad c' b st ∧ Fr c0 c' b 8 ∧ HW D J ad c' (aA J ad s.heap.size) s.heap s.heap [] := ⟨c0, hB_st, Fr.rf, hW⟩
  refine lv_aload_n hx hb dX3_mapMean_0 rfl (lv_at hl 0 rfl) ?_
  refine lv_aload_n hx hb dX3_mapMean_1 rfl (lv_at hl 0 rfl) ?_
  refine k_get (v := .int (st.2 0)) hE hW hB_st.o hB_st.obj rfl inX3 7 (by decide) q54 rfl dX3_mapMean_2 ?_
  obtain ⟨r_1, st_2, hr_1, h⟩ := zb2_e h
  refine k_callVi (rest := []) hE hW hl.1 (mX3_mapSize hB_st hr_1) hB_st.o hB_st.obj rfl q540 q445 qs30 q3 q446 hd_X3_mapSize ⟨Nat.le_of_ble_eq_true rfl, Nat.le_of_ble_eq_true rfl⟩ ⟨rfl, rfl⟩ rfl (Nat.le_of_ble_eq_true rfl) dX3_mapMean_5 ⟨Nat.zero_le _, Nat.zero_le _⟩ (fun c1 H locs hP hW => ?_)
  obtain ⟨c, hB_st, hF, hW⟩ : ∃ c', LgB ct J ad c' b st_2 ∧ Fr c0 c' b 8 ∧ HW D J ad c' (aA J ad s.heap.size) s.heap H locs := ⟨c1, hP.1, hF.trans hP.2, hW⟩
  refine lv_istore_n (lv' := [(1, .int r_1), (0, .ref (ad b))]) hx hb dX3_mapMean_8 rfl hl (by decide) rfl (fun ls hl => ?_)
  refine lv_aload_n hx hb dX3_mapMean_9 rfl (lv_at hl 1 rfl) ?_
  obtain ⟨r_3, hr_3, h⟩ := zb_e h
  refine k_callVi (rest := []) hE hW hl.1 (mX3_oddSum hB_st hr_3) hB_st.o hB_st.obj rfl q512 q514 qs39 q3 q515 hd_X3_oddSum ⟨Nat.le_of_ble_eq_true rfl, Nat.le_of_ble_eq_true rfl⟩ ⟨rfl, rfl⟩ rfl (Nat.le_of_ble_eq_true rfl) dX3_mapMean_10 ⟨Nat.zero_le _, Nat.zero_le _⟩ (fun c1 H locs hP hW => ?_)
  rw [hP] at hW
  refine lv_istore_n (lv' := [(2, .int r_3), (1, .int r_1), (0, .ref (ad b))]) hx hb dX3_mapMean_13 rfl hl (by decide) rfl (fun ls hl => ?_)
  refine lv_iload_n hx hb dX3_mapMean_14 rfl (lv_at hl 0 rfl) ?_
  refine lv_if_ne (tgt := 22) hx hb dX3_mapMean_15 (by decide) (fun k_4 => ?_) (fun k_4 => ?_)
  · have h := it_f k_4 h
    exact wX3_mapMean_22 hE hr hlk _ _ _ _ _ _ hW hB_st hF (lv_sub hl [0] rfl) h
  · have h := it_t k_4 h
    refine lv_iload_n hx hb dX3_mapMean_18 rfl (lv_at hl 1 rfl) ?_
    refine lv_if_ne (tgt := 37) hx hb dX3_mapMean_19 (by decide) (fun k_7 => ?_) (fun k_7 => ?_)
    · have h := it_f k_7 h
      refine lv_dconst0 hx hb dX3_mapMean_37 ?_
      refine lv_dstore_n (lv' := [(3, .double (0 : UInt64)), (2, .int r_3), (1, .int r_1), (0, .ref (ad b))]) hx hb dX3_mapMean_38 rfl hl (by decide) rfl (fun ls hl => ?_)
      refine lv_iconst (v := (0 : Int32)) hx hb dX3_mapMean_39 (by decide) ?_
      refine lv_istore (lv' := [(5, .int (0 : Int32)), (3, .double (0 : UInt64)), (2, .int r_3), (1, .int r_1), (0, .ref (ad b))]) hx hb dX3_mapMean_40 hl (by decide) rfl (fun ls hl => ?_)
      exact wX3_mapMean_42 hE hr hlk _ _ _ _ _ _ _ _ hW hB_st hF (lv_sub hl [4, 3, 1, 0] rfl) h
    · have h := it_t k_7 h
      exact wX3_mapMean_22 hE hr hlk _ _ _ _ _ _ hW hB_st hF (lv_sub hl [0] rfl) h
set_option maxHeartbeats 4000000 in
set_option maxRecDepth 100000 in
theorem mX3_rankAt {l : Launch} {D : va_G} {ct : Nat → ClassId} {J : List Nat} {ad : Nat → Nat} {c0 : CF} {a1 : Int32} {b : Nat} {st : CS} (hB_st : LgB ct J ad c0 b st) {r : Int32} (h : fX3_rankAt  a1 st = some r) : Mi l D ct J ad yX3_rankAt cX3_rankAt 2 (some .int) (rr 1 20) [.ref (ad b), .int a1] c0 r (fun c' => c' = c0) := by
  refine Mi_of (own := RX3) (by decide) rfl (Nat.le_of_ble_eq_true rfl) (fun p e s m below meth cd hE hr hlk hW ls hl => ?_)
  have hx := hE.1
  have hb := hE.2.1
  have hl : lv_has ls 2 [(0, .ref (ad b)), (1, .int a1)] := hl
  rw [fX3_rankAt] at h
  refine lv_aload_n hx hb dX3_rankAt_0 rfl (lv_at hl 0 rfl) ?_
  refine k_get (v := .ref (ad (b + 1 + 4))) hE hW hB_st.o hB_st.obj rfl inX3 4 (by decide) q47 rfl dX3_rankAt_1 ?_
  refine lv_aload_n hx hb dX3_rankAt_4 rfl (lv_at hl 0 rfl) ?_
  refine k_get (v := .ref (ad (b + 1 + 6))) hE hW hB_st.o hB_st.obj rfl inX3 6 (by decide) q52 rfl dX3_rankAt_5 ?_
  refine lv_iload_n hx hb dX3_rankAt_8 rfl (lv_at hl 1 rfl) ?_
  obtain ⟨g_1, h⟩ := zi_e h
  refine k_iald hE hW (hB_st.memA 6 (Nat.le_of_ble_eq_true rfl)) (hB_st.arr 6 rfl) g_1 dX3_rankAt_9 ?_
  obtain ⟨g_2, h⟩ := zi_e h
  refine k_iald hE hW (hB_st.memA 4 (Nat.le_of_ble_eq_true rfl)) (hB_st.arr 4 rfl) g_2 dX3_rankAt_10 ?_
  obtain ⟨r_3, hr_3, h⟩ := zb_e h
  refine k_callSNi (rest := []) hE hW hl.1 (mX0_rank hr_3) q528 q529 q11 q530 hd_X0_rank.2 ⟨Nat.le_of_ble_eq_true rfl, Nat.le_of_ble_eq_true rfl⟩ ⟨rfl, rfl⟩ rfl (Nat.le_of_ble_eq_true rfl) dX3_rankAt_11 ⟨Nat.zero_le _, Nat.zero_le _⟩ (fun c1 H locs hP hW => ?_)
  rw [hP] at hW
  obtain rfl := Option.some.inj h
  exact k_iret hE hr hlk hW rfl rfl dX3_rankAt_14
set_option maxHeartbeats 4000000 in
set_option maxRecDepth 100000 in
theorem wX3_mapLeast_49 {p : Program} {l : Launch} {e : Env} {s : State} {m : MethodId} {args : Array Value} {below : List Frame} {meth : Method} {cd : Code} {D : va_G} {ct : Nat → ClassId} {J : List Nat} {ad : Nat → Nat} {c0 : CF} {b : Nat} (hE : ME p s m cd args D ct cX3_mapLeast RX3 4) (hr : meth.sig.returnType = (some .long)) (hlk : meth.locks = false) {r : Int64} {st9 : CS} {K14 : Int64 → Int32 → CS → Option (Int64 × CS)} (hK14 : ∀ (x1 : Int64) (x3 : Int32) (st : CS) (c : CF) (H : Heap) (locs : List Loc) (ls : Array Slot), HW D J ad c (aA J ad s.heap.size) s.heap H locs → LgB ct J ad c b st → Fr c0 c b 8 → lv_has ls 4 [(0, .ref (ad b)), (1, .long x1), (3, .int x3)] → K14 x1 x3 st = some (r, st9) → W p l e (rr 2 41) s m args below meth cd H locs 0 0 (MQ below (Ql D J ad s.heap.size r (fun c' => LgB ct J ad c' b st9 ∧ Fr c0 c' b 8)) args s 0 0 (aA J ad s.heap.size)) (F0 m 14 ls [])) : ∀ (x3 : Int32) (st : CS) (c : CF) (H : Heap) (locs : List Loc) (ls : Array Slot), HW D J ad c (aA J ad s.heap.size) s.heap H locs → LgB ct J ad c b st → Fr c0 c b 8 → lv_has ls 4 [(0, .ref (ad b)), (3, .int x3)] → fX3_mapLeast_49 K14 x3 st = some (r, st9) → W p l e (rr 2 41) s m args below meth cd H locs 0 0 (MQ below (Ql D J ad s.heap.size r (fun c' => LgB ct J ad c' b st9 ∧ Fr c0 c' b 8)) args s 0 0 (aA J ad s.heap.size)) (F0 m 49 ls []) := by
  have hx := hE.1
  have hb := hE.2.1
  intro x3 st c H locs ls hW hB_st hF hl h
  rw [fX3_mapLeast_49] at h
  refine lv_aload_n hx hb dX3_mapLeast_49 rfl (lv_at hl 0 rfl) ?_
  refine k_get (v := .ref (ad (b + 1 + 4))) hE hW hB_st.o hB_st.obj rfl inX3 4 (by decide) q47 rfl dX3_mapLeast_50 ?_
  refine lv_aload_n hx hb dX3_mapLeast_53 rfl (lv_at hl 0 rfl) ?_
  refine k_get (v := .ref (ad (b + 1 + 6))) hE hW hB_st.o hB_st.obj rfl inX3 6 (by decide) q52 rfl dX3_mapLeast_54 ?_
  refine lv_iload_n hx hb dX3_mapLeast_57 rfl (lv_at hl 1 rfl) ?_
  obtain ⟨g_7, h⟩ := zi_e h
  refine k_iald hE hW (hB_st.memA 6 (Nat.le_of_ble_eq_true rfl)) (hB_st.arr 6 rfl) g_7 dX3_mapLeast_58 ?_
  obtain ⟨g_8, h⟩ := zi_e h
  refine k_iald hE hW (hB_st.memA 4 (Nat.le_of_ble_eq_true rfl)) (hB_st.arr 4 rfl) g_8 dX3_mapLeast_59 ?_
  refine lv_i2l (v := (st.1 4 (st.1 6 x3.toNatClampNeg).toNatClampNeg).toInt64) hx hb dX3_mapLeast_60 rfl ?_
  refine lv_topl (fun x_9 ex_9 => ?_)
  have h := zl_n h ex_9
  refine lv_lstore_n (lv' := [(1, .long x_9), (0, .ref (ad b)), (3, .int x3)]) hx hb dX3_mapLeast_61 rfl hl (by decide) rfl (fun ls hl => ?_)
  refine lv_iinc (v := (x3 + (1 : Int32))) (lv' := [(3, .int (x3 + (1 : Int32))), (1, .long x_9), (0, .ref (ad b))]) hx hb dX3_mapLeast_62 hl (k := 2) rfl rfl (by decide) rfl (fun ls hl => ?_)
  refine lv_goto (tgt := 14) hx hb dX3_mapLeast_65 (by decide) ?_
  exact hK14 _ _ _ _ _ _ _ hW hB_st hF (lv_sub hl [2, 1, 0] rfl) h
set_option maxHeartbeats 4000000 in
set_option maxRecDepth 100000 in
theorem wX3_mapLeast_14 {p : Program} {l : Launch} {e : Env} {s : State} {m : MethodId} {args : Array Value} {below : List Frame} {meth : Method} {cd : Code} {D : va_G} {ct : Nat → ClassId} {J : List Nat} {ad : Nat → Nat} {c0 : CF} {b : Nat} (hE : ME p s m cd args D ct cX3_mapLeast RX3 4) (hr : meth.sig.returnType = (some .long)) (hlk : meth.locks = false) {r : Int64} {st9 : CS} : ∀ (n : Nat) (x1 : Int64) (x3 : Int32) (st : CS) (c : CF) (H : Heap) (locs : List Loc) (ls : Array Slot), HW D J ad c (aA J ad s.heap.size) s.heap H locs → LgB ct J ad c b st → Fr c0 c b 8 → lv_has ls 4 [(0, .ref (ad b)), (1, .long x1), (3, .int x3)] → fX3_mapLeast_14 n x1 x3 st = some (r, st9) → W p l e (rr 2 41) s m args below meth cd H locs 0 0 (MQ below (Ql D J ad s.heap.size r (fun c' => LgB ct J ad c' b st9 ∧ Fr c0 c' b 8)) args s 0 0 (aA J ad s.heap.size)) (F0 m 14 ls []) := by
  have hx := hE.1
  have hb := hE.2.1
  intro n
  induction n with
  | zero =>
    intro x1 x3 st c H locs ls hW hB_st hF hl h
    have h2 : (none : Option (Int64 × CS)) = some (r, st9) := h
    cases h2
  | succ n ih =>
    intro x1 x3 st c H locs ls hW hB_st hF hl h
    rw [fX3_mapLeast_14] at h
    refine lv_iload_n hx hb dX3_mapLeast_14 rfl (lv_at hl 2 rfl) ?_
    refine lv_bipush (v := (26 : Int32)) hx hb dX3_mapLeast_15 (by decide) ?_
    refine lv_icmp_ge (tgt := 68) hx hb dX3_mapLeast_17 (by decide) (fun k_3 => ?_) (fun k_3 => ?_)
    · have h := it_t k_3 h
      refine lv_lload_n hx hb dX3_mapLeast_68 rfl (lv_at hl 1 rfl) ?_
      obtain ⟨rfl, rfl⟩ := Prod.mk.inj (Option.some.inj h)
      exact k_lret hE hr hlk hW ⟨hB_st, hF⟩ rfl dX3_mapLeast_69
    · have h := it_f k_3 h
      refine lv_aload_n hx hb dX3_mapLeast_20 rfl (lv_at hl 0 rfl) ?_
      refine lv_iload_n hx hb dX3_mapLeast_21 rfl (lv_at hl 2 rfl) ?_
      obtain ⟨r_4, hr_4, h⟩ := zb_e h
      refine k_callVi (rest := []) hE hW hl.1 (mX3_isMapped hB_st hr_4) hB_st.o hB_st.obj rfl q447 q449 qs31 q3 q450 hd_X3_isMapped ⟨Nat.le_of_ble_eq_true rfl, Nat.le_of_ble_eq_true rfl⟩ ⟨rfl, rfl⟩ rfl (Nat.le_of_ble_eq_true rfl) dX3_mapLeast_22 ⟨Nat.zero_le _, Nat.zero_le _⟩ (fun c1 H locs hP hW => ?_)
      rw [hP] at hW
      refine lv_if_eq (tgt := 62) hx hb dX3_mapLeast_25 (by decide) (fun k_5 => ?_) (fun k_5 => ?_)
      · have h := it_t k_5 h
        refine lv_iinc (v := (x3 + (1 : Int32))) (lv' := [(3, .int (x3 + (1 : Int32))), (0, .ref (ad b)), (1, .long x1)]) hx hb dX3_mapLeast_62 hl (k := 2) rfl rfl (by decide) rfl (fun ls hl => ?_)
        refine lv_goto (tgt := 14) hx hb dX3_mapLeast_65 (by decide) ?_
        exact ih _ _ _ _ _ _ _ hW hB_st hF (lv_sub hl [1, 2, 0] rfl) h
      · have h := it_f k_5 h
        refine lv_lload_n hx hb dX3_mapLeast_28 rfl (lv_at hl 1 rfl) ?_
        refine lv_ldc2 (v := (-9223372036854775808 : Int64)) hx hb hE.2.2.2.1 (hE.2.2.2.2.1 _ q490) dX3_mapLeast_29 ?_
        refine W.lcmp hx hb dX3_mapLeast_32 ?_
        refine lv_if_eq (tgt := 49) hx hb dX3_mapLeast_33 (by decide) (fun k_6 => ?_) (fun k_6 => ?_)
        · have h := it_t k_6 h
          exact wX3_mapLeast_49 hE hr hlk ih _ _ _ _ _ _ hW hB_st hF (lv_sub hl [0, 2] rfl) h
        · have h := it_f k_6 h
          refine lv_aload_n hx hb dX3_mapLeast_36 rfl (lv_at hl 0 rfl) ?_
          refine lv_iload_n hx hb dX3_mapLeast_37 rfl (lv_at hl 2 rfl) ?_
          obtain ⟨r_10, hr_10, h⟩ := zb_e h
          refine k_callVi (rest := []) hE hW hl.1 (mX3_rankAt hB_st hr_10) hB_st.o hB_st.obj rfl q524 q526 qs41 q3 q527 hd_X3_rankAt ⟨Nat.le_of_ble_eq_true rfl, Nat.le_of_ble_eq_true rfl⟩ ⟨rfl, rfl⟩ rfl (Nat.le_of_ble_eq_true rfl) dX3_mapLeast_38 ⟨Nat.zero_le _, Nat.zero_le _⟩ (fun c1 H locs hP hW => ?_)
          rw [hP] at hW
          refine lv_lload_n hx hb dX3_mapLeast_41 rfl (lv_at hl 1 rfl) ?_
          refine lv_l2i (v := x1.toInt32) hx hb dX3_mapLeast_42 rfl ?_
          obtain ⟨r_11, hr_11, h⟩ := zb_e h
          refine k_callSNi (rest := [.int r_10]) hE hW hl.1 (mX0_rank hr_11) q528 q529 q11 q530 hd_X0_rank.2 ⟨Nat.le_of_ble_eq_true rfl, Nat.le_of_ble_eq_true rfl⟩ ⟨rfl, rfl⟩ rfl (Nat.le_of_ble_eq_true rfl) dX3_mapLeast_43 ⟨Nat.zero_le _, Nat.zero_le _⟩ (fun c1 H locs hP hW => ?_)
          rw [hP] at hW
          refine lv_icmp_ge (tgt := 62) hx hb dX3_mapLeast_46 (by decide) (fun k_12 => ?_) (fun k_12 => ?_)
          · have h := it_t k_12 h
            refine lv_iinc (v := (x3 + (1 : Int32))) (lv' := [(3, .int (x3 + (1 : Int32))), (0, .ref (ad b)), (1, .long x1)]) hx hb dX3_mapLeast_62 hl (k := 2) rfl rfl (by decide) rfl (fun ls hl => ?_)
            refine lv_goto (tgt := 14) hx hb dX3_mapLeast_65 (by decide) ?_
            exact ih _ _ _ _ _ _ _ hW hB_st hF (lv_sub hl [1, 2, 0] rfl) h
          · have h := it_f k_12 h
            exact wX3_mapLeast_49 hE hr hlk ih _ _ _ _ _ _ hW hB_st hF (lv_sub hl [0, 2] rfl) h
set_option maxHeartbeats 4000000 in
set_option maxRecDepth 100000 in
theorem mX3_mapLeast {l : Launch} {D : va_G} {ct : Nat → ClassId} {J : List Nat} {ad : Nat → Nat} {c0 : CF} {b : Nat} {st : CS} (hB_st : LgB ct J ad c0 b st) {r : Int64} {st9 : CS} (h : fX3_mapLeast   st = some (r, st9)) : Ml l D ct J ad yX3_mapLeast cX3_mapLeast 4 (some .long) (rr 2 41) [.ref (ad b)] c0 r (fun c' => LgB ct J ad c' b st9 ∧ Fr c0 c' b 8) := by
  refine Ml_of (own := RX3) (by decide) rfl (Nat.le_of_ble_eq_true rfl) (fun p e s m below meth cd hE hr hlk hW ls hl => ?_)
  have hx := hE.1
  have hb := hE.2.1
  have hl : lv_has ls 4 [(0, .ref (ad b))] := hl
  rw [fX3_mapLeast] at h
  obtain ⟨c, hB_st, hF, hW⟩ : ∃ c', LgB ct J ad c' b st ∧ Fr c0 c' b 8 ∧ HW D J ad c' (aA J ad s.heap.size) s.heap s.heap [] := ⟨c0, hB_st, Fr.rf, hW⟩
  refine lv_aload_n hx hb dX3_mapLeast_0 rfl (lv_at hl 0 rfl) ?_
  refine lv_aload_n hx hb dX3_mapLeast_1 rfl (lv_at hl 0 rfl) ?_
  refine k_get (v := .int (st.2 0)) hE hW hB_st.o hB_st.obj rfl inX3 7 (by decide) q54 rfl dX3_mapLeast_2 ?_
  obtain ⟨st_1, hst_1, h⟩ := zb_e h
  refine k_callVv (rest := []) hE hW hl.1 (mX3_findLast hB_st hst_1) hB_st.o hB_st.obj rfl q341 q343 qs9 q3 q344 hd_X3_findLast ⟨Nat.le_of_ble_eq_true rfl, Nat.le_of_ble_eq_true rfl⟩ ⟨rfl, rfl⟩ rfl (Nat.le_of_ble_eq_true rfl) dX3_mapLeast_5 ⟨Nat.zero_le _, Nat.zero_le _⟩ (fun c1 H locs hP hW => ?_)
  obtain ⟨c, hB_st, hF, hW⟩ : ∃ c', LgB ct J ad c' b st_1 ∧ Fr c0 c' b 8 ∧ HW D J ad c' (aA J ad s.heap.size) s.heap H locs := ⟨c1, hP.1, hF.trans hP.2, hW⟩
  refine lv_ldc2 (v := (-9223372036854775808 : Int64)) hx hb hE.2.2.2.1 (hE.2.2.2.2.1 _ q490) dX3_mapLeast_8 ?_
  refine lv_topl (fun x_2 ex_2 => ?_)
  have h := zl_n h ex_2
  refine lv_lstore_n (lv' := [(1, .long x_2), (0, .ref (ad b))]) hx hb dX3_mapLeast_11 rfl hl (by decide) rfl (fun ls hl => ?_)
  refine lv_iconst (v := (0 : Int32)) hx hb dX3_mapLeast_12 (by decide) ?_
  refine lv_istore_n (lv' := [(3, .int (0 : Int32)), (1, .long x_2), (0, .ref (ad b))]) hx hb dX3_mapLeast_13 rfl hl (by decide) rfl (fun ls hl => ?_)
  exact wX3_mapLeast_14 hE hr hlk _ _ _ _ _ _ _ _ hW hB_st hF (lv_sub hl [2, 1, 0] rfl) h
set_option maxHeartbeats 4000000 in
set_option maxRecDepth 100000 in
theorem wX3_mapGreatest_49 {p : Program} {l : Launch} {e : Env} {s : State} {m : MethodId} {args : Array Value} {below : List Frame} {meth : Method} {cd : Code} {D : va_G} {ct : Nat → ClassId} {J : List Nat} {ad : Nat → Nat} {c0 : CF} {b : Nat} (hE : ME p s m cd args D ct cX3_mapGreatest RX3 4) (hr : meth.sig.returnType = (some .long)) (hlk : meth.locks = false) {r : Int64} {st9 : CS} {K14 : Int64 → Int32 → CS → Option (Int64 × CS)} (hK14 : ∀ (x1 : Int64) (x3 : Int32) (st : CS) (c : CF) (H : Heap) (locs : List Loc) (ls : Array Slot), HW D J ad c (aA J ad s.heap.size) s.heap H locs → LgB ct J ad c b st → Fr c0 c b 8 → lv_has ls 4 [(0, .ref (ad b)), (1, .long x1), (3, .int x3)] → K14 x1 x3 st = some (r, st9) → W p l e (rr 2 41) s m args below meth cd H locs 0 0 (MQ below (Ql D J ad s.heap.size r (fun c' => LgB ct J ad c' b st9 ∧ Fr c0 c' b 8)) args s 0 0 (aA J ad s.heap.size)) (F0 m 14 ls [])) : ∀ (x3 : Int32) (st : CS) (c : CF) (H : Heap) (locs : List Loc) (ls : Array Slot), HW D J ad c (aA J ad s.heap.size) s.heap H locs → LgB ct J ad c b st → Fr c0 c b 8 → lv_has ls 4 [(0, .ref (ad b)), (3, .int x3)] → fX3_mapGreatest_49 K14 x3 st = some (r, st9) → W p l e (rr 2 41) s m args below meth cd H locs 0 0 (MQ below (Ql D J ad s.heap.size r (fun c' => LgB ct J ad c' b st9 ∧ Fr c0 c' b 8)) args s 0 0 (aA J ad s.heap.size)) (F0 m 49 ls []) := by
  have hx := hE.1
  have hb := hE.2.1
  intro x3 st c H locs ls hW hB_st hF hl h
  rw [fX3_mapGreatest_49] at h
  refine lv_aload_n hx hb dX3_mapGreatest_49 rfl (lv_at hl 0 rfl) ?_
  refine k_get (v := .ref (ad (b + 1 + 4))) hE hW hB_st.o hB_st.obj rfl inX3 4 (by decide) q47 rfl dX3_mapGreatest_50 ?_
  refine lv_aload_n hx hb dX3_mapGreatest_53 rfl (lv_at hl 0 rfl) ?_
  refine k_get (v := .ref (ad (b + 1 + 6))) hE hW hB_st.o hB_st.obj rfl inX3 6 (by decide) q52 rfl dX3_mapGreatest_54 ?_
  refine lv_iload_n hx hb dX3_mapGreatest_57 rfl (lv_at hl 1 rfl) ?_
  obtain ⟨g_7, h⟩ := zi_e h
  refine k_iald hE hW (hB_st.memA 6 (Nat.le_of_ble_eq_true rfl)) (hB_st.arr 6 rfl) g_7 dX3_mapGreatest_58 ?_
  obtain ⟨g_8, h⟩ := zi_e h
  refine k_iald hE hW (hB_st.memA 4 (Nat.le_of_ble_eq_true rfl)) (hB_st.arr 4 rfl) g_8 dX3_mapGreatest_59 ?_
  refine lv_i2l (v := (st.1 4 (st.1 6 x3.toNatClampNeg).toNatClampNeg).toInt64) hx hb dX3_mapGreatest_60 rfl ?_
  refine lv_topl (fun x_9 ex_9 => ?_)
  have h := zl_n h ex_9
  refine lv_lstore_n (lv' := [(1, .long x_9), (0, .ref (ad b)), (3, .int x3)]) hx hb dX3_mapGreatest_61 rfl hl (by decide) rfl (fun ls hl => ?_)
  refine lv_iinc (v := (x3 + (1 : Int32))) (lv' := [(3, .int (x3 + (1 : Int32))), (1, .long x_9), (0, .ref (ad b))]) hx hb dX3_mapGreatest_62 hl (k := 2) rfl rfl (by decide) rfl (fun ls hl => ?_)
  refine lv_goto (tgt := 14) hx hb dX3_mapGreatest_65 (by decide) ?_
  exact hK14 _ _ _ _ _ _ _ hW hB_st hF (lv_sub hl [2, 1, 0] rfl) h
set_option maxHeartbeats 4000000 in
set_option maxRecDepth 100000 in
theorem wX3_mapGreatest_14 {p : Program} {l : Launch} {e : Env} {s : State} {m : MethodId} {args : Array Value} {below : List Frame} {meth : Method} {cd : Code} {D : va_G} {ct : Nat → ClassId} {J : List Nat} {ad : Nat → Nat} {c0 : CF} {b : Nat} (hE : ME p s m cd args D ct cX3_mapGreatest RX3 4) (hr : meth.sig.returnType = (some .long)) (hlk : meth.locks = false) {r : Int64} {st9 : CS} : ∀ (n : Nat) (x1 : Int64) (x3 : Int32) (st : CS) (c : CF) (H : Heap) (locs : List Loc) (ls : Array Slot), HW D J ad c (aA J ad s.heap.size) s.heap H locs → LgB ct J ad c b st → Fr c0 c b 8 → lv_has ls 4 [(0, .ref (ad b)), (1, .long x1), (3, .int x3)] → fX3_mapGreatest_14 n x1 x3 st = some (r, st9) → W p l e (rr 2 41) s m args below meth cd H locs 0 0 (MQ below (Ql D J ad s.heap.size r (fun c' => LgB ct J ad c' b st9 ∧ Fr c0 c' b 8)) args s 0 0 (aA J ad s.heap.size)) (F0 m 14 ls []) := by
  have hx := hE.1
  have hb := hE.2.1
  intro n
  induction n with
  | zero =>
    intro x1 x3 st c H locs ls hW hB_st hF hl h
    have h2 : (none : Option (Int64 × CS)) = some (r, st9) := h
    cases h2
  | succ n ih =>
    intro x1 x3 st c H locs ls hW hB_st hF hl h
    rw [fX3_mapGreatest_14] at h
    refine lv_iload_n hx hb dX3_mapGreatest_14 rfl (lv_at hl 2 rfl) ?_
    refine lv_bipush (v := (26 : Int32)) hx hb dX3_mapGreatest_15 (by decide) ?_
    refine lv_icmp_ge (tgt := 68) hx hb dX3_mapGreatest_17 (by decide) (fun k_3 => ?_) (fun k_3 => ?_)
    · have h := it_t k_3 h
      refine lv_lload_n hx hb dX3_mapGreatest_68 rfl (lv_at hl 1 rfl) ?_
      obtain ⟨rfl, rfl⟩ := Prod.mk.inj (Option.some.inj h)
      exact k_lret hE hr hlk hW ⟨hB_st, hF⟩ rfl dX3_mapGreatest_69
    · have h := it_f k_3 h
      refine lv_aload_n hx hb dX3_mapGreatest_20 rfl (lv_at hl 0 rfl) ?_
      refine lv_iload_n hx hb dX3_mapGreatest_21 rfl (lv_at hl 2 rfl) ?_
      obtain ⟨r_4, hr_4, h⟩ := zb_e h
      refine k_callVi (rest := []) hE hW hl.1 (mX3_isMapped hB_st hr_4) hB_st.o hB_st.obj rfl q447 q449 qs31 q3 q450 hd_X3_isMapped ⟨Nat.le_of_ble_eq_true rfl, Nat.le_of_ble_eq_true rfl⟩ ⟨rfl, rfl⟩ rfl (Nat.le_of_ble_eq_true rfl) dX3_mapGreatest_22 ⟨Nat.zero_le _, Nat.zero_le _⟩ (fun c1 H locs hP hW => ?_)
      rw [hP] at hW
      refine lv_if_eq (tgt := 62) hx hb dX3_mapGreatest_25 (by decide) (fun k_5 => ?_) (fun k_5 => ?_)
      · have h := it_t k_5 h
        refine lv_iinc (v := (x3 + (1 : Int32))) (lv' := [(3, .int (x3 + (1 : Int32))), (0, .ref (ad b)), (1, .long x1)]) hx hb dX3_mapGreatest_62 hl (k := 2) rfl rfl (by decide) rfl (fun ls hl => ?_)
        refine lv_goto (tgt := 14) hx hb dX3_mapGreatest_65 (by decide) ?_
        exact ih _ _ _ _ _ _ _ hW hB_st hF (lv_sub hl [1, 2, 0] rfl) h
      · have h := it_f k_5 h
        refine lv_lload_n hx hb dX3_mapGreatest_28 rfl (lv_at hl 1 rfl) ?_
        refine lv_ldc2 (v := (-9223372036854775808 : Int64)) hx hb hE.2.2.2.1 (hE.2.2.2.2.1 _ q490) dX3_mapGreatest_29 ?_
        refine W.lcmp hx hb dX3_mapGreatest_32 ?_
        refine lv_if_eq (tgt := 49) hx hb dX3_mapGreatest_33 (by decide) (fun k_6 => ?_) (fun k_6 => ?_)
        · have h := it_t k_6 h
          exact wX3_mapGreatest_49 hE hr hlk ih _ _ _ _ _ _ hW hB_st hF (lv_sub hl [0, 2] rfl) h
        · have h := it_f k_6 h
          refine lv_aload_n hx hb dX3_mapGreatest_36 rfl (lv_at hl 0 rfl) ?_
          refine lv_iload_n hx hb dX3_mapGreatest_37 rfl (lv_at hl 2 rfl) ?_
          obtain ⟨r_10, hr_10, h⟩ := zb_e h
          refine k_callVi (rest := []) hE hW hl.1 (mX3_rankAt hB_st hr_10) hB_st.o hB_st.obj rfl q524 q526 qs41 q3 q527 hd_X3_rankAt ⟨Nat.le_of_ble_eq_true rfl, Nat.le_of_ble_eq_true rfl⟩ ⟨rfl, rfl⟩ rfl (Nat.le_of_ble_eq_true rfl) dX3_mapGreatest_38 ⟨Nat.zero_le _, Nat.zero_le _⟩ (fun c1 H locs hP hW => ?_)
          rw [hP] at hW
          refine lv_lload_n hx hb dX3_mapGreatest_41 rfl (lv_at hl 1 rfl) ?_
          refine lv_l2i (v := x1.toInt32) hx hb dX3_mapGreatest_42 rfl ?_
          obtain ⟨r_11, hr_11, h⟩ := zb_e h
          refine k_callSNi (rest := [.int r_10]) hE hW hl.1 (mX0_rank hr_11) q528 q529 q11 q530 hd_X0_rank.2 ⟨Nat.le_of_ble_eq_true rfl, Nat.le_of_ble_eq_true rfl⟩ ⟨rfl, rfl⟩ rfl (Nat.le_of_ble_eq_true rfl) dX3_mapGreatest_43 ⟨Nat.zero_le _, Nat.zero_le _⟩ (fun c1 H locs hP hW => ?_)
          rw [hP] at hW
          refine lv_icmp_le (tgt := 62) hx hb dX3_mapGreatest_46 (by decide) (fun k_12 => ?_) (fun k_12 => ?_)
          · have h := it_t k_12 h
            refine lv_iinc (v := (x3 + (1 : Int32))) (lv' := [(3, .int (x3 + (1 : Int32))), (0, .ref (ad b)), (1, .long x1)]) hx hb dX3_mapGreatest_62 hl (k := 2) rfl rfl (by decide) rfl (fun ls hl => ?_)
            refine lv_goto (tgt := 14) hx hb dX3_mapGreatest_65 (by decide) ?_
            exact ih _ _ _ _ _ _ _ hW hB_st hF (lv_sub hl [1, 2, 0] rfl) h
          · have h := it_f k_12 h
            exact wX3_mapGreatest_49 hE hr hlk ih _ _ _ _ _ _ hW hB_st hF (lv_sub hl [0, 2] rfl) h
set_option maxHeartbeats 4000000 in
set_option maxRecDepth 100000 in
theorem mX3_mapGreatest {l : Launch} {D : va_G} {ct : Nat → ClassId} {J : List Nat} {ad : Nat → Nat} {c0 : CF} {b : Nat} {st : CS} (hB_st : LgB ct J ad c0 b st) {r : Int64} {st9 : CS} (h : fX3_mapGreatest   st = some (r, st9)) : Ml l D ct J ad yX3_mapGreatest cX3_mapGreatest 4 (some .long) (rr 2 41) [.ref (ad b)] c0 r (fun c' => LgB ct J ad c' b st9 ∧ Fr c0 c' b 8) := by
  refine Ml_of (own := RX3) (by decide) rfl (Nat.le_of_ble_eq_true rfl) (fun p e s m below meth cd hE hr hlk hW ls hl => ?_)
  have hx := hE.1
  have hb := hE.2.1
  have hl : lv_has ls 4 [(0, .ref (ad b))] := hl
  rw [fX3_mapGreatest] at h
  obtain ⟨c, hB_st, hF, hW⟩ : ∃ c', LgB ct J ad c' b st ∧ Fr c0 c' b 8 ∧ HW D J ad c' (aA J ad s.heap.size) s.heap s.heap [] := ⟨c0, hB_st, Fr.rf, hW⟩
  refine lv_aload_n hx hb dX3_mapGreatest_0 rfl (lv_at hl 0 rfl) ?_
  refine lv_aload_n hx hb dX3_mapGreatest_1 rfl (lv_at hl 0 rfl) ?_
  refine k_get (v := .int (st.2 0)) hE hW hB_st.o hB_st.obj rfl inX3 7 (by decide) q54 rfl dX3_mapGreatest_2 ?_
  obtain ⟨st_1, hst_1, h⟩ := zb_e h
  refine k_callVv (rest := []) hE hW hl.1 (mX3_findLast hB_st hst_1) hB_st.o hB_st.obj rfl q341 q343 qs9 q3 q344 hd_X3_findLast ⟨Nat.le_of_ble_eq_true rfl, Nat.le_of_ble_eq_true rfl⟩ ⟨rfl, rfl⟩ rfl (Nat.le_of_ble_eq_true rfl) dX3_mapGreatest_5 ⟨Nat.zero_le _, Nat.zero_le _⟩ (fun c1 H locs hP hW => ?_)
  obtain ⟨c, hB_st, hF, hW⟩ : ∃ c', LgB ct J ad c' b st_1 ∧ Fr c0 c' b 8 ∧ HW D J ad c' (aA J ad s.heap.size) s.heap H locs := ⟨c1, hP.1, hF.trans hP.2, hW⟩
  refine lv_ldc2 (v := (-9223372036854775808 : Int64)) hx hb hE.2.2.2.1 (hE.2.2.2.2.1 _ q490) dX3_mapGreatest_8 ?_
  refine lv_topl (fun x_2 ex_2 => ?_)
  have h := zl_n h ex_2
  refine lv_lstore_n (lv' := [(1, .long x_2), (0, .ref (ad b))]) hx hb dX3_mapGreatest_11 rfl hl (by decide) rfl (fun ls hl => ?_)
  refine lv_iconst (v := (0 : Int32)) hx hb dX3_mapGreatest_12 (by decide) ?_
  refine lv_istore_n (lv' := [(3, .int (0 : Int32)), (1, .long x_2), (0, .ref (ad b))]) hx hb dX3_mapGreatest_13 rfl hl (by decide) rfl (fun ls hl => ?_)
  exact wX3_mapGreatest_14 hE hr hlk _ _ _ _ _ _ _ _ hW hB_st hF (lv_sub hl [2, 1, 0] rfl) h
set_option maxHeartbeats 4000000 in
set_option maxRecDepth 100000 in
theorem wX3_likeTimesEnd_2 {p : Program} {l : Launch} {e : Env} {s : State} {m : MethodId} {args : Array Value} {below : List Frame} {meth : Method} {cd : Code} {D : va_G} {ct : Nat → ClassId} {J : List Nat} {ad : Nat → Nat} {c0 : CF} {b : Nat} (hE : ME p s m cd args D ct cX3_likeTimesEnd RX3 3) (hr : meth.sig.returnType = (some .int)) (hlk : meth.locks = false) {x1 : Int32} {st : CS} (hB_st : LgB ct J ad c0 b st) {r : Int32} : ∀ (n : Nat) (x2 : Int32) (H : Heap) (locs : List Loc) (ls : Array Slot), HW D J ad c0 (aA J ad s.heap.size) s.heap H locs → lv_has ls 3 [(0, .ref (ad b)), (1, .int x1), (2, .int x2)] → fX3_likeTimesEnd_2 x1 st n x2 = some r → W p l e (rr 0 0) s m args below meth cd H locs 0 0 (MQ below (Qi D J ad s.heap.size r (fun c' => c' = c0)) args s 0 0 (aA J ad s.heap.size)) (F0 m 2 ls []) := by
  have hx := hE.1
  have hb := hE.2.1
  intro n
  induction n with
  | zero =>
    intro x2 H locs ls hW hl h
    have h2 : (none : Option Int32) = some r := h
    cases h2
  | succ n ih =>
    intro x2 H locs ls hW hl h
    rw [fX3_likeTimesEnd_2] at h
    refine lv_iload_n hx hb dX3_likeTimesEnd_2 rfl (lv_at hl 2 rfl) ?_
    refine lv_aload_n hx hb dX3_likeTimesEnd_3 rfl (lv_at hl 0 rfl) ?_
    refine k_get (v := .int (st.2 0)) hE hW hB_st.o hB_st.obj rfl inX3 7 (by decide) q54 rfl dX3_likeTimesEnd_4 ?_
    refine lv_icmp_ge (tgt := 31) hx hb dX3_likeTimesEnd_7 (by decide) (fun k_1 => ?_) (fun k_1 => ?_)
    · have h := it_t k_1 h
      refine lv_iload_n hx hb dX3_likeTimesEnd_31 rfl (lv_at hl 2 rfl) ?_
      obtain rfl := Option.some.inj h
      exact k_iret hE hr hlk hW rfl rfl dX3_likeTimesEnd_32
    · have h := it_f k_1 h
      refine lv_aload_n hx hb dX3_likeTimesEnd_10 rfl (lv_at hl 0 rfl) ?_
      refine k_get (v := .ref (ad (b + 1 + 2))) hE hW hB_st.o hB_st.obj rfl inX3 2 (by decide) q43 rfl dX3_likeTimesEnd_11 ?_
      refine lv_iload_n hx hb dX3_likeTimesEnd_14 rfl (lv_at hl 2 rfl) ?_
      obtain ⟨g_2, h⟩ := zi_e h
      refine k_iald hE hW (hB_st.memA 2 (Nat.le_of_ble_eq_true rfl)) (hB_st.arr 2 rfl) g_2 dX3_likeTimesEnd_15 ?_
      refine lv_aload_n hx hb dX3_likeTimesEnd_16 rfl (lv_at hl 0 rfl) ?_
      refine k_get (v := .ref (ad (b + 1 + 2))) hE hW hB_st.o hB_st.obj rfl inX3 2 (by decide) q43 rfl dX3_likeTimesEnd_17 ?_
      refine lv_iload_n hx hb dX3_likeTimesEnd_20 rfl (lv_at hl 1 rfl) ?_
      obtain ⟨g_3, h⟩ := zi_e h
      refine k_iald hE hW (hB_st.memA 2 (Nat.le_of_ble_eq_true rfl)) (hB_st.arr 2 rfl) g_3 dX3_likeTimesEnd_21 ?_
      refine lv_icmp_ne (tgt := 31) hx hb dX3_likeTimesEnd_22 (by decide) (fun k_4 => ?_) (fun k_4 => ?_)
      · have h := it_f k_4 h
        refine lv_iload_n hx hb dX3_likeTimesEnd_31 rfl (lv_at hl 2 rfl) ?_
        obtain rfl := Option.some.inj h
        exact k_iret hE hr hlk hW rfl rfl dX3_likeTimesEnd_32
      · have h := it_t k_4 h
        refine lv_iinc (v := (x2 + (1 : Int32))) (lv' := [(2, .int (x2 + (1 : Int32))), (0, .ref (ad b)), (1, .int x1)]) hx hb dX3_likeTimesEnd_25 hl (k := 2) rfl rfl (by decide) rfl (fun ls hl => ?_)
        refine lv_goto (tgt := 2) hx hb dX3_likeTimesEnd_28 (by decide) ?_
        exact ih _ _ _ _ hW (lv_sub hl [1, 2, 0] rfl) h
set_option maxHeartbeats 4000000 in
set_option maxRecDepth 100000 in
theorem mX3_likeTimesEnd {l : Launch} {D : va_G} {ct : Nat → ClassId} {J : List Nat} {ad : Nat → Nat} {c0 : CF} {a1 : Int32} {b : Nat} {st : CS} (hB_st : LgB ct J ad c0 b st) {r : Int32} (h : fX3_likeTimesEnd  a1 st = some r) : Mi l D ct J ad yX3_likeTimesEnd cX3_likeTimesEnd 3 (some .int) (rr 0 0) [.ref (ad b), .int a1] c0 r (fun c' => c' = c0) := by
  refine Mi_of (own := RX3) (by decide) rfl (Nat.le_of_ble_eq_true rfl) (fun p e s m below meth cd hE hr hlk hW ls hl => ?_)
  have hx := hE.1
  have hb := hE.2.1
  have hl : lv_has ls 3 [(0, .ref (ad b)), (1, .int a1)] := hl
  rw [fX3_likeTimesEnd] at h
  refine lv_iload_n hx hb dX3_likeTimesEnd_0 rfl (lv_at hl 1 rfl) ?_
  refine lv_istore_n (lv' := [(2, .int a1), (0, .ref (ad b)), (1, .int a1)]) hx hb dX3_likeTimesEnd_1 rfl hl (by decide) rfl (fun ls hl => ?_)
  exact wX3_likeTimesEnd_2 hE hr hlk hB_st _ _ _ _ _ hW (lv_sub hl [1, 2, 0] rfl) h
set_option maxHeartbeats 4000000 in
set_option maxRecDepth 100000 in
theorem wX3_bySize_15 {p : Program} {l : Launch} {e : Env} {s : State} {m : MethodId} {args : Array Value} {below : List Frame} {meth : Method} {cd : Code} {D : va_G} {ct : Nat → ClassId} {J : List Nat} {ad : Nat → Nat} {c0 : CF} {b : Nat} (hE : ME p s m cd args D ct cX3_bySize RX3 7) (hr : meth.sig.returnType = (some .int)) (hlk : meth.locks = false) {x1 : Int32} {x2 : Int32} {x5 : Int32} {st : CS} (hB_st : LgB ct J ad c0 b st) {r : Int32} {K7 : Int32 → Int32 → Option Int32} (hK7 : ∀ (x4 : Int32) (x5 : Int32) (H : Heap) (locs : List Loc) (ls : Array Slot), HW D J ad c0 (aA J ad s.heap.size) s.heap H locs → lv_has ls 7 [(0, .ref (ad b)), (1, .int x1), (2, .int x2), (4, .int x4), (5, .int x5)] → K7 x4 x5 = some r → W p l e (rr 0 0) s m args below meth cd H locs 0 0 (MQ below (Qi D J ad s.heap.size r (fun c' => c' = c0)) args s 0 0 (aA J ad s.heap.size)) (F0 m 7 ls [])) : ∀ (n : Nat) (x4 : Int32) (x6 : Int32) (H : Heap) (locs : List Loc) (ls : Array Slot), HW D J ad c0 (aA J ad s.heap.size) s.heap H locs → lv_has ls 7 [(0, .ref (ad b)), (1, .int x1), (2, .int x2), (4, .int x4), (5, .int x5), (6, .int x6)] → fX3_bySize_15 x1 x2 x5 st K7 n x4 x6 = some r → W p l e (rr 0 0) s m args below meth cd H locs 0 0 (MQ below (Qi D J ad s.heap.size r (fun c' => c' = c0)) args s 0 0 (aA J ad s.heap.size)) (F0 m 15 ls []) := by
  have hx := hE.1
  have hb := hE.2.1
  intro n
  induction n with
  | zero =>
    intro x4 x6 H locs ls hW hl h
    have h2 : (none : Option Int32) = some r := h
    cases h2
  | succ n ih =>
    intro x4 x6 H locs ls hW hl h
    rw [fX3_bySize_15] at h
    refine lv_iload hx hb dX3_bySize_15 (lv_at hl 5 rfl) ?_
    refine lv_iload_n hx hb dX3_bySize_17 rfl (lv_at hl 2 rfl) ?_
    refine lv_icmp_ge (tgt := 60) hx hb dX3_bySize_18 (by decide) (fun k_2 => ?_) (fun k_2 => ?_)
    · have h := it_t k_2 h
      refine lv_iinc (v := (x5 + (-1 : Int32))) (lv' := [(5, .int (x5 + (-1 : Int32))), (0, .ref (ad b)), (1, .int x1), (2, .int x2), (4, .int x4), (6, .int x6)]) hx hb dX3_bySize_60 hl (k := 4) rfl rfl (by decide) rfl (fun ls hl => ?_)
      refine lv_goto (tgt := 7) hx hb dX3_bySize_63 (by decide) ?_
      exact hK7 _ _ _ _ _ hW (lv_sub hl [1, 2, 3, 4, 0] rfl) h
    · have h := it_f k_2 h
      refine lv_aload_n hx hb dX3_bySize_21 rfl (lv_at hl 0 rfl) ?_
      refine k_get (v := .ref (ad (b + 1 + 0))) hE hW hB_st.o hB_st.obj rfl inX3 0 (by decide) q37 rfl dX3_bySize_22 ?_
      refine lv_iload hx hb dX3_bySize_25 (lv_at hl 5 rfl) ?_
      obtain ⟨g_3, h⟩ := zi_e h
      refine k_iald hE hW (hB_st.memA 0 (Nat.le_of_ble_eq_true rfl)) (hB_st.arr 0 rfl) g_3 dX3_bySize_27 ?_
      refine lv_if_eq (tgt := 54) hx hb dX3_bySize_28 (by decide) (fun k_4 => ?_) (fun k_4 => ?_)
      · have h := it_t k_4 h
        refine lv_iinc (v := (x6 + (1 : Int32))) (lv' := [(6, .int (x6 + (1 : Int32))), (0, .ref (ad b)), (1, .int x1), (2, .int x2), (4, .int x4), (5, .int x5)]) hx hb dX3_bySize_54 hl (k := 5) rfl rfl (by decide) rfl (fun ls hl => ?_)
        refine lv_goto (tgt := 15) hx hb dX3_bySize_57 (by decide) ?_
        exact ih _ _ _ _ _ hW (lv_sub hl [1, 2, 3, 4, 5, 0] rfl) h
      · have h := it_f k_4 h
        refine lv_aload_n hx hb dX3_bySize_31 rfl (lv_at hl 0 rfl) ?_
        refine k_get (v := .ref (ad (b + 1 + 3))) hE hW hB_st.o hB_st.obj rfl inX3 3 (by decide) q45 rfl dX3_bySize_32 ?_
        refine lv_iload hx hb dX3_bySize_35 (lv_at hl 5 rfl) ?_
        obtain ⟨g_5, h⟩ := zi_e h
        refine k_iald hE hW (hB_st.memA 3 (Nat.le_of_ble_eq_true rfl)) (hB_st.arr 3 rfl) g_5 dX3_bySize_37 ?_
        refine lv_iload hx hb dX3_bySize_38 (lv_at hl 4 rfl) ?_
        refine lv_icmp_ne (tgt := 54) hx hb dX3_bySize_40 (by decide) (fun k_6 => ?_) (fun k_6 => ?_)
        · have h := it_f k_6 h
          refine lv_iinc (v := (x6 + (1 : Int32))) (lv' := [(6, .int (x6 + (1 : Int32))), (0, .ref (ad b)), (1, .int x1), (2, .int x2), (4, .int x4), (5, .int x5)]) hx hb dX3_bySize_54 hl (k := 5) rfl rfl (by decide) rfl (fun ls hl => ?_)
          refine lv_goto (tgt := 15) hx hb dX3_bySize_57 (by decide) ?_
          exact ih _ _ _ _ _ hW (lv_sub hl [1, 2, 3, 4, 5, 0] rfl) h
        · have h := it_t k_6 h
          refine lv_iload hx hb dX3_bySize_43 (lv_at hl 3 rfl) ?_
          refine lv_if_ne (tgt := 51) hx hb dX3_bySize_45 (by decide) (fun k_7 => ?_) (fun k_7 => ?_)
          · have h := it_f k_7 h
            refine lv_iinc (v := (x4 + (-1 : Int32))) (lv' := [(4, .int (x4 + (-1 : Int32))), (0, .ref (ad b)), (1, .int x1), (2, .int x2), (5, .int x5), (6, .int x6)]) hx hb dX3_bySize_51 hl (k := 3) rfl rfl (by decide) rfl (fun ls hl => ?_)
            refine lv_iinc (v := (x6 + (1 : Int32))) (lv' := [(6, .int (x6 + (1 : Int32))), (4, .int (x4 + (-1 : Int32))), (0, .ref (ad b)), (1, .int x1), (2, .int x2), (5, .int x5)]) hx hb dX3_bySize_54 hl (k := 5) rfl rfl (by decide) rfl (fun ls hl => ?_)
            refine lv_goto (tgt := 15) hx hb dX3_bySize_57 (by decide) ?_
            exact ih _ _ _ _ _ hW (lv_sub hl [2, 3, 4, 1, 5, 0] rfl) h
          · have h := it_t k_7 h
            refine lv_iload hx hb dX3_bySize_48 (lv_at hl 5 rfl) ?_
            obtain rfl := Option.some.inj h
            exact k_iret hE hr hlk hW rfl rfl dX3_bySize_50
set_option maxHeartbeats 4000000 in
set_option maxRecDepth 100000 in
theorem wX3_bySize_7 {p : Program} {l : Launch} {e : Env} {s : State} {m : MethodId} {args : Array Value} {below : List Frame} {meth : Method} {cd : Code} {D : va_G} {ct : Nat → ClassId} {J : List Nat} {ad : Nat → Nat} {c0 : CF} {b : Nat} (hE : ME p s m cd args D ct cX3_bySize RX3 7) (hr : meth.sig.returnType = (some .int)) (hlk : meth.locks = false) {x1 : Int32} {x2 : Int32} {st : CS} (hB_st : LgB ct J ad c0 b st) {r : Int32} : ∀ (n : Nat) (x4 : Int32) (x5 : Int32) (H : Heap) (locs : List Loc) (ls : Array Slot), HW D J ad c0 (aA J ad s.heap.size) s.heap H locs → lv_has ls 7 [(0, .ref (ad b)), (1, .int x1), (2, .int x2), (4, .int x4), (5, .int x5)] → fX3_bySize_7 x1 x2 st n x4 x5 = some r → W p l e (rr 0 0) s m args below meth cd H locs 0 0 (MQ below (Qi D J ad s.heap.size r (fun c' => c' = c0)) args s 0 0 (aA J ad s.heap.size)) (F0 m 7 ls []) := by
  have hx := hE.1
  have hb := hE.2.1
  intro n
  induction n with
  | zero =>
    intro x4 x5 H locs ls hW hl h
    have h2 : (none : Option Int32) = some r := h
    cases h2
  | succ n ih =>
    intro x4 x5 H locs ls hW hl h
    rw [fX3_bySize_7] at h
    refine lv_iload hx hb dX3_bySize_7 (lv_at hl 4 rfl) ?_
    refine lv_if_le (tgt := 66) hx hb dX3_bySize_9 (by decide) (fun k_1 => ?_) (fun k_1 => ?_)
    · have h := it_t k_1 h
      refine lv_bipush (v := (-5 : Int32)) hx hb dX3_bySize_66 (by decide) ?_
      obtain rfl := Option.some.inj h
      exact k_iret hE hr hlk hW rfl rfl dX3_bySize_68
    · have h := it_f k_1 h
      refine lv_iload_n hx hb dX3_bySize_12 rfl (lv_at hl 1 rfl) ?_
      refine lv_istore (lv' := [(6, .int x1), (0, .ref (ad b)), (1, .int x1), (2, .int x2), (4, .int x4), (5, .int x5)]) hx hb dX3_bySize_13 hl (by decide) rfl (fun ls hl => ?_)
      exact wX3_bySize_15 hE hr hlk hB_st ih _ _ _ _ _ _ hW (lv_sub hl [1, 2, 3, 4, 5, 0] rfl) h
set_option maxHeartbeats 4000000 in
set_option maxRecDepth 100000 in
theorem mX3_bySize {l : Launch} {D : va_G} {ct : Nat → ClassId} {J : List Nat} {ad : Nat → Nat} {c0 : CF} {a1 : Int32} {a2 : Int32} {a3 : Int32} {b : Nat} {st : CS} (hB_st : LgB ct J ad c0 b st) {r : Int32} (h : fX3_bySize  a1 a2 a3 st = some r) : Mi l D ct J ad yX3_bySize cX3_bySize 7 (some .int) (rr 0 0) [.ref (ad b), .int a1, .int a2, .int a3] c0 r (fun c' => c' = c0) := by
  refine Mi_of (own := RX3) (by decide) rfl (Nat.le_of_ble_eq_true rfl) (fun p e s m below meth cd hE hr hlk hW ls hl => ?_)
  have hx := hE.1
  have hb := hE.2.1
  have hl : lv_has ls 7 [(0, .ref (ad b)), (1, .int a1), (2, .int a2), (3, .int a3)] := hl
  rw [fX3_bySize] at h
  refine lv_iload_n hx hb dX3_bySize_0 rfl (lv_at hl 3 rfl) ?_
  refine lv_istore (lv' := [(4, .int a3), (0, .ref (ad b)), (1, .int a1), (2, .int a2), (3, .int a3)]) hx hb dX3_bySize_1 hl (by decide) rfl (fun ls hl => ?_)
  refine lv_bipush (v := (9 : Int32)) hx hb dX3_bySize_3 (by decide) ?_
  refine lv_istore (lv' := [(5, .int (9 : Int32)), (4, .int a3), (0, .ref (ad b)), (1, .int a1), (2, .int a2), (3, .int a3)]) hx hb dX3_bySize_5 hl (by decide) rfl (fun ls hl => ?_)
  exact wX3_bySize_7 hE hr hlk hB_st _ _ _ _ _ _ hW (lv_sub hl [2, 3, 4, 1, 0] rfl) h
set_option maxHeartbeats 4000000 in
set_option maxRecDepth 100000 in
theorem wX3_byAge_33 {p : Program} {l : Launch} {e : Env} {s : State} {m : MethodId} {args : Array Value} {below : List Frame} {meth : Method} {cd : Code} {D : va_G} {ct : Nat → ClassId} {J : List Nat} {ad : Nat → Nat} {c0 : CF} {b : Nat} (hE : ME p s m cd args D ct cX3_byAge RX3 6) (hr : meth.sig.returnType = (some .int)) (hlk : meth.locks = false) {st : CS} (hB_st : LgB ct J ad c0 b st) {r : Int32} {K4 : Int32 → Int32 → Option Int32} (hK4 : ∀ (x2 : Int32) (x3 : Int32) (H : Heap) (locs : List Loc) (ls : Array Slot), HW D J ad c0 (aA J ad s.heap.size) s.heap H locs → lv_has ls 6 [(0, .ref (ad b)), (2, .int x2), (3, .int x3)] → K4 x2 x3 = some r → W p l e (rr 2 44) s m args below meth cd H locs 0 0 (MQ below (Qi D J ad s.heap.size r (fun c' => c' = c0)) args s 0 0 (aA J ad s.heap.size)) (F0 m 4 ls [])) : ∀ (x2 : Int32) (x3 : Int32) (H : Heap) (locs : List Loc) (ls : Array Slot), HW D J ad c0 (aA J ad s.heap.size) s.heap H locs → lv_has ls 6 [(0, .ref (ad b)), (2, .int x2), (3, .int x3)] → fX3_byAge_33 st K4 x2 x3 = some r → W p l e (rr 2 44) s m args below meth cd H locs 0 0 (MQ below (Qi D J ad s.heap.size r (fun c' => c' = c0)) args s 0 0 (aA J ad s.heap.size)) (F0 m 33 ls []) := by
  have hx := hE.1
  have hb := hE.2.1
  intro x2 x3 H locs ls hW hl h
  rw [fX3_byAge_33] at h
  refine lv_aload_n hx hb dX3_byAge_33 rfl (lv_at hl 0 rfl) ?_
  refine lv_iload_n hx hb dX3_byAge_34 rfl (lv_at hl 2 rfl) ?_
  obtain ⟨r_3, hr_3, h⟩ := zb_e h
  refine k_callVi (rest := []) hE hW hl.1 (mX3_likeTimesEnd hB_st hr_3) hB_st.o hB_st.obj rfl q567 q569 qs45 q3 q570 hd_X3_likeTimesEnd ⟨Nat.le_of_ble_eq_true rfl, Nat.le_of_ble_eq_true rfl⟩ ⟨rfl, rfl⟩ rfl (Nat.le_of_ble_eq_true rfl) dX3_byAge_35 ⟨Nat.zero_le _, Nat.zero_le _⟩ (fun c1 H locs hP hW => ?_)
  rw [hP] at hW
  refine lv_istore (lv' := [(4, .int r_3), (0, .ref (ad b)), (2, .int x2), (3, .int x3)]) hx hb dX3_byAge_38 hl (by decide) rfl (fun ls hl => ?_)
  refine lv_aload_n hx hb dX3_byAge_40 rfl (lv_at hl 1 rfl) ?_
  refine lv_iload_n hx hb dX3_byAge_41 rfl (lv_at hl 3 rfl) ?_
  refine lv_iload hx hb dX3_byAge_42 (lv_at hl 0 rfl) ?_
  obtain ⟨r_4, hr_4, h⟩ := zb_e h
  refine k_callVi (rest := []) hE hW hl.1 (mX3_recordsIn hB_st hr_4) hB_st.o hB_st.obj rfl q300 q302 qs3 q3 q303 hd_X3_recordsIn ⟨Nat.le_of_ble_eq_true rfl, Nat.le_of_ble_eq_true rfl⟩ ⟨rfl, rfl⟩ rfl (Nat.le_of_ble_eq_true rfl) dX3_byAge_44 ⟨Nat.zero_le _, Nat.zero_le _⟩ (fun c1 H locs hP hW => ?_)
  rw [hP] at hW
  refine lv_istore (lv' := [(5, .int r_4), (4, .int r_3), (0, .ref (ad b)), (2, .int x2), (3, .int x3)]) hx hb dX3_byAge_47 hl (by decide) rfl (fun ls hl => ?_)
  refine lv_iload_n hx hb dX3_byAge_49 rfl (lv_at hl 3 rfl) ?_
  refine lv_iload hx hb dX3_byAge_50 (lv_at hl 0 rfl) ?_
  refine lv_icmp_ge (tgt := 64) hx hb dX3_byAge_52 (by decide) (fun k_5 => ?_) (fun k_5 => ?_)
  · have h := it_t k_5 h
    refine lv_iload_n hx hb dX3_byAge_64 rfl (lv_at hl 3 rfl) ?_
    refine lv_iload hx hb dX3_byAge_65 (lv_at hl 0 rfl) ?_
    refine lv_isub hx hb dX3_byAge_67 ?_
    refine lv_istore_n (lv' := [(2, .int (x2 - r_4)), (5, .int r_4), (4, .int r_3), (0, .ref (ad b)), (3, .int x3)]) hx hb dX3_byAge_68 rfl hl (by decide) rfl (fun ls hl => ?_)
    refine lv_iinc (v := (x3 + (1 : Int32))) (lv' := [(3, .int (x3 + (1 : Int32))), (2, .int (x2 - r_4)), (5, .int r_4), (4, .int r_3), (0, .ref (ad b))]) hx hb dX3_byAge_69 hl (k := 4) rfl rfl (by decide) rfl (fun ls hl => ?_)
    refine lv_goto (tgt := 4) hx hb dX3_byAge_72 (by decide) ?_
    exact hK4 _ _ _ _ _ hW (lv_sub hl [4, 1, 0] rfl) h
  · have h := it_f k_5 h
    refine lv_aload_n hx hb dX3_byAge_55 rfl (lv_at hl 2 rfl) ?_
    refine lv_iload_n hx hb dX3_byAge_56 rfl (lv_at hl 4 rfl) ?_
    refine lv_iload hx hb dX3_byAge_57 (lv_at hl 1 rfl) ?_
    refine lv_iload_n hx hb dX3_byAge_59 rfl (lv_at hl 3 rfl) ?_
    obtain ⟨r_6, hr_6, h⟩ := zb_e h
    refine k_callVi (rest := []) hE hW hl.1 (mX3_bySize hB_st hr_6) hB_st.o hB_st.obj rfl q571 q573 qs46 q3 q574 hd_X3_bySize ⟨Nat.le_of_ble_eq_true rfl, Nat.le_of_ble_eq_true rfl⟩ ⟨rfl, rfl⟩ rfl (Nat.le_of_ble_eq_true rfl) dX3_byAge_60 ⟨Nat.zero_le _, Nat.zero_le _⟩ (fun c1 H locs hP hW => ?_)
    rw [hP] at hW
    obtain rfl := Option.some.inj h
    exact k_iret hE hr hlk hW rfl rfl dX3_byAge_63
set_option maxHeartbeats 4000000 in
set_option maxRecDepth 100000 in
theorem wX3_byAge_4 {p : Program} {l : Launch} {e : Env} {s : State} {m : MethodId} {args : Array Value} {below : List Frame} {meth : Method} {cd : Code} {D : va_G} {ct : Nat → ClassId} {J : List Nat} {ad : Nat → Nat} {c0 : CF} {b : Nat} (hE : ME p s m cd args D ct cX3_byAge RX3 6) (hr : meth.sig.returnType = (some .int)) (hlk : meth.locks = false) {st : CS} (hB_st : LgB ct J ad c0 b st) {r : Int32} : ∀ (n : Nat) (x2 : Int32) (x3 : Int32) (H : Heap) (locs : List Loc) (ls : Array Slot), HW D J ad c0 (aA J ad s.heap.size) s.heap H locs → lv_has ls 6 [(0, .ref (ad b)), (2, .int x2), (3, .int x3)] → fX3_byAge_4 st n x2 x3 = some r → W p l e (rr 2 44) s m args below meth cd H locs 0 0 (MQ below (Qi D J ad s.heap.size r (fun c' => c' = c0)) args s 0 0 (aA J ad s.heap.size)) (F0 m 4 ls []) := by
  have hx := hE.1
  have hb := hE.2.1
  intro n
  induction n with
  | zero =>
    intro x2 x3 H locs ls hW hl h
    have h2 : (none : Option Int32) = some r := h
    cases h2
  | succ n ih =>
    intro x2 x3 H locs ls hW hl h
    rw [fX3_byAge_4] at h
    refine lv_iload_n hx hb dX3_byAge_4 rfl (lv_at hl 2 rfl) ?_
    refine lv_aload_n hx hb dX3_byAge_5 rfl (lv_at hl 0 rfl) ?_
    refine k_get (v := .int (st.2 0)) hE hW hB_st.o hB_st.obj rfl inX3 7 (by decide) q54 rfl dX3_byAge_6 ?_
    refine lv_icmp_ge (tgt := 75) hx hb dX3_byAge_9 (by decide) (fun k_1 => ?_) (fun k_1 => ?_)
    · have h := it_t k_1 h
      refine lv_bipush (v := (-5 : Int32)) hx hb dX3_byAge_75 (by decide) ?_
      obtain rfl := Option.some.inj h
      exact k_iret hE hr hlk hW rfl rfl dX3_byAge_77
    · have h := it_f k_1 h
      refine lv_iload_n hx hb dX3_byAge_12 rfl (lv_at hl 2 rfl) ?_
      refine lv_if_eq (tgt := 33) hx hb dX3_byAge_13 (by decide) (fun k_2 => ?_) (fun k_2 => ?_)
      · have h := it_t k_2 h
        exact wX3_byAge_33 hE hr hlk hB_st ih _ _ _ _ _ hW (lv_sub hl [0, 1, 2] rfl) h
      · have h := it_f k_2 h
        refine lv_aload_n hx hb dX3_byAge_16 rfl (lv_at hl 0 rfl) ?_
        refine k_get (v := .ref (ad (b + 1 + 2))) hE hW hB_st.o hB_st.obj rfl inX3 2 (by decide) q43 rfl dX3_byAge_17 ?_
        refine lv_iload_n hx hb dX3_byAge_20 rfl (lv_at hl 2 rfl) ?_
        obtain ⟨g_7, h⟩ := zi_e h
        refine k_iald hE hW (hB_st.memA 2 (Nat.le_of_ble_eq_true rfl)) (hB_st.arr 2 rfl) g_7 dX3_byAge_21 ?_
        refine lv_aload_n hx hb dX3_byAge_22 rfl (lv_at hl 0 rfl) ?_
        refine k_get (v := .ref (ad (b + 1 + 2))) hE hW hB_st.o hB_st.obj rfl inX3 2 (by decide) q43 rfl dX3_byAge_23 ?_
        refine lv_iload_n hx hb dX3_byAge_26 rfl (lv_at hl 2 rfl) ?_
        refine lv_iconst (v := (1 : Int32)) hx hb dX3_byAge_27 (by decide) ?_
        refine lv_isub hx hb dX3_byAge_28 ?_
        obtain ⟨g_8, h⟩ := zi_e h
        refine k_iald hE hW (hB_st.memA 2 (Nat.le_of_ble_eq_true rfl)) (hB_st.arr 2 rfl) g_8 dX3_byAge_29 ?_
        refine lv_icmp_eq (tgt := 69) hx hb dX3_byAge_30 (by decide) (fun k_9 => ?_) (fun k_9 => ?_)
        · have h := it_t k_9 h
          refine lv_iinc (v := (x3 + (1 : Int32))) (lv' := [(3, .int (x3 + (1 : Int32))), (0, .ref (ad b)), (2, .int x2)]) hx hb dX3_byAge_69 hl (k := 2) rfl rfl (by decide) rfl (fun ls hl => ?_)
          refine lv_goto (tgt := 4) hx hb dX3_byAge_72 (by decide) ?_
          exact ih _ _ _ _ _ hW (lv_sub hl [1, 2, 0] rfl) h
        · have h := it_f k_9 h
          exact wX3_byAge_33 hE hr hlk hB_st ih _ _ _ _ _ hW (lv_sub hl [0, 1, 2] rfl) h
set_option maxHeartbeats 4000000 in
set_option maxRecDepth 100000 in
theorem mX3_byAge {l : Launch} {D : va_G} {ct : Nat → ClassId} {J : List Nat} {ad : Nat → Nat} {c0 : CF} {a1 : Int32} {b : Nat} {st : CS} (hB_st : LgB ct J ad c0 b st) {r : Int32} (h : fX3_byAge  a1 st = some r) : Mi l D ct J ad yX3_byAge cX3_byAge 6 (some .int) (rr 2 44) [.ref (ad b), .int a1] c0 r (fun c' => c' = c0) := by
  refine Mi_of (own := RX3) (by decide) rfl (Nat.le_of_ble_eq_true rfl) (fun p e s m below meth cd hE hr hlk hW ls hl => ?_)
  have hx := hE.1
  have hb := hE.2.1
  have hl : lv_has ls 6 [(0, .ref (ad b)), (1, .int a1)] := hl
  rw [fX3_byAge] at h
  refine lv_iload_n hx hb dX3_byAge_0 rfl (lv_at hl 1 rfl) ?_
  refine lv_istore_n (lv' := [(2, .int a1), (0, .ref (ad b)), (1, .int a1)]) hx hb dX3_byAge_1 rfl hl (by decide) rfl (fun ls hl => ?_)
  refine lv_iconst (v := (0 : Int32)) hx hb dX3_byAge_2 (by decide) ?_
  refine lv_istore_n (lv' := [(3, .int (0 : Int32)), (2, .int a1), (0, .ref (ad b)), (1, .int a1)]) hx hb dX3_byAge_3 rfl hl (by decide) rfl (fun ls hl => ?_)
  exact wX3_byAge_4 hE hr hlk hB_st _ _ _ _ _ _ hW (lv_sub hl [2, 1, 0] rfl) h
