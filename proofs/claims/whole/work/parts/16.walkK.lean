theorem hd_X8_isLog : yX8_isLog.cls = RX8 ∧ yX8_isLog.cls ≠ "java/lang/invoke/MethodHandle" ∧ yX8_isLog.cls ≠ "java/lang/invoke/VarHandle" ∧ (parseMethodDescriptor yX8_isLog.desc).map (fun d => d.parameters.length) = some 1 := by decide +kernel
theorem hd_X8_isKey : yX8_isKey.cls = RX8 ∧ yX8_isKey.cls ≠ "java/lang/invoke/MethodHandle" ∧ yX8_isKey.cls ≠ "java/lang/invoke/VarHandle" ∧ (parseMethodDescriptor yX8_isKey.desc).map (fun d => d.parameters.length) = some 1 := by decide +kernel
theorem hd_X8_recordComes : yX8_recordComes.cls = RX8 ∧ yX8_recordComes.cls ≠ "java/lang/invoke/MethodHandle" ∧ yX8_recordComes.cls ≠ "java/lang/invoke/VarHandle" ∧ (parseMethodDescriptor yX8_recordComes.desc).map (fun d => d.parameters.length) = some 5 := by decide +kernel
theorem hd_X8_put : yX8_put.cls = RX8 ∧ yX8_put.cls ≠ "java/lang/invoke/MethodHandle" ∧ yX8_put.cls ≠ "java/lang/invoke/VarHandle" ∧ (parseMethodDescriptor yX8_put.desc).map (fun d => d.parameters.length) = some 5 := by decide +kernel
theorem hd_X8_tomb : yX8_tomb.cls = RX8 ∧ yX8_tomb.cls ≠ "java/lang/invoke/MethodHandle" ∧ yX8_tomb.cls ≠ "java/lang/invoke/VarHandle" ∧ (parseMethodDescriptor yX8_tomb.desc).map (fun d => d.parameters.length) = some 3 := by decide +kernel
theorem hd_X8_tick : yX8_tick.cls = RX8 ∧ yX8_tick.cls ≠ "java/lang/invoke/MethodHandle" ∧ yX8_tick.cls ≠ "java/lang/invoke/VarHandle" ∧ (parseMethodDescriptor yX8_tick.desc).map (fun d => d.parameters.length) = some 1 := by decide +kernel
theorem hd_X8_setGrace : yX8_setGrace.cls = RX8 ∧ yX8_setGrace.cls ≠ "java/lang/invoke/MethodHandle" ∧ yX8_setGrace.cls ≠ "java/lang/invoke/VarHandle" ∧ (parseMethodDescriptor yX8_setGrace.desc).map (fun d => d.parameters.length) = some 1 := by decide +kernel
theorem hd_X8_setKeep : yX8_setKeep.cls = RX8 ∧ yX8_setKeep.cls ≠ "java/lang/invoke/MethodHandle" ∧ yX8_setKeep.cls ≠ "java/lang/invoke/VarHandle" ∧ (parseMethodDescriptor yX8_setKeep.desc).map (fun d => d.parameters.length) = some 1 := by decide +kernel
theorem hd_X8_setAge : yX8_setAge.cls = RX8 ∧ yX8_setAge.cls ≠ "java/lang/invoke/MethodHandle" ∧ yX8_setAge.cls ≠ "java/lang/invoke/VarHandle" ∧ (parseMethodDescriptor yX8_setAge.desc).map (fun d => d.parameters.length) = some 1 := by decide +kernel
theorem hd_X8_set : yX8_set.cls = RX8 ∧ yX8_set.cls ≠ "java/lang/invoke/MethodHandle" ∧ yX8_set.cls ≠ "java/lang/invoke/VarHandle" ∧ (parseMethodDescriptor yX8_set.desc).map (fun d => d.parameters.length) = some 2 := by decide +kernel
theorem hd_X8_compact : yX8_compact.cls = RX8 ∧ yX8_compact.cls ≠ "java/lang/invoke/MethodHandle" ∧ yX8_compact.cls ≠ "java/lang/invoke/VarHandle" ∧ (parseMethodDescriptor yX8_compact.desc).map (fun d => d.parameters.length) = some 1 := by decide +kernel
theorem hd_X8_retain : yX8_retain.cls = RX8 ∧ yX8_retain.cls ≠ "java/lang/invoke/MethodHandle" ∧ yX8_retain.cls ≠ "java/lang/invoke/VarHandle" ∧ (parseMethodDescriptor yX8_retain.desc).map (fun d => d.parameters.length) = some 1 := by decide +kernel
theorem hd_X8_feed : yX8_feed.cls = RX8 ∧ yX8_feed.cls ≠ "java/lang/invoke/MethodHandle" ∧ yX8_feed.cls ≠ "java/lang/invoke/VarHandle" ∧ (parseMethodDescriptor yX8_feed.desc).map (fun d => d.parameters.length) = some 1 := by decide +kernel
theorem hd_X8_clausesCome : yX8_clausesCome.cls = RX8 ∧ yX8_clausesCome.cls ≠ "java/lang/invoke/MethodHandle" ∧ yX8_clausesCome.cls ≠ "java/lang/invoke/VarHandle" ∧ (parseMethodDescriptor yX8_clausesCome.desc).map (fun d => d.parameters.length) = some 0 := by decide +kernel
theorem hd_X8_read : yX8_read.cls = RX8 ∧ yX8_read.cls ≠ "java/lang/invoke/MethodHandle" ∧ yX8_read.cls ≠ "java/lang/invoke/VarHandle" ∧ (parseMethodDescriptor yX8_read.desc).map (fun d => d.parameters.length) = some 0 := by decide +kernel
theorem hd_X8_of : yX8_of.cls = RX8 ∧ yX8_of.cls ≠ "java/lang/invoke/MethodHandle" ∧ yX8_of.cls ≠ "java/lang/invoke/VarHandle" ∧ (parseMethodDescriptor yX8_of.desc).map (fun d => d.parameters.length) = some 2 := by decide +kernel
theorem hd_X8_record : yX8_record.cls = RX8 ∧ yX8_record.cls ≠ "java/lang/invoke/MethodHandle" ∧ yX8_record.cls ≠ "java/lang/invoke/VarHandle" ∧ (parseMethodDescriptor yX8_record.desc).map (fun d => d.parameters.length) = some 3 := by decide +kernel
theorem hd_X8_segment : yX8_segment.cls = RX8 ∧ yX8_segment.cls ≠ "java/lang/invoke/MethodHandle" ∧ yX8_segment.cls ≠ "java/lang/invoke/VarHandle" ∧ (parseMethodDescriptor yX8_segment.desc).map (fun d => d.parameters.length) = some 3 := by decide +kernel
theorem hd_X8_value : yX8_value.cls = RX8 ∧ yX8_value.cls ≠ "java/lang/invoke/MethodHandle" ∧ yX8_value.cls ≠ "java/lang/invoke/VarHandle" ∧ (parseMethodDescriptor yX8_value.desc).map (fun d => d.parameters.length) = some 2 := by decide +kernel
theorem hd_X8_map : yX8_map.cls = RX8 ∧ yX8_map.cls ≠ "java/lang/invoke/MethodHandle" ∧ yX8_map.cls ≠ "java/lang/invoke/VarHandle" ∧ (parseMethodDescriptor yX8_map.desc).map (fun d => d.parameters.length) = some 2 := by decide +kernel
theorem hd_X8_replay : yX8_replay.cls = RX8 ∧ yX8_replay.cls ≠ "java/lang/invoke/MethodHandle" ∧ yX8_replay.cls ≠ "java/lang/invoke/VarHandle" ∧ (parseMethodDescriptor yX8_replay.desc).map (fun d => d.parameters.length) = some 3 := by decide +kernel
theorem hd_X8_near : yX8_near.cls = RX8 ∧ yX8_near.cls ≠ "java/lang/invoke/MethodHandle" ∧ yX8_near.cls ≠ "java/lang/invoke/VarHandle" ∧ (parseMethodDescriptor yX8_near.desc).map (fun d => d.parameters.length) = some 3 := by decide +kernel
theorem hd_X8_oldest : yX8_oldest.cls = RX8 ∧ yX8_oldest.cls ≠ "java/lang/invoke/MethodHandle" ∧ yX8_oldest.cls ≠ "java/lang/invoke/VarHandle" ∧ (parseMethodDescriptor yX8_oldest.desc).map (fun d => d.parameters.length) = some 2 := by decide +kernel
theorem hd_X8_would : yX8_would.cls = RX8 ∧ yX8_would.cls ≠ "java/lang/invoke/MethodHandle" ∧ yX8_would.cls ≠ "java/lang/invoke/VarHandle" ∧ (parseMethodDescriptor yX8_would.desc).map (fun d => d.parameters.length) = some 2 := by decide +kernel
theorem hd_X8_leastKeep : yX8_leastKeep.cls = RX8 ∧ yX8_leastKeep.cls ≠ "java/lang/invoke/MethodHandle" ∧ yX8_leastKeep.cls ≠ "java/lang/invoke/VarHandle" ∧ (parseMethodDescriptor yX8_leastKeep.desc).map (fun d => d.parameters.length) = some 2 := by decide +kernel
theorem hd_X8_need : yX8_need.cls = RX8 ∧ yX8_need.cls ≠ "java/lang/invoke/MethodHandle" ∧ yX8_need.cls ≠ "java/lang/invoke/VarHandle" ∧ (parseMethodDescriptor yX8_need.desc).map (fun d => d.parameters.length) = some 2 := by decide +kernel
theorem hd_X8_isMember : yX8_isMember.cls = RX8 ∧ yX8_isMember.cls ≠ "java/lang/invoke/MethodHandle" ∧ yX8_isMember.cls ≠ "java/lang/invoke/VarHandle" ∧ (parseMethodDescriptor yX8_isMember.desc).map (fun d => d.parameters.length) = some 1 := by decide +kernel
theorem hd_X8_join : yX8_join.cls = RX8 ∧ yX8_join.cls ≠ "java/lang/invoke/MethodHandle" ∧ yX8_join.cls ≠ "java/lang/invoke/VarHandle" ∧ (parseMethodDescriptor yX8_join.desc).map (fun d => d.parameters.length) = some 1 := by decide +kernel
theorem hd_X8_leave : yX8_leave.cls = RX8 ∧ yX8_leave.cls ≠ "java/lang/invoke/MethodHandle" ∧ yX8_leave.cls ≠ "java/lang/invoke/VarHandle" ∧ (parseMethodDescriptor yX8_leave.desc).map (fun d => d.parameters.length) = some 1 := by decide +kernel
theorem hd_X8_poll : yX8_poll.cls = RX8 ∧ yX8_poll.cls ≠ "java/lang/invoke/MethodHandle" ∧ yX8_poll.cls ≠ "java/lang/invoke/VarHandle" ∧ (parseMethodDescriptor yX8_poll.desc).map (fun d => d.parameters.length) = some 1 := by decide +kernel
theorem hd_X8_seek : yX8_seek.cls = RX8 ∧ yX8_seek.cls ≠ "java/lang/invoke/MethodHandle" ∧ yX8_seek.cls ≠ "java/lang/invoke/VarHandle" ∧ (parseMethodDescriptor yX8_seek.desc).map (fun d => d.parameters.length) = some 2 := by decide +kernel
theorem hd_X8_member : yX8_member.cls = RX8 ∧ yX8_member.cls ≠ "java/lang/invoke/MethodHandle" ∧ yX8_member.cls ≠ "java/lang/invoke/VarHandle" ∧ (parseMethodDescriptor yX8_member.desc).map (fun d => d.parameters.length) = some 2 := by decide +kernel
theorem hd_X8_told : yX8_told.cls = RX8 ∧ yX8_told.cls ≠ "java/lang/invoke/MethodHandle" ∧ yX8_told.cls ≠ "java/lang/invoke/VarHandle" ∧ (parseMethodDescriptor yX8_told.desc).map (fun d => d.parameters.length) = some 1 := by decide +kernel
theorem hd_X8_harmlessKeeps : yX8_harmlessKeeps.cls = RX8 ∧ yX8_harmlessKeeps.cls ≠ "java/lang/invoke/MethodHandle" ∧ yX8_harmlessKeeps.cls ≠ "java/lang/invoke/VarHandle" ∧ (parseMethodDescriptor yX8_harmlessKeeps.desc).map (fun d => d.parameters.length) = some 2 := by decide +kernel
theorem hd_X8_commonDivisor : yX8_commonDivisor.cls = RX8 ∧ yX8_commonDivisor.cls ≠ "java/lang/invoke/MethodHandle" ∧ yX8_commonDivisor.cls ≠ "java/lang/invoke/VarHandle" ∧ (parseMethodDescriptor yX8_commonDivisor.desc).map (fun d => d.parameters.length) = some 2 := by decide +kernel
theorem hd_X8_odds : yX8_odds.cls = RX8 ∧ yX8_odds.cls ≠ "java/lang/invoke/MethodHandle" ∧ yX8_odds.cls ≠ "java/lang/invoke/VarHandle" ∧ (parseMethodDescriptor yX8_odds.desc).map (fun d => d.parameters.length) = some 2 := by decide +kernel
theorem hd_X8_plan : yX8_plan.cls = RX8 ∧ yX8_plan.cls ≠ "java/lang/invoke/MethodHandle" ∧ yX8_plan.cls ≠ "java/lang/invoke/VarHandle" ∧ (parseMethodDescriptor yX8_plan.desc).map (fun d => d.parameters.length) = some 2 := by decide +kernel
theorem hd_X8_book : yX8_book.cls = RX8 ∧ yX8_book.cls ≠ "java/lang/invoke/MethodHandle" ∧ yX8_book.cls ≠ "java/lang/invoke/VarHandle" ∧ (parseMethodDescriptor yX8_book.desc).map (fun d => d.parameters.length) = some 2 := by decide +kernel
theorem hd_X8_looked : yX8_looked.cls = RX8 ∧ yX8_looked.cls ≠ "java/lang/invoke/MethodHandle" ∧ yX8_looked.cls ≠ "java/lang/invoke/VarHandle" ∧ (parseMethodDescriptor yX8_looked.desc).map (fun d => d.parameters.length) = some 0 := by decide +kernel
theorem hd_X8_keep : yX8_keep.cls = RX8 ∧ yX8_keep.cls ≠ "java/lang/invoke/MethodHandle" ∧ yX8_keep.cls ≠ "java/lang/invoke/VarHandle" ∧ (parseMethodDescriptor yX8_keep.desc).map (fun d => d.parameters.length) = some 3 := by decide +kernel
theorem hd_X8_kept : yX8_kept.cls = RX8 ∧ yX8_kept.cls ≠ "java/lang/invoke/MethodHandle" ∧ yX8_kept.cls ≠ "java/lang/invoke/VarHandle" ∧ (parseMethodDescriptor yX8_kept.desc).map (fun d => d.parameters.length) = some 2 := by decide +kernel
theorem hd_X8_isTape : yX8_isTape.cls = RX8 ∧ yX8_isTape.cls ≠ "java/lang/invoke/MethodHandle" ∧ yX8_isTape.cls ≠ "java/lang/invoke/VarHandle" ∧ (parseMethodDescriptor yX8_isTape.desc).map (fun d => d.parameters.length) = some 1 := by decide +kernel
theorem hd_X8_judge : yX8_judge.cls = RX8 ∧ yX8_judge.cls ≠ "java/lang/invoke/MethodHandle" ∧ yX8_judge.cls ≠ "java/lang/invoke/VarHandle" ∧ (parseMethodDescriptor yX8_judge.desc).map (fun d => d.parameters.length) = some 3 := by decide +kernel
theorem hd_X8_undo : yX8_undo.cls = RX8 ∧ yX8_undo.cls ≠ "java/lang/invoke/MethodHandle" ∧ yX8_undo.cls ≠ "java/lang/invoke/VarHandle" ∧ (parseMethodDescriptor yX8_undo.desc).map (fun d => d.parameters.length) = some 0 := by decide +kernel
theorem hd_X8_count : yX8_count.cls = RX8 ∧ yX8_count.cls ≠ "java/lang/invoke/MethodHandle" ∧ yX8_count.cls ≠ "java/lang/invoke/VarHandle" ∧ (parseMethodDescriptor yX8_count.desc).map (fun d => d.parameters.length) = some 1 := by decide +kernel
theorem hd_X8_tape : yX8_tape.cls = RX8 ∧ yX8_tape.cls ≠ "java/lang/invoke/MethodHandle" ∧ yX8_tape.cls ≠ "java/lang/invoke/VarHandle" ∧ (parseMethodDescriptor yX8_tape.desc).map (fun d => d.parameters.length) = some 3 := by decide +kernel
theorem hd_X8_item : yX8_item.cls = RX8 ∧ yX8_item.cls ≠ "java/lang/invoke/MethodHandle" ∧ yX8_item.cls ≠ "java/lang/invoke/VarHandle" ∧ (parseMethodDescriptor yX8_item.desc).map (fun d => d.parameters.length) = some 3 := by decide +kernel
theorem hd_X8_peek : yX8_peek.cls = RX8 ∧ yX8_peek.cls ≠ "java/lang/invoke/MethodHandle" ∧ yX8_peek.cls ≠ "java/lang/invoke/VarHandle" ∧ (parseMethodDescriptor yX8_peek.desc).map (fun d => d.parameters.length) = some 2 := by decide +kernel
theorem hd_X8_shift : yX8_shift.cls = RX8 ∧ yX8_shift.cls ≠ "java/lang/invoke/MethodHandle" ∧ yX8_shift.cls ≠ "java/lang/invoke/VarHandle" ∧ (parseMethodDescriptor yX8_shift.desc).map (fun d => d.parameters.length) = some 5 := by decide +kernel
set_option maxHeartbeats 4000000 in
set_option maxRecDepth 100000 in
theorem mX8_isLog {l : Launch} {D : va_G} {ct : Nat → ClassId} {J : List Nat} {ad : Nat → Nat} {c0 : CF} {a1 : Int32} {r : Int32} (h : fX8_isLog  a1 = some r) : Mi l D ct J ad yX8_isLog cX8_isLog 1 (some .boolean) (rr 0 0) [.int a1] c0 r (fun c' => c' = c0) := by
  refine Mi_of (own := RX8) (by decide) rfl (Nat.le_of_ble_eq_true rfl) (fun p e s m below meth cd hE hr hlk hW ls hl => ?_)
  have hx := hE.1
  have hb := hE.2.1
  have hl : lv_has ls 1 [(0, .int a1)] := hl
  rw [fX8_isLog] at h
  refine lv_iload_n hx hb dX8_isLog_0 rfl (lv_at hl 0 rfl) ?_
  refine lv_if_lt (tgt := 13) hx hb dX8_isLog_1 (by decide) (fun k_1 => ?_) (fun k_1 => ?_)
  · have h := it_t k_1 h
    refine lv_iconst (v := (0 : Int32)) hx hb dX8_isLog_13 (by decide) ?_
    obtain rfl := Option.some.inj h
    exact k_zret hE hr hlk hW rfl rfl rfl dX8_isLog_14
  · have h := it_f k_1 h
    refine lv_iload_n hx hb dX8_isLog_4 rfl (lv_at hl 0 rfl) ?_
    refine lv_iconst (v := (4 : Int32)) hx hb dX8_isLog_5 (by decide) ?_
    refine lv_icmp_ge (tgt := 13) hx hb dX8_isLog_6 (by decide) (fun k_2 => ?_) (fun k_2 => ?_)
    · have h := it_t k_2 h
      refine lv_iconst (v := (0 : Int32)) hx hb dX8_isLog_13 (by decide) ?_
      obtain rfl := Option.some.inj h
      exact k_zret hE hr hlk hW rfl rfl rfl dX8_isLog_14
    · have h := it_f k_2 h
      refine lv_iconst (v := (1 : Int32)) hx hb dX8_isLog_9 (by decide) ?_
      refine lv_goto (tgt := 14) hx hb dX8_isLog_10 (by decide) ?_
      obtain rfl := Option.some.inj h
      exact k_zret hE hr hlk hW rfl rfl rfl dX8_isLog_14
set_option maxHeartbeats 4000000 in
set_option maxRecDepth 100000 in
theorem mX8_isKey {l : Launch} {D : va_G} {ct : Nat → ClassId} {J : List Nat} {ad : Nat → Nat} {c0 : CF} {a1 : Int32} {r : Int32} (h : fX8_isKey  a1 = some r) : Mi l D ct J ad yX8_isKey cX8_isKey 1 (some .boolean) (rr 0 0) [.int a1] c0 r (fun c' => c' = c0) := by
  refine Mi_of (own := RX8) (by decide) rfl (Nat.le_of_ble_eq_true rfl) (fun p e s m below meth cd hE hr hlk hW ls hl => ?_)
  have hx := hE.1
  have hb := hE.2.1
  have hl : lv_has ls 1 [(0, .int a1)] := hl
  rw [fX8_isKey] at h
  refine lv_iload_n hx hb dX8_isKey_0 rfl (lv_at hl 0 rfl) ?_
  refine lv_if_lt (tgt := 14) hx hb dX8_isKey_1 (by decide) (fun k_1 => ?_) (fun k_1 => ?_)
  · have h := it_t k_1 h
    refine lv_iconst (v := (0 : Int32)) hx hb dX8_isKey_14 (by decide) ?_
    obtain rfl := Option.some.inj h
    exact k_zret hE hr hlk hW rfl rfl rfl dX8_isKey_15
  · have h := it_f k_1 h
    refine lv_iload_n hx hb dX8_isKey_4 rfl (lv_at hl 0 rfl) ?_
    refine lv_bipush (v := (26 : Int32)) hx hb dX8_isKey_5 (by decide) ?_
    refine lv_icmp_ge (tgt := 14) hx hb dX8_isKey_7 (by decide) (fun k_2 => ?_) (fun k_2 => ?_)
    · have h := it_t k_2 h
      refine lv_iconst (v := (0 : Int32)) hx hb dX8_isKey_14 (by decide) ?_
      obtain rfl := Option.some.inj h
      exact k_zret hE hr hlk hW rfl rfl rfl dX8_isKey_15
    · have h := it_f k_2 h
      refine lv_iconst (v := (1 : Int32)) hx hb dX8_isKey_10 (by decide) ?_
      refine lv_goto (tgt := 15) hx hb dX8_isKey_11 (by decide) ?_
      obtain rfl := Option.some.inj h
      exact k_zret hE hr hlk hW rfl rfl rfl dX8_isKey_15
set_option maxHeartbeats 4000000 in
set_option maxRecDepth 100000 in
theorem mX8_recordComes {l : Launch} {D : va_G} {ct : Nat → ClassId} {J : List Nat} {ad : Nat → Nat} {c0 : CF} {a1 : Int32} {a2 : Int32} {a3 : Int32} {a4 : Int32} {a5 : Int32} {b : Nat} {st : KS} (hB_st : KlB ct J ad c0 b st) {r : Int32} {st9 : KS} (h : fX8_recordComes  a1 a2 a3 a4 a5 st = some (r, st9)) : Mi l D ct J ad yX8_recordComes cX8_recordComes 7 (some .int) (rr 3 71) [.ref (ad b), .int a1, .int a2, .int a3, .int a4, .int a5] c0 r (fun c' => KlB ct J ad c' b st9 ∧ Fr c0 c' b 160) := by
  refine Mi_of (own := RX8) (by decide) rfl (Nat.le_of_ble_eq_true rfl) (fun p e s m below meth cd hE hr hlk hW ls hl => ?_)
  have hx := hE.1
  have hb := hE.2.1
  have hl : lv_has ls 7 [(0, .ref (ad b)), (1, .int a1), (2, .int a2), (3, .int a3), (4, .int a4), (5, .int a5)] := hl
  rw [fX8_recordComes] at h
  obtain ⟨c, hB_st, hF, hW⟩ : ∃ c', KlB ct J ad c' b st ∧ Fr c0 c' b 160 ∧ HW D J ad c' (aA J ad s.heap.size) s.heap s.heap [] := ⟨c0, hB_st, Fr.rf, hW⟩
  refine lv_iload_n hx hb dX8_recordComes_0 rfl (lv_at hl 1 rfl) ?_
  obtain ⟨r_1, hr_1, h⟩ := zb_e h
  refine k_callSi (rest := []) hE hW hl.1 (mX8_isLog hr_1) q286 q287 q1 q288 hd_X8_isLog.2 ⟨Nat.le_of_ble_eq_true rfl, Nat.le_of_ble_eq_true rfl⟩ ⟨rfl, rfl⟩ rfl (Nat.le_of_ble_eq_true rfl) dX8_recordComes_1 ⟨Nat.zero_le _, Nat.zero_le _⟩ (fun c1 H locs hP hW => ?_)
  rw [hP] at hW
  refine lv_if_eq (tgt := 14) hx hb dX8_recordComes_4 (by decide) (fun k_2 => ?_) (fun k_2 => ?_)
  · have h := it_t k_2 h
    refine lv_iconst (v := (-1 : Int32)) hx hb dX8_recordComes_14 (by decide) ?_
    obtain ⟨rfl, rfl⟩ := Prod.mk.inj (Option.some.inj h)
    exact k_iret hE hr hlk hW ⟨hB_st, hF⟩ rfl dX8_recordComes_15
  · have h := it_f k_2 h
    refine lv_iload_n hx hb dX8_recordComes_7 rfl (lv_at hl 2 rfl) ?_
    obtain ⟨r_3, hr_3, h⟩ := zb_e h
    refine k_callSi (rest := []) hE hW hl.1 (mX8_isKey hr_3) q289 q290 q1 q291 hd_X8_isKey.2 ⟨Nat.le_of_ble_eq_true rfl, Nat.le_of_ble_eq_true rfl⟩ ⟨rfl, rfl⟩ rfl (Nat.le_of_ble_eq_true rfl) dX8_recordComes_8 ⟨Nat.zero_le _, Nat.zero_le _⟩ (fun c1 H locs hP hW => ?_)
    rw [hP] at hW
    refine lv_if_ne (tgt := 16) hx hb dX8_recordComes_11 (by decide) (fun k_4 => ?_) (fun k_4 => ?_)
    · have h := it_f k_4 h
      refine lv_iload hx hb dX8_recordComes_16 (lv_at hl 5 rfl) ?_
      refine lv_iconst (v := (1 : Int32)) hx hb dX8_recordComes_18 (by decide) ?_
      refine lv_icmp_lt (tgt := 29) hx hb dX8_recordComes_19 (by decide) (fun k_5 => ?_) (fun k_5 => ?_)
      · have h := it_t k_5 h
        refine lv_bipush (v := (-2 : Int32)) hx hb dX8_recordComes_29 (by decide) ?_
        obtain ⟨rfl, rfl⟩ := Prod.mk.inj (Option.some.inj h)
        exact k_iret hE hr hlk hW ⟨hB_st, hF⟩ rfl dX8_recordComes_31
      · have h := it_f k_5 h
        refine lv_iload hx hb dX8_recordComes_22 (lv_at hl 5 rfl) ?_
        refine lv_bipush (v := (9 : Int32)) hx hb dX8_recordComes_24 (by decide) ?_
        refine lv_icmp_le (tgt := 32) hx hb dX8_recordComes_26 (by decide) (fun k_6 => ?_) (fun k_6 => ?_)
        · have h := it_t k_6 h
          refine lv_aload_n hx hb dX8_recordComes_32 rfl (lv_at hl 0 rfl) ?_
          refine k_get (v := .ref (ad (b + 1))) hE hW hB_st.o hB_st.obj rfl inX8 0 (by decide) q244 rfl dX8_recordComes_33 ?_
          refine k_getN (v := .ref (ad (b + 1 + 1))) hE hW (hB_st.lv).o (hB_st.lv).obj rfl inX5 0 (by decide) q131 rfl dX8_recordComes_36 ?_
          refine lv_iload_n hx hb dX8_recordComes_39 rfl (lv_at hl 1 rfl) ?_
          obtain ⟨g_7, h⟩ := zi_e h
          have hg_7 := vp_lt g_7
          refine k_aaldR3 (g := fun i => b + 1 + 1 + 1 + 8 * i) hE hW (hB_st.lv).logs.o (hB_st.lv).logs.out g_7 dX8_recordComes_40 ?_
          refine lv_astore (lv' := [(6, .ref (ad (b + 1 + 1 + 1 + 8 * a1.toNatClampNeg))), (0, .ref (ad b)), (1, .int a1), (2, .int a2), (3, .int a3), (4, .int a4), (5, .int a5)]) hx hb dX8_recordComes_41 hl (by decide) rfl (fun ls hl => ?_)
          refine lv_aload hx hb dX8_recordComes_43 (lv_at hl 0 rfl) ?_
          obtain ⟨r_8, hr_8, h⟩ := zb_e h
          refine k_callVNi (rest := []) hE hW hl.1 (mX3_isFull ((hB_st.lv).log hg_7) hr_8) ((hB_st.lv).log hg_7).o ((hB_st.lv).log hg_7).obj rfl q292 q294 qs1 q3 q295 hd_X3_isFull.2 ⟨Nat.le_of_ble_eq_true rfl, Nat.le_of_ble_eq_true rfl⟩ ⟨rfl, rfl⟩ rfl (Nat.le_of_ble_eq_true rfl) dX8_recordComes_45 ⟨Nat.zero_le _, Nat.zero_le _⟩ (fun c1 H locs hP hW => ?_)
          rw [hP] at hW
          refine lv_if_eq (tgt := 56) hx hb dX8_recordComes_48 (by decide) (fun k_9 => ?_) (fun k_9 => ?_)
          · have h := it_t k_9 h
            refine lv_aload hx hb dX8_recordComes_56 (lv_at hl 0 rfl) ?_
            refine lv_iload_n hx hb dX8_recordComes_58 rfl (lv_at hl 3 rfl) ?_
            refine lv_iload_n hx hb dX8_recordComes_59 rfl (lv_at hl 4 rfl) ?_
            refine lv_iload hx hb dX8_recordComes_60 (lv_at hl 5 rfl) ?_
            refine lv_iload hx hb dX8_recordComes_62 (lv_at hl 6 rfl) ?_
            refine lv_aload_n hx hb dX8_recordComes_64 rfl (lv_at hl 1 rfl) ?_
            refine k_get (v := .ref (ad (b + 1))) hE hW hB_st.o hB_st.obj rfl inX8 0 (by decide) q244 rfl dX8_recordComes_65 ?_
            refine k_getN (v := .int (st.1.2.2.2.2 0)) hE hW (hB_st.lv).o (hB_st.lv).obj rfl inX5 4 (by decide) q139 rfl dX8_recordComes_68 ?_
            obtain ⟨r_10, y_12, hr_10, h⟩ := zb2_e h
            obtain ⟨st_11, est_11, h⟩ := zl_e h
            refine k_callVNi (rest := []) hE hW hl.1 (mX3_append ((hB_st.lv).log hg_7) hr_10) ((hB_st.lv).log hg_7).o ((hB_st.lv).log hg_7).obj rfl q296 q298 qs2 q3 q299 hd_X3_append.2 ⟨Nat.le_of_ble_eq_true rfl, Nat.le_of_ble_eq_true rfl⟩ ⟨rfl, rfl⟩ rfl (Nat.le_of_ble_eq_true rfl) dX8_recordComes_71 ⟨Nat.zero_le _, Nat.zero_le _⟩ (fun c1 H locs hP hW => ?_)
            obtain ⟨c, hB_st, hF, hW⟩ : ∃ c', KlB ct J ad c' b st_11 ∧ Fr c0 c' b 160 ∧ HW D J ad c' (aA J ad s.heap.size) s.heap H locs := ⟨c1, by rw [est_11]; exact (hB_st.pLv ((hB_st.lv).pLog hg_7 hP.1 hP.2) (hP.2.wide (by omega) (by omega))), hF.trans (hP.2.wide (by omega) (by omega)), hW⟩
            obtain ⟨rfl, rfl⟩ := Prod.mk.inj (Option.some.inj h)
            exact k_iret hE hr hlk hW ⟨hB_st, hF⟩ rfl dX8_recordComes_74
          · have h := it_f k_9 h
            refine lv_bipush (v := (-4 : Int32)) hx hb dX8_recordComes_51 (by decide) ?_
            refine lv_goto (tgt := 74) hx hb dX8_recordComes_53 (by decide) ?_
            obtain ⟨rfl, rfl⟩ := Prod.mk.inj (Option.some.inj h)
            exact k_iret hE hr hlk hW ⟨hB_st, hF⟩ rfl dX8_recordComes_74
        · have h := it_f k_6 h
          refine lv_bipush (v := (-2 : Int32)) hx hb dX8_recordComes_29 (by decide) ?_
          obtain ⟨rfl, rfl⟩ := Prod.mk.inj (Option.some.inj h)
          exact k_iret hE hr hlk hW ⟨hB_st, hF⟩ rfl dX8_recordComes_31
    · have h := it_t k_4 h
      refine lv_iconst (v := (-1 : Int32)) hx hb dX8_recordComes_14 (by decide) ?_
      obtain ⟨rfl, rfl⟩ := Prod.mk.inj (Option.some.inj h)
      exact k_iret hE hr hlk hW ⟨hB_st, hF⟩ rfl dX8_recordComes_15
set_option maxHeartbeats 4000000 in
set_option maxRecDepth 100000 in
theorem mX8_put {l : Launch} {D : va_G} {ct : Nat → ClassId} {J : List Nat} {ad : Nat → Nat} {c0 : CF} {a1 : Int32} {a2 : Int32} {a3 : Int32} {a4 : Int32} {a5 : Int32} {b : Nat} {st : KS} (hB_st : KlB ct J ad c0 b st) {r : Int32} {st9 : KS} (h : fX8_put  a1 a2 a3 a4 a5 st = some (r, st9)) : Mi l D ct J ad yX8_put cX8_put 6 (some .int) (rr 4 97) [.ref (ad b), .int a1, .int a2, .int a3, .int a4, .int a5] c0 r (fun c' => KlB ct J ad c' b st9 ∧ Fr c0 c' b 160) := by
  refine Mi_of (own := RX8) (by decide) rfl (Nat.le_of_ble_eq_true rfl) (fun p e s m below meth cd hE hr hlk hW ls hl => ?_)
  have hx := hE.1
  have hb := hE.2.1
  have hl : lv_has ls 6 [(0, .ref (ad b)), (1, .int a1), (2, .int a2), (3, .int a3), (4, .int a4), (5, .int a5)] := hl
  rw [fX8_put] at h
  obtain ⟨c, hB_st, hF, hW⟩ : ∃ c', KlB ct J ad c' b st ∧ Fr c0 c' b 160 ∧ HW D J ad c' (aA J ad s.heap.size) s.heap s.heap [] := ⟨c0, hB_st, Fr.rf, hW⟩
  refine lv_aload_n hx hb dX8_put_0 rfl (lv_at hl 0 rfl) ?_
  refine lv_iload_n hx hb dX8_put_1 rfl (lv_at hl 1 rfl) ?_
  refine lv_iload_n hx hb dX8_put_2 rfl (lv_at hl 2 rfl) ?_
  refine lv_iconst (v := (1 : Int32)) hx hb dX8_put_3 (by decide) ?_
  refine lv_iload_n hx hb dX8_put_4 rfl (lv_at hl 3 rfl) ?_
  refine lv_iload hx hb dX8_put_5 (lv_at hl 4 rfl) ?_
  obtain ⟨r_1, hr_1, h⟩ := zb_e h
  refine k_callSNi (rest := [.int (1 : Int32), .int a2, .int a1, .ref (ad b)]) hE hW hl.1 (mX0_quotient hr_1) q267 q268 q11 q269 hd_X0_quotient.2 ⟨Nat.le_of_ble_eq_true rfl, Nat.le_of_ble_eq_true rfl⟩ ⟨rfl, rfl⟩ rfl (Nat.le_of_ble_eq_true rfl) dX8_put_7 ⟨Nat.zero_le _, Nat.zero_le _⟩ (fun c1 H locs hP hW => ?_)
  rw [hP] at hW
  refine lv_iload hx hb dX8_put_10 (lv_at hl 5 rfl) ?_
  obtain ⟨r_2, st_3, hr_2, h⟩ := zb2_e h
  refine k_callVi (rest := []) hE hW hl.1 (mX8_recordComes hB_st hr_2) hB_st.o hB_st.obj rfl q282 q284 qs0 q1 q285 hd_X8_recordComes ⟨Nat.le_of_ble_eq_true rfl, Nat.le_of_ble_eq_true rfl⟩ ⟨rfl, rfl⟩ rfl (Nat.le_of_ble_eq_true rfl) dX8_put_12 ⟨Nat.zero_le _, Nat.zero_le _⟩ (fun c1 H locs hP hW => ?_)
  obtain ⟨c, hB_st, hF, hW⟩ : ∃ c', KlB ct J ad c' b st_3 ∧ Fr c0 c' b 160 ∧ HW D J ad c' (aA J ad s.heap.size) s.heap H locs := ⟨c1, hP.1, hF.trans hP.2, hW⟩
  obtain ⟨rfl, rfl⟩ := Prod.mk.inj (Option.some.inj h)
  exact k_iret hE hr hlk hW ⟨hB_st, hF⟩ rfl dX8_put_15
set_option maxHeartbeats 4000000 in
set_option maxRecDepth 100000 in
theorem mX8_tomb {l : Launch} {D : va_G} {ct : Nat → ClassId} {J : List Nat} {ad : Nat → Nat} {c0 : CF} {a1 : Int32} {a2 : Int32} {a3 : Int32} {b : Nat} {st : KS} (hB_st : KlB ct J ad c0 b st) {r : Int32} {st9 : KS} (h : fX8_tomb  a1 a2 a3 st = some (r, st9)) : Mi l D ct J ad yX8_tomb cX8_tomb 4 (some .int) (rr 4 97) [.ref (ad b), .int a1, .int a2, .int a3] c0 r (fun c' => KlB ct J ad c' b st9 ∧ Fr c0 c' b 160) := by
  refine Mi_of (own := RX8) (by decide) rfl (Nat.le_of_ble_eq_true rfl) (fun p e s m below meth cd hE hr hlk hW ls hl => ?_)
  have hx := hE.1
  have hb := hE.2.1
  have hl : lv_has ls 4 [(0, .ref (ad b)), (1, .int a1), (2, .int a2), (3, .int a3)] := hl
  rw [fX8_tomb] at h
  obtain ⟨c, hB_st, hF, hW⟩ : ∃ c', KlB ct J ad c' b st ∧ Fr c0 c' b 160 ∧ HW D J ad c' (aA J ad s.heap.size) s.heap s.heap [] := ⟨c0, hB_st, Fr.rf, hW⟩
  refine lv_aload_n hx hb dX8_tomb_0 rfl (lv_at hl 0 rfl) ?_
  refine lv_iload_n hx hb dX8_tomb_1 rfl (lv_at hl 1 rfl) ?_
  refine lv_iload_n hx hb dX8_tomb_2 rfl (lv_at hl 2 rfl) ?_
  refine lv_iconst (v := (2 : Int32)) hx hb dX8_tomb_3 (by decide) ?_
  refine lv_iconst (v := (0 : Int32)) hx hb dX8_tomb_4 (by decide) ?_
  refine lv_iload_n hx hb dX8_tomb_5 rfl (lv_at hl 3 rfl) ?_
  obtain ⟨r_1, st_2, hr_1, h⟩ := zb2_e h
  refine k_callVi (rest := []) hE hW hl.1 (mX8_recordComes hB_st hr_1) hB_st.o hB_st.obj rfl q282 q284 qs0 q1 q285 hd_X8_recordComes ⟨Nat.le_of_ble_eq_true rfl, Nat.le_of_ble_eq_true rfl⟩ ⟨rfl, rfl⟩ rfl (Nat.le_of_ble_eq_true rfl) dX8_tomb_6 ⟨Nat.zero_le _, Nat.zero_le _⟩ (fun c1 H locs hP hW => ?_)
  obtain ⟨c, hB_st, hF, hW⟩ : ∃ c', KlB ct J ad c' b st_2 ∧ Fr c0 c' b 160 ∧ HW D J ad c' (aA J ad s.heap.size) s.heap H locs := ⟨c1, hP.1, hF.trans hP.2, hW⟩
  obtain ⟨rfl, rfl⟩ := Prod.mk.inj (Option.some.inj h)
  exact k_iret hE hr hlk hW ⟨hB_st, hF⟩ rfl dX8_tomb_9
set_option maxHeartbeats 4000000 in
set_option maxRecDepth 100000 in
theorem mX8_tick {l : Launch} {D : va_G} {ct : Nat → ClassId} {J : List Nat} {ad : Nat → Nat} {c0 : CF} {a1 : Int32} {b : Nat} {st : KS} (hB_st : KlB ct J ad c0 b st) {r : Int32} {st9 : KS} (h : fX8_tick  a1 st = some (r, st9)) : Mi l D ct J ad yX8_tick cX8_tick 2 (some .int) (rr 0 0) [.ref (ad b), .int a1] c0 r (fun c' => KlB ct J ad c' b st9 ∧ Fr c0 c' b 160) := by
  refine Mi_of (own := RX8) (by decide) rfl (Nat.le_of_ble_eq_true rfl) (fun p e s m below meth cd hE hr hlk hW ls hl => ?_)
  have hx := hE.1
  have hb := hE.2.1
  have hl : lv_has ls 2 [(0, .ref (ad b)), (1, .int a1)] := hl
  rw [fX8_tick] at h
  obtain ⟨c, hB_st, hF, hW⟩ : ∃ c', KlB ct J ad c' b st ∧ Fr c0 c' b 160 ∧ HW D J ad c' (aA J ad s.heap.size) s.heap s.heap [] := ⟨c0, hB_st, Fr.rf, hW⟩
  refine lv_iload_n hx hb dX8_tick_0 rfl (lv_at hl 1 rfl) ?_
  refine lv_if_lt (tgt := 10) hx hb dX8_tick_1 (by decide) (fun k_1 => ?_) (fun k_1 => ?_)
  · have h := it_t k_1 h
    refine lv_bipush (v := (-2 : Int32)) hx hb dX8_tick_10 (by decide) ?_
    obtain ⟨rfl, rfl⟩ := Prod.mk.inj (Option.some.inj h)
    exact k_iret hE hr hlk hW ⟨hB_st, hF⟩ rfl dX8_tick_12
  · have h := it_f k_1 h
    refine lv_iload_n hx hb dX8_tick_4 rfl (lv_at hl 1 rfl) ?_
    refine lv_bipush (v := (99 : Int32)) hx hb dX8_tick_5 (by decide) ?_
    refine lv_icmp_le (tgt := 13) hx hb dX8_tick_7 (by decide) (fun k_2 => ?_) (fun k_2 => ?_)
    · have h := it_t k_2 h
      refine lv_aload_n hx hb dX8_tick_13 rfl (lv_at hl 0 rfl) ?_
      refine k_get (v := .ref (ad (b + 1))) hE hW hB_st.o hB_st.obj rfl inX8 0 (by decide) q244 rfl dX8_tick_14 ?_
      refine k_getN (v := .int (st.1.2.2.2.2 0)) hE hW (hB_st.lv).o (hB_st.lv).obj rfl inX5 4 (by decide) q139 rfl dX8_tick_17 ?_
      refine lv_iload_n hx hb dX8_tick_20 rfl (lv_at hl 1 rfl) ?_
      refine lv_iadd hx hb dX8_tick_21 ?_
      refine lv_sipush (v := (9999 : Int32)) hx hb dX8_tick_22 (by decide) ?_
      refine lv_icmp_le (tgt := 31) hx hb dX8_tick_25 (by decide) (fun k_3 => ?_) (fun k_3 => ?_)
      · have h := it_t k_3 h
        refine lv_aload_n hx hb dX8_tick_31 rfl (lv_at hl 0 rfl) ?_
        refine k_get (v := .ref (ad (b + 1))) hE hW hB_st.o hB_st.obj rfl inX8 0 (by decide) q244 rfl dX8_tick_32 ?_
        refine lv_dup hx hb dX8_tick_35 rfl ?_
        refine k_getN (v := .int (st.1.2.2.2.2 0)) hE hW (hB_st.lv).o (hB_st.lv).obj rfl inX5 4 (by decide) q139 rfl dX8_tick_36 ?_
        refine lv_iload_n hx hb dX8_tick_39 rfl (lv_at hl 1 rfl) ?_
        refine lv_iadd hx hb dX8_tick_40 ?_
        obtain ⟨st_4, est_4, h⟩ := zl_e h
        refine k_putN hE hW (hB_st.lv).o (hB_st.lv).obj rfl inX5 tyX5 tyX5_ok nmX5 4 (by decide) q139 rfl rfl rfl (Nat.le_of_ble_eq_true rfl) dX8_tick_41 (fun H locs hW => ?_)
        obtain ⟨c, hB_st, hF, hW⟩ : ∃ c', KlB ct J ad c' b st_4 ∧ Fr c0 c' b 160 ∧ HW D J ad c' (aA J ad s.heap.size) s.heap H locs := ⟨_, by rw [est_4]; exact (hB_st.pLv ((hB_st.lv).wF (k := 4) (j := 0) rfl rfl) (Fr.rf.up (b := (b + 1)) (n := 45) (by omega) (by omega))), hF.up (by omega) (by omega), hW⟩
        refine lv_aload_n hx hb dX8_tick_44 rfl (lv_at hl 0 rfl) ?_
        refine k_get (v := .ref (ad (b + 1))) hE hW hB_st.o hB_st.obj rfl inX8 0 (by decide) q244 rfl dX8_tick_45 ?_
        refine k_getN (v := .int (st_4.1.2.2.2.2 0)) hE hW (hB_st.lv).o (hB_st.lv).obj rfl inX5 4 (by decide) q139 rfl dX8_tick_48 ?_
        obtain ⟨rfl, rfl⟩ := Prod.mk.inj (Option.some.inj h)
        exact k_iret hE hr hlk hW ⟨hB_st, hF⟩ rfl dX8_tick_51
      · have h := it_f k_3 h
        refine lv_bipush (v := (-3 : Int32)) hx hb dX8_tick_28 (by decide) ?_
        obtain ⟨rfl, rfl⟩ := Prod.mk.inj (Option.some.inj h)
        exact k_iret hE hr hlk hW ⟨hB_st, hF⟩ rfl dX8_tick_30
    · have h := it_f k_2 h
      refine lv_bipush (v := (-2 : Int32)) hx hb dX8_tick_10 (by decide) ?_
      obtain ⟨rfl, rfl⟩ := Prod.mk.inj (Option.some.inj h)
      exact k_iret hE hr hlk hW ⟨hB_st, hF⟩ rfl dX8_tick_12
set_option maxHeartbeats 4000000 in
set_option maxRecDepth 100000 in
theorem mX8_setGrace {l : Launch} {D : va_G} {ct : Nat → ClassId} {J : List Nat} {ad : Nat → Nat} {c0 : CF} {a1 : Int32} {b : Nat} {st : KS} (hB_st : KlB ct J ad c0 b st) {r : Int32} {st9 : KS} (h : fX8_setGrace  a1 st = some (r, st9)) : Mi l D ct J ad yX8_setGrace cX8_setGrace 3 (some .int) (rr 0 0) [.ref (ad b), .int a1] c0 r (fun c' => KlB ct J ad c' b st9 ∧ Fr c0 c' b 160) := by
  refine Mi_of (own := RX8) (by decide) rfl (Nat.le_of_ble_eq_true rfl) (fun p e s m below meth cd hE hr hlk hW ls hl => ?_)
  have hx := hE.1
  have hb := hE.2.1
  have hl : lv_has ls 3 [(0, .ref (ad b)), (1, .int a1)] := hl
  rw [fX8_setGrace] at h
  obtain ⟨c, hB_st, hF, hW⟩ : ∃ c', KlB ct J ad c' b st ∧ Fr c0 c' b 160 ∧ HW D J ad c' (aA J ad s.heap.size) s.heap s.heap [] := ⟨c0, hB_st, Fr.rf, hW⟩
  refine lv_iload_n hx hb dX8_setGrace_0 rfl (lv_at hl 1 rfl) ?_
  refine lv_if_lt (tgt := 10) hx hb dX8_setGrace_1 (by decide) (fun k_1 => ?_) (fun k_1 => ?_)
  · have h := it_t k_1 h
    refine lv_bipush (v := (-2 : Int32)) hx hb dX8_setGrace_10 (by decide) ?_
    obtain ⟨rfl, rfl⟩ := Prod.mk.inj (Option.some.inj h)
    exact k_iret hE hr hlk hW ⟨hB_st, hF⟩ rfl dX8_setGrace_12
  · have h := it_f k_1 h
    refine lv_iload_n hx hb dX8_setGrace_4 rfl (lv_at hl 1 rfl) ?_
    refine lv_bipush (v := (99 : Int32)) hx hb dX8_setGrace_5 (by decide) ?_
    refine lv_icmp_le (tgt := 13) hx hb dX8_setGrace_7 (by decide) (fun k_2 => ?_) (fun k_2 => ?_)
    · have h := it_t k_2 h
      refine lv_aload_n hx hb dX8_setGrace_13 rfl (lv_at hl 0 rfl) ?_
      refine k_get (v := .ref (ad (b + 1))) hE hW hB_st.o hB_st.obj rfl inX8 0 (by decide) q244 rfl dX8_setGrace_14 ?_
      refine k_getN (v := .int (st.1.2.2.2.2 1)) hE hW (hB_st.lv).o (hB_st.lv).obj rfl inX5 5 (by decide) q141 rfl dX8_setGrace_17 ?_
      refine lv_istore_n (lv' := [(2, .int (st.1.2.2.2.2 1)), (0, .ref (ad b)), (1, .int a1)]) hx hb dX8_setGrace_20 rfl hl (by decide) rfl (fun ls hl => ?_)
      refine lv_aload_n hx hb dX8_setGrace_21 rfl (lv_at hl 1 rfl) ?_
      refine k_get (v := .ref (ad (b + 1))) hE hW hB_st.o hB_st.obj rfl inX8 0 (by decide) q244 rfl dX8_setGrace_22 ?_
      refine lv_iload_n hx hb dX8_setGrace_25 rfl (lv_at hl 2 rfl) ?_
      obtain ⟨st_3, est_3, h⟩ := zl_e h
      refine k_putN hE hW (hB_st.lv).o (hB_st.lv).obj rfl inX5 tyX5 tyX5_ok nmX5 5 (by decide) q141 rfl rfl rfl (Nat.le_of_ble_eq_true rfl) dX8_setGrace_26 (fun H locs hW => ?_)
      obtain ⟨c, hB_st, hF, hW⟩ : ∃ c', KlB ct J ad c' b st_3 ∧ Fr c0 c' b 160 ∧ HW D J ad c' (aA J ad s.heap.size) s.heap H locs := ⟨_, by rw [est_3]; exact (hB_st.pLv ((hB_st.lv).wF (k := 5) (j := 1) rfl rfl) (Fr.rf.up (b := (b + 1)) (n := 45) (by omega) (by omega))), hF.up (by omega) (by omega), hW⟩
      refine lv_iload_n hx hb dX8_setGrace_29 rfl (lv_at hl 0 rfl) ?_
      obtain ⟨rfl, rfl⟩ := Prod.mk.inj (Option.some.inj h)
      exact k_iret hE hr hlk hW ⟨hB_st, hF⟩ rfl dX8_setGrace_30
    · have h := it_f k_2 h
      refine lv_bipush (v := (-2 : Int32)) hx hb dX8_setGrace_10 (by decide) ?_
      obtain ⟨rfl, rfl⟩ := Prod.mk.inj (Option.some.inj h)
      exact k_iret hE hr hlk hW ⟨hB_st, hF⟩ rfl dX8_setGrace_12
set_option maxHeartbeats 4000000 in
set_option maxRecDepth 100000 in
theorem mX8_setKeep {l : Launch} {D : va_G} {ct : Nat → ClassId} {J : List Nat} {ad : Nat → Nat} {c0 : CF} {a1 : Int32} {b : Nat} {st : KS} (hB_st : KlB ct J ad c0 b st) {r : Int32} {st9 : KS} (h : fX8_setKeep  a1 st = some (r, st9)) : Mi l D ct J ad yX8_setKeep cX8_setKeep 3 (some .int) (rr 0 0) [.ref (ad b), .int a1] c0 r (fun c' => KlB ct J ad c' b st9 ∧ Fr c0 c' b 160) := by
  refine Mi_of (own := RX8) (by decide) rfl (Nat.le_of_ble_eq_true rfl) (fun p e s m below meth cd hE hr hlk hW ls hl => ?_)
  have hx := hE.1
  have hb := hE.2.1
  have hl : lv_has ls 3 [(0, .ref (ad b)), (1, .int a1)] := hl
  rw [fX8_setKeep] at h
  obtain ⟨c, hB_st, hF, hW⟩ : ∃ c', KlB ct J ad c' b st ∧ Fr c0 c' b 160 ∧ HW D J ad c' (aA J ad s.heap.size) s.heap s.heap [] := ⟨c0, hB_st, Fr.rf, hW⟩
  refine lv_iload_n hx hb dX8_setKeep_0 rfl (lv_at hl 1 rfl) ?_
  refine lv_if_lt (tgt := 11) hx hb dX8_setKeep_1 (by decide) (fun k_1 => ?_) (fun k_1 => ?_)
  · have h := it_t k_1 h
    refine lv_bipush (v := (-2 : Int32)) hx hb dX8_setKeep_11 (by decide) ?_
    obtain ⟨rfl, rfl⟩ := Prod.mk.inj (Option.some.inj h)
    exact k_iret hE hr hlk hW ⟨hB_st, hF⟩ rfl dX8_setKeep_13
  · have h := it_f k_1 h
    refine lv_iload_n hx hb dX8_setKeep_4 rfl (lv_at hl 1 rfl) ?_
    refine lv_sipush (v := (999 : Int32)) hx hb dX8_setKeep_5 (by decide) ?_
    refine lv_icmp_le (tgt := 14) hx hb dX8_setKeep_8 (by decide) (fun k_2 => ?_) (fun k_2 => ?_)
    · have h := it_t k_2 h
      refine lv_aload_n hx hb dX8_setKeep_14 rfl (lv_at hl 0 rfl) ?_
      refine k_get (v := .ref (ad (b + 1))) hE hW hB_st.o hB_st.obj rfl inX8 0 (by decide) q244 rfl dX8_setKeep_15 ?_
      refine k_getN (v := .int (st.1.2.2.2.2 2)) hE hW (hB_st.lv).o (hB_st.lv).obj rfl inX5 6 (by decide) q143 rfl dX8_setKeep_18 ?_
      refine lv_istore_n (lv' := [(2, .int (st.1.2.2.2.2 2)), (0, .ref (ad b)), (1, .int a1)]) hx hb dX8_setKeep_21 rfl hl (by decide) rfl (fun ls hl => ?_)
      refine lv_aload_n hx hb dX8_setKeep_22 rfl (lv_at hl 1 rfl) ?_
      refine k_get (v := .ref (ad (b + 1))) hE hW hB_st.o hB_st.obj rfl inX8 0 (by decide) q244 rfl dX8_setKeep_23 ?_
      refine lv_iload_n hx hb dX8_setKeep_26 rfl (lv_at hl 2 rfl) ?_
      obtain ⟨st_3, est_3, h⟩ := zl_e h
      refine k_putN hE hW (hB_st.lv).o (hB_st.lv).obj rfl inX5 tyX5 tyX5_ok nmX5 6 (by decide) q143 rfl rfl rfl (Nat.le_of_ble_eq_true rfl) dX8_setKeep_27 (fun H locs hW => ?_)
      obtain ⟨c, hB_st, hF, hW⟩ : ∃ c', KlB ct J ad c' b st_3 ∧ Fr c0 c' b 160 ∧ HW D J ad c' (aA J ad s.heap.size) s.heap H locs := ⟨_, by rw [est_3]; exact (hB_st.pLv ((hB_st.lv).wF (k := 6) (j := 2) rfl rfl) (Fr.rf.up (b := (b + 1)) (n := 45) (by omega) (by omega))), hF.up (by omega) (by omega), hW⟩
      refine lv_iload_n hx hb dX8_setKeep_30 rfl (lv_at hl 0 rfl) ?_
      obtain ⟨rfl, rfl⟩ := Prod.mk.inj (Option.some.inj h)
      exact k_iret hE hr hlk hW ⟨hB_st, hF⟩ rfl dX8_setKeep_31
    · have h := it_f k_2 h
      refine lv_bipush (v := (-2 : Int32)) hx hb dX8_setKeep_11 (by decide) ?_
      obtain ⟨rfl, rfl⟩ := Prod.mk.inj (Option.some.inj h)
      exact k_iret hE hr hlk hW ⟨hB_st, hF⟩ rfl dX8_setKeep_13
set_option maxHeartbeats 4000000 in
set_option maxRecDepth 100000 in
theorem mX8_setAge {l : Launch} {D : va_G} {ct : Nat → ClassId} {J : List Nat} {ad : Nat → Nat} {c0 : CF} {a1 : Int32} {b : Nat} {st : KS} (hB_st : KlB ct J ad c0 b st) {r : Int32} {st9 : KS} (h : fX8_setAge  a1 st = some (r, st9)) : Mi l D ct J ad yX8_setAge cX8_setAge 3 (some .int) (rr 0 0) [.ref (ad b), .int a1] c0 r (fun c' => KlB ct J ad c' b st9 ∧ Fr c0 c' b 160) := by
  refine Mi_of (own := RX8) (by decide) rfl (Nat.le_of_ble_eq_true rfl) (fun p e s m below meth cd hE hr hlk hW ls hl => ?_)
  have hx := hE.1
  have hb := hE.2.1
  have hl : lv_has ls 3 [(0, .ref (ad b)), (1, .int a1)] := hl
  rw [fX8_setAge] at h
  obtain ⟨c, hB_st, hF, hW⟩ : ∃ c', KlB ct J ad c' b st ∧ Fr c0 c' b 160 ∧ HW D J ad c' (aA J ad s.heap.size) s.heap s.heap [] := ⟨c0, hB_st, Fr.rf, hW⟩
  refine lv_iload_n hx hb dX8_setAge_0 rfl (lv_at hl 1 rfl) ?_
  refine lv_if_lt (tgt := 11) hx hb dX8_setAge_1 (by decide) (fun k_1 => ?_) (fun k_1 => ?_)
  · have h := it_t k_1 h
    refine lv_bipush (v := (-2 : Int32)) hx hb dX8_setAge_11 (by decide) ?_
    obtain ⟨rfl, rfl⟩ := Prod.mk.inj (Option.some.inj h)
    exact k_iret hE hr hlk hW ⟨hB_st, hF⟩ rfl dX8_setAge_13
  · have h := it_f k_1 h
    refine lv_iload_n hx hb dX8_setAge_4 rfl (lv_at hl 1 rfl) ?_
    refine lv_sipush (v := (999 : Int32)) hx hb dX8_setAge_5 (by decide) ?_
    refine lv_icmp_le (tgt := 14) hx hb dX8_setAge_8 (by decide) (fun k_2 => ?_) (fun k_2 => ?_)
    · have h := it_t k_2 h
      refine lv_aload_n hx hb dX8_setAge_14 rfl (lv_at hl 0 rfl) ?_
      refine k_get (v := .ref (ad (b + 1))) hE hW hB_st.o hB_st.obj rfl inX8 0 (by decide) q244 rfl dX8_setAge_15 ?_
      refine k_getN (v := .int (st.1.2.2.2.2 3)) hE hW (hB_st.lv).o (hB_st.lv).obj rfl inX5 7 (by decide) q145 rfl dX8_setAge_18 ?_
      refine lv_istore_n (lv' := [(2, .int (st.1.2.2.2.2 3)), (0, .ref (ad b)), (1, .int a1)]) hx hb dX8_setAge_21 rfl hl (by decide) rfl (fun ls hl => ?_)
      refine lv_aload_n hx hb dX8_setAge_22 rfl (lv_at hl 1 rfl) ?_
      refine k_get (v := .ref (ad (b + 1))) hE hW hB_st.o hB_st.obj rfl inX8 0 (by decide) q244 rfl dX8_setAge_23 ?_
      refine lv_iload_n hx hb dX8_setAge_26 rfl (lv_at hl 2 rfl) ?_
      obtain ⟨st_3, est_3, h⟩ := zl_e h
      refine k_putN hE hW (hB_st.lv).o (hB_st.lv).obj rfl inX5 tyX5 tyX5_ok nmX5 7 (by decide) q145 rfl rfl rfl (Nat.le_of_ble_eq_true rfl) dX8_setAge_27 (fun H locs hW => ?_)
      obtain ⟨c, hB_st, hF, hW⟩ : ∃ c', KlB ct J ad c' b st_3 ∧ Fr c0 c' b 160 ∧ HW D J ad c' (aA J ad s.heap.size) s.heap H locs := ⟨_, by rw [est_3]; exact (hB_st.pLv ((hB_st.lv).wF (k := 7) (j := 3) rfl rfl) (Fr.rf.up (b := (b + 1)) (n := 45) (by omega) (by omega))), hF.up (by omega) (by omega), hW⟩
      refine lv_iload_n hx hb dX8_setAge_30 rfl (lv_at hl 0 rfl) ?_
      obtain ⟨rfl, rfl⟩ := Prod.mk.inj (Option.some.inj h)
      exact k_iret hE hr hlk hW ⟨hB_st, hF⟩ rfl dX8_setAge_31
    · have h := it_f k_2 h
      refine lv_bipush (v := (-2 : Int32)) hx hb dX8_setAge_11 (by decide) ?_
      obtain ⟨rfl, rfl⟩ := Prod.mk.inj (Option.some.inj h)
      exact k_iret hE hr hlk hW ⟨hB_st, hF⟩ rfl dX8_setAge_13
set_option maxHeartbeats 4000000 in
set_option maxRecDepth 100000 in
theorem mX8_set {l : Launch} {D : va_G} {ct : Nat → ClassId} {J : List Nat} {ad : Nat → Nat} {c0 : CF} {a1 : Int32} {a2 : Int32} {b : Nat} {st : KS} (hB_st : KlB ct J ad c0 b st) {r : Int32} {st9 : KS} (h : fX8_set  a1 a2 st = some (r, st9)) : Mi l D ct J ad yX8_set cX8_set 3 (some .int) (rr 1 22) [.ref (ad b), .int a1, .int a2] c0 r (fun c' => KlB ct J ad c' b st9 ∧ Fr c0 c' b 160) := by
  refine Mi_of (own := RX8) (by decide) rfl (Nat.le_of_ble_eq_true rfl) (fun p e s m below meth cd hE hr hlk hW ls hl => ?_)
  have hx := hE.1
  have hb := hE.2.1
  have hl : lv_has ls 3 [(0, .ref (ad b)), (1, .int a1), (2, .int a2)] := hl
  rw [fX8_set] at h
  obtain ⟨c, hB_st, hF, hW⟩ : ∃ c', KlB ct J ad c' b st ∧ Fr c0 c' b 160 ∧ HW D J ad c' (aA J ad s.heap.size) s.heap s.heap [] := ⟨c0, hB_st, Fr.rf, hW⟩
  refine lv_iload_n hx hb dX8_set_0 rfl (lv_at hl 1 rfl) ?_
  rcases Classical.em (a1 = (0 : Int32)) with k_1 | k_1
  · have h := it_t k_1 h
    refine lv_tableIn (tgt := 28) hx hb dX8_set_1 (by rw [k_1]; decide) (by rw [k_1]; decide) (by rw [k_1]; rfl) (by decide) ?_
    refine lv_aload_n hx hb dX8_set_28 rfl (lv_at hl 0 rfl) ?_
    refine lv_iload_n hx hb dX8_set_29 rfl (lv_at hl 2 rfl) ?_
    obtain ⟨r_2, st_3, hr_2, h⟩ := zb2_e h
    refine k_callVi (rest := []) hE hW hl.1 (mX8_setGrace hB_st hr_2) hB_st.o hB_st.obj rfl q321 q323 qs5 q1 q324 hd_X8_setGrace ⟨Nat.le_of_ble_eq_true rfl, Nat.le_of_ble_eq_true rfl⟩ ⟨rfl, rfl⟩ rfl (Nat.le_of_ble_eq_true rfl) dX8_set_30 ⟨Nat.zero_le _, Nat.zero_le _⟩ (fun c1 H locs hP hW => ?_)
    obtain ⟨c, hB_st, hF, hW⟩ : ∃ c', KlB ct J ad c' b st_3 ∧ Fr c0 c' b 160 ∧ HW D J ad c' (aA J ad s.heap.size) s.heap H locs := ⟨c1, hP.1, hF.trans hP.2, hW⟩
    obtain ⟨rfl, rfl⟩ := Prod.mk.inj (Option.some.inj h)
    exact k_iret hE hr hlk hW ⟨hB_st, hF⟩ rfl dX8_set_33
  have h := it_f k_1 h
  rcases Classical.em (a1 = (1 : Int32)) with k_4 | k_4
  · have h := it_t k_4 h
    refine lv_tableIn (tgt := 34) hx hb dX8_set_1 (by rw [k_4]; decide) (by rw [k_4]; decide) (by rw [k_4]; rfl) (by decide) ?_
    refine lv_aload_n hx hb dX8_set_34 rfl (lv_at hl 0 rfl) ?_
    refine lv_iload_n hx hb dX8_set_35 rfl (lv_at hl 2 rfl) ?_
    obtain ⟨r_5, st_6, hr_5, h⟩ := zb2_e h
    refine k_callVi (rest := []) hE hW hl.1 (mX8_setKeep hB_st hr_5) hB_st.o hB_st.obj rfl q325 q327 qs6 q1 q328 hd_X8_setKeep ⟨Nat.le_of_ble_eq_true rfl, Nat.le_of_ble_eq_true rfl⟩ ⟨rfl, rfl⟩ rfl (Nat.le_of_ble_eq_true rfl) dX8_set_36 ⟨Nat.zero_le _, Nat.zero_le _⟩ (fun c1 H locs hP hW => ?_)
    obtain ⟨c, hB_st, hF, hW⟩ : ∃ c', KlB ct J ad c' b st_6 ∧ Fr c0 c' b 160 ∧ HW D J ad c' (aA J ad s.heap.size) s.heap H locs := ⟨c1, hP.1, hF.trans hP.2, hW⟩
    obtain ⟨rfl, rfl⟩ := Prod.mk.inj (Option.some.inj h)
    exact k_iret hE hr hlk hW ⟨hB_st, hF⟩ rfl dX8_set_39
  have h := it_f k_4 h
  rcases Classical.em (a1 = (2 : Int32)) with k_7 | k_7
  · have h := it_t k_7 h
    refine lv_tableIn (tgt := 40) hx hb dX8_set_1 (by rw [k_7]; decide) (by rw [k_7]; decide) (by rw [k_7]; rfl) (by decide) ?_
    refine lv_aload_n hx hb dX8_set_40 rfl (lv_at hl 0 rfl) ?_
    refine lv_iload_n hx hb dX8_set_41 rfl (lv_at hl 2 rfl) ?_
    obtain ⟨r_8, st_9, hr_8, h⟩ := zb2_e h
    refine k_callVi (rest := []) hE hW hl.1 (mX8_setAge hB_st hr_8) hB_st.o hB_st.obj rfl q329 q331 qs7 q1 q332 hd_X8_setAge ⟨Nat.le_of_ble_eq_true rfl, Nat.le_of_ble_eq_true rfl⟩ ⟨rfl, rfl⟩ rfl (Nat.le_of_ble_eq_true rfl) dX8_set_42 ⟨Nat.zero_le _, Nat.zero_le _⟩ (fun c1 H locs hP hW => ?_)
    obtain ⟨c, hB_st, hF, hW⟩ : ∃ c', KlB ct J ad c' b st_9 ∧ Fr c0 c' b 160 ∧ HW D J ad c' (aA J ad s.heap.size) s.heap H locs := ⟨c1, hP.1, hF.trans hP.2, hW⟩
    obtain ⟨rfl, rfl⟩ := Prod.mk.inj (Option.some.inj h)
    exact k_iret hE hr hlk hW ⟨hB_st, hF⟩ rfl dX8_set_45
  have h := it_f k_7 h
  refine lv_tableOut (tgt := 46) hx hb dX8_set_1 (tb_out3 k_1 k_4 k_7) (by decide) ?_
  refine lv_iconst (v := (-1 : Int32)) hx hb dX8_set_46 (by decide) ?_
  obtain ⟨rfl, rfl⟩ := Prod.mk.inj (Option.some.inj h)
  exact k_iret hE hr hlk hW ⟨hB_st, hF⟩ rfl dX8_set_47
set_option maxHeartbeats 4000000 in
set_option maxRecDepth 100000 in
theorem mX8_compact {l : Launch} {D : va_G} {ct : Nat → ClassId} {J : List Nat} {ad : Nat → Nat} {c0 : CF} {a1 : Int32} {b : Nat} {st : KS} (hB_st : KlB ct J ad c0 b st) {r : Int32} {st9 : KS} (h : fX8_compact  a1 st = some (r, st9)) : Mi l D ct J ad yX8_compact cX8_compact 2 (some .int) (rr 5 113) [.ref (ad b), .int a1] c0 r (fun c' => KlB ct J ad c' b st9 ∧ Fr c0 c' b 160) := by
  refine Mi_of (own := RX8) (by decide) rfl (Nat.le_of_ble_eq_true rfl) (fun p e s m below meth cd hE hr hlk hW ls hl => ?_)
  have hx := hE.1
  have hb := hE.2.1
  have hl : lv_has ls 2 [(0, .ref (ad b)), (1, .int a1)] := hl
  rw [fX8_compact] at h
  obtain ⟨c, hB_st, hF, hW⟩ : ∃ c', KlB ct J ad c' b st ∧ Fr c0 c' b 160 ∧ HW D J ad c' (aA J ad s.heap.size) s.heap s.heap [] := ⟨c0, hB_st, Fr.rf, hW⟩
  refine lv_iload_n hx hb dX8_compact_0 rfl (lv_at hl 1 rfl) ?_
  obtain ⟨r_1, hr_1, h⟩ := zb_e h
  refine k_callSi (rest := []) hE hW hl.1 (mX8_isLog hr_1) q286 q287 q1 q288 hd_X8_isLog.2 ⟨Nat.le_of_ble_eq_true rfl, Nat.le_of_ble_eq_true rfl⟩ ⟨rfl, rfl⟩ rfl (Nat.le_of_ble_eq_true rfl) dX8_compact_1 ⟨Nat.zero_le _, Nat.zero_le _⟩ (fun c1 H locs hP hW => ?_)
  rw [hP] at hW
  refine lv_if_eq (tgt := 36) hx hb dX8_compact_4 (by decide) (fun k_2 => ?_) (fun k_2 => ?_)
  · have h := it_t k_2 h
    refine lv_iconst (v := (-1 : Int32)) hx hb dX8_compact_36 (by decide) ?_
    obtain ⟨rfl, rfl⟩ := Prod.mk.inj (Option.some.inj h)
    exact k_iret hE hr hlk hW ⟨hB_st, hF⟩ rfl dX8_compact_37
  · have h := it_f k_2 h
    refine lv_aload_n hx hb dX8_compact_7 rfl (lv_at hl 0 rfl) ?_
    refine k_get (v := .ref (ad (b + 1))) hE hW hB_st.o hB_st.obj rfl inX8 0 (by decide) q244 rfl dX8_compact_8 ?_
    refine k_getN (v := .ref (ad (b + 1 + 1))) hE hW (hB_st.lv).o (hB_st.lv).obj rfl inX5 0 (by decide) q131 rfl dX8_compact_11 ?_
    refine lv_iload_n hx hb dX8_compact_14 rfl (lv_at hl 1 rfl) ?_
    obtain ⟨g_3, h⟩ := zi_e h
    have hg_3 := vp_lt g_3
    refine k_aaldR3 (g := fun i => b + 1 + 1 + 1 + 8 * i) hE hW (hB_st.lv).logs.o (hB_st.lv).logs.out g_3 dX8_compact_15 ?_
    refine lv_aload_n hx hb dX8_compact_16 rfl (lv_at hl 0 rfl) ?_
    refine k_get (v := .ref (ad (b + 1))) hE hW hB_st.o hB_st.obj rfl inX8 0 (by decide) q244 rfl dX8_compact_17 ?_
    refine k_getN (v := .int (st.1.2.2.2.2 0)) hE hW (hB_st.lv).o (hB_st.lv).obj rfl inX5 4 (by decide) q139 rfl dX8_compact_20 ?_
    refine lv_aload_n hx hb dX8_compact_23 rfl (lv_at hl 0 rfl) ?_
    refine k_get (v := .ref (ad (b + 1))) hE hW hB_st.o hB_st.obj rfl inX8 0 (by decide) q244 rfl dX8_compact_24 ?_
    refine k_getN (v := .int (st.1.2.2.2.2 1)) hE hW (hB_st.lv).o (hB_st.lv).obj rfl inX5 5 (by decide) q141 rfl dX8_compact_27 ?_
    obtain ⟨r_4, y_6, hr_4, h⟩ := zb2_e h
    obtain ⟨st_5, est_5, h⟩ := zl_e h
    refine k_callVNi (rest := []) hE hW hl.1 (mX3_compacted ((hB_st.lv).log hg_3) hr_4) ((hB_st.lv).log hg_3).o ((hB_st.lv).log hg_3).obj rfl q337 q339 qs8 q3 q340 hd_X3_compacted.2 ⟨Nat.le_of_ble_eq_true rfl, Nat.le_of_ble_eq_true rfl⟩ ⟨rfl, rfl⟩ rfl (Nat.le_of_ble_eq_true rfl) dX8_compact_30 ⟨Nat.zero_le _, Nat.zero_le _⟩ (fun c1 H locs hP hW => ?_)
    obtain ⟨c, hB_st, hF, hW⟩ : ∃ c', KlB ct J ad c' b st_5 ∧ Fr c0 c' b 160 ∧ HW D J ad c' (aA J ad s.heap.size) s.heap H locs := ⟨c1, by rw [est_5]; exact (hB_st.pLv ((hB_st.lv).pLog hg_3 hP.1 hP.2) (hP.2.wide (by omega) (by omega))), hF.trans (hP.2.wide (by omega) (by omega)), hW⟩
    refine lv_goto (tgt := 37) hx hb dX8_compact_33 (by decide) ?_
    obtain ⟨rfl, rfl⟩ := Prod.mk.inj (Option.some.inj h)
    exact k_iret hE hr hlk hW ⟨hB_st, hF⟩ rfl dX8_compact_37
set_option maxHeartbeats 4000000 in
set_option maxRecDepth 100000 in
theorem mX8_retain {l : Launch} {D : va_G} {ct : Nat → ClassId} {J : List Nat} {ad : Nat → Nat} {c0 : CF} {a1 : Int32} {b : Nat} {st : KS} (hB_st : KlB ct J ad c0 b st) {r : Int32} {st9 : KS} (h : fX8_retain  a1 st = some (r, st9)) : Mi l D ct J ad yX8_retain cX8_retain 2 (some .int) (rr 5 117) [.ref (ad b), .int a1] c0 r (fun c' => KlB ct J ad c' b st9 ∧ Fr c0 c' b 160) := by
  refine Mi_of (own := RX8) (by decide) rfl (Nat.le_of_ble_eq_true rfl) (fun p e s m below meth cd hE hr hlk hW ls hl => ?_)
  have hx := hE.1
  have hb := hE.2.1
  have hl : lv_has ls 2 [(0, .ref (ad b)), (1, .int a1)] := hl
  rw [fX8_retain] at h
  obtain ⟨c, hB_st, hF, hW⟩ : ∃ c', KlB ct J ad c' b st ∧ Fr c0 c' b 160 ∧ HW D J ad c' (aA J ad s.heap.size) s.heap s.heap [] := ⟨c0, hB_st, Fr.rf, hW⟩
  refine lv_iload_n hx hb dX8_retain_0 rfl (lv_at hl 1 rfl) ?_
  obtain ⟨r_1, hr_1, h⟩ := zb_e h
  refine k_callSi (rest := []) hE hW hl.1 (mX8_isLog hr_1) q286 q287 q1 q288 hd_X8_isLog.2 ⟨Nat.le_of_ble_eq_true rfl, Nat.le_of_ble_eq_true rfl⟩ ⟨rfl, rfl⟩ rfl (Nat.le_of_ble_eq_true rfl) dX8_retain_1 ⟨Nat.zero_le _, Nat.zero_le _⟩ (fun c1 H locs hP hW => ?_)
  rw [hP] at hW
  refine lv_if_eq (tgt := 43) hx hb dX8_retain_4 (by decide) (fun k_2 => ?_) (fun k_2 => ?_)
  · have h := it_t k_2 h
    refine lv_iconst (v := (-1 : Int32)) hx hb dX8_retain_43 (by decide) ?_
    obtain ⟨rfl, rfl⟩ := Prod.mk.inj (Option.some.inj h)
    exact k_iret hE hr hlk hW ⟨hB_st, hF⟩ rfl dX8_retain_44
  · have h := it_f k_2 h
    refine lv_aload_n hx hb dX8_retain_7 rfl (lv_at hl 0 rfl) ?_
    refine k_get (v := .ref (ad (b + 1))) hE hW hB_st.o hB_st.obj rfl inX8 0 (by decide) q244 rfl dX8_retain_8 ?_
    refine k_getN (v := .ref (ad (b + 1 + 1))) hE hW (hB_st.lv).o (hB_st.lv).obj rfl inX5 0 (by decide) q131 rfl dX8_retain_11 ?_
    refine lv_iload_n hx hb dX8_retain_14 rfl (lv_at hl 1 rfl) ?_
    obtain ⟨g_3, h⟩ := zi_e h
    have hg_3 := vp_lt g_3
    refine k_aaldR3 (g := fun i => b + 1 + 1 + 1 + 8 * i) hE hW (hB_st.lv).logs.o (hB_st.lv).logs.out g_3 dX8_retain_15 ?_
    refine lv_aload_n hx hb dX8_retain_16 rfl (lv_at hl 0 rfl) ?_
    refine k_get (v := .ref (ad (b + 1))) hE hW hB_st.o hB_st.obj rfl inX8 0 (by decide) q244 rfl dX8_retain_17 ?_
    refine k_getN (v := .int (st.1.2.2.2.2 2)) hE hW (hB_st.lv).o (hB_st.lv).obj rfl inX5 6 (by decide) q143 rfl dX8_retain_20 ?_
    refine lv_aload_n hx hb dX8_retain_23 rfl (lv_at hl 0 rfl) ?_
    refine k_get (v := .ref (ad (b + 1))) hE hW hB_st.o hB_st.obj rfl inX8 0 (by decide) q244 rfl dX8_retain_24 ?_
    refine k_getN (v := .int (st.1.2.2.2.2 0)) hE hW (hB_st.lv).o (hB_st.lv).obj rfl inX5 4 (by decide) q139 rfl dX8_retain_27 ?_
    refine lv_aload_n hx hb dX8_retain_30 rfl (lv_at hl 0 rfl) ?_
    refine k_get (v := .ref (ad (b + 1))) hE hW hB_st.o hB_st.obj rfl inX8 0 (by decide) q244 rfl dX8_retain_31 ?_
    refine k_getN (v := .int (st.1.2.2.2.2 3)) hE hW (hB_st.lv).o (hB_st.lv).obj rfl inX5 7 (by decide) q145 rfl dX8_retain_34 ?_
    obtain ⟨r_4, y_6, hr_4, h⟩ := zb2_e h
    obtain ⟨st_5, est_5, h⟩ := zl_e h
    refine k_callVNi (rest := []) hE hW hl.1 (mX3_retained ((hB_st.lv).log hg_3) hr_4) ((hB_st.lv).log hg_3).o ((hB_st.lv).log hg_3).obj rfl q373 q375 qs16 q3 q376 hd_X3_retained.2 ⟨Nat.le_of_ble_eq_true rfl, Nat.le_of_ble_eq_true rfl⟩ ⟨rfl, rfl⟩ rfl (Nat.le_of_ble_eq_true rfl) dX8_retain_37 ⟨Nat.zero_le _, Nat.zero_le _⟩ (fun c1 H locs hP hW => ?_)
    obtain ⟨c, hB_st, hF, hW⟩ : ∃ c', KlB ct J ad c' b st_5 ∧ Fr c0 c' b 160 ∧ HW D J ad c' (aA J ad s.heap.size) s.heap H locs := ⟨c1, by rw [est_5]; exact (hB_st.pLv ((hB_st.lv).pLog hg_3 hP.1 hP.2) (hP.2.wide (by omega) (by omega))), hF.trans (hP.2.wide (by omega) (by omega)), hW⟩
    refine lv_goto (tgt := 44) hx hb dX8_retain_40 (by decide) ?_
    obtain ⟨rfl, rfl⟩ := Prod.mk.inj (Option.some.inj h)
    exact k_iret hE hr hlk hW ⟨hB_st, hF⟩ rfl dX8_retain_44
set_option maxHeartbeats 4000000 in
set_option maxRecDepth 100000 in
theorem mX8_feed {l : Launch} {D : va_G} {ct : Nat → ClassId} {J : List Nat} {ad : Nat → Nat} {c0 : CF} {a1 : Int32} {b : Nat} {st : KS} (hB_st : KlB ct J ad c0 b st) {r : Int32} {st9 : KS} (h : fX8_feed  a1 st = some (r, st9)) : Mi l D ct J ad yX8_feed cX8_feed 2 (some .int) (rr 1 21) [.ref (ad b), .int a1] c0 r (fun c' => KlB ct J ad c' b st9 ∧ Fr c0 c' b 160) := by
  refine Mi_of (own := RX8) (by decide) rfl (Nat.le_of_ble_eq_true rfl) (fun p e s m below meth cd hE hr hlk hW ls hl => ?_)
  have hx := hE.1
  have hb := hE.2.1
  have hl : lv_has ls 2 [(0, .ref (ad b)), (1, .int a1)] := hl
  rw [fX8_feed] at h
  obtain ⟨c, hB_st, hF, hW⟩ : ∃ c', KlB ct J ad c' b st ∧ Fr c0 c' b 160 ∧ HW D J ad c' (aA J ad s.heap.size) s.heap s.heap [] := ⟨c0, hB_st, Fr.rf, hW⟩
  refine lv_iload_n hx hb dX8_feed_0 rfl (lv_at hl 1 rfl) ?_
  refine lv_if_lt (tgt := 10) hx hb dX8_feed_1 (by decide) (fun k_1 => ?_) (fun k_1 => ?_)
  · have h := it_t k_1 h
    refine lv_bipush (v := (-2 : Int32)) hx hb dX8_feed_10 (by decide) ?_
    obtain ⟨rfl, rfl⟩ := Prod.mk.inj (Option.some.inj h)
    exact k_iret hE hr hlk hW ⟨hB_st, hF⟩ rfl dX8_feed_12
  · have h := it_f k_1 h
    refine lv_iload_n hx hb dX8_feed_4 rfl (lv_at hl 1 rfl) ?_
    refine lv_bipush (v := (127 : Int32)) hx hb dX8_feed_5 (by decide) ?_
    refine lv_icmp_le (tgt := 13) hx hb dX8_feed_7 (by decide) (fun k_2 => ?_) (fun k_2 => ?_)
    · have h := it_t k_2 h
      refine lv_aload_n hx hb dX8_feed_13 rfl (lv_at hl 0 rfl) ?_
      refine k_get (v := .ref (ad (b + 136))) hE hW hB_st.o hB_st.obj rfl inX8 1 (by decide) q245 rfl dX8_feed_14 ?_
      obtain ⟨r_3, hr_3, h⟩ := zb_e h
      refine k_callVNi (rest := []) hE hW hl.1 (mX7_isFull (hB_st.tx) hr_3) (hB_st.tx).o (hB_st.tx).obj rfl q389 q391 qs19 q7 q392 hd_X7_isFull.2 ⟨Nat.le_of_ble_eq_true rfl, Nat.le_of_ble_eq_true rfl⟩ ⟨rfl, rfl⟩ rfl (Nat.le_of_ble_eq_true rfl) dX8_feed_17 ⟨Nat.zero_le _, Nat.zero_le _⟩ (fun c1 H locs hP hW => ?_)
      rw [hP] at hW
      refine lv_if_eq (tgt := 28) hx hb dX8_feed_20 (by decide) (fun k_4 => ?_) (fun k_4 => ?_)
      · have h := it_t k_4 h
        refine lv_aload_n hx hb dX8_feed_28 rfl (lv_at hl 0 rfl) ?_
        refine k_get (v := .ref (ad (b + 136))) hE hW hB_st.o hB_st.obj rfl inX8 1 (by decide) q245 rfl dX8_feed_29 ?_
        refine lv_iload_n hx hb dX8_feed_32 rfl (lv_at hl 1 rfl) ?_
        obtain ⟨r_5, y_7, hr_5, h⟩ := zb2_e h
        obtain ⟨st_6, est_6, h⟩ := zl_e h
        refine k_callVNi (rest := []) hE hW hl.1 (mX7_takeSign (hB_st.tx) hr_5) (hB_st.tx).o (hB_st.tx).obj rfl q393 q395 qs20 q7 q396 hd_X7_takeSign.2 ⟨Nat.le_of_ble_eq_true rfl, Nat.le_of_ble_eq_true rfl⟩ ⟨rfl, rfl⟩ rfl (Nat.le_of_ble_eq_true rfl) dX8_feed_33 ⟨Nat.zero_le _, Nat.zero_le _⟩ (fun c1 H locs hP hW => ?_)
        obtain ⟨c, hB_st, hF, hW⟩ : ∃ c', KlB ct J ad c' b st_6 ∧ Fr c0 c' b 160 ∧ HW D J ad c' (aA J ad s.heap.size) s.heap H locs := ⟨c1, by rw [est_6]; exact (hB_st.pTx hP.1 hP.2), hF.trans (hP.2.wide (by omega) (by omega)), hW⟩
        obtain ⟨rfl, rfl⟩ := Prod.mk.inj (Option.some.inj h)
        exact k_iret hE hr hlk hW ⟨hB_st, hF⟩ rfl dX8_feed_36
      · have h := it_f k_4 h
        refine lv_bipush (v := (-4 : Int32)) hx hb dX8_feed_23 (by decide) ?_
        refine lv_goto (tgt := 36) hx hb dX8_feed_25 (by decide) ?_
        obtain ⟨rfl, rfl⟩ := Prod.mk.inj (Option.some.inj h)
        exact k_iret hE hr hlk hW ⟨hB_st, hF⟩ rfl dX8_feed_36
    · have h := it_f k_2 h
      refine lv_bipush (v := (-2 : Int32)) hx hb dX8_feed_10 (by decide) ?_
      obtain ⟨rfl, rfl⟩ := Prod.mk.inj (Option.some.inj h)
      exact k_iret hE hr hlk hW ⟨hB_st, hF⟩ rfl dX8_feed_12
set_option maxHeartbeats 4000000 in
set_option maxRecDepth 100000 in
theorem wX8_clausesCome_4 {p : Program} {l : Launch} {e : Env} {s : State} {m : MethodId} {args : Array Value} {below : List Frame} {meth : Method} {cd : Code} {D : va_G} {ct : Nat → ClassId} {J : List Nat} {ad : Nat → Nat} {c0 : CF} {b : Nat} (hE : ME p s m cd args D ct cX8_clausesCome RX8 3) (hr : meth.sig.returnType = (some .int)) (hlk : meth.locks = false) {r : Int32} {st9 : KS} : ∀ (n : Nat) (x1 : Int32) (x2 : Int32) (st : KS) (c : CF) (H : Heap) (locs : List Loc) (ls : Array Slot), HW D J ad c (aA J ad s.heap.size) s.heap H locs → KlB ct J ad c b st → Fr c0 c b 160 → lv_has ls 3 [(0, .ref (ad b)), (1, .int x1), (2, .int x2)] → fX8_clausesCome_4 n x1 x2 st = some (r, st9) → W p l e (rr 4 97) s m args below meth cd H locs 0 0 (MQ below (Qi D J ad s.heap.size r (fun c' => KlB ct J ad c' b st9 ∧ Fr c0 c' b 160)) args s 0 0 (aA J ad s.heap.size)) (F0 m 4 ls []) := by
  have hx := hE.1
  have hb := hE.2.1
  intro n
  induction n with
  | zero =>
    intro x1 x2 st c H locs ls hW hB_st hF hl h
    have h2 : (none : Option (Int32 × KS)) = some (r, st9) := h
    cases h2
  | succ n ih =>
    intro x1 x2 st c H locs ls hW hB_st hF hl h
    rw [fX8_clausesCome_4] at h
    refine lv_iload_n hx hb dX8_clausesCome_4 rfl (lv_at hl 2 rfl) ?_
    refine lv_aload_n hx hb dX8_clausesCome_5 rfl (lv_at hl 0 rfl) ?_
    refine k_get (v := .ref (ad (b + 136))) hE hW hB_st.o hB_st.obj rfl inX8 1 (by decide) q245 rfl dX8_clausesCome_6 ?_
    refine k_getN (v := .int (st.2.1.2 1)) hE hW (hB_st.tx).o (hB_st.tx).obj rfl inX7 6 (by decide) q181 rfl dX8_clausesCome_9 ?_
    refine lv_icmp_ge (tgt := 68) hx hb dX8_clausesCome_12 (by decide) (fun k_1 => ?_) (fun k_1 => ?_)
    · have h := it_t k_1 h
      refine lv_iload_n hx hb dX8_clausesCome_68 rfl (lv_at hl 1 rfl) ?_
      obtain ⟨rfl, rfl⟩ := Prod.mk.inj (Option.some.inj h)
      exact k_iret hE hr hlk hW ⟨hB_st, hF⟩ rfl dX8_clausesCome_69
    · have h := it_f k_1 h
      refine lv_aload_n hx hb dX8_clausesCome_15 rfl (lv_at hl 0 rfl) ?_
      refine lv_aload_n hx hb dX8_clausesCome_16 rfl (lv_at hl 0 rfl) ?_
      refine k_get (v := .ref (ad (b + 136))) hE hW hB_st.o hB_st.obj rfl inX8 1 (by decide) q245 rfl dX8_clausesCome_17 ?_
      refine k_getN (v := .ref (ad (b + 136 + 1 + 1))) hE hW (hB_st.tx).o (hB_st.tx).obj rfl inX7 2 (by decide) q173 rfl dX8_clausesCome_20 ?_
      refine lv_iload_n hx hb dX8_clausesCome_23 rfl (lv_at hl 2 rfl) ?_
      obtain ⟨g_2, h⟩ := zi_e h
      refine k_iald hE hW ((hB_st.tx).memA 1 (Nat.le_of_ble_eq_true rfl)) ((hB_st.tx).arr 1 rfl) g_2 dX8_clausesCome_24 ?_
      refine lv_aload_n hx hb dX8_clausesCome_25 rfl (lv_at hl 0 rfl) ?_
      refine k_get (v := .ref (ad (b + 136))) hE hW hB_st.o hB_st.obj rfl inX8 1 (by decide) q245 rfl dX8_clausesCome_26 ?_
      refine k_getN (v := .ref (ad (b + 136 + 1 + 2))) hE hW (hB_st.tx).o (hB_st.tx).obj rfl inX7 3 (by decide) q175 rfl dX8_clausesCome_29 ?_
      refine lv_iload_n hx hb dX8_clausesCome_32 rfl (lv_at hl 2 rfl) ?_
      obtain ⟨g_3, h⟩ := zi_e h
      refine k_iald hE hW ((hB_st.tx).memA 2 (Nat.le_of_ble_eq_true rfl)) ((hB_st.tx).arr 2 rfl) g_3 dX8_clausesCome_33 ?_
      refine lv_aload_n hx hb dX8_clausesCome_34 rfl (lv_at hl 0 rfl) ?_
      refine k_get (v := .ref (ad (b + 136))) hE hW hB_st.o hB_st.obj rfl inX8 1 (by decide) q245 rfl dX8_clausesCome_35 ?_
      refine k_getN (v := .ref (ad (b + 136 + 1 + 3))) hE hW (hB_st.tx).o (hB_st.tx).obj rfl inX7 4 (by decide) q177 rfl dX8_clausesCome_38 ?_
      refine lv_iload_n hx hb dX8_clausesCome_41 rfl (lv_at hl 2 rfl) ?_
      obtain ⟨g_4, h⟩ := zi_e h
      refine k_iald hE hW ((hB_st.tx).memA 3 (Nat.le_of_ble_eq_true rfl)) ((hB_st.tx).arr 3 rfl) g_4 dX8_clausesCome_42 ?_
      refine lv_aload_n hx hb dX8_clausesCome_43 rfl (lv_at hl 0 rfl) ?_
      refine k_get (v := .ref (ad (b + 136))) hE hW hB_st.o hB_st.obj rfl inX8 1 (by decide) q245 rfl dX8_clausesCome_44 ?_
      refine k_getN (v := .ref (ad (b + 136 + 1 + 4))) hE hW (hB_st.tx).o (hB_st.tx).obj rfl inX7 5 (by decide) q179 rfl dX8_clausesCome_47 ?_
      refine lv_iload_n hx hb dX8_clausesCome_50 rfl (lv_at hl 2 rfl) ?_
      obtain ⟨g_5, h⟩ := zi_e h
      refine k_iald hE hW ((hB_st.tx).memA 4 (Nat.le_of_ble_eq_true rfl)) ((hB_st.tx).arr 4 rfl) g_5 dX8_clausesCome_51 ?_
      refine lv_iconst (v := (1 : Int32)) hx hb dX8_clausesCome_52 (by decide) ?_
      obtain ⟨r_6, st_7, hr_6, h⟩ := zb2_e h
      refine k_callVi (rest := []) hE hW hl.1 (mX8_recordComes hB_st hr_6) hB_st.o hB_st.obj rfl q282 q284 qs0 q1 q285 hd_X8_recordComes ⟨Nat.le_of_ble_eq_true rfl, Nat.le_of_ble_eq_true rfl⟩ ⟨rfl, rfl⟩ rfl (Nat.le_of_ble_eq_true rfl) dX8_clausesCome_53 ⟨Nat.zero_le _, Nat.zero_le _⟩ (fun c1 H locs hP hW => ?_)
      obtain ⟨c, hB_st, hF, hW⟩ : ∃ c', KlB ct J ad c' b st_7 ∧ Fr c0 c' b 160 ∧ HW D J ad c' (aA J ad s.heap.size) s.heap H locs := ⟨c1, hP.1, hF.trans hP.2, hW⟩
      refine lv_if_lt (tgt := 62) hx hb dX8_clausesCome_56 (by decide) (fun k_8 => ?_) (fun k_8 => ?_)
      · have h := it_t k_8 h
        refine lv_iinc (v := (x2 + (1 : Int32))) (lv' := [(2, .int (x2 + (1 : Int32))), (0, .ref (ad b)), (1, .int x1)]) hx hb dX8_clausesCome_62 hl (k := 2) rfl rfl (by decide) rfl (fun ls hl => ?_)
        refine lv_goto (tgt := 4) hx hb dX8_clausesCome_65 (by decide) ?_
        exact ih _ _ _ _ _ _ _ hW hB_st hF (lv_sub hl [1, 2, 0] rfl) h
      · have h := it_f k_8 h
        refine lv_iinc (v := (x1 + (1 : Int32))) (lv' := [(1, .int (x1 + (1 : Int32))), (0, .ref (ad b)), (2, .int x2)]) hx hb dX8_clausesCome_59 hl (k := 1) rfl rfl (by decide) rfl (fun ls hl => ?_)
        refine lv_iinc (v := (x2 + (1 : Int32))) (lv' := [(2, .int (x2 + (1 : Int32))), (1, .int (x1 + (1 : Int32))), (0, .ref (ad b))]) hx hb dX8_clausesCome_62 hl (k := 2) rfl rfl (by decide) rfl (fun ls hl => ?_)
        refine lv_goto (tgt := 4) hx hb dX8_clausesCome_65 (by decide) ?_
        exact ih _ _ _ _ _ _ _ hW hB_st hF (lv_sub hl [2, 1, 0] rfl) h
set_option maxHeartbeats 4000000 in
set_option maxRecDepth 100000 in
theorem mX8_clausesCome {l : Launch} {D : va_G} {ct : Nat → ClassId} {J : List Nat} {ad : Nat → Nat} {c0 : CF} {b : Nat} {st : KS} (hB_st : KlB ct J ad c0 b st) {r : Int32} {st9 : KS} (h : fX8_clausesCome   st = some (r, st9)) : Mi l D ct J ad yX8_clausesCome cX8_clausesCome 3 (some .int) (rr 4 97) [.ref (ad b)] c0 r (fun c' => KlB ct J ad c' b st9 ∧ Fr c0 c' b 160) := by
  refine Mi_of (own := RX8) (by decide) rfl (Nat.le_of_ble_eq_true rfl) (fun p e s m below meth cd hE hr hlk hW ls hl => ?_)
  have hx := hE.1
  have hb := hE.2.1
  have hl : lv_has ls 3 [(0, .ref (ad b))] := hl
  rw [fX8_clausesCome] at h
  obtain ⟨c, hB_st, hF, hW⟩ : ∃ c', KlB ct J ad c' b st ∧ Fr c0 c' b 160 ∧ HW D J ad c' (aA J ad s.heap.size) s.heap s.heap [] := ⟨c0, hB_st, Fr.rf, hW⟩
  refine lv_iconst (v := (0 : Int32)) hx hb dX8_clausesCome_0 (by decide) ?_
  refine lv_istore_n (lv' := [(1, .int (0 : Int32)), (0, .ref (ad b))]) hx hb dX8_clausesCome_1 rfl hl (by decide) rfl (fun ls hl => ?_)
  refine lv_iconst (v := (0 : Int32)) hx hb dX8_clausesCome_2 (by decide) ?_
  refine lv_istore_n (lv' := [(2, .int (0 : Int32)), (1, .int (0 : Int32)), (0, .ref (ad b))]) hx hb dX8_clausesCome_3 rfl hl (by decide) rfl (fun ls hl => ?_)
  exact wX8_clausesCome_4 hE hr hlk _ _ _ _ _ _ _ _ hW hB_st hF (lv_sub hl [2, 1, 0] rfl) h
set_option maxHeartbeats 4000000 in
set_option maxRecDepth 100000 in
theorem mX8_read {l : Launch} {D : va_G} {ct : Nat → ClassId} {J : List Nat} {ad : Nat → Nat} {c0 : CF} {b : Nat} {st : KS} (hB_st : KlB ct J ad c0 b st) {r : Int32} {st9 : KS} (h : fX8_read   st = some (r, st9)) : Mi l D ct J ad yX8_read cX8_read 3 (some .int) (rr 6 133) [.ref (ad b)] c0 r (fun c' => KlB ct J ad c' b st9 ∧ Fr c0 c' b 160) := by
  refine Mi_of (own := RX8) (by decide) rfl (Nat.le_of_ble_eq_true rfl) (fun p e s m below meth cd hE hr hlk hW ls hl => ?_)
  have hx := hE.1
  have hb := hE.2.1
  have hl : lv_has ls 3 [(0, .ref (ad b))] := hl
  rw [fX8_read] at h
  obtain ⟨c, hB_st, hF, hW⟩ : ∃ c', KlB ct J ad c' b st ∧ Fr c0 c' b 160 ∧ HW D J ad c' (aA J ad s.heap.size) s.heap s.heap [] := ⟨c0, hB_st, Fr.rf, hW⟩
  refine lv_aload_n hx hb dX8_read_0 rfl (lv_at hl 0 rfl) ?_
  refine k_get (v := .ref (ad (b + 136))) hE hW hB_st.o hB_st.obj rfl inX8 1 (by decide) q245 rfl dX8_read_1 ?_
  obtain ⟨r_1, y_3, hr_1, h⟩ := zb2_e h
  obtain ⟨st_2, est_2, h⟩ := zl_e h
  refine k_callVNi (rest := []) hE hW hl.1 (mX7_parsed (hB_st.tx) hr_1) (hB_st.tx).o (hB_st.tx).obj rfl q401 q403 qs21 q7 q404 hd_X7_parsed.2 ⟨Nat.le_of_ble_eq_true rfl, Nat.le_of_ble_eq_true rfl⟩ ⟨rfl, rfl⟩ rfl (Nat.le_of_ble_eq_true rfl) dX8_read_4 ⟨Nat.zero_le _, Nat.zero_le _⟩ (fun c1 H locs hP hW => ?_)
  obtain ⟨c, hB_st, hF, hW⟩ : ∃ c', KlB ct J ad c' b st_2 ∧ Fr c0 c' b 160 ∧ HW D J ad c' (aA J ad s.heap.size) s.heap H locs := ⟨c1, by rw [est_2]; exact (hB_st.pTx hP.1 hP.2), hF.trans (hP.2.wide (by omega) (by omega)), hW⟩
  refine lv_istore_n (lv' := [(1, .int r_1), (0, .ref (ad b))]) hx hb dX8_read_7 rfl hl (by decide) rfl (fun ls hl => ?_)
  refine lv_aload_n hx hb dX8_read_8 rfl (lv_at hl 1 rfl) ?_
  refine k_get (v := .ref (ad (b + 136))) hE hW hB_st.o hB_st.obj rfl inX8 1 (by decide) q245 rfl dX8_read_9 ?_
  refine k_getN (v := .int (st_2.2.1.2 2)) hE hW (hB_st.tx).o (hB_st.tx).obj rfl inX7 7 (by decide) q183 rfl dX8_read_12 ?_
  refine lv_istore_n (lv' := [(2, .int (st_2.2.1.2 2)), (1, .int r_1), (0, .ref (ad b))]) hx hb dX8_read_15 rfl hl (by decide) rfl (fun ls hl => ?_)
  refine lv_aload_n hx hb dX8_read_16 rfl (lv_at hl 2 rfl) ?_
  refine k_get (v := .ref (ad (b + 136))) hE hW hB_st.o hB_st.obj rfl inX8 1 (by decide) q245 rfl dX8_read_17 ?_
  refine lv_iconst (v := (0 : Int32)) hx hb dX8_read_20 (by decide) ?_
  obtain ⟨st_4, est_4, h⟩ := zl_e h
  refine k_putN hE hW (hB_st.tx).o (hB_st.tx).obj rfl inX7 tyX7 tyX7_ok nmX7 1 (by decide) q171 rfl rfl rfl (Nat.le_of_ble_eq_true rfl) dX8_read_21 (fun H locs hW => ?_)
  obtain ⟨c, hB_st, hF, hW⟩ : ∃ c', KlB ct J ad c' b st_4 ∧ Fr c0 c' b 160 ∧ HW D J ad c' (aA J ad s.heap.size) s.heap H locs := ⟨_, by rw [est_4]; exact (hB_st.pTx ((hB_st.tx).wF (k := 1) (j := 0) rfl rfl) (Fr.rf.up (b := (b + 136)) (n := 6) (by omega) (by omega))), hF.up (by omega) (by omega), hW⟩
  refine lv_iload_n hx hb dX8_read_24 rfl (lv_at hl 1 rfl) ?_
  refine lv_if_eq (tgt := 35) hx hb dX8_read_25 (by decide) (fun k_5 => ?_) (fun k_5 => ?_)
  · have h := it_t k_5 h
    refine lv_bipush (v := (-10 : Int32)) hx hb dX8_read_35 (by decide) ?_
    refine lv_iload_n hx hb dX8_read_37 rfl (lv_at hl 0 rfl) ?_
    refine lv_isub hx hb dX8_read_38 ?_
    obtain ⟨rfl, rfl⟩ := Prod.mk.inj (Option.some.inj h)
    exact k_iret hE hr hlk hW ⟨hB_st, hF⟩ rfl dX8_read_39
  · have h := it_f k_5 h
    refine lv_aload_n hx hb dX8_read_28 rfl (lv_at hl 2 rfl) ?_
    obtain ⟨r_6, st_7, hr_6, h⟩ := zb2_e h
    refine k_callVi (rest := []) hE hW hl.1 (mX8_clausesCome hB_st hr_6) hB_st.o hB_st.obj rfl q426 q428 qs27 q1 q429 hd_X8_clausesCome ⟨Nat.le_of_ble_eq_true rfl, Nat.le_of_ble_eq_true rfl⟩ ⟨rfl, rfl⟩ rfl (Nat.le_of_ble_eq_true rfl) dX8_read_29 ⟨Nat.zero_le _, Nat.zero_le _⟩ (fun c1 H locs hP hW => ?_)
    obtain ⟨c, hB_st, hF, hW⟩ : ∃ c', KlB ct J ad c' b st_7 ∧ Fr c0 c' b 160 ∧ HW D J ad c' (aA J ad s.heap.size) s.heap H locs := ⟨c1, hP.1, hF.trans hP.2, hW⟩
    refine lv_goto (tgt := 39) hx hb dX8_read_32 (by decide) ?_
    obtain ⟨rfl, rfl⟩ := Prod.mk.inj (Option.some.inj h)
    exact k_iret hE hr hlk hW ⟨hB_st, hF⟩ rfl dX8_read_39
set_option maxHeartbeats 4000000 in
set_option maxRecDepth 100000 in
theorem mX8_of {l : Launch} {D : va_G} {ct : Nat → ClassId} {J : List Nat} {ad : Nat → Nat} {c0 : CF} {a1 : Int32} {a2 : Int32} {b : Nat} {st : KS} (hB_st : KlB ct J ad c0 b st) {r : Int32} {st9 : KS} (h : fX8_of  a1 a2 st = some (r, st9)) : Mi l D ct J ad yX8_of cX8_of 4 (some .int) (rr 3 64) [.ref (ad b), .int a1, .int a2] c0 r (fun c' => KlB ct J ad c' b st9 ∧ Fr c0 c' b 160) := by
  refine Mi_of (own := RX8) (by decide) rfl (Nat.le_of_ble_eq_true rfl) (fun p e s m below meth cd hE hr hlk hW ls hl => ?_)
  have hx := hE.1
  have hb := hE.2.1
  have hl : lv_has ls 4 [(0, .ref (ad b)), (1, .int a1), (2, .int a2)] := hl
  rw [fX8_of] at h
  obtain ⟨c, hB_st, hF, hW⟩ : ∃ c', KlB ct J ad c' b st ∧ Fr c0 c' b 160 ∧ HW D J ad c' (aA J ad s.heap.size) s.heap s.heap [] := ⟨c0, hB_st, Fr.rf, hW⟩
  refine lv_iload_n hx hb dX8_of_0 rfl (lv_at hl 1 rfl) ?_
  obtain ⟨r_1, hr_1, h⟩ := zb_e h
  refine k_callSi (rest := []) hE hW hl.1 (mX8_isLog hr_1) q286 q287 q1 q288 hd_X8_isLog.2 ⟨Nat.le_of_ble_eq_true rfl, Nat.le_of_ble_eq_true rfl⟩ ⟨rfl, rfl⟩ rfl (Nat.le_of_ble_eq_true rfl) dX8_of_1 ⟨Nat.zero_le _, Nat.zero_le _⟩ (fun c1 H locs hP hW => ?_)
  rw [hP] at hW
  refine lv_if_ne (tgt := 9) hx hb dX8_of_4 (by decide) (fun k_2 => ?_) (fun k_2 => ?_)
  · have h := it_f k_2 h
    refine lv_aload_n hx hb dX8_of_9 rfl (lv_at hl 0 rfl) ?_
    refine k_get (v := .ref (ad (b + 1))) hE hW hB_st.o hB_st.obj rfl inX8 0 (by decide) q244 rfl dX8_of_10 ?_
    refine k_getN (v := .ref (ad (b + 1 + 1))) hE hW (hB_st.lv).o (hB_st.lv).obj rfl inX5 0 (by decide) q131 rfl dX8_of_13 ?_
    refine lv_iload_n hx hb dX8_of_16 rfl (lv_at hl 1 rfl) ?_
    obtain ⟨g_3, h⟩ := zi_e h
    have hg_3 := vp_lt g_3
    refine k_aaldR3 (g := fun i => b + 1 + 1 + 1 + 8 * i) hE hW (hB_st.lv).logs.o (hB_st.lv).logs.out g_3 dX8_of_17 ?_
    refine lv_astore_n (lv' := [(3, .ref (ad (b + 1 + 1 + 1 + 8 * a1.toNatClampNeg))), (0, .ref (ad b)), (1, .int a1), (2, .int a2)]) hx hb dX8_of_18 rfl hl (by decide) rfl (fun ls hl => ?_)
    refine lv_iload_n hx hb dX8_of_19 rfl (lv_at hl 3 rfl) ?_
    rcases Classical.em (a2 = (0 : Int32)) with k_4 | k_4
    · have h := it_t k_4 h
      refine lv_tableIn (tgt := 80) hx hb dX8_of_20 (by rw [k_4]; decide) (by rw [k_4]; decide) (by rw [k_4]; rfl) (by decide) ?_
      refine lv_aload_n hx hb dX8_of_80 rfl (lv_at hl 0 rfl) ?_
      obtain ⟨r_5, hr_5, h⟩ := zb_e h
      refine k_callVNi (rest := []) hE hW hl.1 (mX3_records ((hB_st.lv).log hg_3) hr_5) ((hB_st.lv).log hg_3).o ((hB_st.lv).log hg_3).obj rfl q434 q436 qs28 q3 q437 hd_X3_records.2 ⟨Nat.le_of_ble_eq_true rfl, Nat.le_of_ble_eq_true rfl⟩ ⟨rfl, rfl⟩ rfl (Nat.le_of_ble_eq_true rfl) dX8_of_81 ⟨Nat.zero_le _, Nat.zero_le _⟩ (fun c1 H locs hP hW => ?_)
      rw [hP] at hW
      obtain ⟨rfl, rfl⟩ := Prod.mk.inj (Option.some.inj h)
      exact k_iret hE hr hlk hW ⟨hB_st, hF⟩ rfl dX8_of_84
    have h := it_f k_4 h
    rcases Classical.em (a2 = (1 : Int32)) with k_6 | k_6
    · have h := it_t k_6 h
      refine lv_tableIn (tgt := 85) hx hb dX8_of_20 (by rw [k_6]; decide) (by rw [k_6]; decide) (by rw [k_6]; rfl) (by decide) ?_
      refine lv_aload_n hx hb dX8_of_85 rfl (lv_at hl 0 rfl) ?_
      obtain ⟨r_7, hr_7, h⟩ := zb_e h
      refine k_callVNi (rest := []) hE hW hl.1 (mX3_start ((hB_st.lv).log hg_3) hr_7) ((hB_st.lv).log hg_3).o ((hB_st.lv).log hg_3).obj rfl q438 q440 qs29 q3 q441 hd_X3_start.2 ⟨Nat.le_of_ble_eq_true rfl, Nat.le_of_ble_eq_true rfl⟩ ⟨rfl, rfl⟩ rfl (Nat.le_of_ble_eq_true rfl) dX8_of_86 ⟨Nat.zero_le _, Nat.zero_le _⟩ (fun c1 H locs hP hW => ?_)
      rw [hP] at hW
      obtain ⟨rfl, rfl⟩ := Prod.mk.inj (Option.some.inj h)
      exact k_iret hE hr hlk hW ⟨hB_st, hF⟩ rfl dX8_of_89
    have h := it_f k_6 h
    rcases Classical.em (a2 = (2 : Int32)) with k_8 | k_8
    · have h := it_t k_8 h
      refine lv_tableIn (tgt := 90) hx hb dX8_of_20 (by rw [k_8]; decide) (by rw [k_8]; decide) (by rw [k_8]; rfl) (by decide) ?_
      refine lv_aload_n hx hb dX8_of_90 rfl (lv_at hl 0 rfl) ?_
      refine k_getN (v := .int ((st.1.1 a1.toNatClampNeg).2 0)) hE hW ((hB_st.lv).log hg_3).o ((hB_st.lv).log hg_3).obj rfl inX3 7 (by decide) q57 rfl dX8_of_91 ?_
      obtain ⟨rfl, rfl⟩ := Prod.mk.inj (Option.some.inj h)
      exact k_iret hE hr hlk hW ⟨hB_st, hF⟩ rfl dX8_of_94
    have h := it_f k_8 h
    rcases Classical.em (a2 = (3 : Int32)) with k_9 | k_9
    · have h := it_t k_9 h
      refine lv_tableIn (tgt := 95) hx hb dX8_of_20 (by rw [k_9]; decide) (by rw [k_9]; decide) (by rw [k_9]; rfl) (by decide) ?_
      refine lv_aload_n hx hb dX8_of_95 rfl (lv_at hl 0 rfl) ?_
      refine k_getN (v := .int ((st.1.1 a1.toNatClampNeg).2 1)) hE hW ((hB_st.lv).log hg_3).o ((hB_st.lv).log hg_3).obj rfl inX3 8 (by decide) q59 rfl dX8_of_96 ?_
      obtain ⟨rfl, rfl⟩ := Prod.mk.inj (Option.some.inj h)
      exact k_iret hE hr hlk hW ⟨hB_st, hF⟩ rfl dX8_of_99
    have h := it_f k_9 h
    rcases Classical.em (a2 = (4 : Int32)) with k_10 | k_10
    · have h := it_t k_10 h
      refine lv_tableIn (tgt := 100) hx hb dX8_of_20 (by rw [k_10]; decide) (by rw [k_10]; decide) (by rw [k_10]; rfl) (by decide) ?_
      refine lv_aload_n hx hb dX8_of_100 rfl (lv_at hl 0 rfl) ?_
      refine lv_iconst (v := (0 : Int32)) hx hb dX8_of_101 (by decide) ?_
      refine lv_aload_n hx hb dX8_of_102 rfl (lv_at hl 0 rfl) ?_
      refine k_getN (v := .int ((st.1.1 a1.toNatClampNeg).2 0)) hE hW ((hB_st.lv).log hg_3).o ((hB_st.lv).log hg_3).obj rfl inX3 7 (by decide) q57 rfl dX8_of_103 ?_
      obtain ⟨r_11, hr_11, h⟩ := zb_e h
      refine k_callVNi (rest := []) hE hW hl.1 (mX3_sizesIn ((hB_st.lv).log hg_3) hr_11) ((hB_st.lv).log hg_3).o ((hB_st.lv).log hg_3).obj rfl q442 q307 qs4 q3 q308 hd_X3_sizesIn.2 ⟨Nat.le_of_ble_eq_true rfl, Nat.le_of_ble_eq_true rfl⟩ ⟨rfl, rfl⟩ rfl (Nat.le_of_ble_eq_true rfl) dX8_of_106 ⟨Nat.zero_le _, Nat.zero_le _⟩ (fun c1 H locs hP hW => ?_)
      rw [hP] at hW
      obtain ⟨rfl, rfl⟩ := Prod.mk.inj (Option.some.inj h)
      exact k_iret hE hr hlk hW ⟨hB_st, hF⟩ rfl dX8_of_109
    have h := it_f k_10 h
    rcases Classical.em (a2 = (5 : Int32)) with k_12 | k_12
    · have h := it_t k_12 h
      refine lv_tableIn (tgt := 110) hx hb dX8_of_20 (by rw [k_12]; decide) (by rw [k_12]; decide) (by rw [k_12]; rfl) (by decide) ?_
      refine lv_aload_n hx hb dX8_of_110 rfl (lv_at hl 0 rfl) ?_
      refine k_getN (v := .int ((st.1.1 a1.toNatClampNeg).2 0)) hE hW ((hB_st.lv).log hg_3).o ((hB_st.lv).log hg_3).obj rfl inX3 7 (by decide) q57 rfl dX8_of_111 ?_
      refine lv_aload_n hx hb dX8_of_114 rfl (lv_at hl 0 rfl) ?_
      obtain ⟨r_13, hr_13, h⟩ := zb_e h
      refine k_callVNi (rest := [.int ((st.1.1 a1.toNatClampNeg).2 0)]) hE hW hl.1 (mX3_start ((hB_st.lv).log hg_3) hr_13) ((hB_st.lv).log hg_3).o ((hB_st.lv).log hg_3).obj rfl q438 q440 qs29 q3 q441 hd_X3_start.2 ⟨Nat.le_of_ble_eq_true rfl, Nat.le_of_ble_eq_true rfl⟩ ⟨rfl, rfl⟩ rfl (Nat.le_of_ble_eq_true rfl) dX8_of_115 ⟨Nat.zero_le _, Nat.zero_le _⟩ (fun c1 H locs hP hW => ?_)
      rw [hP] at hW
      refine lv_isub hx hb dX8_of_118 ?_
      refine lv_aload_n hx hb dX8_of_119 rfl (lv_at hl 0 rfl) ?_
      obtain ⟨r_14, hr_14, h⟩ := zb_e h
      refine k_callVNi (rest := [.int (((st.1.1 a1.toNatClampNeg).2 0) - r_13)]) hE hW hl.1 (mX3_records ((hB_st.lv).log hg_3) hr_14) ((hB_st.lv).log hg_3).o ((hB_st.lv).log hg_3).obj rfl q434 q436 qs28 q3 q437 hd_X3_records.2 ⟨Nat.le_of_ble_eq_true rfl, Nat.le_of_ble_eq_true rfl⟩ ⟨rfl, rfl⟩ rfl (Nat.le_of_ble_eq_true rfl) dX8_of_120 ⟨Nat.zero_le _, Nat.zero_le _⟩ (fun c1 H locs hP hW => ?_)
      rw [hP] at hW
      refine lv_isub hx hb dX8_of_123 ?_
      obtain ⟨rfl, rfl⟩ := Prod.mk.inj (Option.some.inj h)
      exact k_iret hE hr hlk hW ⟨hB_st, hF⟩ rfl dX8_of_124
    have h := it_f k_12 h
    rcases Classical.em (a2 = (6 : Int32)) with k_15 | k_15
    · have h := it_t k_15 h
      refine lv_tableIn (tgt := 125) hx hb dX8_of_20 (by rw [k_15]; decide) (by rw [k_15]; decide) (by rw [k_15]; rfl) (by decide) ?_
      refine lv_aload_n hx hb dX8_of_125 rfl (lv_at hl 0 rfl) ?_
      refine lv_aload_n hx hb dX8_of_126 rfl (lv_at hl 0 rfl) ?_
      refine k_getN (v := .int ((st.1.1 a1.toNatClampNeg).2 0)) hE hW ((hB_st.lv).log hg_3).o ((hB_st.lv).log hg_3).obj rfl inX3 7 (by decide) q57 rfl dX8_of_127 ?_
      obtain ⟨r_16, y_18, hr_16, h⟩ := zb2_e h
      obtain ⟨st_17, est_17, h⟩ := zl_e h
      refine k_callVNi (rest := []) hE hW hl.1 (mX3_mapSize ((hB_st.lv).log hg_3) hr_16) ((hB_st.lv).log hg_3).o ((hB_st.lv).log hg_3).obj rfl q443 q445 qs30 q3 q446 hd_X3_mapSize.2 ⟨Nat.le_of_ble_eq_true rfl, Nat.le_of_ble_eq_true rfl⟩ ⟨rfl, rfl⟩ rfl (Nat.le_of_ble_eq_true rfl) dX8_of_130 ⟨Nat.zero_le _, Nat.zero_le _⟩ (fun c1 H locs hP hW => ?_)
      obtain ⟨c, hB_st, hF, hW⟩ : ∃ c', KlB ct J ad c' b st_17 ∧ Fr c0 c' b 160 ∧ HW D J ad c' (aA J ad s.heap.size) s.heap H locs := ⟨c1, by rw [est_17]; exact (hB_st.pLv ((hB_st.lv).pLog hg_3 hP.1 hP.2) (hP.2.wide (by omega) (by omega))), hF.trans (hP.2.wide (by omega) (by omega)), hW⟩
      obtain ⟨rfl, rfl⟩ := Prod.mk.inj (Option.some.inj h)
      exact k_iret hE hr hlk hW ⟨hB_st, hF⟩ rfl dX8_of_133
    have h := it_f k_15 h
    rcases Classical.em (a2 = (7 : Int32)) with k_19 | k_19
    · have h := it_t k_19 h
      refine lv_tableIn (tgt := 134) hx hb dX8_of_20 (by rw [k_19]; decide) (by rw [k_19]; decide) (by rw [k_19]; rfl) (by decide) ?_
      refine lv_aload_n hx hb dX8_of_134 rfl (lv_at hl 1 rfl) ?_
      refine k_get (v := .ref (ad (b + 1))) hE hW hB_st.o hB_st.obj rfl inX8 0 (by decide) q244 rfl dX8_of_135 ?_
      refine k_getN (v := .ref (ad (b + 1 + 34))) hE hW (hB_st.lv).o (hB_st.lv).obj rfl inX5 1 (by decide) q133 rfl dX8_of_138 ?_
      refine k_getN (v := .ref (ad (b + 1 + 34 + 1 + 1))) hE hW ((hB_st.lv).gr).o ((hB_st.lv).gr).obj rfl inX1 1 (by decide) q89 rfl dX8_of_141 ?_
      refine lv_iload_n hx hb dX8_of_144 rfl (lv_at hl 2 rfl) ?_
      obtain ⟨g_20, h⟩ := zi_e h
      refine k_iald hE hW (((hB_st.lv).gr).memA 1 (Nat.le_of_ble_eq_true rfl)) (((hB_st.lv).gr).arr 1 rfl) g_20 dX8_of_145 ?_
      obtain ⟨rfl, rfl⟩ := Prod.mk.inj (Option.some.inj h)
      exact k_iret hE hr hlk hW ⟨hB_st, hF⟩ rfl dX8_of_146
    have h := it_f k_19 h
    rcases Classical.em (a2 = (8 : Int32)) with k_21 | k_21
    · have h := it_t k_21 h
      refine lv_tableIn (tgt := 147) hx hb dX8_of_20 (by rw [k_21]; decide) (by rw [k_21]; decide) (by rw [k_21]; rfl) (by decide) ?_
      refine lv_aload_n hx hb dX8_of_147 rfl (lv_at hl 1 rfl) ?_
      refine k_get (v := .ref (ad (b + 1))) hE hW hB_st.o hB_st.obj rfl inX8 0 (by decide) q244 rfl dX8_of_148 ?_
      refine k_getN (v := .ref (ad (b + 1 + 34))) hE hW (hB_st.lv).o (hB_st.lv).obj rfl inX5 1 (by decide) q133 rfl dX8_of_151 ?_
      refine k_getN (v := .ref (ad (b + 1 + 34 + 1 + 3))) hE hW ((hB_st.lv).gr).o ((hB_st.lv).gr).obj rfl inX1 3 (by decide) q92 rfl dX8_of_154 ?_
      refine lv_iload_n hx hb dX8_of_157 rfl (lv_at hl 2 rfl) ?_
      obtain ⟨g_22, h⟩ := zi_e h
      refine k_iald hE hW (((hB_st.lv).gr).memA 3 (Nat.le_of_ble_eq_true rfl)) (((hB_st.lv).gr).arr 3 rfl) g_22 dX8_of_158 ?_
      obtain ⟨rfl, rfl⟩ := Prod.mk.inj (Option.some.inj h)
      exact k_iret hE hr hlk hW ⟨hB_st, hF⟩ rfl dX8_of_159
    have h := it_f k_21 h
    rcases Classical.em (a2 = (9 : Int32)) with k_23 | k_23
    · have h := it_t k_23 h
      refine lv_tableIn (tgt := 160) hx hb dX8_of_20 (by rw [k_23]; decide) (by rw [k_23]; decide) (by rw [k_23]; rfl) (by decide) ?_
      refine lv_aload_n hx hb dX8_of_160 rfl (lv_at hl 0 rfl) ?_
      refine lv_iconst (v := (0 : Int32)) hx hb dX8_of_161 (by decide) ?_
      obtain ⟨r_24, hr_24, h⟩ := zb_e h
      refine k_callVNi (rest := []) hE hW hl.1 (mX3_atOrBehind ((hB_st.lv).log hg_3) hr_24) ((hB_st.lv).log hg_3).o ((hB_st.lv).log hg_3).obj rfl q451 q453 qs32 q3 q454 hd_X3_atOrBehind.2 ⟨Nat.le_of_ble_eq_true rfl, Nat.le_of_ble_eq_true rfl⟩ ⟨rfl, rfl⟩ rfl (Nat.le_of_ble_eq_true rfl) dX8_of_162 ⟨Nat.zero_le _, Nat.zero_le _⟩ (fun c1 H locs hP hW => ?_)
      rw [hP] at hW
      obtain ⟨rfl, rfl⟩ := Prod.mk.inj (Option.some.inj h)
      exact k_iret hE hr hlk hW ⟨hB_st, hF⟩ rfl dX8_of_165
    have h := it_f k_23 h
    rcases Classical.em (a2 = (10 : Int32)) with k_25 | k_25
    · have h := it_t k_25 h
      refine lv_tableIn (tgt := 166) hx hb dX8_of_20 (by rw [k_25]; decide) (by rw [k_25]; decide) (by rw [k_25]; rfl) (by decide) ?_
      refine lv_aload_n hx hb dX8_of_166 rfl (lv_at hl 0 rfl) ?_
      refine lv_aload_n hx hb dX8_of_167 rfl (lv_at hl 0 rfl) ?_
      refine k_getN (v := .int ((st.1.1 a1.toNatClampNeg).2 0)) hE hW ((hB_st.lv).log hg_3).o ((hB_st.lv).log hg_3).obj rfl inX3 7 (by decide) q57 rfl dX8_of_168 ?_
      obtain ⟨r_26, hr_26, h⟩ := zb_e h
      refine k_callVNi (rest := []) hE hW hl.1 (mX3_atOrBefore ((hB_st.lv).log hg_3) hr_26) ((hB_st.lv).log hg_3).o ((hB_st.lv).log hg_3).obj rfl q455 q457 qs33 q3 q458 hd_X3_atOrBefore.2 ⟨Nat.le_of_ble_eq_true rfl, Nat.le_of_ble_eq_true rfl⟩ ⟨rfl, rfl⟩ rfl (Nat.le_of_ble_eq_true rfl) dX8_of_171 ⟨Nat.zero_le _, Nat.zero_le _⟩ (fun c1 H locs hP hW => ?_)
      rw [hP] at hW
      obtain ⟨rfl, rfl⟩ := Prod.mk.inj (Option.some.inj h)
      exact k_iret hE hr hlk hW ⟨hB_st, hF⟩ rfl dX8_of_174
    have h := it_f k_25 h
    refine lv_tableOut (tgt := 175) hx hb dX8_of_20 (tb_out11 k_4 k_6 k_8 k_9 k_10 k_12 k_15 k_19 k_21 k_23 k_25) (by decide) ?_
    refine lv_iconst (v := (-1 : Int32)) hx hb dX8_of_175 (by decide) ?_
    obtain ⟨rfl, rfl⟩ := Prod.mk.inj (Option.some.inj h)
    exact k_iret hE hr hlk hW ⟨hB_st, hF⟩ rfl dX8_of_176
  · have h := it_t k_2 h
    refine lv_iconst (v := (-1 : Int32)) hx hb dX8_of_7 (by decide) ?_
    obtain ⟨rfl, rfl⟩ := Prod.mk.inj (Option.some.inj h)
    exact k_iret hE hr hlk hW ⟨hB_st, hF⟩ rfl dX8_of_8
set_option maxHeartbeats 4000000 in
set_option maxRecDepth 100000 in
theorem mX8_record {l : Launch} {D : va_G} {ct : Nat → ClassId} {J : List Nat} {ad : Nat → Nat} {c0 : CF} {a1 : Int32} {a2 : Int32} {a3 : Int32} {b : Nat} {st : KS} (hB_st : KlB ct J ad c0 b st) {r : Int64} (h : fX8_record  a1 a2 a3 st = some r) : Ml l D ct J ad yX8_record cX8_record 5 (some .long) (rr 1 22) [.ref (ad b), .int a1, .int a2, .int a3] c0 r (fun c' => c' = c0) := by
  refine Ml_of (own := RX8) (by decide) rfl (Nat.le_of_ble_eq_true rfl) (fun p e s m below meth cd hE hr hlk hW ls hl => ?_)
  have hx := hE.1
  have hb := hE.2.1
  have hl : lv_has ls 5 [(0, .ref (ad b)), (1, .int a1), (2, .int a2), (3, .int a3)] := hl
  rw [fX8_record] at h
  refine lv_iload_n hx hb dX8_record_0 rfl (lv_at hl 1 rfl) ?_
  obtain ⟨r_1, hr_1, h⟩ := zb_e h
  refine k_callSi (rest := []) hE hW hl.1 (mX8_isLog hr_1) q286 q287 q1 q288 hd_X8_isLog.2 ⟨Nat.le_of_ble_eq_true rfl, Nat.le_of_ble_eq_true rfl⟩ ⟨rfl, rfl⟩ rfl (Nat.le_of_ble_eq_true rfl) dX8_record_1 ⟨Nat.zero_le _, Nat.zero_le _⟩ (fun c1 H locs hP hW => ?_)
  rw [hP] at hW
  refine lv_if_eq (tgt := 23) hx hb dX8_record_4 (by decide) (fun k_2 => ?_) (fun k_2 => ?_)
  · have h := it_t k_2 h
    refine lv_ldc2 (v := (-9223372036854775808 : Int64)) hx hb hE.2.2.2.1 (hE.2.2.2.2.1 _ q470) dX8_record_23 ?_
    obtain rfl := Option.some.inj h
    exact k_lret hE hr hlk hW rfl rfl dX8_record_26
  · have h := it_f k_2 h
    refine lv_aload_n hx hb dX8_record_7 rfl (lv_at hl 0 rfl) ?_
    refine k_get (v := .ref (ad (b + 1))) hE hW hB_st.o hB_st.obj rfl inX8 0 (by decide) q244 rfl dX8_record_8 ?_
    refine k_getN (v := .ref (ad (b + 1 + 1))) hE hW (hB_st.lv).o (hB_st.lv).obj rfl inX5 0 (by decide) q131 rfl dX8_record_11 ?_
    refine lv_iload_n hx hb dX8_record_14 rfl (lv_at hl 1 rfl) ?_
    obtain ⟨g_3, h⟩ := zi_e h
    have hg_3 := vp_lt g_3
    refine k_aaldR3 (g := fun i => b + 1 + 1 + 1 + 8 * i) hE hW (hB_st.lv).logs.o (hB_st.lv).logs.out g_3 dX8_record_15 ?_
    refine lv_iload_n hx hb dX8_record_16 rfl (lv_at hl 2 rfl) ?_
    obtain ⟨r_4, hr_4, h⟩ := zb_e h
    refine k_callVNi (rest := []) hE hW hl.1 (mX3_has ((hB_st.lv).log hg_3) hr_4) ((hB_st.lv).log hg_3).o ((hB_st.lv).log hg_3).obj rfl q466 q468 qs34 q3 q469 hd_X3_has.2 ⟨Nat.le_of_ble_eq_true rfl, Nat.le_of_ble_eq_true rfl⟩ ⟨rfl, rfl⟩ rfl (Nat.le_of_ble_eq_true rfl) dX8_record_17 ⟨Nat.zero_le _, Nat.zero_le _⟩ (fun c1 H locs hP hW => ?_)
    rw [hP] at hW
    refine lv_if_ne (tgt := 27) hx hb dX8_record_20 (by decide) (fun k_5 => ?_) (fun k_5 => ?_)
    · have h := it_f k_5 h
      refine lv_aload_n hx hb dX8_record_27 rfl (lv_at hl 0 rfl) ?_
      refine k_get (v := .ref (ad (b + 1))) hE hW hB_st.o hB_st.obj rfl inX8 0 (by decide) q244 rfl dX8_record_28 ?_
      refine k_getN (v := .ref (ad (b + 1 + 1))) hE hW (hB_st.lv).o (hB_st.lv).obj rfl inX5 0 (by decide) q131 rfl dX8_record_31 ?_
      refine lv_iload_n hx hb dX8_record_34 rfl (lv_at hl 1 rfl) ?_
      obtain ⟨g_6, h⟩ := zi_e h
      have hg_6 := vp_lt g_6
      refine k_aaldR3 (g := fun i => b + 1 + 1 + 1 + 8 * i) hE hW (hB_st.lv).logs.o (hB_st.lv).logs.out g_6 dX8_record_35 ?_
      refine lv_astore (lv' := [(4, .ref (ad (b + 1 + 1 + 1 + 8 * a1.toNatClampNeg))), (0, .ref (ad b)), (1, .int a1), (2, .int a2), (3, .int a3)]) hx hb dX8_record_36 hl (by decide) rfl (fun ls hl => ?_)
      refine lv_iload_n hx hb dX8_record_38 rfl (lv_at hl 4 rfl) ?_
      rcases Classical.em (a3 = (0 : Int32)) with k_7 | k_7
      · have h := it_t k_7 h
        refine lv_tableIn (tgt := 76) hx hb dX8_record_39 (by rw [k_7]; decide) (by rw [k_7]; decide) (by rw [k_7]; rfl) (by decide) ?_
        refine lv_aload hx hb dX8_record_76 (lv_at hl 0 rfl) ?_
        refine k_getN (v := .ref (ad (b + 1 + 1 + 1 + 8 * a1.toNatClampNeg + 1 + 1))) hE hW ((hB_st.lv).log hg_6).o ((hB_st.lv).log hg_6).obj rfl inX3 1 (by decide) q42 rfl dX8_record_78 ?_
        refine lv_iload_n hx hb dX8_record_81 rfl (lv_at hl 3 rfl) ?_
        obtain ⟨g_8, h⟩ := zi_e h
        refine k_iald hE hW (((hB_st.lv).log hg_6).memA 1 (Nat.le_of_ble_eq_true rfl)) (((hB_st.lv).log hg_6).arr 1 rfl) g_8 dX8_record_82 ?_
        refine lv_i2l (v := ((st.1.1 a1.toNatClampNeg).1 1 a2.toNatClampNeg).toInt64) hx hb dX8_record_83 rfl ?_
        obtain rfl := Option.some.inj h
        exact k_lret hE hr hlk hW rfl rfl dX8_record_84
      have h := it_f k_7 h
      rcases Classical.em (a3 = (1 : Int32)) with k_9 | k_9
      · have h := it_t k_9 h
        refine lv_tableIn (tgt := 85) hx hb dX8_record_39 (by rw [k_9]; decide) (by rw [k_9]; decide) (by rw [k_9]; rfl) (by decide) ?_
        refine lv_aload hx hb dX8_record_85 (lv_at hl 0 rfl) ?_
        refine k_getN (v := .ref (ad (b + 1 + 1 + 1 + 8 * a1.toNatClampNeg + 1 + 2))) hE hW ((hB_st.lv).log hg_6).o ((hB_st.lv).log hg_6).obj rfl inX3 2 (by decide) q44 rfl dX8_record_87 ?_
        refine lv_iload_n hx hb dX8_record_90 rfl (lv_at hl 3 rfl) ?_
        obtain ⟨g_10, h⟩ := zi_e h
        refine k_iald hE hW (((hB_st.lv).log hg_6).memA 2 (Nat.le_of_ble_eq_true rfl)) (((hB_st.lv).log hg_6).arr 2 rfl) g_10 dX8_record_91 ?_
        refine lv_i2l (v := ((st.1.1 a1.toNatClampNeg).1 2 a2.toNatClampNeg).toInt64) hx hb dX8_record_92 rfl ?_
        obtain rfl := Option.some.inj h
        exact k_lret hE hr hlk hW rfl rfl dX8_record_93
      have h := it_f k_9 h
      rcases Classical.em (a3 = (2 : Int32)) with k_11 | k_11
      · have h := it_t k_11 h
        refine lv_tableIn (tgt := 94) hx hb dX8_record_39 (by rw [k_11]; decide) (by rw [k_11]; decide) (by rw [k_11]; rfl) (by decide) ?_
        refine lv_aload hx hb dX8_record_94 (lv_at hl 0 rfl) ?_
        refine k_getN (v := .ref (ad (b + 1 + 1 + 1 + 8 * a1.toNatClampNeg + 1 + 3))) hE hW ((hB_st.lv).log hg_6).o ((hB_st.lv).log hg_6).obj rfl inX3 3 (by decide) q46 rfl dX8_record_96 ?_
        refine lv_iload_n hx hb dX8_record_99 rfl (lv_at hl 3 rfl) ?_
        obtain ⟨g_12, h⟩ := zi_e h
        refine k_iald hE hW (((hB_st.lv).log hg_6).memA 3 (Nat.le_of_ble_eq_true rfl)) (((hB_st.lv).log hg_6).arr 3 rfl) g_12 dX8_record_100 ?_
        refine lv_i2l (v := ((st.1.1 a1.toNatClampNeg).1 3 a2.toNatClampNeg).toInt64) hx hb dX8_record_101 rfl ?_
        obtain rfl := Option.some.inj h
        exact k_lret hE hr hlk hW rfl rfl dX8_record_102
      have h := it_f k_11 h
      rcases Classical.em (a3 = (3 : Int32)) with k_13 | k_13
      · have h := it_t k_13 h
        refine lv_tableIn (tgt := 103) hx hb dX8_record_39 (by rw [k_13]; decide) (by rw [k_13]; decide) (by rw [k_13]; rfl) (by decide) ?_
        refine lv_aload hx hb dX8_record_103 (lv_at hl 0 rfl) ?_
        refine k_getN (v := .ref (ad (b + 1 + 1 + 1 + 8 * a1.toNatClampNeg + 1 + 0))) hE hW ((hB_st.lv).log hg_6).o ((hB_st.lv).log hg_6).obj rfl inX3 0 (by decide) q39 rfl dX8_record_105 ?_
        refine lv_iload_n hx hb dX8_record_108 rfl (lv_at hl 3 rfl) ?_
        obtain ⟨g_14, h⟩ := zi_e h
        refine k_iald hE hW (((hB_st.lv).log hg_6).memA 0 (Nat.le_of_ble_eq_true rfl)) (((hB_st.lv).log hg_6).arr 0 rfl) g_14 dX8_record_109 ?_
        refine lv_iconst (v := (2 : Int32)) hx hb dX8_record_110 (by decide) ?_
        refine lv_icmp_ne (tgt := 118) hx hb dX8_record_111 (by decide) (fun k_15 => ?_) (fun k_15 => ?_)
        · have h := it_f k_15 h
          refine lv_lconst (v := (0 : Int64)) hx hb dX8_record_118 (by decide) ?_
          obtain rfl := Option.some.inj h
          exact k_lret hE hr hlk hW rfl rfl dX8_record_119
        · have h := it_t k_15 h
          refine lv_lconst (v := (1 : Int64)) hx hb dX8_record_114 (by decide) ?_
          refine lv_goto (tgt := 119) hx hb dX8_record_115 (by decide) ?_
          obtain rfl := Option.some.inj h
          exact k_lret hE hr hlk hW rfl rfl dX8_record_119
      have h := it_f k_13 h
      rcases Classical.em (a3 = (4 : Int32)) with k_16 | k_16
      · have h := it_t k_16 h
        refine lv_tableIn (tgt := 120) hx hb dX8_record_39 (by rw [k_16]; decide) (by rw [k_16]; decide) (by rw [k_16]; rfl) (by decide) ?_
        refine lv_aload hx hb dX8_record_120 (lv_at hl 0 rfl) ?_
        refine k_getN (v := .ref (ad (b + 1 + 1 + 1 + 8 * a1.toNatClampNeg + 1 + 0))) hE hW ((hB_st.lv).log hg_6).o ((hB_st.lv).log hg_6).obj rfl inX3 0 (by decide) q39 rfl dX8_record_122 ?_
        refine lv_iload_n hx hb dX8_record_125 rfl (lv_at hl 3 rfl) ?_
        obtain ⟨g_17, h⟩ := zi_e h
        refine k_iald hE hW (((hB_st.lv).log hg_6).memA 0 (Nat.le_of_ble_eq_true rfl)) (((hB_st.lv).log hg_6).arr 0 rfl) g_17 dX8_record_126 ?_
        refine lv_iconst (v := (2 : Int32)) hx hb dX8_record_127 (by decide) ?_
        refine lv_icmp_ne (tgt := 137) hx hb dX8_record_128 (by decide) (fun k_18 => ?_) (fun k_18 => ?_)
        · have h := it_f k_18 h
          refine lv_aload hx hb dX8_record_137 (lv_at hl 0 rfl) ?_
          refine k_getN (v := .ref (ad (b + 1 + 1 + 1 + 8 * a1.toNatClampNeg + 1 + 4))) hE hW ((hB_st.lv).log hg_6).o ((hB_st.lv).log hg_6).obj rfl inX3 4 (by decide) q49 rfl dX8_record_139 ?_
          refine lv_iload_n hx hb dX8_record_142 rfl (lv_at hl 3 rfl) ?_
          obtain ⟨g_19, h⟩ := zi_e h
          refine k_iald hE hW (((hB_st.lv).log hg_6).memA 4 (Nat.le_of_ble_eq_true rfl)) (((hB_st.lv).log hg_6).arr 4 rfl) g_19 dX8_record_143 ?_
          refine lv_i2l (v := ((st.1.1 a1.toNatClampNeg).1 4 a2.toNatClampNeg).toInt64) hx hb dX8_record_144 rfl ?_
          obtain rfl := Option.some.inj h
          exact k_lret hE hr hlk hW rfl rfl dX8_record_145
        · have h := it_t k_18 h
          refine lv_ldc2 (v := (-9223372036854775808 : Int64)) hx hb hE.2.2.2.1 (hE.2.2.2.2.1 _ q470) dX8_record_131 ?_
          refine lv_goto (tgt := 145) hx hb dX8_record_134 (by decide) ?_
          obtain rfl := Option.some.inj h
          exact k_lret hE hr hlk hW rfl rfl dX8_record_145
      have h := it_f k_16 h
      rcases Classical.em (a3 = (5 : Int32)) with k_20 | k_20
      · have h := it_t k_20 h
        refine lv_tableIn (tgt := 146) hx hb dX8_record_39 (by rw [k_20]; decide) (by rw [k_20]; decide) (by rw [k_20]; rfl) (by decide) ?_
        refine lv_aload hx hb dX8_record_146 (lv_at hl 0 rfl) ?_
        refine lv_iload_n hx hb dX8_record_148 rfl (lv_at hl 3 rfl) ?_
        obtain ⟨r_21, hr_21, h⟩ := zb_e h
        refine k_callVNi (rest := []) hE hW hl.1 (mX3_segmentOf ((hB_st.lv).log hg_6) hr_21) ((hB_st.lv).log hg_6).o ((hB_st.lv).log hg_6).obj rfl q471 q473 qs35 q3 q474 hd_X3_segmentOf.2 ⟨Nat.le_of_ble_eq_true rfl, Nat.le_of_ble_eq_true rfl⟩ ⟨rfl, rfl⟩ rfl (Nat.le_of_ble_eq_true rfl) dX8_record_149 ⟨Nat.zero_le _, Nat.zero_le _⟩ (fun c1 H locs hP hW => ?_)
        rw [hP] at hW
        refine lv_i2l (v := r_21.toInt64) hx hb dX8_record_152 rfl ?_
        obtain rfl := Option.some.inj h
        exact k_lret hE hr hlk hW rfl rfl dX8_record_153
      have h := it_f k_20 h
      refine lv_tableOut (tgt := 154) hx hb dX8_record_39 (tb_out6 k_7 k_9 k_11 k_13 k_16 k_20) (by decide) ?_
      refine lv_ldc2 (v := (-9223372036854775808 : Int64)) hx hb hE.2.2.2.1 (hE.2.2.2.2.1 _ q470) dX8_record_154 ?_
      obtain rfl := Option.some.inj h
      exact k_lret hE hr hlk hW rfl rfl dX8_record_157
    · have h := it_t k_5 h
      refine lv_ldc2 (v := (-9223372036854775808 : Int64)) hx hb hE.2.2.2.1 (hE.2.2.2.2.1 _ q470) dX8_record_23 ?_
      obtain rfl := Option.some.inj h
      exact k_lret hE hr hlk hW rfl rfl dX8_record_26
set_option maxHeartbeats 4000000 in
set_option maxRecDepth 100000 in
theorem mX8_segment {l : Launch} {D : va_G} {ct : Nat → ClassId} {J : List Nat} {ad : Nat → Nat} {c0 : CF} {a1 : Int32} {a2 : Int32} {a3 : Int32} {b : Nat} {st : KS} (hB_st : KlB ct J ad c0 b st) {r : Int32} (h : fX8_segment  a1 a2 a3 st = some r) : Mi l D ct J ad yX8_segment cX8_segment 5 (some .int) (rr 2 44) [.ref (ad b), .int a1, .int a2, .int a3] c0 r (fun c' => c' = c0) := by
  refine Mi_of (own := RX8) (by decide) rfl (Nat.le_of_ble_eq_true rfl) (fun p e s m below meth cd hE hr hlk hW ls hl => ?_)
  have hx := hE.1
  have hb := hE.2.1
  have hl : lv_has ls 5 [(0, .ref (ad b)), (1, .int a1), (2, .int a2), (3, .int a3)] := hl
  rw [fX8_segment] at h
  refine lv_iload_n hx hb dX8_segment_0 rfl (lv_at hl 1 rfl) ?_
  obtain ⟨r_1, hr_1, h⟩ := zb_e h
  refine k_callSi (rest := []) hE hW hl.1 (mX8_isLog hr_1) q286 q287 q1 q288 hd_X8_isLog.2 ⟨Nat.le_of_ble_eq_true rfl, Nat.le_of_ble_eq_true rfl⟩ ⟨rfl, rfl⟩ rfl (Nat.le_of_ble_eq_true rfl) dX8_segment_1 ⟨Nat.zero_le _, Nat.zero_le _⟩ (fun c1 H locs hP hW => ?_)
  rw [hP] at hW
  refine lv_if_eq (tgt := 27) hx hb dX8_segment_4 (by decide) (fun k_2 => ?_) (fun k_2 => ?_)
  · have h := it_t k_2 h
    refine lv_iconst (v := (-1 : Int32)) hx hb dX8_segment_27 (by decide) ?_
    obtain rfl := Option.some.inj h
    exact k_iret hE hr hlk hW rfl rfl dX8_segment_28
  · have h := it_f k_2 h
    refine lv_iload_n hx hb dX8_segment_7 rfl (lv_at hl 2 rfl) ?_
    refine lv_if_lt (tgt := 27) hx hb dX8_segment_8 (by decide) (fun k_3 => ?_) (fun k_3 => ?_)
    · have h := it_t k_3 h
      refine lv_iconst (v := (-1 : Int32)) hx hb dX8_segment_27 (by decide) ?_
      obtain rfl := Option.some.inj h
      exact k_iret hE hr hlk hW rfl rfl dX8_segment_28
    · have h := it_f k_3 h
      refine lv_iload_n hx hb dX8_segment_11 rfl (lv_at hl 2 rfl) ?_
      refine lv_aload_n hx hb dX8_segment_12 rfl (lv_at hl 0 rfl) ?_
      refine k_get (v := .ref (ad (b + 1))) hE hW hB_st.o hB_st.obj rfl inX8 0 (by decide) q244 rfl dX8_segment_13 ?_
      refine k_getN (v := .ref (ad (b + 1 + 1))) hE hW (hB_st.lv).o (hB_st.lv).obj rfl inX5 0 (by decide) q131 rfl dX8_segment_16 ?_
      refine lv_iload_n hx hb dX8_segment_19 rfl (lv_at hl 1 rfl) ?_
      obtain ⟨g_4, h⟩ := zi_e h
      have hg_4 := vp_lt g_4
      refine k_aaldR3 (g := fun i => b + 1 + 1 + 1 + 8 * i) hE hW (hB_st.lv).logs.o (hB_st.lv).logs.out g_4 dX8_segment_20 ?_
      refine k_getN (v := .int ((st.1.1 a1.toNatClampNeg).2 1)) hE hW ((hB_st.lv).log hg_4).o ((hB_st.lv).log hg_4).obj rfl inX3 8 (by decide) q59 rfl dX8_segment_21 ?_
      refine lv_icmp_lt (tgt := 29) hx hb dX8_segment_24 (by decide) (fun k_5 => ?_) (fun k_5 => ?_)
      · have h := it_t k_5 h
        refine lv_aload_n hx hb dX8_segment_29 rfl (lv_at hl 0 rfl) ?_
        refine k_get (v := .ref (ad (b + 1))) hE hW hB_st.o hB_st.obj rfl inX8 0 (by decide) q244 rfl dX8_segment_30 ?_
        refine k_getN (v := .ref (ad (b + 1 + 1))) hE hW (hB_st.lv).o (hB_st.lv).obj rfl inX5 0 (by decide) q131 rfl dX8_segment_33 ?_
        refine lv_iload_n hx hb dX8_segment_36 rfl (lv_at hl 1 rfl) ?_
        obtain ⟨g_6, h⟩ := zi_e h
        have hg_6 := vp_lt g_6
        refine k_aaldR3 (g := fun i => b + 1 + 1 + 1 + 8 * i) hE hW (hB_st.lv).logs.o (hB_st.lv).logs.out g_6 dX8_segment_37 ?_
        refine lv_astore (lv' := [(4, .ref (ad (b + 1 + 1 + 1 + 8 * a1.toNatClampNeg))), (0, .ref (ad b)), (1, .int a1), (2, .int a2), (3, .int a3)]) hx hb dX8_segment_38 hl (by decide) rfl (fun ls hl => ?_)
        refine lv_iload_n hx hb dX8_segment_40 rfl (lv_at hl 4 rfl) ?_
        rcases Classical.em (a3 = (0 : Int32)) with k_7 | k_7
        · have h := it_t k_7 h
          refine lv_tableIn (tgt := 72) hx hb dX8_segment_41 (by rw [k_7]; decide) (by rw [k_7]; decide) (by rw [k_7]; rfl) (by decide) ?_
          refine lv_aload hx hb dX8_segment_72 (lv_at hl 0 rfl) ?_
          refine k_getN (v := .ref (ad (b + 1 + 1 + 1 + 8 * a1.toNatClampNeg + 1 + 5))) hE hW ((hB_st.lv).log hg_6).o ((hB_st.lv).log hg_6).obj rfl inX3 5 (by decide) q51 rfl dX8_segment_74 ?_
          refine lv_iload_n hx hb dX8_segment_77 rfl (lv_at hl 3 rfl) ?_
          obtain ⟨g_8, h⟩ := zi_e h
          refine k_iald hE hW (((hB_st.lv).log hg_6).memA 5 (Nat.le_of_ble_eq_true rfl)) (((hB_st.lv).log hg_6).arr 5 rfl) g_8 dX8_segment_78 ?_
          obtain rfl := Option.some.inj h
          exact k_iret hE hr hlk hW rfl rfl dX8_segment_79
        have h := it_f k_7 h
        rcases Classical.em (a3 = (1 : Int32)) with k_9 | k_9
        · have h := it_t k_9 h
          refine lv_tableIn (tgt := 80) hx hb dX8_segment_41 (by rw [k_9]; decide) (by rw [k_9]; decide) (by rw [k_9]; rfl) (by decide) ?_
          refine lv_aload hx hb dX8_segment_80 (lv_at hl 0 rfl) ?_
          refine lv_aload hx hb dX8_segment_82 (lv_at hl 0 rfl) ?_
          refine k_getN (v := .ref (ad (b + 1 + 1 + 1 + 8 * a1.toNatClampNeg + 1 + 5))) hE hW ((hB_st.lv).log hg_6).o ((hB_st.lv).log hg_6).obj rfl inX3 5 (by decide) q51 rfl dX8_segment_84 ?_
          refine lv_iload_n hx hb dX8_segment_87 rfl (lv_at hl 3 rfl) ?_
          obtain ⟨g_10, h⟩ := zi_e h
          refine k_iald hE hW (((hB_st.lv).log hg_6).memA 5 (Nat.le_of_ble_eq_true rfl)) (((hB_st.lv).log hg_6).arr 5 rfl) g_10 dX8_segment_88 ?_
          refine lv_aload hx hb dX8_segment_89 (lv_at hl 0 rfl) ?_
          refine lv_iload_n hx hb dX8_segment_91 rfl (lv_at hl 3 rfl) ?_
          obtain ⟨r_11, hr_11, h⟩ := zb_e h
          refine k_callVNi (rest := [.int ((st.1.1 a1.toNatClampNeg).1 5 a2.toNatClampNeg), .ref (ad (b + 1 + 1 + 1 + 8 * a1.toNatClampNeg))]) hE hW hl.1 (mX3_segmentEnd ((hB_st.lv).log hg_6) hr_11) ((hB_st.lv).log hg_6).o ((hB_st.lv).log hg_6).obj rfl q479 q363 qs14 q3 q364 hd_X3_segmentEnd.2 ⟨Nat.le_of_ble_eq_true rfl, Nat.le_of_ble_eq_true rfl⟩ ⟨rfl, rfl⟩ rfl (Nat.le_of_ble_eq_true rfl) dX8_segment_92 ⟨Nat.zero_le _, Nat.zero_le _⟩ (fun c1 H locs hP hW => ?_)
          rw [hP] at hW
          obtain ⟨r_12, hr_12, h⟩ := zb_e h
          refine k_callVNi (rest := []) hE hW hl.1 (mX3_recordsIn ((hB_st.lv).log hg_6) hr_12) ((hB_st.lv).log hg_6).o ((hB_st.lv).log hg_6).obj rfl q480 q302 qs3 q3 q303 hd_X3_recordsIn.2 ⟨Nat.le_of_ble_eq_true rfl, Nat.le_of_ble_eq_true rfl⟩ ⟨rfl, rfl⟩ rfl (Nat.le_of_ble_eq_true rfl) dX8_segment_95 ⟨Nat.zero_le _, Nat.zero_le _⟩ (fun c1 H locs hP hW => ?_)
          rw [hP] at hW
          obtain rfl := Option.some.inj h
          exact k_iret hE hr hlk hW rfl rfl dX8_segment_98
        have h := it_f k_9 h
        rcases Classical.em (a3 = (2 : Int32)) with k_13 | k_13
        · have h := it_t k_13 h
          refine lv_tableIn (tgt := 99) hx hb dX8_segment_41 (by rw [k_13]; decide) (by rw [k_13]; decide) (by rw [k_13]; rfl) (by decide) ?_
          refine lv_aload hx hb dX8_segment_99 (lv_at hl 0 rfl) ?_
          refine lv_aload hx hb dX8_segment_101 (lv_at hl 0 rfl) ?_
          refine k_getN (v := .ref (ad (b + 1 + 1 + 1 + 8 * a1.toNatClampNeg + 1 + 5))) hE hW ((hB_st.lv).log hg_6).o ((hB_st.lv).log hg_6).obj rfl inX3 5 (by decide) q51 rfl dX8_segment_103 ?_
          refine lv_iload_n hx hb dX8_segment_106 rfl (lv_at hl 3 rfl) ?_
          obtain ⟨g_14, h⟩ := zi_e h
          refine k_iald hE hW (((hB_st.lv).log hg_6).memA 5 (Nat.le_of_ble_eq_true rfl)) (((hB_st.lv).log hg_6).arr 5 rfl) g_14 dX8_segment_107 ?_
          refine lv_aload hx hb dX8_segment_108 (lv_at hl 0 rfl) ?_
          refine lv_iload_n hx hb dX8_segment_110 rfl (lv_at hl 3 rfl) ?_
          obtain ⟨r_15, hr_15, h⟩ := zb_e h
          refine k_callVNi (rest := [.int ((st.1.1 a1.toNatClampNeg).1 5 a2.toNatClampNeg), .ref (ad (b + 1 + 1 + 1 + 8 * a1.toNatClampNeg))]) hE hW hl.1 (mX3_segmentEnd ((hB_st.lv).log hg_6) hr_15) ((hB_st.lv).log hg_6).o ((hB_st.lv).log hg_6).obj rfl q479 q363 qs14 q3 q364 hd_X3_segmentEnd.2 ⟨Nat.le_of_ble_eq_true rfl, Nat.le_of_ble_eq_true rfl⟩ ⟨rfl, rfl⟩ rfl (Nat.le_of_ble_eq_true rfl) dX8_segment_111 ⟨Nat.zero_le _, Nat.zero_le _⟩ (fun c1 H locs hP hW => ?_)
          rw [hP] at hW
          obtain ⟨r_16, hr_16, h⟩ := zb_e h
          refine k_callVNi (rest := []) hE hW hl.1 (mX3_sizesIn ((hB_st.lv).log hg_6) hr_16) ((hB_st.lv).log hg_6).o ((hB_st.lv).log hg_6).obj rfl q442 q307 qs4 q3 q308 hd_X3_sizesIn.2 ⟨Nat.le_of_ble_eq_true rfl, Nat.le_of_ble_eq_true rfl⟩ ⟨rfl, rfl⟩ rfl (Nat.le_of_ble_eq_true rfl) dX8_segment_114 ⟨Nat.zero_le _, Nat.zero_le _⟩ (fun c1 H locs hP hW => ?_)
          rw [hP] at hW
          obtain rfl := Option.some.inj h
          exact k_iret hE hr hlk hW rfl rfl dX8_segment_117
        have h := it_f k_13 h
        rcases Classical.em (a3 = (3 : Int32)) with k_17 | k_17
        · have h := it_t k_17 h
          refine lv_tableIn (tgt := 118) hx hb dX8_segment_41 (by rw [k_17]; decide) (by rw [k_17]; decide) (by rw [k_17]; rfl) (by decide) ?_
          refine lv_aload hx hb dX8_segment_118 (lv_at hl 0 rfl) ?_
          refine lv_iload_n hx hb dX8_segment_120 rfl (lv_at hl 3 rfl) ?_
          obtain ⟨r_18, hr_18, h⟩ := zb_e h
          refine k_callVNi (rest := []) hE hW hl.1 (mX3_isClosed ((hB_st.lv).log hg_6) hr_18) ((hB_st.lv).log hg_6).o ((hB_st.lv).log hg_6).obj rfl q481 q355 qs12 q3 q356 hd_X3_isClosed.2 ⟨Nat.le_of_ble_eq_true rfl, Nat.le_of_ble_eq_true rfl⟩ ⟨rfl, rfl⟩ rfl (Nat.le_of_ble_eq_true rfl) dX8_segment_121 ⟨Nat.zero_le _, Nat.zero_le _⟩ (fun c1 H locs hP hW => ?_)
          rw [hP] at hW
          refine lv_if_eq (tgt := 131) hx hb dX8_segment_124 (by decide) (fun k_19 => ?_) (fun k_19 => ?_)
          · have h := it_t k_19 h
            refine lv_iconst (v := (0 : Int32)) hx hb dX8_segment_131 (by decide) ?_
            obtain rfl := Option.some.inj h
            exact k_iret hE hr hlk hW rfl rfl dX8_segment_132
          · have h := it_f k_19 h
            refine lv_iconst (v := (1 : Int32)) hx hb dX8_segment_127 (by decide) ?_
            refine lv_goto (tgt := 132) hx hb dX8_segment_128 (by decide) ?_
            obtain rfl := Option.some.inj h
            exact k_iret hE hr hlk hW rfl rfl dX8_segment_132
        have h := it_f k_17 h
        refine lv_tableOut (tgt := 133) hx hb dX8_segment_41 (tb_out4 k_7 k_9 k_13 k_17) (by decide) ?_
        refine lv_iconst (v := (-1 : Int32)) hx hb dX8_segment_133 (by decide) ?_
        obtain rfl := Option.some.inj h
        exact k_iret hE hr hlk hW rfl rfl dX8_segment_134
      · have h := it_f k_5 h
        refine lv_iconst (v := (-1 : Int32)) hx hb dX8_segment_27 (by decide) ?_
        obtain rfl := Option.some.inj h
        exact k_iret hE hr hlk hW rfl rfl dX8_segment_28
set_option maxHeartbeats 4000000 in
set_option maxRecDepth 100000 in
theorem mX8_value {l : Launch} {D : va_G} {ct : Nat → ClassId} {J : List Nat} {ad : Nat → Nat} {c0 : CF} {a1 : Int32} {a2 : Int32} {b : Nat} {st : KS} (hB_st : KlB ct J ad c0 b st) {r : Int64} {st9 : KS} (h : fX8_value  a1 a2 st = some (r, st9)) : Ml l D ct J ad yX8_value cX8_value 3 (some .long) (rr 2 44) [.ref (ad b), .int a1, .int a2] c0 r (fun c' => KlB ct J ad c' b st9 ∧ Fr c0 c' b 160) := by
  refine Ml_of (own := RX8) (by decide) rfl (Nat.le_of_ble_eq_true rfl) (fun p e s m below meth cd hE hr hlk hW ls hl => ?_)
  have hx := hE.1
  have hb := hE.2.1
  have hl : lv_has ls 3 [(0, .ref (ad b)), (1, .int a1), (2, .int a2)] := hl
  rw [fX8_value] at h
  obtain ⟨c, hB_st, hF, hW⟩ : ∃ c', KlB ct J ad c' b st ∧ Fr c0 c' b 160 ∧ HW D J ad c' (aA J ad s.heap.size) s.heap s.heap [] := ⟨c0, hB_st, Fr.rf, hW⟩
  refine lv_iload_n hx hb dX8_value_0 rfl (lv_at hl 1 rfl) ?_
  obtain ⟨r_1, hr_1, h⟩ := zb_e h
  refine k_callSi (rest := []) hE hW hl.1 (mX8_isLog hr_1) q286 q287 q1 q288 hd_X8_isLog.2 ⟨Nat.le_of_ble_eq_true rfl, Nat.le_of_ble_eq_true rfl⟩ ⟨rfl, rfl⟩ rfl (Nat.le_of_ble_eq_true rfl) dX8_value_1 ⟨Nat.zero_le _, Nat.zero_le _⟩ (fun c1 H locs hP hW => ?_)
  rw [hP] at hW
  refine lv_if_eq (tgt := 42) hx hb dX8_value_4 (by decide) (fun k_2 => ?_) (fun k_2 => ?_)
  · have h := it_t k_2 h
    refine lv_ldc2 (v := (-9223372036854775808 : Int64)) hx hb hE.2.2.2.1 (hE.2.2.2.2.1 _ q470) dX8_value_42 ?_
    obtain ⟨rfl, rfl⟩ := Prod.mk.inj (Option.some.inj h)
    exact k_lret hE hr hlk hW ⟨hB_st, hF⟩ rfl dX8_value_45
  · have h := it_f k_2 h
    refine lv_iload_n hx hb dX8_value_7 rfl (lv_at hl 2 rfl) ?_
    obtain ⟨r_3, hr_3, h⟩ := zb_e h
    refine k_callSi (rest := []) hE hW hl.1 (mX8_isKey hr_3) q289 q290 q1 q291 hd_X8_isKey.2 ⟨Nat.le_of_ble_eq_true rfl, Nat.le_of_ble_eq_true rfl⟩ ⟨rfl, rfl⟩ rfl (Nat.le_of_ble_eq_true rfl) dX8_value_8 ⟨Nat.zero_le _, Nat.zero_le _⟩ (fun c1 H locs hP hW => ?_)
    rw [hP] at hW
    refine lv_if_eq (tgt := 42) hx hb dX8_value_11 (by decide) (fun k_4 => ?_) (fun k_4 => ?_)
    · have h := it_t k_4 h
      refine lv_ldc2 (v := (-9223372036854775808 : Int64)) hx hb hE.2.2.2.1 (hE.2.2.2.2.1 _ q470) dX8_value_42 ?_
      obtain ⟨rfl, rfl⟩ := Prod.mk.inj (Option.some.inj h)
      exact k_lret hE hr hlk hW ⟨hB_st, hF⟩ rfl dX8_value_45
    · have h := it_f k_4 h
      refine lv_aload_n hx hb dX8_value_14 rfl (lv_at hl 0 rfl) ?_
      refine k_get (v := .ref (ad (b + 1))) hE hW hB_st.o hB_st.obj rfl inX8 0 (by decide) q244 rfl dX8_value_15 ?_
      refine k_getN (v := .ref (ad (b + 1 + 1))) hE hW (hB_st.lv).o (hB_st.lv).obj rfl inX5 0 (by decide) q131 rfl dX8_value_18 ?_
      refine lv_iload_n hx hb dX8_value_21 rfl (lv_at hl 1 rfl) ?_
      obtain ⟨g_5, h⟩ := zi_e h
      have hg_5 := vp_lt g_5
      refine k_aaldR3 (g := fun i => b + 1 + 1 + 1 + 8 * i) hE hW (hB_st.lv).logs.o (hB_st.lv).logs.out g_5 dX8_value_22 ?_
      refine lv_iload_n hx hb dX8_value_23 rfl (lv_at hl 2 rfl) ?_
      refine lv_aload_n hx hb dX8_value_24 rfl (lv_at hl 0 rfl) ?_
      refine k_get (v := .ref (ad (b + 1))) hE hW hB_st.o hB_st.obj rfl inX8 0 (by decide) q244 rfl dX8_value_25 ?_
      refine k_getN (v := .ref (ad (b + 1 + 1))) hE hW (hB_st.lv).o (hB_st.lv).obj rfl inX5 0 (by decide) q131 rfl dX8_value_28 ?_
      refine lv_iload_n hx hb dX8_value_31 rfl (lv_at hl 1 rfl) ?_
      obtain ⟨g_6, h⟩ := zi_e h
      have hg_6 := vp_lt g_6
      refine k_aaldR3 (g := fun i => b + 1 + 1 + 1 + 8 * i) hE hW (hB_st.lv).logs.o (hB_st.lv).logs.out g_6 dX8_value_32 ?_
      refine k_getN (v := .int ((st.1.1 a1.toNatClampNeg).2 0)) hE hW ((hB_st.lv).log hg_6).o ((hB_st.lv).log hg_6).obj rfl inX3 7 (by decide) q57 rfl dX8_value_33 ?_
      obtain ⟨r_7, y_9, hr_7, h⟩ := zb2_e h
      obtain ⟨st_8, est_8, h⟩ := zl_e h
      refine k_callVNl (rest := []) hE hW hl.1 (mX3_mapValue ((hB_st.lv).log hg_5) hr_7) ((hB_st.lv).log hg_5).o ((hB_st.lv).log hg_5).obj rfl q486 q488 qs36 q3 q489 hd_X3_mapValue.2 ⟨Nat.le_of_ble_eq_true rfl, Nat.le_of_ble_eq_true rfl⟩ ⟨rfl, rfl⟩ rfl (Nat.le_of_ble_eq_true rfl) dX8_value_36 ⟨Nat.zero_le _, Nat.zero_le _⟩ (fun c1 H locs hP hW => ?_)
      obtain ⟨c, hB_st, hF, hW⟩ : ∃ c', KlB ct J ad c' b st_8 ∧ Fr c0 c' b 160 ∧ HW D J ad c' (aA J ad s.heap.size) s.heap H locs := ⟨c1, by rw [est_8]; exact (hB_st.pLv ((hB_st.lv).pLog hg_5 hP.1 hP.2) (hP.2.wide (by omega) (by omega))), hF.trans (hP.2.wide (by omega) (by omega)), hW⟩
      refine lv_goto (tgt := 45) hx hb dX8_value_39 (by decide) ?_
      obtain ⟨rfl, rfl⟩ := Prod.mk.inj (Option.some.inj h)
      exact k_lret hE hr hlk hW ⟨hB_st, hF⟩ rfl dX8_value_45
set_option maxHeartbeats 4000000 in
set_option maxRecDepth 100000 in
theorem mX8_map {l : Launch} {D : va_G} {ct : Nat → ClassId} {J : List Nat} {ad : Nat → Nat} {c0 : CF} {a1 : Int32} {a2 : Int32} {b : Nat} {st : KS} (hB_st : KlB ct J ad c0 b st) {r : Int64} {st9 : KS} (h : fX8_map  a1 a2 st = some (r, st9)) : Ml l D ct J ad yX8_map cX8_map 4 (some .long) (rr 3 76) [.ref (ad b), .int a1, .int a2] c0 r (fun c' => KlB ct J ad c' b st9 ∧ Fr c0 c' b 160) := by
  refine Ml_of (own := RX8) (by decide) rfl (Nat.le_of_ble_eq_true rfl) (fun p e s m below meth cd hE hr hlk hW ls hl => ?_)
  have hx := hE.1
  have hb := hE.2.1
  have hl : lv_has ls 4 [(0, .ref (ad b)), (1, .int a1), (2, .int a2)] := hl
  rw [fX8_map] at h
  obtain ⟨c, hB_st, hF, hW⟩ : ∃ c', KlB ct J ad c' b st ∧ Fr c0 c' b 160 ∧ HW D J ad c' (aA J ad s.heap.size) s.heap s.heap [] := ⟨c0, hB_st, Fr.rf, hW⟩
  refine lv_iload_n hx hb dX8_map_0 rfl (lv_at hl 1 rfl) ?_
  obtain ⟨r_1, hr_1, h⟩ := zb_e h
  refine k_callSi (rest := []) hE hW hl.1 (mX8_isLog hr_1) q286 q287 q1 q288 hd_X8_isLog.2 ⟨Nat.le_of_ble_eq_true rfl, Nat.le_of_ble_eq_true rfl⟩ ⟨rfl, rfl⟩ rfl (Nat.le_of_ble_eq_true rfl) dX8_map_1 ⟨Nat.zero_le _, Nat.zero_le _⟩ (fun c1 H locs hP hW => ?_)
  rw [hP] at hW
  refine lv_if_ne (tgt := 11) hx hb dX8_map_4 (by decide) (fun k_2 => ?_) (fun k_2 => ?_)
  · have h := it_f k_2 h
    refine lv_aload_n hx hb dX8_map_11 rfl (lv_at hl 0 rfl) ?_
    refine k_get (v := .ref (ad (b + 1))) hE hW hB_st.o hB_st.obj rfl inX8 0 (by decide) q244 rfl dX8_map_12 ?_
    refine k_getN (v := .ref (ad (b + 1 + 1))) hE hW (hB_st.lv).o (hB_st.lv).obj rfl inX5 0 (by decide) q131 rfl dX8_map_15 ?_
    refine lv_iload_n hx hb dX8_map_18 rfl (lv_at hl 1 rfl) ?_
    obtain ⟨g_3, h⟩ := zi_e h
    have hg_3 := vp_lt g_3
    refine k_aaldR3 (g := fun i => b + 1 + 1 + 1 + 8 * i) hE hW (hB_st.lv).logs.o (hB_st.lv).logs.out g_3 dX8_map_19 ?_
    refine lv_astore_n (lv' := [(3, .ref (ad (b + 1 + 1 + 1 + 8 * a1.toNatClampNeg))), (0, .ref (ad b)), (1, .int a1), (2, .int a2)]) hx hb dX8_map_20 rfl hl (by decide) rfl (fun ls hl => ?_)
    refine lv_iload_n hx hb dX8_map_21 rfl (lv_at hl 3 rfl) ?_
    rcases Classical.em (a2 = (0 : Int32)) with k_4 | k_4
    · have h := it_t k_4 h
      refine lv_tableIn (tgt := 56) hx hb dX8_map_22 (by rw [k_4]; decide) (by rw [k_4]; decide) (by rw [k_4]; rfl) (by decide) ?_
      refine lv_aload_n hx hb dX8_map_56 rfl (lv_at hl 0 rfl) ?_
      refine lv_aload_n hx hb dX8_map_57 rfl (lv_at hl 0 rfl) ?_
      refine k_getN (v := .int ((st.1.1 a1.toNatClampNeg).2 0)) hE hW ((hB_st.lv).log hg_3).o ((hB_st.lv).log hg_3).obj rfl inX3 7 (by decide) q57 rfl dX8_map_58 ?_
      obtain ⟨r_5, y_7, hr_5, h⟩ := zb2_e h
      obtain ⟨st_6, est_6, h⟩ := zl_e h
      refine k_callVNi (rest := []) hE hW hl.1 (mX3_mapSize ((hB_st.lv).log hg_3) hr_5) ((hB_st.lv).log hg_3).o ((hB_st.lv).log hg_3).obj rfl q443 q445 qs30 q3 q446 hd_X3_mapSize.2 ⟨Nat.le_of_ble_eq_true rfl, Nat.le_of_ble_eq_true rfl⟩ ⟨rfl, rfl⟩ rfl (Nat.le_of_ble_eq_true rfl) dX8_map_61 ⟨Nat.zero_le _, Nat.zero_le _⟩ (fun c1 H locs hP hW => ?_)
      obtain ⟨c, hB_st, hF, hW⟩ : ∃ c', KlB ct J ad c' b st_6 ∧ Fr c0 c' b 160 ∧ HW D J ad c' (aA J ad s.heap.size) s.heap H locs := ⟨c1, by rw [est_6]; exact (hB_st.pLv ((hB_st.lv).pLog hg_3 hP.1 hP.2) (hP.2.wide (by omega) (by omega))), hF.trans (hP.2.wide (by omega) (by omega)), hW⟩
      refine lv_i2l (v := r_5.toInt64) hx hb dX8_map_64 rfl ?_
      obtain ⟨rfl, rfl⟩ := Prod.mk.inj (Option.some.inj h)
      exact k_lret hE hr hlk hW ⟨hB_st, hF⟩ rfl dX8_map_65
    have h := it_f k_4 h
    rcases Classical.em (a2 = (1 : Int32)) with k_8 | k_8
    · have h := it_t k_8 h
      refine lv_tableIn (tgt := 66) hx hb dX8_map_22 (by rw [k_8]; decide) (by rw [k_8]; decide) (by rw [k_8]; rfl) (by decide) ?_
      refine lv_aload_n hx hb dX8_map_66 rfl (lv_at hl 0 rfl) ?_
      obtain ⟨r_9, y_11, hr_9, h⟩ := zb2_e h
      obtain ⟨st_10, est_10, h⟩ := zl_e h
      refine k_callVNi (rest := []) hE hW hl.1 (mX3_mapSum ((hB_st.lv).log hg_3) hr_9) ((hB_st.lv).log hg_3).o ((hB_st.lv).log hg_3).obj rfl q495 q497 qs37 q3 q498 hd_X3_mapSum.2 ⟨Nat.le_of_ble_eq_true rfl, Nat.le_of_ble_eq_true rfl⟩ ⟨rfl, rfl⟩ rfl (Nat.le_of_ble_eq_true rfl) dX8_map_67 ⟨Nat.zero_le _, Nat.zero_le _⟩ (fun c1 H locs hP hW => ?_)
      obtain ⟨c, hB_st, hF, hW⟩ : ∃ c', KlB ct J ad c' b st_10 ∧ Fr c0 c' b 160 ∧ HW D J ad c' (aA J ad s.heap.size) s.heap H locs := ⟨c1, by rw [est_10]; exact (hB_st.pLv ((hB_st.lv).pLog hg_3 hP.1 hP.2) (hP.2.wide (by omega) (by omega))), hF.trans (hP.2.wide (by omega) (by omega)), hW⟩
      refine lv_i2l (v := r_9.toInt64) hx hb dX8_map_70 rfl ?_
      obtain ⟨rfl, rfl⟩ := Prod.mk.inj (Option.some.inj h)
      exact k_lret hE hr hlk hW ⟨hB_st, hF⟩ rfl dX8_map_71
    have h := it_f k_8 h
    rcases Classical.em (a2 = (2 : Int32)) with k_12 | k_12
    · have h := it_t k_12 h
      refine lv_tableIn (tgt := 72) hx hb dX8_map_22 (by rw [k_12]; decide) (by rw [k_12]; decide) (by rw [k_12]; rfl) (by decide) ?_
      refine lv_aload_n hx hb dX8_map_72 rfl (lv_at hl 0 rfl) ?_
      obtain ⟨r_13, y_15, hr_13, h⟩ := zb2_e h
      obtain ⟨st_14, est_14, h⟩ := zl_e h
      refine k_callVNl (rest := []) hE hW hl.1 (mX3_mapLeast ((hB_st.lv).log hg_3) hr_13) ((hB_st.lv).log hg_3).o ((hB_st.lv).log hg_3).obj rfl q520 q522 qs40 q3 q523 hd_X3_mapLeast.2 ⟨Nat.le_of_ble_eq_true rfl, Nat.le_of_ble_eq_true rfl⟩ ⟨rfl, rfl⟩ rfl (Nat.le_of_ble_eq_true rfl) dX8_map_73 ⟨Nat.zero_le _, Nat.zero_le _⟩ (fun c1 H locs hP hW => ?_)
      obtain ⟨c, hB_st, hF, hW⟩ : ∃ c', KlB ct J ad c' b st_14 ∧ Fr c0 c' b 160 ∧ HW D J ad c' (aA J ad s.heap.size) s.heap H locs := ⟨c1, by rw [est_14]; exact (hB_st.pLv ((hB_st.lv).pLog hg_3 hP.1 hP.2) (hP.2.wide (by omega) (by omega))), hF.trans (hP.2.wide (by omega) (by omega)), hW⟩
      obtain ⟨rfl, rfl⟩ := Prod.mk.inj (Option.some.inj h)
      exact k_lret hE hr hlk hW ⟨hB_st, hF⟩ rfl dX8_map_76
    have h := it_f k_12 h
    rcases Classical.em (a2 = (3 : Int32)) with k_16 | k_16
    · have h := it_t k_16 h
      refine lv_tableIn (tgt := 77) hx hb dX8_map_22 (by rw [k_16]; decide) (by rw [k_16]; decide) (by rw [k_16]; rfl) (by decide) ?_
      refine lv_aload_n hx hb dX8_map_77 rfl (lv_at hl 0 rfl) ?_
      obtain ⟨r_17, y_19, hr_17, h⟩ := zb2_e h
      obtain ⟨st_18, est_18, h⟩ := zl_e h
      refine k_callVNl (rest := []) hE hW hl.1 (mX3_mapGreatest ((hB_st.lv).log hg_3) hr_17) ((hB_st.lv).log hg_3).o ((hB_st.lv).log hg_3).obj rfl q532 q534 qs42 q3 q535 hd_X3_mapGreatest.2 ⟨Nat.le_of_ble_eq_true rfl, Nat.le_of_ble_eq_true rfl⟩ ⟨rfl, rfl⟩ rfl (Nat.le_of_ble_eq_true rfl) dX8_map_78 ⟨Nat.zero_le _, Nat.zero_le _⟩ (fun c1 H locs hP hW => ?_)
      obtain ⟨c, hB_st, hF, hW⟩ : ∃ c', KlB ct J ad c' b st_18 ∧ Fr c0 c' b 160 ∧ HW D J ad c' (aA J ad s.heap.size) s.heap H locs := ⟨c1, by rw [est_18]; exact (hB_st.pLv ((hB_st.lv).pLog hg_3 hP.1 hP.2) (hP.2.wide (by omega) (by omega))), hF.trans (hP.2.wide (by omega) (by omega)), hW⟩
      obtain ⟨rfl, rfl⟩ := Prod.mk.inj (Option.some.inj h)
      exact k_lret hE hr hlk hW ⟨hB_st, hF⟩ rfl dX8_map_81
    have h := it_f k_16 h
    rcases Classical.em (a2 = (4 : Int32)) with k_20 | k_20
    · have h := it_t k_20 h
      refine lv_tableIn (tgt := 82) hx hb dX8_map_22 (by rw [k_20]; decide) (by rw [k_20]; decide) (by rw [k_20]; rfl) (by decide) ?_
      refine lv_aload_n hx hb dX8_map_82 rfl (lv_at hl 0 rfl) ?_
      obtain ⟨r_21, y_23, hr_21, h⟩ := zb2_e h
      obtain ⟨st_22, est_22, h⟩ := zl_e h
      refine k_callVNl (rest := []) hE hW hl.1 (mX3_mapMean ((hB_st.lv).log hg_3) hr_21) ((hB_st.lv).log hg_3).o ((hB_st.lv).log hg_3).obj rfl q536 q538 qs43 q3 q539 hd_X3_mapMean.2 ⟨Nat.le_of_ble_eq_true rfl, Nat.le_of_ble_eq_true rfl⟩ ⟨rfl, rfl⟩ rfl (Nat.le_of_ble_eq_true rfl) dX8_map_83 ⟨Nat.zero_le _, Nat.zero_le _⟩ (fun c1 H locs hP hW => ?_)
      obtain ⟨c, hB_st, hF, hW⟩ : ∃ c', KlB ct J ad c' b st_22 ∧ Fr c0 c' b 160 ∧ HW D J ad c' (aA J ad s.heap.size) s.heap H locs := ⟨c1, by rw [est_22]; exact (hB_st.pLv ((hB_st.lv).pLog hg_3 hP.1 hP.2) (hP.2.wide (by omega) (by omega))), hF.trans (hP.2.wide (by omega) (by omega)), hW⟩
      obtain ⟨rfl, rfl⟩ := Prod.mk.inj (Option.some.inj h)
      exact k_lret hE hr hlk hW ⟨hB_st, hF⟩ rfl dX8_map_86
    have h := it_f k_20 h
    refine lv_tableOut (tgt := 87) hx hb dX8_map_22 (tb_out5 k_4 k_8 k_12 k_16 k_20) (by decide) ?_
    refine lv_ldc2 (v := (-9223372036854775808 : Int64)) hx hb hE.2.2.2.1 (hE.2.2.2.2.1 _ q470) dX8_map_87 ?_
    obtain ⟨rfl, rfl⟩ := Prod.mk.inj (Option.some.inj h)
    exact k_lret hE hr hlk hW ⟨hB_st, hF⟩ rfl dX8_map_90
  · have h := it_t k_2 h
    refine lv_ldc2 (v := (-9223372036854775808 : Int64)) hx hb hE.2.2.2.1 (hE.2.2.2.2.1 _ q470) dX8_map_7 ?_
    obtain ⟨rfl, rfl⟩ := Prod.mk.inj (Option.some.inj h)
    exact k_lret hE hr hlk hW ⟨hB_st, hF⟩ rfl dX8_map_10
set_option maxHeartbeats 4000000 in
set_option maxRecDepth 100000 in
theorem mX8_replay {l : Launch} {D : va_G} {ct : Nat → ClassId} {J : List Nat} {ad : Nat → Nat} {c0 : CF} {a1 : Int32} {a2 : Int32} {a3 : Int32} {b : Nat} {st : KS} (hB_st : KlB ct J ad c0 b st) {r : Int64} {st9 : KS} (h : fX8_replay  a1 a2 a3 st = some (r, st9)) : Ml l D ct J ad yX8_replay cX8_replay 4 (some .long) (rr 2 45) [.ref (ad b), .int a1, .int a2, .int a3] c0 r (fun c' => KlB ct J ad c' b st9 ∧ Fr c0 c' b 160) := by
  refine Ml_of (own := RX8) (by decide) rfl (Nat.le_of_ble_eq_true rfl) (fun p e s m below meth cd hE hr hlk hW ls hl => ?_)
  have hx := hE.1
  have hb := hE.2.1
  have hl : lv_has ls 4 [(0, .ref (ad b)), (1, .int a1), (2, .int a2), (3, .int a3)] := hl
  rw [fX8_replay] at h
  obtain ⟨c, hB_st, hF, hW⟩ : ∃ c', KlB ct J ad c' b st ∧ Fr c0 c' b 160 ∧ HW D J ad c' (aA J ad s.heap.size) s.heap s.heap [] := ⟨c0, hB_st, Fr.rf, hW⟩
  refine lv_iload_n hx hb dX8_replay_0 rfl (lv_at hl 1 rfl) ?_
  obtain ⟨r_1, hr_1, h⟩ := zb_e h
  refine k_callSi (rest := []) hE hW hl.1 (mX8_isLog hr_1) q286 q287 q1 q288 hd_X8_isLog.2 ⟨Nat.le_of_ble_eq_true rfl, Nat.le_of_ble_eq_true rfl⟩ ⟨rfl, rfl⟩ rfl (Nat.le_of_ble_eq_true rfl) dX8_replay_1 ⟨Nat.zero_le _, Nat.zero_le _⟩ (fun c1 H locs hP hW => ?_)
  rw [hP] at hW
  refine lv_if_eq (tgt := 11) hx hb dX8_replay_4 (by decide) (fun k_2 => ?_) (fun k_2 => ?_)
  · have h := it_t k_2 h
    refine lv_ldc2 (v := (-9223372036854775808 : Int64)) hx hb hE.2.2.2.1 (hE.2.2.2.2.1 _ q470) dX8_replay_11 ?_
    obtain ⟨rfl, rfl⟩ := Prod.mk.inj (Option.some.inj h)
    exact k_lret hE hr hlk hW ⟨hB_st, hF⟩ rfl dX8_replay_14
  · have h := it_f k_2 h
    refine lv_iload_n hx hb dX8_replay_7 rfl (lv_at hl 2 rfl) ?_
    refine lv_if_ge (tgt := 15) hx hb dX8_replay_8 (by decide) (fun k_3 => ?_) (fun k_3 => ?_)
    · have h := it_t k_3 h
      refine lv_iload_n hx hb dX8_replay_15 rfl (lv_at hl 3 rfl) ?_
      refine lv_iconst (v := (-1 : Int32)) hx hb dX8_replay_16 (by decide) ?_
      refine lv_icmp_ne (tgt := 35) hx hb dX8_replay_17 (by decide) (fun k_4 => ?_) (fun k_4 => ?_)
      · have h := it_f k_4 h
        refine lv_iload_n hx hb dX8_replay_35 rfl (lv_at hl 3 rfl) ?_
        obtain ⟨r_5, hr_5, h⟩ := zb_e h
        refine k_callSi (rest := []) hE hW hl.1 (mX8_isKey hr_5) q289 q290 q1 q291 hd_X8_isKey.2 ⟨Nat.le_of_ble_eq_true rfl, Nat.le_of_ble_eq_true rfl⟩ ⟨rfl, rfl⟩ rfl (Nat.le_of_ble_eq_true rfl) dX8_replay_36 ⟨Nat.zero_le _, Nat.zero_le _⟩ (fun c1 H locs hP hW => ?_)
        rw [hP] at hW
        refine lv_if_eq (tgt := 59) hx hb dX8_replay_39 (by decide) (fun k_6 => ?_) (fun k_6 => ?_)
        · have h := it_t k_6 h
          refine lv_ldc2 (v := (-9223372036854775808 : Int64)) hx hb hE.2.2.2.1 (hE.2.2.2.2.1 _ q470) dX8_replay_59 ?_
          obtain ⟨rfl, rfl⟩ := Prod.mk.inj (Option.some.inj h)
          exact k_lret hE hr hlk hW ⟨hB_st, hF⟩ rfl dX8_replay_62
        · have h := it_f k_6 h
          refine lv_aload_n hx hb dX8_replay_42 rfl (lv_at hl 0 rfl) ?_
          refine k_get (v := .ref (ad (b + 1))) hE hW hB_st.o hB_st.obj rfl inX8 0 (by decide) q244 rfl dX8_replay_43 ?_
          refine k_getN (v := .ref (ad (b + 1 + 1))) hE hW (hB_st.lv).o (hB_st.lv).obj rfl inX5 0 (by decide) q131 rfl dX8_replay_46 ?_
          refine lv_iload_n hx hb dX8_replay_49 rfl (lv_at hl 1 rfl) ?_
          obtain ⟨g_7, h⟩ := zi_e h
          have hg_7 := vp_lt g_7
          refine k_aaldR3 (g := fun i => b + 1 + 1 + 1 + 8 * i) hE hW (hB_st.lv).logs.o (hB_st.lv).logs.out g_7 dX8_replay_50 ?_
          refine lv_iload_n hx hb dX8_replay_51 rfl (lv_at hl 3 rfl) ?_
          refine lv_iload_n hx hb dX8_replay_52 rfl (lv_at hl 2 rfl) ?_
          obtain ⟨r_8, y_10, hr_8, h⟩ := zb2_e h
          obtain ⟨st_9, est_9, h⟩ := zl_e h
          refine k_callVNl (rest := []) hE hW hl.1 (mX3_mapValue ((hB_st.lv).log hg_7) hr_8) ((hB_st.lv).log hg_7).o ((hB_st.lv).log hg_7).obj rfl q486 q488 qs36 q3 q489 hd_X3_mapValue.2 ⟨Nat.le_of_ble_eq_true rfl, Nat.le_of_ble_eq_true rfl⟩ ⟨rfl, rfl⟩ rfl (Nat.le_of_ble_eq_true rfl) dX8_replay_53 ⟨Nat.zero_le _, Nat.zero_le _⟩ (fun c1 H locs hP hW => ?_)
          obtain ⟨c, hB_st, hF, hW⟩ : ∃ c', KlB ct J ad c' b st_9 ∧ Fr c0 c' b 160 ∧ HW D J ad c' (aA J ad s.heap.size) s.heap H locs := ⟨c1, by rw [est_9]; exact (hB_st.pLv ((hB_st.lv).pLog hg_7 hP.1 hP.2) (hP.2.wide (by omega) (by omega))), hF.trans (hP.2.wide (by omega) (by omega)), hW⟩
          refine lv_goto (tgt := 62) hx hb dX8_replay_56 (by decide) ?_
          obtain ⟨rfl, rfl⟩ := Prod.mk.inj (Option.some.inj h)
          exact k_lret hE hr hlk hW ⟨hB_st, hF⟩ rfl dX8_replay_62
      · have h := it_t k_4 h
        refine lv_aload_n hx hb dX8_replay_20 rfl (lv_at hl 0 rfl) ?_
        refine k_get (v := .ref (ad (b + 1))) hE hW hB_st.o hB_st.obj rfl inX8 0 (by decide) q244 rfl dX8_replay_21 ?_
        refine k_getN (v := .ref (ad (b + 1 + 1))) hE hW (hB_st.lv).o (hB_st.lv).obj rfl inX5 0 (by decide) q131 rfl dX8_replay_24 ?_
        refine lv_iload_n hx hb dX8_replay_27 rfl (lv_at hl 1 rfl) ?_
        obtain ⟨g_11, h⟩ := zi_e h
        have hg_11 := vp_lt g_11
        refine k_aaldR3 (g := fun i => b + 1 + 1 + 1 + 8 * i) hE hW (hB_st.lv).logs.o (hB_st.lv).logs.out g_11 dX8_replay_28 ?_
        refine lv_iload_n hx hb dX8_replay_29 rfl (lv_at hl 2 rfl) ?_
        obtain ⟨r_12, y_14, hr_12, h⟩ := zb2_e h
        obtain ⟨st_13, est_13, h⟩ := zl_e h
        refine k_callVNi (rest := []) hE hW hl.1 (mX3_mapSize ((hB_st.lv).log hg_11) hr_12) ((hB_st.lv).log hg_11).o ((hB_st.lv).log hg_11).obj rfl q443 q445 qs30 q3 q446 hd_X3_mapSize.2 ⟨Nat.le_of_ble_eq_true rfl, Nat.le_of_ble_eq_true rfl⟩ ⟨rfl, rfl⟩ rfl (Nat.le_of_ble_eq_true rfl) dX8_replay_30 ⟨Nat.zero_le _, Nat.zero_le _⟩ (fun c1 H locs hP hW => ?_)
        obtain ⟨c, hB_st, hF, hW⟩ : ∃ c', KlB ct J ad c' b st_13 ∧ Fr c0 c' b 160 ∧ HW D J ad c' (aA J ad s.heap.size) s.heap H locs := ⟨c1, by rw [est_13]; exact (hB_st.pLv ((hB_st.lv).pLog hg_11 hP.1 hP.2) (hP.2.wide (by omega) (by omega))), hF.trans (hP.2.wide (by omega) (by omega)), hW⟩
        refine lv_i2l (v := r_12.toInt64) hx hb dX8_replay_33 rfl ?_
        obtain ⟨rfl, rfl⟩ := Prod.mk.inj (Option.some.inj h)
        exact k_lret hE hr hlk hW ⟨hB_st, hF⟩ rfl dX8_replay_34
    · have h := it_f k_3 h
      refine lv_ldc2 (v := (-9223372036854775808 : Int64)) hx hb hE.2.2.2.1 (hE.2.2.2.2.1 _ q470) dX8_replay_11 ?_
      obtain ⟨rfl, rfl⟩ := Prod.mk.inj (Option.some.inj h)
      exact k_lret hE hr hlk hW ⟨hB_st, hF⟩ rfl dX8_replay_14
set_option maxHeartbeats 4000000 in
set_option maxRecDepth 100000 in
theorem mX8_near {l : Launch} {D : va_G} {ct : Nat → ClassId} {J : List Nat} {ad : Nat → Nat} {c0 : CF} {a1 : Int32} {a2 : Int32} {a3 : Int32} {b : Nat} {st : KS} (hB_st : KlB ct J ad c0 b st) {r : Int32} (h : fX8_near  a1 a2 a3 st = some r) : Mi l D ct J ad yX8_near cX8_near 4 (some .int) (rr 2 42) [.ref (ad b), .int a1, .int a2, .int a3] c0 r (fun c' => c' = c0) := by
  refine Mi_of (own := RX8) (by decide) rfl (Nat.le_of_ble_eq_true rfl) (fun p e s m below meth cd hE hr hlk hW ls hl => ?_)
  have hx := hE.1
  have hb := hE.2.1
  have hl : lv_has ls 4 [(0, .ref (ad b)), (1, .int a1), (2, .int a2), (3, .int a3)] := hl
  rw [fX8_near] at h
  refine lv_iload_n hx hb dX8_near_0 rfl (lv_at hl 1 rfl) ?_
  obtain ⟨r_1, hr_1, h⟩ := zb_e h
  refine k_callSi (rest := []) hE hW hl.1 (mX8_isLog hr_1) q286 q287 q1 q288 hd_X8_isLog.2 ⟨Nat.le_of_ble_eq_true rfl, Nat.le_of_ble_eq_true rfl⟩ ⟨rfl, rfl⟩ rfl (Nat.le_of_ble_eq_true rfl) dX8_near_1 ⟨Nat.zero_le _, Nat.zero_le _⟩ (fun c1 H locs hP hW => ?_)
  rw [hP] at hW
  refine lv_if_eq (tgt := 16) hx hb dX8_near_4 (by decide) (fun k_2 => ?_) (fun k_2 => ?_)
  · have h := it_t k_2 h
    refine lv_iconst (v := (-1 : Int32)) hx hb dX8_near_16 (by decide) ?_
    obtain rfl := Option.some.inj h
    exact k_iret hE hr hlk hW rfl rfl dX8_near_17
  · have h := it_f k_2 h
    refine lv_iload_n hx hb dX8_near_7 rfl (lv_at hl 3 rfl) ?_
    refine lv_if_lt (tgt := 16) hx hb dX8_near_8 (by decide) (fun k_3 => ?_) (fun k_3 => ?_)
    · have h := it_t k_3 h
      refine lv_iconst (v := (-1 : Int32)) hx hb dX8_near_16 (by decide) ?_
      obtain rfl := Option.some.inj h
      exact k_iret hE hr hlk hW rfl rfl dX8_near_17
    · have h := it_f k_3 h
      refine lv_iload_n hx hb dX8_near_11 rfl (lv_at hl 3 rfl) ?_
      refine lv_iconst (v := (1 : Int32)) hx hb dX8_near_12 (by decide) ?_
      refine lv_icmp_le (tgt := 18) hx hb dX8_near_13 (by decide) (fun k_4 => ?_) (fun k_4 => ?_)
      · have h := it_t k_4 h
        refine lv_iload_n hx hb dX8_near_18 rfl (lv_at hl 3 rfl) ?_
        refine lv_if_ne (tgt := 38) hx hb dX8_near_19 (by decide) (fun k_5 => ?_) (fun k_5 => ?_)
        · have h := it_f k_5 h
          refine lv_aload_n hx hb dX8_near_38 rfl (lv_at hl 0 rfl) ?_
          refine k_get (v := .ref (ad (b + 1))) hE hW hB_st.o hB_st.obj rfl inX8 0 (by decide) q244 rfl dX8_near_39 ?_
          refine k_getN (v := .ref (ad (b + 1 + 1))) hE hW (hB_st.lv).o (hB_st.lv).obj rfl inX5 0 (by decide) q131 rfl dX8_near_42 ?_
          refine lv_iload_n hx hb dX8_near_45 rfl (lv_at hl 1 rfl) ?_
          obtain ⟨g_6, h⟩ := zi_e h
          have hg_6 := vp_lt g_6
          refine k_aaldR3 (g := fun i => b + 1 + 1 + 1 + 8 * i) hE hW (hB_st.lv).logs.o (hB_st.lv).logs.out g_6 dX8_near_46 ?_
          refine lv_iload_n hx hb dX8_near_47 rfl (lv_at hl 2 rfl) ?_
          obtain ⟨r_7, hr_7, h⟩ := zb_e h
          refine k_callVNi (rest := []) hE hW hl.1 (mX3_atOrBehind ((hB_st.lv).log hg_6) hr_7) ((hB_st.lv).log hg_6).o ((hB_st.lv).log hg_6).obj rfl q451 q453 qs32 q3 q454 hd_X3_atOrBehind.2 ⟨Nat.le_of_ble_eq_true rfl, Nat.le_of_ble_eq_true rfl⟩ ⟨rfl, rfl⟩ rfl (Nat.le_of_ble_eq_true rfl) dX8_near_48 ⟨Nat.zero_le _, Nat.zero_le _⟩ (fun c1 H locs hP hW => ?_)
          rw [hP] at hW
          obtain rfl := Option.some.inj h
          exact k_iret hE hr hlk hW rfl rfl dX8_near_51
        · have h := it_t k_5 h
          refine lv_aload_n hx hb dX8_near_22 rfl (lv_at hl 0 rfl) ?_
          refine k_get (v := .ref (ad (b + 1))) hE hW hB_st.o hB_st.obj rfl inX8 0 (by decide) q244 rfl dX8_near_23 ?_
          refine k_getN (v := .ref (ad (b + 1 + 1))) hE hW (hB_st.lv).o (hB_st.lv).obj rfl inX5 0 (by decide) q131 rfl dX8_near_26 ?_
          refine lv_iload_n hx hb dX8_near_29 rfl (lv_at hl 1 rfl) ?_
          obtain ⟨g_8, h⟩ := zi_e h
          have hg_8 := vp_lt g_8
          refine k_aaldR3 (g := fun i => b + 1 + 1 + 1 + 8 * i) hE hW (hB_st.lv).logs.o (hB_st.lv).logs.out g_8 dX8_near_30 ?_
          refine lv_iload_n hx hb dX8_near_31 rfl (lv_at hl 2 rfl) ?_
          obtain ⟨r_9, hr_9, h⟩ := zb_e h
          refine k_callVNi (rest := []) hE hW hl.1 (mX3_atOrBefore ((hB_st.lv).log hg_8) hr_9) ((hB_st.lv).log hg_8).o ((hB_st.lv).log hg_8).obj rfl q455 q457 qs33 q3 q458 hd_X3_atOrBefore.2 ⟨Nat.le_of_ble_eq_true rfl, Nat.le_of_ble_eq_true rfl⟩ ⟨rfl, rfl⟩ rfl (Nat.le_of_ble_eq_true rfl) dX8_near_32 ⟨Nat.zero_le _, Nat.zero_le _⟩ (fun c1 H locs hP hW => ?_)
          rw [hP] at hW
          refine lv_goto (tgt := 51) hx hb dX8_near_35 (by decide) ?_
          obtain rfl := Option.some.inj h
          exact k_iret hE hr hlk hW rfl rfl dX8_near_51
      · have h := it_f k_4 h
        refine lv_iconst (v := (-1 : Int32)) hx hb dX8_near_16 (by decide) ?_
        obtain rfl := Option.some.inj h
        exact k_iret hE hr hlk hW rfl rfl dX8_near_17
set_option maxHeartbeats 4000000 in
set_option maxRecDepth 100000 in
theorem mX8_oldest {l : Launch} {D : va_G} {ct : Nat → ClassId} {J : List Nat} {ad : Nat → Nat} {c0 : CF} {a1 : Int32} {a2 : Int32} {b : Nat} {st : KS} (hB_st : KlB ct J ad c0 b st) {r : Int32} (h : fX8_oldest  a1 a2 st = some r) : Mi l D ct J ad yX8_oldest cX8_oldest 3 (some .int) (rr 3 69) [.ref (ad b), .int a1, .int a2] c0 r (fun c' => c' = c0) := by
  refine Mi_of (own := RX8) (by decide) rfl (Nat.le_of_ble_eq_true rfl) (fun p e s m below meth cd hE hr hlk hW ls hl => ?_)
  have hx := hE.1
  have hb := hE.2.1
  have hl : lv_has ls 3 [(0, .ref (ad b)), (1, .int a1), (2, .int a2)] := hl
  rw [fX8_oldest] at h
  refine lv_iload_n hx hb dX8_oldest_0 rfl (lv_at hl 1 rfl) ?_
  obtain ⟨r_1, hr_1, h⟩ := zb_e h
  refine k_callSi (rest := []) hE hW hl.1 (mX8_isLog hr_1) q286 q287 q1 q288 hd_X8_isLog.2 ⟨Nat.le_of_ble_eq_true rfl, Nat.le_of_ble_eq_true rfl⟩ ⟨rfl, rfl⟩ rfl (Nat.le_of_ble_eq_true rfl) dX8_oldest_1 ⟨Nat.zero_le _, Nat.zero_le _⟩ (fun c1 H locs hP hW => ?_)
  rw [hP] at hW
  refine lv_if_eq (tgt := 27) hx hb dX8_oldest_4 (by decide) (fun k_2 => ?_) (fun k_2 => ?_)
  · have h := it_t k_2 h
    refine lv_iconst (v := (-1 : Int32)) hx hb dX8_oldest_27 (by decide) ?_
    obtain rfl := Option.some.inj h
    exact k_iret hE hr hlk hW rfl rfl dX8_oldest_28
  · have h := it_f k_2 h
    refine lv_iload_n hx hb dX8_oldest_7 rfl (lv_at hl 2 rfl) ?_
    refine lv_if_lt (tgt := 27) hx hb dX8_oldest_8 (by decide) (fun k_3 => ?_) (fun k_3 => ?_)
    · have h := it_t k_3 h
      refine lv_iconst (v := (-1 : Int32)) hx hb dX8_oldest_27 (by decide) ?_
      obtain rfl := Option.some.inj h
      exact k_iret hE hr hlk hW rfl rfl dX8_oldest_28
    · have h := it_f k_3 h
      refine lv_aload_n hx hb dX8_oldest_11 rfl (lv_at hl 0 rfl) ?_
      refine k_get (v := .ref (ad (b + 1))) hE hW hB_st.o hB_st.obj rfl inX8 0 (by decide) q244 rfl dX8_oldest_12 ?_
      refine k_getN (v := .ref (ad (b + 1 + 1))) hE hW (hB_st.lv).o (hB_st.lv).obj rfl inX5 0 (by decide) q131 rfl dX8_oldest_15 ?_
      refine lv_iload_n hx hb dX8_oldest_18 rfl (lv_at hl 1 rfl) ?_
      obtain ⟨g_4, h⟩ := zi_e h
      have hg_4 := vp_lt g_4
      refine k_aaldR3 (g := fun i => b + 1 + 1 + 1 + 8 * i) hE hW (hB_st.lv).logs.o (hB_st.lv).logs.out g_4 dX8_oldest_19 ?_
      refine lv_iload_n hx hb dX8_oldest_20 rfl (lv_at hl 2 rfl) ?_
      obtain ⟨r_5, hr_5, h⟩ := zb_e h
      refine k_callVNi (rest := []) hE hW hl.1 (mX3_byAge ((hB_st.lv).log hg_4) hr_5) ((hB_st.lv).log hg_4).o ((hB_st.lv).log hg_4).obj rfl q563 q565 qs44 q3 q566 hd_X3_byAge.2 ⟨Nat.le_of_ble_eq_true rfl, Nat.le_of_ble_eq_true rfl⟩ ⟨rfl, rfl⟩ rfl (Nat.le_of_ble_eq_true rfl) dX8_oldest_21 ⟨Nat.zero_le _, Nat.zero_le _⟩ (fun c1 H locs hP hW => ?_)
      rw [hP] at hW
      refine lv_goto (tgt := 28) hx hb dX8_oldest_24 (by decide) ?_
      obtain rfl := Option.some.inj h
      exact k_iret hE hr hlk hW rfl rfl dX8_oldest_28
set_option maxHeartbeats 4000000 in
set_option maxRecDepth 100000 in
theorem mX8_would {l : Launch} {D : va_G} {ct : Nat → ClassId} {J : List Nat} {ad : Nat → Nat} {c0 : CF} {a1 : Int32} {a2 : Int32} {b : Nat} {st : KS} (hB_st : KlB ct J ad c0 b st) {r : Int32} {st9 : KS} (h : fX8_would  a1 a2 st = some (r, st9)) : Mi l D ct J ad yX8_would cX8_would 4 (some .int) (rr 5 113) [.ref (ad b), .int a1, .int a2] c0 r (fun c' => KlB ct J ad c' b st9 ∧ Fr c0 c' b 160) := by
  refine Mi_of (own := RX8) (by decide) rfl (Nat.le_of_ble_eq_true rfl) (fun p e s m below meth cd hE hr hlk hW ls hl => ?_)
  have hx := hE.1
  have hb := hE.2.1
  have hl : lv_has ls 4 [(0, .ref (ad b)), (1, .int a1), (2, .int a2)] := hl
  rw [fX8_would] at h
  obtain ⟨c, hB_st, hF, hW⟩ : ∃ c', KlB ct J ad c' b st ∧ Fr c0 c' b 160 ∧ HW D J ad c' (aA J ad s.heap.size) s.heap s.heap [] := ⟨c0, hB_st, Fr.rf, hW⟩
  refine lv_iload_n hx hb dX8_would_0 rfl (lv_at hl 1 rfl) ?_
  obtain ⟨r_1, hr_1, h⟩ := zb_e h
  refine k_callSi (rest := []) hE hW hl.1 (mX8_isLog hr_1) q286 q287 q1 q288 hd_X8_isLog.2 ⟨Nat.le_of_ble_eq_true rfl, Nat.le_of_ble_eq_true rfl⟩ ⟨rfl, rfl⟩ rfl (Nat.le_of_ble_eq_true rfl) dX8_would_1 ⟨Nat.zero_le _, Nat.zero_le _⟩ (fun c1 H locs hP hW => ?_)
  rw [hP] at hW
  refine lv_if_eq (tgt := 16) hx hb dX8_would_4 (by decide) (fun k_2 => ?_) (fun k_2 => ?_)
  · have h := it_t k_2 h
    refine lv_iconst (v := (-1 : Int32)) hx hb dX8_would_16 (by decide) ?_
    obtain ⟨rfl, rfl⟩ := Prod.mk.inj (Option.some.inj h)
    exact k_iret hE hr hlk hW ⟨hB_st, hF⟩ rfl dX8_would_17
  · have h := it_f k_2 h
    refine lv_iload_n hx hb dX8_would_7 rfl (lv_at hl 2 rfl) ?_
    refine lv_if_lt (tgt := 16) hx hb dX8_would_8 (by decide) (fun k_3 => ?_) (fun k_3 => ?_)
    · have h := it_t k_3 h
      refine lv_iconst (v := (-1 : Int32)) hx hb dX8_would_16 (by decide) ?_
      obtain ⟨rfl, rfl⟩ := Prod.mk.inj (Option.some.inj h)
      exact k_iret hE hr hlk hW ⟨hB_st, hF⟩ rfl dX8_would_17
    · have h := it_f k_3 h
      refine lv_iload_n hx hb dX8_would_11 rfl (lv_at hl 2 rfl) ?_
      refine lv_iconst (v := (1 : Int32)) hx hb dX8_would_12 (by decide) ?_
      refine lv_icmp_le (tgt := 18) hx hb dX8_would_13 (by decide) (fun k_4 => ?_) (fun k_4 => ?_)
      · have h := it_t k_4 h
        refine lv_aload_n hx hb dX8_would_18 rfl (lv_at hl 0 rfl) ?_
        refine k_get (v := .ref (ad (b + 1))) hE hW hB_st.o hB_st.obj rfl inX8 0 (by decide) q244 rfl dX8_would_19 ?_
        refine k_getN (v := .ref (ad (b + 1 + 1))) hE hW (hB_st.lv).o (hB_st.lv).obj rfl inX5 0 (by decide) q131 rfl dX8_would_22 ?_
        refine lv_iload_n hx hb dX8_would_25 rfl (lv_at hl 1 rfl) ?_
        obtain ⟨g_5, h⟩ := zi_e h
        have hg_5 := vp_lt g_5
        refine k_aaldR3 (g := fun i => b + 1 + 1 + 1 + 8 * i) hE hW (hB_st.lv).logs.o (hB_st.lv).logs.out g_5 dX8_would_26 ?_
        refine lv_astore_n (lv' := [(3, .ref (ad (b + 1 + 1 + 1 + 8 * a1.toNatClampNeg))), (0, .ref (ad b)), (1, .int a1), (2, .int a2)]) hx hb dX8_would_27 rfl hl (by decide) rfl (fun ls hl => ?_)
        refine lv_iload_n hx hb dX8_would_28 rfl (lv_at hl 3 rfl) ?_
        refine lv_if_ne (tgt := 53) hx hb dX8_would_29 (by decide) (fun k_6 => ?_) (fun k_6 => ?_)
        · have h := it_f k_6 h
          refine lv_aload_n hx hb dX8_would_53 rfl (lv_at hl 0 rfl) ?_
          refine lv_aload_n hx hb dX8_would_54 rfl (lv_at hl 1 rfl) ?_
          refine k_get (v := .ref (ad (b + 1))) hE hW hB_st.o hB_st.obj rfl inX8 0 (by decide) q244 rfl dX8_would_55 ?_
          refine k_getN (v := .int (st.1.2.2.2.2 2)) hE hW (hB_st.lv).o (hB_st.lv).obj rfl inX5 6 (by decide) q143 rfl dX8_would_58 ?_
          refine lv_aload_n hx hb dX8_would_61 rfl (lv_at hl 1 rfl) ?_
          refine k_get (v := .ref (ad (b + 1))) hE hW hB_st.o hB_st.obj rfl inX8 0 (by decide) q244 rfl dX8_would_62 ?_
          refine k_getN (v := .int (st.1.2.2.2.2 0)) hE hW (hB_st.lv).o (hB_st.lv).obj rfl inX5 4 (by decide) q139 rfl dX8_would_65 ?_
          refine lv_aload_n hx hb dX8_would_68 rfl (lv_at hl 1 rfl) ?_
          refine k_get (v := .ref (ad (b + 1))) hE hW hB_st.o hB_st.obj rfl inX8 0 (by decide) q244 rfl dX8_would_69 ?_
          refine k_getN (v := .int (st.1.2.2.2.2 3)) hE hW (hB_st.lv).o (hB_st.lv).obj rfl inX5 7 (by decide) q145 rfl dX8_would_72 ?_
          obtain ⟨r_7, hr_7, h⟩ := zb_e h
          refine k_callVNi (rest := []) hE hW hl.1 (mX3_goneIfRetained ((hB_st.lv).log hg_5) hr_7) ((hB_st.lv).log hg_5).o ((hB_st.lv).log hg_5).obj rfl q583 q585 qs48 q3 q586 hd_X3_goneIfRetained.2 ⟨Nat.le_of_ble_eq_true rfl, Nat.le_of_ble_eq_true rfl⟩ ⟨rfl, rfl⟩ rfl (Nat.le_of_ble_eq_true rfl) dX8_would_75 ⟨Nat.zero_le _, Nat.zero_le _⟩ (fun c1 H locs hP hW => ?_)
          rw [hP] at hW
          obtain ⟨rfl, rfl⟩ := Prod.mk.inj (Option.some.inj h)
          exact k_iret hE hr hlk hW ⟨hB_st, hF⟩ rfl dX8_would_78
        · have h := it_t k_6 h
          refine lv_aload_n hx hb dX8_would_32 rfl (lv_at hl 0 rfl) ?_
          refine lv_aload_n hx hb dX8_would_33 rfl (lv_at hl 1 rfl) ?_
          refine k_get (v := .ref (ad (b + 1))) hE hW hB_st.o hB_st.obj rfl inX8 0 (by decide) q244 rfl dX8_would_34 ?_
          refine k_getN (v := .int (st.1.2.2.2.2 0)) hE hW (hB_st.lv).o (hB_st.lv).obj rfl inX5 4 (by decide) q139 rfl dX8_would_37 ?_
          refine lv_aload_n hx hb dX8_would_40 rfl (lv_at hl 1 rfl) ?_
          refine k_get (v := .ref (ad (b + 1))) hE hW hB_st.o hB_st.obj rfl inX8 0 (by decide) q244 rfl dX8_would_41 ?_
          refine k_getN (v := .int (st.1.2.2.2.2 1)) hE hW (hB_st.lv).o (hB_st.lv).obj rfl inX5 5 (by decide) q141 rfl dX8_would_44 ?_
          obtain ⟨r_8, y_10, hr_8, h⟩ := zb2_e h
          obtain ⟨st_9, est_9, h⟩ := zl_e h
          refine k_callVNi (rest := []) hE hW hl.1 (mX3_goneIfCompacted ((hB_st.lv).log hg_5) hr_8) ((hB_st.lv).log hg_5).o ((hB_st.lv).log hg_5).obj rfl q579 q581 qs47 q3 q582 hd_X3_goneIfCompacted.2 ⟨Nat.le_of_ble_eq_true rfl, Nat.le_of_ble_eq_true rfl⟩ ⟨rfl, rfl⟩ rfl (Nat.le_of_ble_eq_true rfl) dX8_would_47 ⟨Nat.zero_le _, Nat.zero_le _⟩ (fun c1 H locs hP hW => ?_)
          obtain ⟨c, hB_st, hF, hW⟩ : ∃ c', KlB ct J ad c' b st_9 ∧ Fr c0 c' b 160 ∧ HW D J ad c' (aA J ad s.heap.size) s.heap H locs := ⟨c1, by rw [est_9]; exact (hB_st.pLv ((hB_st.lv).pLog hg_5 hP.1 hP.2) (hP.2.wide (by omega) (by omega))), hF.trans (hP.2.wide (by omega) (by omega)), hW⟩
          refine lv_goto (tgt := 78) hx hb dX8_would_50 (by decide) ?_
          obtain ⟨rfl, rfl⟩ := Prod.mk.inj (Option.some.inj h)
          exact k_iret hE hr hlk hW ⟨hB_st, hF⟩ rfl dX8_would_78
      · have h := it_f k_4 h
        refine lv_iconst (v := (-1 : Int32)) hx hb dX8_would_16 (by decide) ?_
        obtain ⟨rfl, rfl⟩ := Prod.mk.inj (Option.some.inj h)
        exact k_iret hE hr hlk hW ⟨hB_st, hF⟩ rfl dX8_would_17
set_option maxHeartbeats 4000000 in
set_option maxRecDepth 100000 in
theorem wX8_leastKeep_38 {p : Program} {l : Launch} {e : Env} {s : State} {m : MethodId} {args : Array Value} {below : List Frame} {meth : Method} {cd : Code} {D : va_G} {ct : Nat → ClassId} {J : List Nat} {ad : Nat → Nat} {c0 : CF} {b : Nat} (hE : ME p s m cd args D ct cX8_leastKeep RX8 7) (hr : meth.sig.returnType = (some .int)) (hlk : meth.locks = false) {x2 : Int32} {ix : Nat} (hix : ix < 4) {st : KS} (hB_st : KlB ct J ad c0 b st) {r : Int32} : ∀ (n : Nat) (x3 : Int32) (x4 : Int32) (x5 : Int32) (H : Heap) (locs : List Loc) (ls : Array Slot), HW D J ad c0 (aA J ad s.heap.size) s.heap H locs → lv_has ls 7 [(0, .ref (ad b)), (1, .ref (ad (b + 1 + 1 + 1 + 8 * ix))), (2, .int x2), (3, .int x3), (4, .int x4), (5, .int x5)] → fX8_leastKeep_38 ix x2 st n x3 x4 x5 = some r → W p l e (rr 5 113) s m args below meth cd H locs 0 0 (MQ below (Qi D J ad s.heap.size r (fun c' => c' = c0)) args s 0 0 (aA J ad s.heap.size)) (F0 m 38 ls []) := by
  have hx := hE.1
  have hb := hE.2.1
  intro n
  induction n with
  | zero =>
    intro x3 x4 x5 H locs ls hW hl h
    have h2 : (none : Option Int32) = some r := h
    cases h2
  | succ n ih =>
    intro x3 x4 x5 H locs ls hW hl h
    rw [fX8_leastKeep_38] at h
    refine lv_iload hx hb dX8_leastKeep_38 (lv_at hl 5 rfl) ?_
    refine lv_sipush (v := (200 : Int32)) hx hb dX8_leastKeep_40 (by decide) ?_
    refine lv_icmp_gt (tgt := 102) hx hb dX8_leastKeep_43 (by decide) (fun k_3 => ?_) (fun k_3 => ?_)
    · have h := it_t k_3 h
      refine lv_iload_n hx hb dX8_leastKeep_102 rfl (lv_at hl 3 rfl) ?_
      obtain rfl := Option.some.inj h
      exact k_iret hE hr hlk hW rfl rfl dX8_leastKeep_103
    · have h := it_f k_3 h
      refine lv_iload_n hx hb dX8_leastKeep_46 rfl (lv_at hl 3 rfl) ?_
      refine lv_iload hx hb dX8_leastKeep_47 (lv_at hl 4 rfl) ?_
      refine lv_icmp_ge (tgt := 102) hx hb dX8_leastKeep_49 (by decide) (fun k_4 => ?_) (fun k_4 => ?_)
      · have h := it_t k_4 h
        refine lv_iload_n hx hb dX8_leastKeep_102 rfl (lv_at hl 3 rfl) ?_
        obtain rfl := Option.some.inj h
        exact k_iret hE hr hlk hW rfl rfl dX8_leastKeep_103
      · have h := it_f k_4 h
        refine lv_iload_n hx hb dX8_leastKeep_52 rfl (lv_at hl 3 rfl) ?_
        refine lv_iload hx hb dX8_leastKeep_53 (lv_at hl 4 rfl) ?_
        refine lv_iadd hx hb dX8_leastKeep_55 ?_
        refine lv_iconst (v := (2 : Int32)) hx hb dX8_leastKeep_56 (by decide) ?_
        obtain ⟨g_5, h⟩ := zz_e h
        refine lv_idiv hx hb dX8_leastKeep_57 g_5 ?_
        refine lv_topi (fun x_6 ex_6 => ?_)
        have h := zl_n h ex_6
        refine lv_istore (lv' := [(6, .int x_6), (0, .ref (ad b)), (1, .ref (ad (b + 1 + 1 + 1 + 8 * ix))), (2, .int x2), (3, .int x3), (4, .int x4), (5, .int x5)]) hx hb dX8_leastKeep_58 hl (by decide) rfl (fun ls hl => ?_)
        refine lv_aload_n hx hb dX8_leastKeep_60 rfl (lv_at hl 2 rfl) ?_
        refine lv_iload hx hb dX8_leastKeep_61 (lv_at hl 0 rfl) ?_
        refine lv_aload_n hx hb dX8_leastKeep_63 rfl (lv_at hl 1 rfl) ?_
        refine k_get (v := .ref (ad (b + 1))) hE hW hB_st.o hB_st.obj rfl inX8 0 (by decide) q244 rfl dX8_leastKeep_64 ?_
        refine k_getN (v := .int (st.1.2.2.2.2 0)) hE hW (hB_st.lv).o (hB_st.lv).obj rfl inX5 4 (by decide) q139 rfl dX8_leastKeep_67 ?_
        refine lv_aload_n hx hb dX8_leastKeep_70 rfl (lv_at hl 1 rfl) ?_
        refine k_get (v := .ref (ad (b + 1))) hE hW hB_st.o hB_st.obj rfl inX8 0 (by decide) q244 rfl dX8_leastKeep_71 ?_
        refine k_getN (v := .int (st.1.2.2.2.2 3)) hE hW (hB_st.lv).o (hB_st.lv).obj rfl inX5 7 (by decide) q145 rfl dX8_leastKeep_74 ?_
        obtain ⟨r_7, hr_7, h⟩ := zb_e h
        refine k_callVNi (rest := []) hE hW hl.1 (mX3_leftIfRetained ((hB_st.lv).log hix) hr_7) ((hB_st.lv).log hix).o ((hB_st.lv).log hix).obj rfl q595 q597 qs50 q3 q598 hd_X3_leftIfRetained.2 ⟨Nat.le_of_ble_eq_true rfl, Nat.le_of_ble_eq_true rfl⟩ ⟨rfl, rfl⟩ rfl (Nat.le_of_ble_eq_true rfl) dX8_leastKeep_77 ⟨Nat.zero_le _, Nat.zero_le _⟩ (fun c1 H locs hP hW => ?_)
        rw [hP] at hW
        refine lv_iload_n hx hb dX8_leastKeep_80 rfl (lv_at hl 3 rfl) ?_
        refine lv_icmp_lt (tgt := 91) hx hb dX8_leastKeep_81 (by decide) (fun k_8 => ?_) (fun k_8 => ?_)
        · have h := it_t k_8 h
          refine lv_iload hx hb dX8_leastKeep_91 (lv_at hl 0 rfl) ?_
          refine lv_iconst (v := (1 : Int32)) hx hb dX8_leastKeep_93 (by decide) ?_
          refine lv_iadd hx hb dX8_leastKeep_94 ?_
          refine lv_istore_n (lv' := [(3, .int (x_6 + (1 : Int32))), (6, .int x_6), (0, .ref (ad b)), (1, .ref (ad (b + 1 + 1 + 1 + 8 * ix))), (2, .int x2), (4, .int x4), (5, .int x5)]) hx hb dX8_leastKeep_95 rfl hl (by decide) rfl (fun ls hl => ?_)
          refine lv_iinc (v := (x5 + (1 : Int32))) (lv' := [(5, .int (x5 + (1 : Int32))), (3, .int (x_6 + (1 : Int32))), (6, .int x_6), (0, .ref (ad b)), (1, .ref (ad (b + 1 + 1 + 1 + 8 * ix))), (2, .int x2), (4, .int x4)]) hx hb dX8_leastKeep_96 hl (k := 6) rfl rfl (by decide) rfl (fun ls hl => ?_)
          refine lv_goto (tgt := 38) hx hb dX8_leastKeep_99 (by decide) ?_
          exact ih _ _ _ _ _ _ hW (lv_sub hl [3, 4, 5, 1, 6, 0] rfl) h
        · have h := it_f k_8 h
          refine lv_iload hx hb dX8_leastKeep_84 (lv_at hl 0 rfl) ?_
          refine lv_istore (lv' := [(4, .int x_6), (6, .int x_6), (0, .ref (ad b)), (1, .ref (ad (b + 1 + 1 + 1 + 8 * ix))), (2, .int x2), (3, .int x3), (5, .int x5)]) hx hb dX8_leastKeep_86 hl (by decide) rfl (fun ls hl => ?_)
          refine lv_goto (tgt := 96) hx hb dX8_leastKeep_88 (by decide) ?_
          refine lv_iinc (v := (x5 + (1 : Int32))) (lv' := [(5, .int (x5 + (1 : Int32))), (4, .int x_6), (6, .int x_6), (0, .ref (ad b)), (1, .ref (ad (b + 1 + 1 + 1 + 8 * ix))), (2, .int x2), (3, .int x3)]) hx hb dX8_leastKeep_96 hl (k := 6) rfl rfl (by decide) rfl (fun ls hl => ?_)
          refine lv_goto (tgt := 38) hx hb dX8_leastKeep_99 (by decide) ?_
          exact ih _ _ _ _ _ _ hW (lv_sub hl [3, 4, 5, 6, 1, 0] rfl) h
set_option maxHeartbeats 4000000 in
set_option maxRecDepth 100000 in
theorem mX8_leastKeep {l : Launch} {D : va_G} {ct : Nat → ClassId} {J : List Nat} {ad : Nat → Nat} {c0 : CF} {a2 : Int32} {ix : Nat} (hix : ix < 4) {b : Nat} {st : KS} (hB_st : KlB ct J ad c0 b st) {r : Int32} (h : fX8_leastKeep  ix a2 st = some r) : Mi l D ct J ad yX8_leastKeep cX8_leastKeep 7 (some .int) (rr 5 113) [.ref (ad b), .ref (ad (b + 1 + 1 + 1 + 8 * ix)), .int a2] c0 r (fun c' => c' = c0) := by
  refine Mi_of (own := RX8) (by decide) rfl (Nat.le_of_ble_eq_true rfl) (fun p e s m below meth cd hE hr hlk hW ls hl => ?_)
  have hx := hE.1
  have hb := hE.2.1
  have hl : lv_has ls 7 [(0, .ref (ad b)), (1, .ref (ad (b + 1 + 1 + 1 + 8 * ix))), (2, .int a2)] := hl
  rw [fX8_leastKeep] at h
  refine lv_aload_n hx hb dX8_leastKeep_0 rfl (lv_at hl 1 rfl) ?_
  refine lv_sipush (v := (200 : Int32)) hx hb dX8_leastKeep_1 (by decide) ?_
  refine lv_aload_n hx hb dX8_leastKeep_4 rfl (lv_at hl 0 rfl) ?_
  refine k_get (v := .ref (ad (b + 1))) hE hW hB_st.o hB_st.obj rfl inX8 0 (by decide) q244 rfl dX8_leastKeep_5 ?_
  refine k_getN (v := .int (st.1.2.2.2.2 0)) hE hW (hB_st.lv).o (hB_st.lv).obj rfl inX5 4 (by decide) q139 rfl dX8_leastKeep_8 ?_
  refine lv_aload_n hx hb dX8_leastKeep_11 rfl (lv_at hl 0 rfl) ?_
  refine k_get (v := .ref (ad (b + 1))) hE hW hB_st.o hB_st.obj rfl inX8 0 (by decide) q244 rfl dX8_leastKeep_12 ?_
  refine k_getN (v := .int (st.1.2.2.2.2 3)) hE hW (hB_st.lv).o (hB_st.lv).obj rfl inX5 7 (by decide) q145 rfl dX8_leastKeep_15 ?_
  obtain ⟨r_1, hr_1, h⟩ := zb_e h
  refine k_callVNi (rest := []) hE hW hl.1 (mX3_leftIfRetained ((hB_st.lv).log hix) hr_1) ((hB_st.lv).log hix).o ((hB_st.lv).log hix).obj rfl q595 q597 qs50 q3 q598 hd_X3_leftIfRetained.2 ⟨Nat.le_of_ble_eq_true rfl, Nat.le_of_ble_eq_true rfl⟩ ⟨rfl, rfl⟩ rfl (Nat.le_of_ble_eq_true rfl) dX8_leastKeep_18 ⟨Nat.zero_le _, Nat.zero_le _⟩ (fun c1 H locs hP hW => ?_)
  rw [hP] at hW
  refine lv_iload_n hx hb dX8_leastKeep_21 rfl (lv_at hl 2 rfl) ?_
  refine lv_icmp_ge (tgt := 28) hx hb dX8_leastKeep_22 (by decide) (fun k_2 => ?_) (fun k_2 => ?_)
  · have h := it_t k_2 h
    refine lv_iconst (v := (0 : Int32)) hx hb dX8_leastKeep_28 (by decide) ?_
    refine lv_istore_n (lv' := [(3, .int (0 : Int32)), (0, .ref (ad b)), (1, .ref (ad (b + 1 + 1 + 1 + 8 * ix))), (2, .int a2)]) hx hb dX8_leastKeep_29 rfl hl (by decide) rfl (fun ls hl => ?_)
    refine lv_sipush (v := (200 : Int32)) hx hb dX8_leastKeep_30 (by decide) ?_
    refine lv_istore (lv' := [(4, .int (200 : Int32)), (3, .int (0 : Int32)), (0, .ref (ad b)), (1, .ref (ad (b + 1 + 1 + 1 + 8 * ix))), (2, .int a2)]) hx hb dX8_leastKeep_33 hl (by decide) rfl (fun ls hl => ?_)
    refine lv_iconst (v := (0 : Int32)) hx hb dX8_leastKeep_35 (by decide) ?_
    refine lv_istore (lv' := [(5, .int (0 : Int32)), (4, .int (200 : Int32)), (3, .int (0 : Int32)), (0, .ref (ad b)), (1, .ref (ad (b + 1 + 1 + 1 + 8 * ix))), (2, .int a2)]) hx hb dX8_leastKeep_36 hl (by decide) rfl (fun ls hl => ?_)
    exact wX8_leastKeep_38 hE hr hlk hix hB_st _ _ _ _ _ _ _ hW (lv_sub hl [3, 4, 5, 2, 1, 0] rfl) h
  · have h := it_f k_2 h
    refine lv_bipush (v := (-5 : Int32)) hx hb dX8_leastKeep_25 (by decide) ?_
    obtain rfl := Option.some.inj h
    exact k_iret hE hr hlk hW rfl rfl dX8_leastKeep_27
set_option maxHeartbeats 4000000 in
set_option maxRecDepth 100000 in
theorem mX8_need {l : Launch} {D : va_G} {ct : Nat → ClassId} {J : List Nat} {ad : Nat → Nat} {c0 : CF} {a1 : Int32} {a2 : Int32} {b : Nat} {st : KS} (hB_st : KlB ct J ad c0 b st) {r : Int32} (h : fX8_need  a1 a2 st = some r) : Mi l D ct J ad yX8_need cX8_need 3 (some .int) (rr 6 139) [.ref (ad b), .int a1, .int a2] c0 r (fun c' => c' = c0) := by
  refine Mi_of (own := RX8) (by decide) rfl (Nat.le_of_ble_eq_true rfl) (fun p e s m below meth cd hE hr hlk hW ls hl => ?_)
  have hx := hE.1
  have hb := hE.2.1
  have hl : lv_has ls 3 [(0, .ref (ad b)), (1, .int a1), (2, .int a2)] := hl
  rw [fX8_need] at h
  refine lv_iload_n hx hb dX8_need_0 rfl (lv_at hl 1 rfl) ?_
  obtain ⟨r_1, hr_1, h⟩ := zb_e h
  refine k_callSi (rest := []) hE hW hl.1 (mX8_isLog hr_1) q286 q287 q1 q288 hd_X8_isLog.2 ⟨Nat.le_of_ble_eq_true rfl, Nat.le_of_ble_eq_true rfl⟩ ⟨rfl, rfl⟩ rfl (Nat.le_of_ble_eq_true rfl) dX8_need_1 ⟨Nat.zero_le _, Nat.zero_le _⟩ (fun c1 H locs hP hW => ?_)
  rw [hP] at hW
  refine lv_if_ne (tgt := 9) hx hb dX8_need_4 (by decide) (fun k_2 => ?_) (fun k_2 => ?_)
  · have h := it_f k_2 h
    refine lv_iload_n hx hb dX8_need_9 rfl (lv_at hl 2 rfl) ?_
    refine lv_if_lt (tgt := 20) hx hb dX8_need_10 (by decide) (fun k_3 => ?_) (fun k_3 => ?_)
    · have h := it_t k_3 h
      refine lv_bipush (v := (-2 : Int32)) hx hb dX8_need_20 (by decide) ?_
      obtain rfl := Option.some.inj h
      exact k_iret hE hr hlk hW rfl rfl dX8_need_22
    · have h := it_f k_3 h
      refine lv_iload_n hx hb dX8_need_13 rfl (lv_at hl 2 rfl) ?_
      refine lv_sipush (v := (200 : Int32)) hx hb dX8_need_14 (by decide) ?_
      refine lv_icmp_le (tgt := 23) hx hb dX8_need_17 (by decide) (fun k_4 => ?_) (fun k_4 => ?_)
      · have h := it_t k_4 h
        refine lv_aload_n hx hb dX8_need_23 rfl (lv_at hl 0 rfl) ?_
        refine lv_aload_n hx hb dX8_need_24 rfl (lv_at hl 0 rfl) ?_
        refine k_get (v := .ref (ad (b + 1))) hE hW hB_st.o hB_st.obj rfl inX8 0 (by decide) q244 rfl dX8_need_25 ?_
        refine k_getN (v := .ref (ad (b + 1 + 1))) hE hW (hB_st.lv).o (hB_st.lv).obj rfl inX5 0 (by decide) q131 rfl dX8_need_28 ?_
        refine lv_iload_n hx hb dX8_need_31 rfl (lv_at hl 1 rfl) ?_
        obtain ⟨g_5, h⟩ := zi_e h
        have hg_5 := vp_lt g_5
        refine k_aaldR3 (g := fun i => b + 1 + 1 + 1 + 8 * i) hE hW (hB_st.lv).logs.o (hB_st.lv).logs.out g_5 dX8_need_32 ?_
        refine lv_iload_n hx hb dX8_need_33 rfl (lv_at hl 2 rfl) ?_
        obtain ⟨r_6, hr_6, h⟩ := zb_e h
        refine k_callVi (rest := []) hE hW hl.1 (mX8_leastKeep hg_5 hB_st hr_6) hB_st.o hB_st.obj rfl q591 q593 qs49 q1 q594 hd_X8_leastKeep ⟨Nat.le_of_ble_eq_true rfl, Nat.le_of_ble_eq_true rfl⟩ ⟨rfl, rfl⟩ rfl (Nat.le_of_ble_eq_true rfl) dX8_need_34 ⟨Nat.zero_le _, Nat.zero_le _⟩ (fun c1 H locs hP hW => ?_)
        rw [hP] at hW
        obtain rfl := Option.some.inj h
        exact k_iret hE hr hlk hW rfl rfl dX8_need_37
      · have h := it_f k_4 h
        refine lv_bipush (v := (-2 : Int32)) hx hb dX8_need_20 (by decide) ?_
        obtain rfl := Option.some.inj h
        exact k_iret hE hr hlk hW rfl rfl dX8_need_22
  · have h := it_t k_2 h
    refine lv_iconst (v := (-1 : Int32)) hx hb dX8_need_7 (by decide) ?_
    obtain rfl := Option.some.inj h
    exact k_iret hE hr hlk hW rfl rfl dX8_need_8
set_option maxHeartbeats 4000000 in
set_option maxRecDepth 100000 in
theorem mX8_isMember {l : Launch} {D : va_G} {ct : Nat → ClassId} {J : List Nat} {ad : Nat → Nat} {c0 : CF} {a1 : Int32} {r : Int32} (h : fX8_isMember  a1 = some r) : Mi l D ct J ad yX8_isMember cX8_isMember 1 (some .boolean) (rr 0 0) [.int a1] c0 r (fun c' => c' = c0) := by
  refine Mi_of (own := RX8) (by decide) rfl (Nat.le_of_ble_eq_true rfl) (fun p e s m below meth cd hE hr hlk hW ls hl => ?_)
  have hx := hE.1
  have hb := hE.2.1
  have hl : lv_has ls 1 [(0, .int a1)] := hl
  rw [fX8_isMember] at h
  refine lv_iload_n hx hb dX8_isMember_0 rfl (lv_at hl 0 rfl) ?_
  refine lv_if_lt (tgt := 13) hx hb dX8_isMember_1 (by decide) (fun k_1 => ?_) (fun k_1 => ?_)
  · have h := it_t k_1 h
    refine lv_iconst (v := (0 : Int32)) hx hb dX8_isMember_13 (by decide) ?_
    obtain rfl := Option.some.inj h
    exact k_zret hE hr hlk hW rfl rfl rfl dX8_isMember_14
  · have h := it_f k_1 h
    refine lv_iload_n hx hb dX8_isMember_4 rfl (lv_at hl 0 rfl) ?_
    refine lv_iconst (v := (4 : Int32)) hx hb dX8_isMember_5 (by decide) ?_
    refine lv_icmp_ge (tgt := 13) hx hb dX8_isMember_6 (by decide) (fun k_2 => ?_) (fun k_2 => ?_)
    · have h := it_t k_2 h
      refine lv_iconst (v := (0 : Int32)) hx hb dX8_isMember_13 (by decide) ?_
      obtain rfl := Option.some.inj h
      exact k_zret hE hr hlk hW rfl rfl rfl dX8_isMember_14
    · have h := it_f k_2 h
      refine lv_iconst (v := (1 : Int32)) hx hb dX8_isMember_9 (by decide) ?_
      refine lv_goto (tgt := 14) hx hb dX8_isMember_10 (by decide) ?_
      obtain rfl := Option.some.inj h
      exact k_zret hE hr hlk hW rfl rfl rfl dX8_isMember_14
set_option maxHeartbeats 4000000 in
set_option maxRecDepth 100000 in
theorem mX8_join {l : Launch} {D : va_G} {ct : Nat → ClassId} {J : List Nat} {ad : Nat → Nat} {c0 : CF} {a1 : Int32} {b : Nat} {st : KS} (hB_st : KlB ct J ad c0 b st) {r : Int32} {st9 : KS} (h : fX8_join  a1 st = some (r, st9)) : Mi l D ct J ad yX8_join cX8_join 2 (some .int) (rr 5 111) [.ref (ad b), .int a1] c0 r (fun c' => KlB ct J ad c' b st9 ∧ Fr c0 c' b 160) := by
  refine Mi_of (own := RX8) (by decide) rfl (Nat.le_of_ble_eq_true rfl) (fun p e s m below meth cd hE hr hlk hW ls hl => ?_)
  have hx := hE.1
  have hb := hE.2.1
  have hl : lv_has ls 2 [(0, .ref (ad b)), (1, .int a1)] := hl
  rw [fX8_join] at h
  obtain ⟨c, hB_st, hF, hW⟩ : ∃ c', KlB ct J ad c' b st ∧ Fr c0 c' b 160 ∧ HW D J ad c' (aA J ad s.heap.size) s.heap s.heap [] := ⟨c0, hB_st, Fr.rf, hW⟩
  refine lv_iload_n hx hb dX8_join_0 rfl (lv_at hl 1 rfl) ?_
  obtain ⟨r_1, hr_1, h⟩ := zb_e h
  refine k_callSi (rest := []) hE hW hl.1 (mX8_isMember hr_1) q603 q604 q1 q605 hd_X8_isMember.2 ⟨Nat.le_of_ble_eq_true rfl, Nat.le_of_ble_eq_true rfl⟩ ⟨rfl, rfl⟩ rfl (Nat.le_of_ble_eq_true rfl) dX8_join_1 ⟨Nat.zero_le _, Nat.zero_le _⟩ (fun c1 H locs hP hW => ?_)
  rw [hP] at hW
  refine lv_if_ne (tgt := 9) hx hb dX8_join_4 (by decide) (fun k_2 => ?_) (fun k_2 => ?_)
  · have h := it_f k_2 h
    refine lv_aload_n hx hb dX8_join_9 rfl (lv_at hl 0 rfl) ?_
    refine k_get (v := .ref (ad (b + 1))) hE hW hB_st.o hB_st.obj rfl inX8 0 (by decide) q244 rfl dX8_join_10 ?_
    refine k_getN (v := .ref (ad (b + 1 + 34))) hE hW (hB_st.lv).o (hB_st.lv).obj rfl inX5 1 (by decide) q133 rfl dX8_join_13 ?_
    refine k_getN (v := .ref (ad (b + 1 + 34 + 1 + 0))) hE hW ((hB_st.lv).gr).o ((hB_st.lv).gr).obj rfl inX1 0 (by decide) q87 rfl dX8_join_16 ?_
    refine lv_iload_n hx hb dX8_join_19 rfl (lv_at hl 1 rfl) ?_
    obtain ⟨g_3, h⟩ := zi_e h
    refine k_zald hE hW (((hB_st.lv).gr).memA 0 (Nat.le_of_ble_eq_true rfl)) (((hB_st.lv).gr).arr 0 rfl) g_3 dX8_join_20 ?_
    refine lv_if_eq (tgt := 29) hx hb dX8_join_21 (by decide) (fun k_4 => ?_) (fun k_4 => ?_)
    · have h := it_t k_4 h
      refine lv_aload_n hx hb dX8_join_29 rfl (lv_at hl 0 rfl) ?_
      refine k_get (v := .ref (ad (b + 1))) hE hW hB_st.o hB_st.obj rfl inX8 0 (by decide) q244 rfl dX8_join_30 ?_
      refine k_getN (v := .ref (ad (b + 1 + 34))) hE hW (hB_st.lv).o (hB_st.lv).obj rfl inX5 1 (by decide) q133 rfl dX8_join_33 ?_
      refine lv_iload_n hx hb dX8_join_36 rfl (lv_at hl 1 rfl) ?_
      refine lv_iconst (v := (1 : Int32)) hx hb dX8_join_37 (by decide) ?_
      obtain ⟨r_5, y_7, hr_5, h⟩ := zb2_e h
      obtain ⟨st_6, est_6, h⟩ := zl_e h
      refine k_callVNi (rest := []) hE hW hl.1 (mX1_changed ((hB_st.lv).gr) hr_5) ((hB_st.lv).gr).o ((hB_st.lv).gr).obj rfl q606 q608 qs51 q4 q609 hd_X1_changed.2 ⟨Nat.le_of_ble_eq_true rfl, Nat.le_of_ble_eq_true rfl⟩ ⟨rfl, rfl⟩ rfl (Nat.le_of_ble_eq_true rfl) dX8_join_38 ⟨Nat.zero_le _, Nat.zero_le _⟩ (fun c1 H locs hP hW => ?_)
      obtain ⟨c, hB_st, hF, hW⟩ : ∃ c', KlB ct J ad c' b st_6 ∧ Fr c0 c' b 160 ∧ HW D J ad c' (aA J ad s.heap.size) s.heap H locs := ⟨c1, by rw [est_6]; exact (hB_st.pLv ((hB_st.lv).pGr hP.1 hP.2) (hP.2.wide (by omega) (by omega))), hF.trans (hP.2.wide (by omega) (by omega)), hW⟩
      obtain ⟨rfl, rfl⟩ := Prod.mk.inj (Option.some.inj h)
      exact k_iret hE hr hlk hW ⟨hB_st, hF⟩ rfl dX8_join_41
    · have h := it_f k_4 h
      refine lv_bipush (v := (-3 : Int32)) hx hb dX8_join_24 (by decide) ?_
      refine lv_goto (tgt := 41) hx hb dX8_join_26 (by decide) ?_
      obtain ⟨rfl, rfl⟩ := Prod.mk.inj (Option.some.inj h)
      exact k_iret hE hr hlk hW ⟨hB_st, hF⟩ rfl dX8_join_41
  · have h := it_t k_2 h
    refine lv_iconst (v := (-1 : Int32)) hx hb dX8_join_7 (by decide) ?_
    obtain ⟨rfl, rfl⟩ := Prod.mk.inj (Option.some.inj h)
    exact k_iret hE hr hlk hW ⟨hB_st, hF⟩ rfl dX8_join_8
set_option maxHeartbeats 4000000 in
set_option maxRecDepth 100000 in
theorem mX8_leave {l : Launch} {D : va_G} {ct : Nat → ClassId} {J : List Nat} {ad : Nat → Nat} {c0 : CF} {a1 : Int32} {b : Nat} {st : KS} (hB_st : KlB ct J ad c0 b st) {r : Int32} {st9 : KS} (h : fX8_leave  a1 st = some (r, st9)) : Mi l D ct J ad yX8_leave cX8_leave 2 (some .int) (rr 5 111) [.ref (ad b), .int a1] c0 r (fun c' => KlB ct J ad c' b st9 ∧ Fr c0 c' b 160) := by
  refine Mi_of (own := RX8) (by decide) rfl (Nat.le_of_ble_eq_true rfl) (fun p e s m below meth cd hE hr hlk hW ls hl => ?_)
  have hx := hE.1
  have hb := hE.2.1
  have hl : lv_has ls 2 [(0, .ref (ad b)), (1, .int a1)] := hl
  rw [fX8_leave] at h
  obtain ⟨c, hB_st, hF, hW⟩ : ∃ c', KlB ct J ad c' b st ∧ Fr c0 c' b 160 ∧ HW D J ad c' (aA J ad s.heap.size) s.heap s.heap [] := ⟨c0, hB_st, Fr.rf, hW⟩
  refine lv_iload_n hx hb dX8_leave_0 rfl (lv_at hl 1 rfl) ?_
  obtain ⟨r_1, hr_1, h⟩ := zb_e h
  refine k_callSi (rest := []) hE hW hl.1 (mX8_isMember hr_1) q603 q604 q1 q605 hd_X8_isMember.2 ⟨Nat.le_of_ble_eq_true rfl, Nat.le_of_ble_eq_true rfl⟩ ⟨rfl, rfl⟩ rfl (Nat.le_of_ble_eq_true rfl) dX8_leave_1 ⟨Nat.zero_le _, Nat.zero_le _⟩ (fun c1 H locs hP hW => ?_)
  rw [hP] at hW
  refine lv_if_ne (tgt := 9) hx hb dX8_leave_4 (by decide) (fun k_2 => ?_) (fun k_2 => ?_)
  · have h := it_f k_2 h
    refine lv_aload_n hx hb dX8_leave_9 rfl (lv_at hl 0 rfl) ?_
    refine k_get (v := .ref (ad (b + 1))) hE hW hB_st.o hB_st.obj rfl inX8 0 (by decide) q244 rfl dX8_leave_10 ?_
    refine k_getN (v := .ref (ad (b + 1 + 34))) hE hW (hB_st.lv).o (hB_st.lv).obj rfl inX5 1 (by decide) q133 rfl dX8_leave_13 ?_
    refine k_getN (v := .ref (ad (b + 1 + 34 + 1 + 0))) hE hW ((hB_st.lv).gr).o ((hB_st.lv).gr).obj rfl inX1 0 (by decide) q87 rfl dX8_leave_16 ?_
    refine lv_iload_n hx hb dX8_leave_19 rfl (lv_at hl 1 rfl) ?_
    obtain ⟨g_3, h⟩ := zi_e h
    refine k_zald hE hW (((hB_st.lv).gr).memA 0 (Nat.le_of_ble_eq_true rfl)) (((hB_st.lv).gr).arr 0 rfl) g_3 dX8_leave_20 ?_
    refine lv_if_eq (tgt := 39) hx hb dX8_leave_21 (by decide) (fun k_4 => ?_) (fun k_4 => ?_)
    · have h := it_t k_4 h
      refine lv_bipush (v := (-3 : Int32)) hx hb dX8_leave_39 (by decide) ?_
      obtain ⟨rfl, rfl⟩ := Prod.mk.inj (Option.some.inj h)
      exact k_iret hE hr hlk hW ⟨hB_st, hF⟩ rfl dX8_leave_41
    · have h := it_f k_4 h
      refine lv_aload_n hx hb dX8_leave_24 rfl (lv_at hl 0 rfl) ?_
      refine k_get (v := .ref (ad (b + 1))) hE hW hB_st.o hB_st.obj rfl inX8 0 (by decide) q244 rfl dX8_leave_25 ?_
      refine k_getN (v := .ref (ad (b + 1 + 34))) hE hW (hB_st.lv).o (hB_st.lv).obj rfl inX5 1 (by decide) q133 rfl dX8_leave_28 ?_
      refine lv_iload_n hx hb dX8_leave_31 rfl (lv_at hl 1 rfl) ?_
      refine lv_iconst (v := (0 : Int32)) hx hb dX8_leave_32 (by decide) ?_
      obtain ⟨r_5, y_7, hr_5, h⟩ := zb2_e h
      obtain ⟨st_6, est_6, h⟩ := zl_e h
      refine k_callVNi (rest := []) hE hW hl.1 (mX1_changed ((hB_st.lv).gr) hr_5) ((hB_st.lv).gr).o ((hB_st.lv).gr).obj rfl q606 q608 qs51 q4 q609 hd_X1_changed.2 ⟨Nat.le_of_ble_eq_true rfl, Nat.le_of_ble_eq_true rfl⟩ ⟨rfl, rfl⟩ rfl (Nat.le_of_ble_eq_true rfl) dX8_leave_33 ⟨Nat.zero_le _, Nat.zero_le _⟩ (fun c1 H locs hP hW => ?_)
      obtain ⟨c, hB_st, hF, hW⟩ : ∃ c', KlB ct J ad c' b st_6 ∧ Fr c0 c' b 160 ∧ HW D J ad c' (aA J ad s.heap.size) s.heap H locs := ⟨c1, by rw [est_6]; exact (hB_st.pLv ((hB_st.lv).pGr hP.1 hP.2) (hP.2.wide (by omega) (by omega))), hF.trans (hP.2.wide (by omega) (by omega)), hW⟩
      refine lv_goto (tgt := 41) hx hb dX8_leave_36 (by decide) ?_
      obtain ⟨rfl, rfl⟩ := Prod.mk.inj (Option.some.inj h)
      exact k_iret hE hr hlk hW ⟨hB_st, hF⟩ rfl dX8_leave_41
  · have h := it_t k_2 h
    refine lv_iconst (v := (-1 : Int32)) hx hb dX8_leave_7 (by decide) ?_
    obtain ⟨rfl, rfl⟩ := Prod.mk.inj (Option.some.inj h)
    exact k_iret hE hr hlk hW ⟨hB_st, hF⟩ rfl dX8_leave_8
set_option maxHeartbeats 4000000 in
set_option maxRecDepth 100000 in
theorem mX8_poll {l : Launch} {D : va_G} {ct : Nat → ClassId} {J : List Nat} {ad : Nat → Nat} {c0 : CF} {a1 : Int32} {b : Nat} {st : KS} (hB_st : KlB ct J ad c0 b st) {r : Int32} {st9 : KS} (h : fX8_poll  a1 st = some (r, st9)) : Mi l D ct J ad yX8_poll cX8_poll 2 (some .int) (rr 3 66) [.ref (ad b), .int a1] c0 r (fun c' => KlB ct J ad c' b st9 ∧ Fr c0 c' b 160) := by
  refine Mi_of (own := RX8) (by decide) rfl (Nat.le_of_ble_eq_true rfl) (fun p e s m below meth cd hE hr hlk hW ls hl => ?_)
  have hx := hE.1
  have hb := hE.2.1
  have hl : lv_has ls 2 [(0, .ref (ad b)), (1, .int a1)] := hl
  rw [fX8_poll] at h
  obtain ⟨c, hB_st, hF, hW⟩ : ∃ c', KlB ct J ad c' b st ∧ Fr c0 c' b 160 ∧ HW D J ad c' (aA J ad s.heap.size) s.heap s.heap [] := ⟨c0, hB_st, Fr.rf, hW⟩
  refine lv_iload_n hx hb dX8_poll_0 rfl (lv_at hl 1 rfl) ?_
  obtain ⟨r_1, hr_1, h⟩ := zb_e h
  refine k_callSi (rest := []) hE hW hl.1 (mX8_isMember hr_1) q603 q604 q1 q605 hd_X8_isMember.2 ⟨Nat.le_of_ble_eq_true rfl, Nat.le_of_ble_eq_true rfl⟩ ⟨rfl, rfl⟩ rfl (Nat.le_of_ble_eq_true rfl) dX8_poll_1 ⟨Nat.zero_le _, Nat.zero_le _⟩ (fun c1 H locs hP hW => ?_)
  rw [hP] at hW
  refine lv_if_ne (tgt := 9) hx hb dX8_poll_4 (by decide) (fun k_2 => ?_) (fun k_2 => ?_)
  · have h := it_f k_2 h
    refine lv_aload_n hx hb dX8_poll_9 rfl (lv_at hl 0 rfl) ?_
    refine k_get (v := .ref (ad (b + 1))) hE hW hB_st.o hB_st.obj rfl inX8 0 (by decide) q244 rfl dX8_poll_10 ?_
    refine k_getN (v := .ref (ad (b + 1 + 34))) hE hW (hB_st.lv).o (hB_st.lv).obj rfl inX5 1 (by decide) q133 rfl dX8_poll_13 ?_
    refine k_getN (v := .ref (ad (b + 1 + 34 + 1 + 0))) hE hW ((hB_st.lv).gr).o ((hB_st.lv).gr).obj rfl inX1 0 (by decide) q87 rfl dX8_poll_16 ?_
    refine lv_iload_n hx hb dX8_poll_19 rfl (lv_at hl 1 rfl) ?_
    obtain ⟨g_3, h⟩ := zi_e h
    refine k_zald hE hW (((hB_st.lv).gr).memA 0 (Nat.le_of_ble_eq_true rfl)) (((hB_st.lv).gr).arr 0 rfl) g_3 dX8_poll_20 ?_
    refine lv_if_eq (tgt := 45) hx hb dX8_poll_21 (by decide) (fun k_4 => ?_) (fun k_4 => ?_)
    · have h := it_t k_4 h
      refine lv_bipush (v := (-3 : Int32)) hx hb dX8_poll_45 (by decide) ?_
      obtain ⟨rfl, rfl⟩ := Prod.mk.inj (Option.some.inj h)
      exact k_iret hE hr hlk hW ⟨hB_st, hF⟩ rfl dX8_poll_47
    · have h := it_f k_4 h
      refine lv_aload_n hx hb dX8_poll_24 rfl (lv_at hl 0 rfl) ?_
      refine k_get (v := .ref (ad (b + 1))) hE hW hB_st.o hB_st.obj rfl inX8 0 (by decide) q244 rfl dX8_poll_25 ?_
      refine k_getN (v := .ref (ad (b + 1 + 34))) hE hW (hB_st.lv).o (hB_st.lv).obj rfl inX5 1 (by decide) q133 rfl dX8_poll_28 ?_
      refine lv_iload_n hx hb dX8_poll_31 rfl (lv_at hl 1 rfl) ?_
      refine lv_aload_n hx hb dX8_poll_32 rfl (lv_at hl 0 rfl) ?_
      refine k_get (v := .ref (ad (b + 1))) hE hW hB_st.o hB_st.obj rfl inX8 0 (by decide) q244 rfl dX8_poll_33 ?_
      refine k_getN (v := .ref (ad (b + 1 + 1))) hE hW (hB_st.lv).o (hB_st.lv).obj rfl inX5 0 (by decide) q131 rfl dX8_poll_36 ?_
      obtain ⟨r_5, y_7, hr_5, h⟩ := zb2_e h
      obtain ⟨st_6, est_6, h⟩ := zl_e h
      refine k_callVNi (rest := []) hE hW hl.1 (mX1_polled ((hB_st.lv).gr) (hB_st.lv).logs (by omega) hr_5) ((hB_st.lv).gr).o ((hB_st.lv).gr).obj rfl q667 q669 qs62 q4 q670 hd_X1_polled.2 ⟨Nat.le_of_ble_eq_true rfl, Nat.le_of_ble_eq_true rfl⟩ ⟨rfl, rfl⟩ rfl (Nat.le_of_ble_eq_true rfl) dX8_poll_39 ⟨Nat.zero_le _, Nat.zero_le _⟩ (fun c1 H locs hP hW => ?_)
      obtain ⟨c, hB_st, hF, hW⟩ : ∃ c', KlB ct J ad c' b st_6 ∧ Fr c0 c' b 160 ∧ HW D J ad c' (aA J ad s.heap.size) s.heap H locs := ⟨c1, by rw [est_6]; exact (hB_st.pLv ((hB_st.lv).pGr hP.1 hP.2) (hP.2.wide (by omega) (by omega))), hF.trans (hP.2.wide (by omega) (by omega)), hW⟩
      refine lv_goto (tgt := 47) hx hb dX8_poll_42 (by decide) ?_
      obtain ⟨rfl, rfl⟩ := Prod.mk.inj (Option.some.inj h)
      exact k_iret hE hr hlk hW ⟨hB_st, hF⟩ rfl dX8_poll_47
  · have h := it_t k_2 h
    refine lv_iconst (v := (-1 : Int32)) hx hb dX8_poll_7 (by decide) ?_
    obtain ⟨rfl, rfl⟩ := Prod.mk.inj (Option.some.inj h)
    exact k_iret hE hr hlk hW ⟨hB_st, hF⟩ rfl dX8_poll_8
set_option maxHeartbeats 4000000 in
set_option maxRecDepth 100000 in
theorem mX8_seek {l : Launch} {D : va_G} {ct : Nat → ClassId} {J : List Nat} {ad : Nat → Nat} {c0 : CF} {a1 : Int32} {a2 : Int32} {b : Nat} {st : KS} (hB_st : KlB ct J ad c0 b st) {r : Int32} {st9 : KS} (h : fX8_seek  a1 a2 st = some (r, st9)) : Mi l D ct J ad yX8_seek cX8_seek 4 (some .int) (rr 1 20) [.ref (ad b), .int a1, .int a2] c0 r (fun c' => KlB ct J ad c' b st9 ∧ Fr c0 c' b 160) := by
  refine Mi_of (own := RX8) (by decide) rfl (Nat.le_of_ble_eq_true rfl) (fun p e s m below meth cd hE hr hlk hW ls hl => ?_)
  have hx := hE.1
  have hb := hE.2.1
  have hl : lv_has ls 4 [(0, .ref (ad b)), (1, .int a1), (2, .int a2)] := hl
  rw [fX8_seek] at h
  obtain ⟨c, hB_st, hF, hW⟩ : ∃ c', KlB ct J ad c' b st ∧ Fr c0 c' b 160 ∧ HW D J ad c' (aA J ad s.heap.size) s.heap s.heap [] := ⟨c0, hB_st, Fr.rf, hW⟩
  refine lv_iload_n hx hb dX8_seek_0 rfl (lv_at hl 1 rfl) ?_
  obtain ⟨r_1, hr_1, h⟩ := zb_e h
  refine k_callSi (rest := []) hE hW hl.1 (mX8_isLog hr_1) q286 q287 q1 q288 hd_X8_isLog.2 ⟨Nat.le_of_ble_eq_true rfl, Nat.le_of_ble_eq_true rfl⟩ ⟨rfl, rfl⟩ rfl (Nat.le_of_ble_eq_true rfl) dX8_seek_1 ⟨Nat.zero_le _, Nat.zero_le _⟩ (fun c1 H locs hP hW => ?_)
  rw [hP] at hW
  refine lv_if_ne (tgt := 9) hx hb dX8_seek_4 (by decide) (fun k_2 => ?_) (fun k_2 => ?_)
  · have h := it_f k_2 h
    refine lv_iload_n hx hb dX8_seek_9 rfl (lv_at hl 2 rfl) ?_
    refine lv_if_lt (tgt := 29) hx hb dX8_seek_10 (by decide) (fun k_3 => ?_) (fun k_3 => ?_)
    · have h := it_t k_3 h
      refine lv_bipush (v := (-2 : Int32)) hx hb dX8_seek_29 (by decide) ?_
      obtain ⟨rfl, rfl⟩ := Prod.mk.inj (Option.some.inj h)
      exact k_iret hE hr hlk hW ⟨hB_st, hF⟩ rfl dX8_seek_31
    · have h := it_f k_3 h
      refine lv_iload_n hx hb dX8_seek_13 rfl (lv_at hl 2 rfl) ?_
      refine lv_aload_n hx hb dX8_seek_14 rfl (lv_at hl 0 rfl) ?_
      refine k_get (v := .ref (ad (b + 1))) hE hW hB_st.o hB_st.obj rfl inX8 0 (by decide) q244 rfl dX8_seek_15 ?_
      refine k_getN (v := .ref (ad (b + 1 + 1))) hE hW (hB_st.lv).o (hB_st.lv).obj rfl inX5 0 (by decide) q131 rfl dX8_seek_18 ?_
      refine lv_iload_n hx hb dX8_seek_21 rfl (lv_at hl 1 rfl) ?_
      obtain ⟨g_4, h⟩ := zi_e h
      have hg_4 := vp_lt g_4
      refine k_aaldR3 (g := fun i => b + 1 + 1 + 1 + 8 * i) hE hW (hB_st.lv).logs.o (hB_st.lv).logs.out g_4 dX8_seek_22 ?_
      refine k_getN (v := .int ((st.1.1 a1.toNatClampNeg).2 0)) hE hW ((hB_st.lv).log hg_4).o ((hB_st.lv).log hg_4).obj rfl inX3 7 (by decide) q57 rfl dX8_seek_23 ?_
      refine lv_icmp_le (tgt := 32) hx hb dX8_seek_26 (by decide) (fun k_5 => ?_) (fun k_5 => ?_)
      · have h := it_t k_5 h
        refine lv_aload_n hx hb dX8_seek_32 rfl (lv_at hl 0 rfl) ?_
        refine k_get (v := .ref (ad (b + 1))) hE hW hB_st.o hB_st.obj rfl inX8 0 (by decide) q244 rfl dX8_seek_33 ?_
        refine k_getN (v := .ref (ad (b + 1 + 34))) hE hW (hB_st.lv).o (hB_st.lv).obj rfl inX5 1 (by decide) q133 rfl dX8_seek_36 ?_
        refine k_getN (v := .ref (ad (b + 1 + 34 + 1 + 3))) hE hW ((hB_st.lv).gr).o ((hB_st.lv).gr).obj rfl inX1 3 (by decide) q92 rfl dX8_seek_39 ?_
        refine lv_iload_n hx hb dX8_seek_42 rfl (lv_at hl 1 rfl) ?_
        obtain ⟨g_6, h⟩ := zi_e h
        refine k_iald hE hW (((hB_st.lv).gr).memA 3 (Nat.le_of_ble_eq_true rfl)) (((hB_st.lv).gr).arr 3 rfl) g_6 dX8_seek_43 ?_
        refine lv_topi (fun x_7 ex_7 => ?_)
        have h := zl_n h ex_7
        refine lv_istore_n (lv' := [(3, .int x_7), (0, .ref (ad b)), (1, .int a1), (2, .int a2)]) hx hb dX8_seek_44 rfl hl (by decide) rfl (fun ls hl => ?_)
        refine lv_aload_n hx hb dX8_seek_45 rfl (lv_at hl 1 rfl) ?_
        refine k_get (v := .ref (ad (b + 1))) hE hW hB_st.o hB_st.obj rfl inX8 0 (by decide) q244 rfl dX8_seek_46 ?_
        refine k_getN (v := .ref (ad (b + 1 + 34))) hE hW (hB_st.lv).o (hB_st.lv).obj rfl inX5 1 (by decide) q133 rfl dX8_seek_49 ?_
        refine k_getN (v := .ref (ad (b + 1 + 34 + 1 + 3))) hE hW ((hB_st.lv).gr).o ((hB_st.lv).gr).obj rfl inX1 3 (by decide) q92 rfl dX8_seek_52 ?_
        refine lv_iload_n hx hb dX8_seek_55 rfl (lv_at hl 2 rfl) ?_
        refine lv_iload_n hx hb dX8_seek_56 rfl (lv_at hl 3 rfl) ?_
        obtain ⟨g_8, h⟩ := zi_e h
        obtain ⟨st_9, est_9, h⟩ := zl_e h
        refine k_iast hE hW (((hB_st.lv).gr).memA 3 (Nat.le_of_ble_eq_true rfl)) (((hB_st.lv).gr).arr 3 rfl) g_8 dX8_seek_57 (fun H locs hW => ?_)
        obtain ⟨c, hB_st, hF, hW⟩ : ∃ c', KlB ct J ad c' b st_9 ∧ Fr c0 c' b 160 ∧ HW D J ad c' (aA J ad s.heap.size) s.heap H locs := ⟨_, by rw [est_9]; exact (hB_st.pLv ((hB_st.lv).pGr (((hB_st.lv).gr).wA (k := 3) rfl rfl) (Fr.rf.up (b := (b + 1 + 34)) (n := 5) (by omega) (by omega))) ((Fr.rf.up (b := (b + 1 + 34)) (n := 5) (by omega) (by omega)).wide (by omega) (by omega))), hF.up (by omega) (by omega), hW⟩
        refine lv_iload_n hx hb dX8_seek_58 rfl (lv_at hl 0 rfl) ?_
        obtain ⟨rfl, rfl⟩ := Prod.mk.inj (Option.some.inj h)
        exact k_iret hE hr hlk hW ⟨hB_st, hF⟩ rfl dX8_seek_59
      · have h := it_f k_5 h
        refine lv_bipush (v := (-2 : Int32)) hx hb dX8_seek_29 (by decide) ?_
        obtain ⟨rfl, rfl⟩ := Prod.mk.inj (Option.some.inj h)
        exact k_iret hE hr hlk hW ⟨hB_st, hF⟩ rfl dX8_seek_31
  · have h := it_t k_2 h
    refine lv_iconst (v := (-1 : Int32)) hx hb dX8_seek_7 (by decide) ?_
    obtain ⟨rfl, rfl⟩ := Prod.mk.inj (Option.some.inj h)
    exact k_iret hE hr hlk hW ⟨hB_st, hF⟩ rfl dX8_seek_8
set_option maxHeartbeats 4000000 in
set_option maxRecDepth 100000 in
theorem mX8_member {l : Launch} {D : va_G} {ct : Nat → ClassId} {J : List Nat} {ad : Nat → Nat} {c0 : CF} {a1 : Int32} {a2 : Int32} {b : Nat} {st : KS} (hB_st : KlB ct J ad c0 b st) {r : Int32} (h : fX8_member  a1 a2 st = some r) : Mi l D ct J ad yX8_member cX8_member 3 (some .int) (rr 3 68) [.ref (ad b), .int a1, .int a2] c0 r (fun c' => c' = c0) := by
  refine Mi_of (own := RX8) (by decide) rfl (Nat.le_of_ble_eq_true rfl) (fun p e s m below meth cd hE hr hlk hW ls hl => ?_)
  have hx := hE.1
  have hb := hE.2.1
  have hl : lv_has ls 3 [(0, .ref (ad b)), (1, .int a1), (2, .int a2)] := hl
  rw [fX8_member] at h
  refine lv_iload_n hx hb dX8_member_0 rfl (lv_at hl 1 rfl) ?_
  obtain ⟨r_1, hr_1, h⟩ := zb_e h
  refine k_callSi (rest := []) hE hW hl.1 (mX8_isMember hr_1) q603 q604 q1 q605 hd_X8_isMember.2 ⟨Nat.le_of_ble_eq_true rfl, Nat.le_of_ble_eq_true rfl⟩ ⟨rfl, rfl⟩ rfl (Nat.le_of_ble_eq_true rfl) dX8_member_1 ⟨Nat.zero_le _, Nat.zero_le _⟩ (fun c1 H locs hP hW => ?_)
  rw [hP] at hW
  refine lv_if_ne (tgt := 9) hx hb dX8_member_4 (by decide) (fun k_2 => ?_) (fun k_2 => ?_)
  · have h := it_f k_2 h
    refine lv_iload_n hx hb dX8_member_9 rfl (lv_at hl 2 rfl) ?_
    rcases Classical.em (a2 = (0 : Int32)) with k_3 | k_3
    · have h := it_t k_3 h
      refine lv_tableIn (tgt := 36) hx hb dX8_member_10 (by rw [k_3]; decide) (by rw [k_3]; decide) (by rw [k_3]; rfl) (by decide) ?_
      refine lv_aload_n hx hb dX8_member_36 rfl (lv_at hl 0 rfl) ?_
      refine k_get (v := .ref (ad (b + 1))) hE hW hB_st.o hB_st.obj rfl inX8 0 (by decide) q244 rfl dX8_member_37 ?_
      refine k_getN (v := .ref (ad (b + 1 + 34))) hE hW (hB_st.lv).o (hB_st.lv).obj rfl inX5 1 (by decide) q133 rfl dX8_member_40 ?_
      refine k_getN (v := .ref (ad (b + 1 + 34 + 1 + 0))) hE hW ((hB_st.lv).gr).o ((hB_st.lv).gr).obj rfl inX1 0 (by decide) q87 rfl dX8_member_43 ?_
      refine lv_iload_n hx hb dX8_member_46 rfl (lv_at hl 1 rfl) ?_
      obtain ⟨g_4, h⟩ := zi_e h
      refine k_zald hE hW (((hB_st.lv).gr).memA 0 (Nat.le_of_ble_eq_true rfl)) (((hB_st.lv).gr).arr 0 rfl) g_4 dX8_member_47 ?_
      refine lv_if_eq (tgt := 55) hx hb dX8_member_48 (by decide) (fun k_5 => ?_) (fun k_5 => ?_)
      · have h := it_t k_5 h
        refine lv_iconst (v := (0 : Int32)) hx hb dX8_member_55 (by decide) ?_
        obtain rfl := Option.some.inj h
        exact k_iret hE hr hlk hW rfl rfl dX8_member_56
      · have h := it_f k_5 h
        refine lv_iconst (v := (1 : Int32)) hx hb dX8_member_51 (by decide) ?_
        refine lv_goto (tgt := 56) hx hb dX8_member_52 (by decide) ?_
        obtain rfl := Option.some.inj h
        exact k_iret hE hr hlk hW rfl rfl dX8_member_56
    have h := it_f k_3 h
    rcases Classical.em (a2 = (1 : Int32)) with k_6 | k_6
    · have h := it_t k_6 h
      refine lv_tableIn (tgt := 57) hx hb dX8_member_10 (by rw [k_6]; decide) (by rw [k_6]; decide) (by rw [k_6]; rfl) (by decide) ?_
      refine lv_aload_n hx hb dX8_member_57 rfl (lv_at hl 0 rfl) ?_
      refine k_get (v := .ref (ad (b + 1))) hE hW hB_st.o hB_st.obj rfl inX8 0 (by decide) q244 rfl dX8_member_58 ?_
      refine k_getN (v := .ref (ad (b + 1 + 34))) hE hW (hB_st.lv).o (hB_st.lv).obj rfl inX5 1 (by decide) q133 rfl dX8_member_61 ?_
      refine lv_iload_n hx hb dX8_member_64 rfl (lv_at hl 1 rfl) ?_
      obtain ⟨r_7, hr_7, h⟩ := zb_e h
      refine k_callVNi (rest := []) hE hW hl.1 (mX1_logBits ((hB_st.lv).gr) hr_7) ((hB_st.lv).gr).o ((hB_st.lv).gr).obj rfl q680 q641 qs57 q4 q642 hd_X1_logBits.2 ⟨Nat.le_of_ble_eq_true rfl, Nat.le_of_ble_eq_true rfl⟩ ⟨rfl, rfl⟩ rfl (Nat.le_of_ble_eq_true rfl) dX8_member_65 ⟨Nat.zero_le _, Nat.zero_le _⟩ (fun c1 H locs hP hW => ?_)
      rw [hP] at hW
      obtain rfl := Option.some.inj h
      exact k_iret hE hr hlk hW rfl rfl dX8_member_68
    have h := it_f k_6 h
    rcases Classical.em (a2 = (2 : Int32)) with k_8 | k_8
    · have h := it_t k_8 h
      refine lv_tableIn (tgt := 69) hx hb dX8_member_10 (by rw [k_8]; decide) (by rw [k_8]; decide) (by rw [k_8]; rfl) (by decide) ?_
      refine lv_aload_n hx hb dX8_member_69 rfl (lv_at hl 0 rfl) ?_
      refine k_get (v := .ref (ad (b + 1))) hE hW hB_st.o hB_st.obj rfl inX8 0 (by decide) q244 rfl dX8_member_70 ?_
      refine k_getN (v := .ref (ad (b + 1 + 34))) hE hW (hB_st.lv).o (hB_st.lv).obj rfl inX5 1 (by decide) q133 rfl dX8_member_73 ?_
      refine lv_iload_n hx hb dX8_member_76 rfl (lv_at hl 1 rfl) ?_
      refine lv_aload_n hx hb dX8_member_77 rfl (lv_at hl 0 rfl) ?_
      refine k_get (v := .ref (ad (b + 1))) hE hW hB_st.o hB_st.obj rfl inX8 0 (by decide) q244 rfl dX8_member_78 ?_
      refine k_getN (v := .ref (ad (b + 1 + 1))) hE hW (hB_st.lv).o (hB_st.lv).obj rfl inX5 0 (by decide) q131 rfl dX8_member_81 ?_
      obtain ⟨r_9, hr_9, h⟩ := zb_e h
      refine k_callVNi (rest := []) hE hW hl.1 (mX1_lag ((hB_st.lv).gr) (hB_st.lv).logs hr_9) ((hB_st.lv).gr).o ((hB_st.lv).gr).obj rfl q681 q683 qs63 q4 q684 hd_X1_lag.2 ⟨Nat.le_of_ble_eq_true rfl, Nat.le_of_ble_eq_true rfl⟩ ⟨rfl, rfl⟩ rfl (Nat.le_of_ble_eq_true rfl) dX8_member_84 ⟨Nat.zero_le _, Nat.zero_le _⟩ (fun c1 H locs hP hW => ?_)
      rw [hP] at hW
      obtain rfl := Option.some.inj h
      exact k_iret hE hr hlk hW rfl rfl dX8_member_87
    have h := it_f k_8 h
    refine lv_tableOut (tgt := 88) hx hb dX8_member_10 (tb_out3 k_3 k_6 k_8) (by decide) ?_
    refine lv_iconst (v := (-1 : Int32)) hx hb dX8_member_88 (by decide) ?_
    obtain rfl := Option.some.inj h
    exact k_iret hE hr hlk hW rfl rfl dX8_member_89
  · have h := it_t k_2 h
    refine lv_iconst (v := (-1 : Int32)) hx hb dX8_member_7 (by decide) ?_
    obtain rfl := Option.some.inj h
    exact k_iret hE hr hlk hW rfl rfl dX8_member_8
set_option maxHeartbeats 4000000 in
set_option maxRecDepth 100000 in
theorem mX8_told {l : Launch} {D : va_G} {ct : Nat → ClassId} {J : List Nat} {ad : Nat → Nat} {c0 : CF} {a1 : Int32} {b : Nat} {st : KS} (hB_st : KlB ct J ad c0 b st) {r : Int32} (h : fX8_told  a1 st = some r) : Mi l D ct J ad yX8_told cX8_told 2 (some .int) (rr 1 22) [.ref (ad b), .int a1] c0 r (fun c' => c' = c0) := by
  refine Mi_of (own := RX8) (by decide) rfl (Nat.le_of_ble_eq_true rfl) (fun p e s m below meth cd hE hr hlk hW ls hl => ?_)
  have hx := hE.1
  have hb := hE.2.1
  have hl : lv_has ls 2 [(0, .ref (ad b)), (1, .int a1)] := hl
  rw [fX8_told] at h
  refine lv_iload_n hx hb dX8_told_0 rfl (lv_at hl 1 rfl) ?_
  rcases Classical.em (a1 = (0 : Int32)) with k_1 | k_1
  · have h := it_t k_1 h
    refine lv_tableIn (tgt := 40) hx hb dX8_told_1 (by rw [k_1]; decide) (by rw [k_1]; decide) (by rw [k_1]; rfl) (by decide) ?_
    refine lv_aload_n hx hb dX8_told_40 rfl (lv_at hl 0 rfl) ?_
    refine k_get (v := .ref (ad (b + 1))) hE hW hB_st.o hB_st.obj rfl inX8 0 (by decide) q244 rfl dX8_told_41 ?_
    refine k_getN (v := .int (st.1.2.2.2.2 0)) hE hW (hB_st.lv).o (hB_st.lv).obj rfl inX5 4 (by decide) q139 rfl dX8_told_44 ?_
    obtain rfl := Option.some.inj h
    exact k_iret hE hr hlk hW rfl rfl dX8_told_47
  have h := it_f k_1 h
  rcases Classical.em (a1 = (1 : Int32)) with k_2 | k_2
  · have h := it_t k_2 h
    refine lv_tableIn (tgt := 48) hx hb dX8_told_1 (by rw [k_2]; decide) (by rw [k_2]; decide) (by rw [k_2]; rfl) (by decide) ?_
    refine lv_aload_n hx hb dX8_told_48 rfl (lv_at hl 0 rfl) ?_
    refine k_get (v := .ref (ad (b + 1))) hE hW hB_st.o hB_st.obj rfl inX8 0 (by decide) q244 rfl dX8_told_49 ?_
    refine k_getN (v := .int (st.1.2.2.2.2 1)) hE hW (hB_st.lv).o (hB_st.lv).obj rfl inX5 5 (by decide) q141 rfl dX8_told_52 ?_
    obtain rfl := Option.some.inj h
    exact k_iret hE hr hlk hW rfl rfl dX8_told_55
  have h := it_f k_2 h
  rcases Classical.em (a1 = (2 : Int32)) with k_3 | k_3
  · have h := it_t k_3 h
    refine lv_tableIn (tgt := 56) hx hb dX8_told_1 (by rw [k_3]; decide) (by rw [k_3]; decide) (by rw [k_3]; rfl) (by decide) ?_
    refine lv_aload_n hx hb dX8_told_56 rfl (lv_at hl 0 rfl) ?_
    refine k_get (v := .ref (ad (b + 1))) hE hW hB_st.o hB_st.obj rfl inX8 0 (by decide) q244 rfl dX8_told_57 ?_
    refine k_getN (v := .int (st.1.2.2.2.2 2)) hE hW (hB_st.lv).o (hB_st.lv).obj rfl inX5 6 (by decide) q143 rfl dX8_told_60 ?_
    obtain rfl := Option.some.inj h
    exact k_iret hE hr hlk hW rfl rfl dX8_told_63
  have h := it_f k_3 h
  rcases Classical.em (a1 = (3 : Int32)) with k_4 | k_4
  · have h := it_t k_4 h
    refine lv_tableIn (tgt := 64) hx hb dX8_told_1 (by rw [k_4]; decide) (by rw [k_4]; decide) (by rw [k_4]; rfl) (by decide) ?_
    refine lv_aload_n hx hb dX8_told_64 rfl (lv_at hl 0 rfl) ?_
    refine k_get (v := .ref (ad (b + 1))) hE hW hB_st.o hB_st.obj rfl inX8 0 (by decide) q244 rfl dX8_told_65 ?_
    refine k_getN (v := .int (st.1.2.2.2.2 3)) hE hW (hB_st.lv).o (hB_st.lv).obj rfl inX5 7 (by decide) q145 rfl dX8_told_68 ?_
    obtain rfl := Option.some.inj h
    exact k_iret hE hr hlk hW rfl rfl dX8_told_71
  have h := it_f k_4 h
  rcases Classical.em (a1 = (4 : Int32)) with k_5 | k_5
  · have h := it_t k_5 h
    refine lv_tableIn (tgt := 72) hx hb dX8_told_1 (by rw [k_5]; decide) (by rw [k_5]; decide) (by rw [k_5]; rfl) (by decide) ?_
    refine lv_aload_n hx hb dX8_told_72 rfl (lv_at hl 0 rfl) ?_
    refine k_get (v := .ref (ad (b + 1))) hE hW hB_st.o hB_st.obj rfl inX8 0 (by decide) q244 rfl dX8_told_73 ?_
    refine k_getN (v := .ref (ad (b + 1 + 34))) hE hW (hB_st.lv).o (hB_st.lv).obj rfl inX5 1 (by decide) q133 rfl dX8_told_76 ?_
    refine k_getN (v := .int (st.1.2.1.2 0)) hE hW ((hB_st.lv).gr).o ((hB_st.lv).gr).obj rfl inX1 4 (by decide) q94 rfl dX8_told_79 ?_
    obtain rfl := Option.some.inj h
    exact k_iret hE hr hlk hW rfl rfl dX8_told_82
  have h := it_f k_5 h
  rcases Classical.em (a1 = (5 : Int32)) with k_6 | k_6
  · have h := it_t k_6 h
    refine lv_tableIn (tgt := 83) hx hb dX8_told_1 (by rw [k_6]; decide) (by rw [k_6]; decide) (by rw [k_6]; rfl) (by decide) ?_
    refine lv_aload_n hx hb dX8_told_83 rfl (lv_at hl 0 rfl) ?_
    refine k_get (v := .ref (ad (b + 1))) hE hW hB_st.o hB_st.obj rfl inX8 0 (by decide) q244 rfl dX8_told_84 ?_
    refine k_getN (v := .ref (ad (b + 1 + 34))) hE hW (hB_st.lv).o (hB_st.lv).obj rfl inX5 1 (by decide) q133 rfl dX8_told_87 ?_
    obtain ⟨r_7, hr_7, h⟩ := zb_e h
    refine k_callVNi (rest := []) hE hW hl.1 (mX1_inBits ((hB_st.lv).gr) hr_7) ((hB_st.lv).gr).o ((hB_st.lv).gr).obj rfl q690 q623 qs54 q4 q624 hd_X1_inBits.2 ⟨Nat.le_of_ble_eq_true rfl, Nat.le_of_ble_eq_true rfl⟩ ⟨rfl, rfl⟩ rfl (Nat.le_of_ble_eq_true rfl) dX8_told_90 ⟨Nat.zero_le _, Nat.zero_le _⟩ (fun c1 H locs hP hW => ?_)
    rw [hP] at hW
    obtain rfl := Option.some.inj h
    exact k_iret hE hr hlk hW rfl rfl dX8_told_93
  have h := it_f k_6 h
  refine lv_tableOut (tgt := 94) hx hb dX8_told_1 (tb_out6 k_1 k_2 k_3 k_4 k_5 k_6) (by decide) ?_
  refine lv_iconst (v := (-1 : Int32)) hx hb dX8_told_94 (by decide) ?_
  obtain rfl := Option.some.inj h
  exact k_iret hE hr hlk hW rfl rfl dX8_told_95
set_option maxHeartbeats 4000000 in
set_option maxRecDepth 100000 in
theorem wX8_harmlessKeeps_5 {p : Program} {l : Launch} {e : Env} {s : State} {m : MethodId} {args : Array Value} {below : List Frame} {meth : Method} {cd : Code} {D : va_G} {ct : Nat → ClassId} {J : List Nat} {ad : Nat → Nat} {c0 : CF} {b : Nat} (hE : ME p s m cd args D ct cX8_harmlessKeeps RX8 5) (hr : meth.sig.returnType = (some .int)) (hlk : meth.locks = false) {x2 : Int32} {ix : Nat} (hix : ix < 4) {st : KS} (hB_st : KlB ct J ad c0 b st) {r : Int32} : ∀ (n : Nat) (x3 : Int32) (x4 : Int32) (H : Heap) (locs : List Loc) (ls : Array Slot), HW D J ad c0 (aA J ad s.heap.size) s.heap H locs → lv_has ls 5 [(0, .ref (ad b)), (1, .ref (ad (b + 1 + 1 + 1 + 8 * ix))), (2, .int x2), (3, .int x3), (4, .int x4)] → fX8_harmlessKeeps_5 ix x2 st n x3 x4 = some r → W p l e (rr 5 113) s m args below meth cd H locs 0 0 (MQ below (Qi D J ad s.heap.size r (fun c' => c' = c0)) args s 0 0 (aA J ad s.heap.size)) (F0 m 5 ls []) := by
  have hx := hE.1
  have hb := hE.2.1
  intro n
  induction n with
  | zero =>
    intro x3 x4 H locs ls hW hl h
    have h2 : (none : Option Int32) = some r := h
    cases h2
  | succ n ih =>
    intro x3 x4 H locs ls hW hl h
    rw [fX8_harmlessKeeps_5] at h
    refine lv_iload hx hb dX8_harmlessKeeps_5 (lv_at hl 4 rfl) ?_
    refine lv_iload_n hx hb dX8_harmlessKeeps_7 rfl (lv_at hl 2 rfl) ?_
    refine lv_icmp_ge (tgt := 45) hx hb dX8_harmlessKeeps_8 (by decide) (fun k_1 => ?_) (fun k_1 => ?_)
    · have h := it_t k_1 h
      refine lv_iload_n hx hb dX8_harmlessKeeps_45 rfl (lv_at hl 3 rfl) ?_
      obtain rfl := Option.some.inj h
      exact k_iret hE hr hlk hW rfl rfl dX8_harmlessKeeps_46
    · have h := it_f k_1 h
      refine lv_aload_n hx hb dX8_harmlessKeeps_11 rfl (lv_at hl 1 rfl) ?_
      refine lv_iconst (v := (5 : Int32)) hx hb dX8_harmlessKeeps_12 (by decide) ?_
      refine lv_iload hx hb dX8_harmlessKeeps_13 (lv_at hl 4 rfl) ?_
      refine lv_imul hx hb dX8_harmlessKeeps_15 ?_
      refine lv_aload_n hx hb dX8_harmlessKeeps_16 rfl (lv_at hl 0 rfl) ?_
      refine k_get (v := .ref (ad (b + 1))) hE hW hB_st.o hB_st.obj rfl inX8 0 (by decide) q244 rfl dX8_harmlessKeeps_17 ?_
      refine k_getN (v := .int (st.1.2.2.2.2 0)) hE hW (hB_st.lv).o (hB_st.lv).obj rfl inX5 4 (by decide) q139 rfl dX8_harmlessKeeps_20 ?_
      refine lv_aload_n hx hb dX8_harmlessKeeps_23 rfl (lv_at hl 0 rfl) ?_
      refine k_get (v := .ref (ad (b + 1))) hE hW hB_st.o hB_st.obj rfl inX8 0 (by decide) q244 rfl dX8_harmlessKeeps_24 ?_
      refine k_getN (v := .int (st.1.2.2.2.2 3)) hE hW (hB_st.lv).o (hB_st.lv).obj rfl inX5 7 (by decide) q145 rfl dX8_harmlessKeeps_27 ?_
      obtain ⟨r_2, hr_2, h⟩ := zb_e h
      refine k_callVNi (rest := []) hE hW hl.1 (mX3_goneIfRetained ((hB_st.lv).log hix) hr_2) ((hB_st.lv).log hix).o ((hB_st.lv).log hix).obj rfl q583 q585 qs48 q3 q586 hd_X3_goneIfRetained.2 ⟨Nat.le_of_ble_eq_true rfl, Nat.le_of_ble_eq_true rfl⟩ ⟨rfl, rfl⟩ rfl (Nat.le_of_ble_eq_true rfl) dX8_harmlessKeeps_30 ⟨Nat.zero_le _, Nat.zero_le _⟩ (fun c1 H locs hP hW => ?_)
      rw [hP] at hW
      refine lv_if_ne (tgt := 39) hx hb dX8_harmlessKeeps_33 (by decide) (fun k_3 => ?_) (fun k_3 => ?_)
      · have h := it_f k_3 h
        refine lv_iinc (v := (x4 + (1 : Int32))) (lv' := [(4, .int (x4 + (1 : Int32))), (0, .ref (ad b)), (1, .ref (ad (b + 1 + 1 + 1 + 8 * ix))), (2, .int x2), (3, .int x3)]) hx hb dX8_harmlessKeeps_39 hl (k := 4) rfl rfl (by decide) rfl (fun ls hl => ?_)
        refine lv_goto (tgt := 5) hx hb dX8_harmlessKeeps_42 (by decide) ?_
        exact ih _ _ _ _ _ hW (lv_sub hl [1, 2, 3, 4, 0] rfl) h
      · have h := it_t k_3 h
        refine lv_iinc (v := (x3 + (1 : Int32))) (lv' := [(3, .int (x3 + (1 : Int32))), (0, .ref (ad b)), (1, .ref (ad (b + 1 + 1 + 1 + 8 * ix))), (2, .int x2), (4, .int x4)]) hx hb dX8_harmlessKeeps_36 hl (k := 3) rfl rfl (by decide) rfl (fun ls hl => ?_)
        refine lv_iinc (v := (x4 + (1 : Int32))) (lv' := [(4, .int (x4 + (1 : Int32))), (3, .int (x3 + (1 : Int32))), (0, .ref (ad b)), (1, .ref (ad (b + 1 + 1 + 1 + 8 * ix))), (2, .int x2)]) hx hb dX8_harmlessKeeps_39 hl (k := 4) rfl rfl (by decide) rfl (fun ls hl => ?_)
        refine lv_goto (tgt := 5) hx hb dX8_harmlessKeeps_42 (by decide) ?_
        exact ih _ _ _ _ _ hW (lv_sub hl [2, 3, 4, 1, 0] rfl) h
set_option maxHeartbeats 4000000 in
set_option maxRecDepth 100000 in
theorem mX8_harmlessKeeps {l : Launch} {D : va_G} {ct : Nat → ClassId} {J : List Nat} {ad : Nat → Nat} {c0 : CF} {a2 : Int32} {ix : Nat} (hix : ix < 4) {b : Nat} {st : KS} (hB_st : KlB ct J ad c0 b st) {r : Int32} (h : fX8_harmlessKeeps  ix a2 st = some r) : Mi l D ct J ad yX8_harmlessKeeps cX8_harmlessKeeps 5 (some .int) (rr 5 113) [.ref (ad b), .ref (ad (b + 1 + 1 + 1 + 8 * ix)), .int a2] c0 r (fun c' => c' = c0) := by
  refine Mi_of (own := RX8) (by decide) rfl (Nat.le_of_ble_eq_true rfl) (fun p e s m below meth cd hE hr hlk hW ls hl => ?_)
  have hx := hE.1
  have hb := hE.2.1
  have hl : lv_has ls 5 [(0, .ref (ad b)), (1, .ref (ad (b + 1 + 1 + 1 + 8 * ix))), (2, .int a2)] := hl
  rw [fX8_harmlessKeeps] at h
  refine lv_iconst (v := (0 : Int32)) hx hb dX8_harmlessKeeps_0 (by decide) ?_
  refine lv_istore_n (lv' := [(3, .int (0 : Int32)), (0, .ref (ad b)), (1, .ref (ad (b + 1 + 1 + 1 + 8 * ix))), (2, .int a2)]) hx hb dX8_harmlessKeeps_1 rfl hl (by decide) rfl (fun ls hl => ?_)
  refine lv_iconst (v := (0 : Int32)) hx hb dX8_harmlessKeeps_2 (by decide) ?_
  refine lv_istore (lv' := [(4, .int (0 : Int32)), (3, .int (0 : Int32)), (0, .ref (ad b)), (1, .ref (ad (b + 1 + 1 + 1 + 8 * ix))), (2, .int a2)]) hx hb dX8_harmlessKeeps_3 hl (by decide) rfl (fun ls hl => ?_)
  exact wX8_harmlessKeeps_5 hE hr hlk hix hB_st _ _ _ _ _ _ hW (lv_sub hl [2, 3, 4, 1, 0] rfl) h
set_option maxHeartbeats 4000000 in
set_option maxRecDepth 100000 in
theorem wX8_commonDivisor_2 {p : Program} {l : Launch} {e : Env} {s : State} {m : MethodId} {args : Array Value} {below : List Frame} {meth : Method} {cd : Code} {D : va_G} {ct : Nat → ClassId} {J : List Nat} {ad : Nat → Nat} {c0 : CF} (hE : ME p s m cd args D ct cX8_commonDivisor RX8 3) (hr : meth.sig.returnType = (some .int)) (hlk : meth.locks = false) {x0 : Int32} {x1 : Int32} {r : Int32} : ∀ (n : Nat) (x2 : Int32) (H : Heap) (locs : List Loc) (ls : Array Slot), HW D J ad c0 (aA J ad s.heap.size) s.heap H locs → lv_has ls 3 [(0, .int x0), (1, .int x1), (2, .int x2)] → fX8_commonDivisor_2 x0 x1 n x2 = some r → W p l e (rr 0 0) s m args below meth cd H locs 0 0 (MQ below (Qi D J ad s.heap.size r (fun c' => c' = c0)) args s 0 0 (aA J ad s.heap.size)) (F0 m 2 ls []) := by
  have hx := hE.1
  have hb := hE.2.1
  intro n
  induction n with
  | zero =>
    intro x2 H locs ls hW hl h
    have h2 : (none : Option Int32) = some r := h
    cases h2
  | succ n ih =>
    intro x2 H locs ls hW hl h
    rw [fX8_commonDivisor_2] at h
    refine lv_iload_n hx hb dX8_commonDivisor_2 rfl (lv_at hl 2 rfl) ?_
    refine lv_iconst (v := (1 : Int32)) hx hb dX8_commonDivisor_3 (by decide) ?_
    refine lv_icmp_le (tgt := 27) hx hb dX8_commonDivisor_4 (by decide) (fun k_1 => ?_) (fun k_1 => ?_)
    · have h := it_t k_1 h
      refine lv_iconst (v := (1 : Int32)) hx hb dX8_commonDivisor_27 (by decide) ?_
      obtain rfl := Option.some.inj h
      exact k_iret hE hr hlk hW rfl rfl dX8_commonDivisor_28
    · have h := it_f k_1 h
      refine lv_iload_n hx hb dX8_commonDivisor_7 rfl (lv_at hl 0 rfl) ?_
      refine lv_iload_n hx hb dX8_commonDivisor_8 rfl (lv_at hl 2 rfl) ?_
      obtain ⟨g_2, h⟩ := zz_e h
      refine lv_irem hx hb dX8_commonDivisor_9 g_2 ?_
      refine lv_if_ne (tgt := 21) hx hb dX8_commonDivisor_10 (by decide) (fun k_3 => ?_) (fun k_3 => ?_)
      · have h := it_f k_3 h
        refine lv_iinc (v := (x2 + (-1 : Int32))) (lv' := [(2, .int (x2 + (-1 : Int32))), (0, .int x0), (1, .int x1)]) hx hb dX8_commonDivisor_21 hl (k := 2) rfl rfl (by decide) rfl (fun ls hl => ?_)
        refine lv_goto (tgt := 2) hx hb dX8_commonDivisor_24 (by decide) ?_
        exact ih _ _ _ _ hW (lv_sub hl [1, 2, 0] rfl) h
      · have h := it_t k_3 h
        refine lv_iload_n hx hb dX8_commonDivisor_13 rfl (lv_at hl 1 rfl) ?_
        refine lv_iload_n hx hb dX8_commonDivisor_14 rfl (lv_at hl 2 rfl) ?_
        obtain ⟨g_4, h⟩ := zz_e h
        refine lv_irem hx hb dX8_commonDivisor_15 g_4 ?_
        refine lv_if_ne (tgt := 21) hx hb dX8_commonDivisor_16 (by decide) (fun k_5 => ?_) (fun k_5 => ?_)
        · have h := it_f k_5 h
          refine lv_iinc (v := (x2 + (-1 : Int32))) (lv' := [(2, .int (x2 + (-1 : Int32))), (0, .int x0), (1, .int x1)]) hx hb dX8_commonDivisor_21 hl (k := 2) rfl rfl (by decide) rfl (fun ls hl => ?_)
          refine lv_goto (tgt := 2) hx hb dX8_commonDivisor_24 (by decide) ?_
          exact ih _ _ _ _ hW (lv_sub hl [1, 2, 0] rfl) h
        · have h := it_t k_5 h
          refine lv_iload_n hx hb dX8_commonDivisor_19 rfl (lv_at hl 2 rfl) ?_
          obtain rfl := Option.some.inj h
          exact k_iret hE hr hlk hW rfl rfl dX8_commonDivisor_20
set_option maxHeartbeats 4000000 in
set_option maxRecDepth 100000 in
theorem mX8_commonDivisor {l : Launch} {D : va_G} {ct : Nat → ClassId} {J : List Nat} {ad : Nat → Nat} {c0 : CF} {a1 : Int32} {a2 : Int32} {r : Int32} (h : fX8_commonDivisor  a1 a2 = some r) : Mi l D ct J ad yX8_commonDivisor cX8_commonDivisor 3 (some .int) (rr 0 0) [.int a1, .int a2] c0 r (fun c' => c' = c0) := by
  refine Mi_of (own := RX8) (by decide) rfl (Nat.le_of_ble_eq_true rfl) (fun p e s m below meth cd hE hr hlk hW ls hl => ?_)
  have hx := hE.1
  have hb := hE.2.1
  have hl : lv_has ls 3 [(0, .int a1), (1, .int a2)] := hl
  rw [fX8_commonDivisor] at h
  refine lv_iload_n hx hb dX8_commonDivisor_0 rfl (lv_at hl 1 rfl) ?_
  refine lv_istore_n (lv' := [(2, .int a2), (0, .int a1), (1, .int a2)]) hx hb dX8_commonDivisor_1 rfl hl (by decide) rfl (fun ls hl => ?_)
  exact wX8_commonDivisor_2 hE hr hlk _ _ _ _ _ hW (lv_sub hl [1, 2, 0] rfl) h
set_option maxHeartbeats 4000000 in
set_option maxRecDepth 100000 in
theorem wX8_odds_57 {p : Program} {l : Launch} {e : Env} {s : State} {m : MethodId} {args : Array Value} {below : List Frame} {meth : Method} {cd : Code} {D : va_G} {ct : Nat → ClassId} {J : List Nat} {ad : Nat → Nat} {c0 : CF} {b : Nat} (hE : ME p s m cd args D ct cX8_odds RX8 6) (hr : meth.sig.returnType = (some .long)) (hlk : meth.locks = false) {st : KS} (hB_st : KlB ct J ad c0 b st) {r : Int64} : ∀ (x5 : Int32) (y0 : Int32) (H : Heap) (locs : List Loc) (ls : Array Slot), HW D J ad c0 (aA J ad s.heap.size) s.heap H locs → lv_has ls 6 [(5, .int x5)] → fX8_odds_57 st x5 y0 = some r → W p l e (rr 6 137) s m args below meth cd H locs 0 0 (MQ below (Ql D J ad s.heap.size r (fun c' => c' = c0)) args s 0 0 (aA J ad s.heap.size)) (F0 m 57 ls [.int y0]) := by
  have hx := hE.1
  have hb := hE.2.1
  intro x5 y0 H locs ls hW hl h
  rw [fX8_odds_57] at h
  refine lv_iload hx hb dX8_odds_57 (lv_at hl 0 rfl) ?_
  refine lv_iconst (v := (1 : Int32)) hx hb dX8_odds_59 (by decide) ?_
  refine va_mmax hx hb (hE.2.2.1.trans hl.1.symm) hE.2.2.2.1 (hE.2.2.2.2.1 _ q702) (hE.2.2.2.2.1 _ q114) (hE.2.2.2.2.1 _ q6) (hE.2.2.2.2.1 _ q115) (Nat.le_of_ble_eq_true rfl) (Nat.le_of_ble_eq_true rfl) (Nat.zero_le _) (Nat.zero_le _) dX8_odds_60 ?_
  obtain ⟨g_9, h⟩ := zz_e h
  refine lv_idiv hx hb dX8_odds_63 g_9 ?_
  refine lv_i2l (v := (y0 / (if x5 < (1 : Int32) then (1 : Int32) else x5)).toInt64) hx hb dX8_odds_64 rfl ?_
  obtain rfl := Option.some.inj h
  exact k_lret hE hr hlk hW rfl rfl dX8_odds_65
set_option maxHeartbeats 4000000 in
set_option maxRecDepth 100000 in
theorem mX8_odds {l : Launch} {D : va_G} {ct : Nat → ClassId} {J : List Nat} {ad : Nat → Nat} {c0 : CF} {a1 : Int32} {a2 : Int32} {b : Nat} {st : KS} (hB_st : KlB ct J ad c0 b st) {r : Int64} (h : fX8_odds  a1 a2 st = some r) : Ml l D ct J ad yX8_odds cX8_odds 6 (some .long) (rr 6 137) [.ref (ad b), .int a1, .int a2] c0 r (fun c' => c' = c0) := by
  refine Ml_of (own := RX8) (by decide) rfl (Nat.le_of_ble_eq_true rfl) (fun p e s m below meth cd hE hr hlk hW ls hl => ?_)
  have hx := hE.1
  have hb := hE.2.1
  have hl : lv_has ls 6 [(0, .ref (ad b)), (1, .int a1), (2, .int a2)] := hl
  rw [fX8_odds] at h
  refine lv_iload_n hx hb dX8_odds_0 rfl (lv_at hl 1 rfl) ?_
  obtain ⟨r_1, hr_1, h⟩ := zb_e h
  refine k_callSi (rest := []) hE hW hl.1 (mX8_isLog hr_1) q286 q287 q1 q288 hd_X8_isLog.2 ⟨Nat.le_of_ble_eq_true rfl, Nat.le_of_ble_eq_true rfl⟩ ⟨rfl, rfl⟩ rfl (Nat.le_of_ble_eq_true rfl) dX8_odds_1 ⟨Nat.zero_le _, Nat.zero_le _⟩ (fun c1 H locs hP hW => ?_)
  rw [hP] at hW
  refine lv_if_eq (tgt := 16) hx hb dX8_odds_4 (by decide) (fun k_2 => ?_) (fun k_2 => ?_)
  · have h := it_t k_2 h
    refine lv_ldc2 (v := (-9223372036854775808 : Int64)) hx hb hE.2.2.2.1 (hE.2.2.2.2.1 _ q470) dX8_odds_16 ?_
    obtain rfl := Option.some.inj h
    exact k_lret hE hr hlk hW rfl rfl dX8_odds_19
  · have h := it_f k_2 h
    refine lv_iload_n hx hb dX8_odds_7 rfl (lv_at hl 2 rfl) ?_
    refine lv_if_lt (tgt := 16) hx hb dX8_odds_8 (by decide) (fun k_3 => ?_) (fun k_3 => ?_)
    · have h := it_t k_3 h
      refine lv_ldc2 (v := (-9223372036854775808 : Int64)) hx hb hE.2.2.2.1 (hE.2.2.2.2.1 _ q470) dX8_odds_16 ?_
      obtain rfl := Option.some.inj h
      exact k_lret hE hr hlk hW rfl rfl dX8_odds_19
    · have h := it_f k_3 h
      refine lv_iload_n hx hb dX8_odds_11 rfl (lv_at hl 2 rfl) ?_
      refine lv_iconst (v := (1 : Int32)) hx hb dX8_odds_12 (by decide) ?_
      refine lv_icmp_le (tgt := 20) hx hb dX8_odds_13 (by decide) (fun k_4 => ?_) (fun k_4 => ?_)
      · have h := it_t k_4 h
        refine lv_bipush (v := (20 : Int32)) hx hb dX8_odds_20 (by decide) ?_
        refine lv_istore_n (lv' := [(3, .int (20 : Int32)), (0, .ref (ad b)), (1, .int a1), (2, .int a2)]) hx hb dX8_odds_22 rfl hl (by decide) rfl (fun ls hl => ?_)
        refine lv_aload_n hx hb dX8_odds_23 rfl (lv_at hl 1 rfl) ?_
        refine lv_aload_n hx hb dX8_odds_24 rfl (lv_at hl 1 rfl) ?_
        refine k_get (v := .ref (ad (b + 1))) hE hW hB_st.o hB_st.obj rfl inX8 0 (by decide) q244 rfl dX8_odds_25 ?_
        refine k_getN (v := .ref (ad (b + 1 + 1))) hE hW (hB_st.lv).o (hB_st.lv).obj rfl inX5 0 (by decide) q131 rfl dX8_odds_28 ?_
        refine lv_iload_n hx hb dX8_odds_31 rfl (lv_at hl 2 rfl) ?_
        obtain ⟨g_5, h⟩ := zi_e h
        have hg_5 := vp_lt g_5
        refine k_aaldR3 (g := fun i => b + 1 + 1 + 1 + 8 * i) hE hW (hB_st.lv).logs.o (hB_st.lv).logs.out g_5 dX8_odds_32 ?_
        refine lv_iload_n hx hb dX8_odds_33 rfl (lv_at hl 0 rfl) ?_
        obtain ⟨r_6, hr_6, h⟩ := zb_e h
        refine k_callVi (rest := []) hE hW hl.1 (mX8_harmlessKeeps hg_5 hB_st hr_6) hB_st.o hB_st.obj rfl q695 q697 qs64 q1 q698 hd_X8_harmlessKeeps ⟨Nat.le_of_ble_eq_true rfl, Nat.le_of_ble_eq_true rfl⟩ ⟨rfl, rfl⟩ rfl (Nat.le_of_ble_eq_true rfl) dX8_odds_34 ⟨Nat.zero_le _, Nat.zero_le _⟩ (fun c1 H locs hP hW => ?_)
        rw [hP] at hW
        refine lv_istore (lv' := [(4, .int r_6), (3, .int (20 : Int32)), (0, .ref (ad b)), (1, .int a1), (2, .int a2)]) hx hb dX8_odds_37 hl (by decide) rfl (fun ls hl => ?_)
        refine lv_iload hx hb dX8_odds_39 (lv_at hl 0 rfl) ?_
        refine lv_iload_n hx hb dX8_odds_41 rfl (lv_at hl 1 rfl) ?_
        obtain ⟨r_7, hr_7, h⟩ := zb_e h
        refine k_callSi (rest := []) hE hW hl.1 (mX8_commonDivisor hr_7) q699 q700 q1 q701 hd_X8_commonDivisor.2 ⟨Nat.le_of_ble_eq_true rfl, Nat.le_of_ble_eq_true rfl⟩ ⟨rfl, rfl⟩ rfl (Nat.le_of_ble_eq_true rfl) dX8_odds_42 ⟨Nat.zero_le _, Nat.zero_le _⟩ (fun c1 H locs hP hW => ?_)
        rw [hP] at hW
        refine lv_istore (lv' := [(5, .int r_7), (4, .int r_6), (3, .int (20 : Int32)), (0, .ref (ad b)), (1, .int a1), (2, .int a2)]) hx hb dX8_odds_45 hl (by decide) rfl (fun ls hl => ?_)
        refine lv_iload_n hx hb dX8_odds_47 rfl (lv_at hl 5 rfl) ?_
        refine lv_if_ne (tgt := 56) hx hb dX8_odds_48 (by decide) (fun k_8 => ?_) (fun k_8 => ?_)
        · have h := it_f k_8 h
          refine lv_iload_n hx hb dX8_odds_56 rfl (lv_at hl 2 rfl) ?_
          exact wX8_odds_57 hE hr hlk hB_st _ _ _ _ _ hW (lv_sub hl [0] rfl) h
        · have h := it_t k_8 h
          refine lv_iload hx hb dX8_odds_51 (lv_at hl 1 rfl) ?_
          refine lv_goto (tgt := 57) hx hb dX8_odds_53 (by decide) ?_
          exact wX8_odds_57 hE hr hlk hB_st _ _ _ _ _ hW (lv_sub hl [0] rfl) h
      · have h := it_f k_4 h
        refine lv_ldc2 (v := (-9223372036854775808 : Int64)) hx hb hE.2.2.2.1 (hE.2.2.2.2.1 _ q470) dX8_odds_16 ?_
        obtain rfl := Option.some.inj h
        exact k_lret hE hr hlk hW rfl rfl dX8_odds_19
set_option maxHeartbeats 4000000 in
set_option maxRecDepth 100000 in
theorem wX8_plan_71 {p : Program} {l : Launch} {e : Env} {s : State} {m : MethodId} {args : Array Value} {below : List Frame} {meth : Method} {cd : Code} {D : va_G} {ct : Nat → ClassId} {J : List Nat} {ad : Nat → Nat} {c0 : CF} {b : Nat} (hE : ME p s m cd args D ct cX8_plan RX8 3) (hr : meth.sig.returnType = (some .int)) (hlk : meth.locks = false) {r : Int32} {st9 : KS} : ∀ (x1 : Int32) (x2 : Int32) (st : KS) (c : CF) (H : Heap) (locs : List Loc) (ls : Array Slot), HW D J ad c (aA J ad s.heap.size) s.heap H locs → KlB ct J ad c b st → Fr c0 c b 160 → lv_has ls 3 [(0, .ref (ad b)), (1, .int x1), (2, .int x2)] → fX8_plan_71 x1 x2 st = some (r, st9) → W p l e (rr 1 22) s m args below meth cd H locs 0 0 (MQ below (Qi D J ad s.heap.size r (fun c' => KlB ct J ad c' b st9 ∧ Fr c0 c' b 160)) args s 0 0 (aA J ad s.heap.size)) (F0 m 71 ls []) := by
  have hx := hE.1
  have hb := hE.2.1
  intro x1 x2 st c H locs ls hW hB_st hF hl h
  rw [fX8_plan_71] at h
  refine lv_aload_n hx hb dX8_plan_71 rfl (lv_at hl 0 rfl) ?_
  refine k_get (v := .ref (ad (b + 1))) hE hW hB_st.o hB_st.obj rfl inX8 0 (by decide) q244 rfl dX8_plan_72 ?_
  refine k_getN (v := .ref (ad (b + 1 + 39))) hE hW (hB_st.lv).o (hB_st.lv).obj rfl inX5 2 (by decide) q135 rfl dX8_plan_75 ?_
  obtain ⟨r_7, hr_7, h⟩ := zb_e h
  refine k_callVNi (rest := []) hE hW hl.1 (mX4_isFull (Nat.le_of_ble_eq_true rfl) ((hB_st.lv).pl) hr_7) ((hB_st.lv).pl).o ((hB_st.lv).pl).obj rfl q707 q709 qs65 q5 q710 hd_X4_isFull.2 ⟨Nat.le_of_ble_eq_true rfl, Nat.le_of_ble_eq_true rfl⟩ ⟨rfl, rfl⟩ rfl (Nat.le_of_ble_eq_true rfl) dX8_plan_78 ⟨Nat.zero_le _, Nat.zero_le _⟩ (fun c1 H locs hP hW => ?_)
  rw [hP] at hW
  refine lv_if_eq (tgt := 89) hx hb dX8_plan_81 (by decide) (fun k_8 => ?_) (fun k_8 => ?_)
  · have h := it_t k_8 h
    refine lv_aload_n hx hb dX8_plan_89 rfl (lv_at hl 0 rfl) ?_
    refine k_get (v := .ref (ad (b + 1))) hE hW hB_st.o hB_st.obj rfl inX8 0 (by decide) q244 rfl dX8_plan_90 ?_
    refine k_getN (v := .ref (ad (b + 1 + 39))) hE hW (hB_st.lv).o (hB_st.lv).obj rfl inX5 2 (by decide) q135 rfl dX8_plan_93 ?_
    refine lv_iload_n hx hb dX8_plan_96 rfl (lv_at hl 1 rfl) ?_
    refine lv_iload_n hx hb dX8_plan_97 rfl (lv_at hl 2 rfl) ?_
    obtain ⟨r_9, y_11, hr_9, h⟩ := zb2_e h
    obtain ⟨st_10, est_10, h⟩ := zl_e h
    refine k_callVNi (rest := []) hE hW hl.1 (mX4_takeRow (Nat.le_of_ble_eq_true rfl) ((hB_st.lv).pl) hr_9) ((hB_st.lv).pl).o ((hB_st.lv).pl).obj rfl q711 q713 qs66 q5 q714 hd_X4_takeRow.2 ⟨Nat.le_of_ble_eq_true rfl, Nat.le_of_ble_eq_true rfl⟩ ⟨rfl, rfl⟩ rfl (Nat.le_of_ble_eq_true rfl) dX8_plan_98 ⟨Nat.zero_le _, Nat.zero_le _⟩ (fun c1 H locs hP hW => ?_)
    obtain ⟨c, hB_st, hF, hW⟩ : ∃ c', KlB ct J ad c' b st_10 ∧ Fr c0 c' b 160 ∧ HW D J ad c' (aA J ad s.heap.size) s.heap H locs := ⟨c1, by rw [est_10]; exact (hB_st.pLv ((hB_st.lv).pPl hP.1 hP.2) (hP.2.wide (by omega) (by omega))), hF.trans (hP.2.wide (by omega) (by omega)), hW⟩
    obtain ⟨rfl, rfl⟩ := Prod.mk.inj (Option.some.inj h)
    exact k_iret hE hr hlk hW ⟨hB_st, hF⟩ rfl dX8_plan_101
  · have h := it_f k_8 h
    refine lv_bipush (v := (-4 : Int32)) hx hb dX8_plan_84 (by decide) ?_
    refine lv_goto (tgt := 101) hx hb dX8_plan_86 (by decide) ?_
    obtain ⟨rfl, rfl⟩ := Prod.mk.inj (Option.some.inj h)
    exact k_iret hE hr hlk hW ⟨hB_st, hF⟩ rfl dX8_plan_101
set_option maxHeartbeats 4000000 in
set_option maxRecDepth 100000 in
theorem wX8_plan_53 {p : Program} {l : Launch} {e : Env} {s : State} {m : MethodId} {args : Array Value} {below : List Frame} {meth : Method} {cd : Code} {D : va_G} {ct : Nat → ClassId} {J : List Nat} {ad : Nat → Nat} {c0 : CF} {b : Nat} (hE : ME p s m cd args D ct cX8_plan RX8 3) (hr : meth.sig.returnType = (some .int)) (hlk : meth.locks = false) {r : Int32} {st9 : KS} : ∀ (x1 : Int32) (x2 : Int32) (st : KS) (c : CF) (H : Heap) (locs : List Loc) (ls : Array Slot), HW D J ad c (aA J ad s.heap.size) s.heap H locs → KlB ct J ad c b st → Fr c0 c b 160 → lv_has ls 3 [(0, .ref (ad b)), (1, .int x1), (2, .int x2)] → fX8_plan_53 x1 x2 st = some (r, st9) → W p l e (rr 1 22) s m args below meth cd H locs 0 0 (MQ below (Qi D J ad s.heap.size r (fun c' => KlB ct J ad c' b st9 ∧ Fr c0 c' b 160)) args s 0 0 (aA J ad s.heap.size)) (F0 m 53 ls []) := by
  have hx := hE.1
  have hb := hE.2.1
  intro x1 x2 st c H locs ls hW hB_st hF hl h
  rw [fX8_plan_53] at h
  refine lv_iload_n hx hb dX8_plan_53 rfl (lv_at hl 1 rfl) ?_
  refine lv_iconst (v := (3 : Int32)) hx hb dX8_plan_54 (by decide) ?_
  refine lv_icmp_ne (tgt := 71) hx hb dX8_plan_55 (by decide) (fun k_6 => ?_) (fun k_6 => ?_)
  · have h := it_f k_6 h
    exact wX8_plan_71 hE hr hlk _ _ _ _ _ _ _ hW hB_st hF (lv_sub hl [0, 1, 2] rfl) h
  · have h := it_t k_6 h
    refine lv_iload_n hx hb dX8_plan_58 rfl (lv_at hl 2 rfl) ?_
    refine lv_if_lt (tgt := 68) hx hb dX8_plan_59 (by decide) (fun k_12 => ?_) (fun k_12 => ?_)
    · have h := it_t k_12 h
      refine lv_bipush (v := (-2 : Int32)) hx hb dX8_plan_68 (by decide) ?_
      obtain ⟨rfl, rfl⟩ := Prod.mk.inj (Option.some.inj h)
      exact k_iret hE hr hlk hW ⟨hB_st, hF⟩ rfl dX8_plan_70
    · have h := it_f k_12 h
      refine lv_iload_n hx hb dX8_plan_62 rfl (lv_at hl 2 rfl) ?_
      refine lv_bipush (v := (99 : Int32)) hx hb dX8_plan_63 (by decide) ?_
      refine lv_icmp_le (tgt := 71) hx hb dX8_plan_65 (by decide) (fun k_13 => ?_) (fun k_13 => ?_)
      · have h := it_t k_13 h
        exact wX8_plan_71 hE hr hlk _ _ _ _ _ _ _ hW hB_st hF (lv_sub hl [0, 1, 2] rfl) h
      · have h := it_f k_13 h
        refine lv_bipush (v := (-2 : Int32)) hx hb dX8_plan_68 (by decide) ?_
        obtain ⟨rfl, rfl⟩ := Prod.mk.inj (Option.some.inj h)
        exact k_iret hE hr hlk hW ⟨hB_st, hF⟩ rfl dX8_plan_70
set_option maxHeartbeats 4000000 in
set_option maxRecDepth 100000 in
theorem wX8_plan_39 {p : Program} {l : Launch} {e : Env} {s : State} {m : MethodId} {args : Array Value} {below : List Frame} {meth : Method} {cd : Code} {D : va_G} {ct : Nat → ClassId} {J : List Nat} {ad : Nat → Nat} {c0 : CF} {b : Nat} (hE : ME p s m cd args D ct cX8_plan RX8 3) (hr : meth.sig.returnType = (some .int)) (hlk : meth.locks = false) {r : Int32} {st9 : KS} : ∀ (x1 : Int32) (x2 : Int32) (st : KS) (c : CF) (H : Heap) (locs : List Loc) (ls : Array Slot), HW D J ad c (aA J ad s.heap.size) s.heap H locs → KlB ct J ad c b st → Fr c0 c b 160 → lv_has ls 3 [(0, .ref (ad b)), (1, .int x1), (2, .int x2)] → fX8_plan_39 x1 x2 st = some (r, st9) → W p l e (rr 1 22) s m args below meth cd H locs 0 0 (MQ below (Qi D J ad s.heap.size r (fun c' => KlB ct J ad c' b st9 ∧ Fr c0 c' b 160)) args s 0 0 (aA J ad s.heap.size)) (F0 m 39 ls []) := by
  have hx := hE.1
  have hb := hE.2.1
  intro x1 x2 st c H locs ls hW hB_st hF hl h
  rw [fX8_plan_39] at h
  refine lv_iload_n hx hb dX8_plan_39 rfl (lv_at hl 1 rfl) ?_
  refine lv_iconst (v := (2 : Int32)) hx hb dX8_plan_40 (by decide) ?_
  refine lv_icmp_ne (tgt := 53) hx hb dX8_plan_41 (by decide) (fun k_5 => ?_) (fun k_5 => ?_)
  · have h := it_f k_5 h
    exact wX8_plan_53 hE hr hlk _ _ _ _ _ _ _ hW hB_st hF (lv_sub hl [0, 1, 2] rfl) h
  · have h := it_t k_5 h
    refine lv_iload_n hx hb dX8_plan_44 rfl (lv_at hl 2 rfl) ?_
    obtain ⟨r_14, hr_14, h⟩ := zb_e h
    refine k_callSi (rest := []) hE hW hl.1 (mX8_isMember hr_14) q603 q604 q1 q605 hd_X8_isMember.2 ⟨Nat.le_of_ble_eq_true rfl, Nat.le_of_ble_eq_true rfl⟩ ⟨rfl, rfl⟩ rfl (Nat.le_of_ble_eq_true rfl) dX8_plan_45 ⟨Nat.zero_le _, Nat.zero_le _⟩ (fun c1 H locs hP hW => ?_)
    rw [hP] at hW
    refine lv_if_ne (tgt := 53) hx hb dX8_plan_48 (by decide) (fun k_15 => ?_) (fun k_15 => ?_)
    · have h := it_f k_15 h
      exact wX8_plan_53 hE hr hlk _ _ _ _ _ _ _ hW hB_st hF (lv_sub hl [0, 1, 2] rfl) h
    · have h := it_t k_15 h
      refine lv_iconst (v := (-1 : Int32)) hx hb dX8_plan_51 (by decide) ?_
      obtain ⟨rfl, rfl⟩ := Prod.mk.inj (Option.some.inj h)
      exact k_iret hE hr hlk hW ⟨hB_st, hF⟩ rfl dX8_plan_52
set_option maxHeartbeats 4000000 in
set_option maxRecDepth 100000 in
theorem mX8_plan {l : Launch} {D : va_G} {ct : Nat → ClassId} {J : List Nat} {ad : Nat → Nat} {c0 : CF} {a1 : Int32} {a2 : Int32} {b : Nat} {st : KS} (hB_st : KlB ct J ad c0 b st) {r : Int32} {st9 : KS} (h : fX8_plan  a1 a2 st = some (r, st9)) : Mi l D ct J ad yX8_plan cX8_plan 3 (some .int) (rr 1 22) [.ref (ad b), .int a1, .int a2] c0 r (fun c' => KlB ct J ad c' b st9 ∧ Fr c0 c' b 160) := by
  refine Mi_of (own := RX8) (by decide) rfl (Nat.le_of_ble_eq_true rfl) (fun p e s m below meth cd hE hr hlk hW ls hl => ?_)
  have hx := hE.1
  have hb := hE.2.1
  have hl : lv_has ls 3 [(0, .ref (ad b)), (1, .int a1), (2, .int a2)] := hl
  rw [fX8_plan] at h
  obtain ⟨c, hB_st, hF, hW⟩ : ∃ c', KlB ct J ad c' b st ∧ Fr c0 c' b 160 ∧ HW D J ad c' (aA J ad s.heap.size) s.heap s.heap [] := ⟨c0, hB_st, Fr.rf, hW⟩
  refine lv_iload_n hx hb dX8_plan_0 rfl (lv_at hl 1 rfl) ?_
  refine lv_iconst (v := (-1 : Int32)) hx hb dX8_plan_1 (by decide) ?_
  refine lv_icmp_ne (tgt := 18) hx hb dX8_plan_2 (by decide) (fun k_1 => ?_) (fun k_1 => ?_)
  · have h := it_f k_1 h
    refine lv_iload_n hx hb dX8_plan_18 rfl (lv_at hl 1 rfl) ?_
    refine lv_if_lt (tgt := 51) hx hb dX8_plan_19 (by decide) (fun k_2 => ?_) (fun k_2 => ?_)
    · have h := it_t k_2 h
      refine lv_iconst (v := (-1 : Int32)) hx hb dX8_plan_51 (by decide) ?_
      obtain ⟨rfl, rfl⟩ := Prod.mk.inj (Option.some.inj h)
      exact k_iret hE hr hlk hW ⟨hB_st, hF⟩ rfl dX8_plan_52
    · have h := it_f k_2 h
      refine lv_iload_n hx hb dX8_plan_22 rfl (lv_at hl 1 rfl) ?_
      refine lv_iconst (v := (3 : Int32)) hx hb dX8_plan_23 (by decide) ?_
      refine lv_icmp_gt (tgt := 51) hx hb dX8_plan_24 (by decide) (fun k_3 => ?_) (fun k_3 => ?_)
      · have h := it_t k_3 h
        refine lv_iconst (v := (-1 : Int32)) hx hb dX8_plan_51 (by decide) ?_
        obtain ⟨rfl, rfl⟩ := Prod.mk.inj (Option.some.inj h)
        exact k_iret hE hr hlk hW ⟨hB_st, hF⟩ rfl dX8_plan_52
      · have h := it_f k_3 h
        refine lv_iload_n hx hb dX8_plan_27 rfl (lv_at hl 1 rfl) ?_
        refine lv_iconst (v := (2 : Int32)) hx hb dX8_plan_28 (by decide) ?_
        refine lv_icmp_ge (tgt := 39) hx hb dX8_plan_29 (by decide) (fun k_4 => ?_) (fun k_4 => ?_)
        · have h := it_t k_4 h
          exact wX8_plan_39 hE hr hlk _ _ _ _ _ _ _ hW hB_st hF (lv_sub hl [0, 1, 2] rfl) h
        · have h := it_f k_4 h
          refine lv_iload_n hx hb dX8_plan_32 rfl (lv_at hl 2 rfl) ?_
          obtain ⟨r_16, hr_16, h⟩ := zb_e h
          refine k_callSi (rest := []) hE hW hl.1 (mX8_isLog hr_16) q286 q287 q1 q288 hd_X8_isLog.2 ⟨Nat.le_of_ble_eq_true rfl, Nat.le_of_ble_eq_true rfl⟩ ⟨rfl, rfl⟩ rfl (Nat.le_of_ble_eq_true rfl) dX8_plan_33 ⟨Nat.zero_le _, Nat.zero_le _⟩ (fun c1 H locs hP hW => ?_)
          rw [hP] at hW
          refine lv_if_eq (tgt := 51) hx hb dX8_plan_36 (by decide) (fun k_17 => ?_) (fun k_17 => ?_)
          · have h := it_t k_17 h
            refine lv_iconst (v := (-1 : Int32)) hx hb dX8_plan_51 (by decide) ?_
            obtain ⟨rfl, rfl⟩ := Prod.mk.inj (Option.some.inj h)
            exact k_iret hE hr hlk hW ⟨hB_st, hF⟩ rfl dX8_plan_52
          · have h := it_f k_17 h
            exact wX8_plan_39 hE hr hlk _ _ _ _ _ _ _ hW hB_st hF (lv_sub hl [0, 1, 2] rfl) h
  · have h := it_t k_1 h
    refine lv_aload_n hx hb dX8_plan_5 rfl (lv_at hl 0 rfl) ?_
    refine k_get (v := .ref (ad (b + 1))) hE hW hB_st.o hB_st.obj rfl inX8 0 (by decide) q244 rfl dX8_plan_6 ?_
    refine k_getN (v := .ref (ad (b + 1 + 39))) hE hW (hB_st.lv).o (hB_st.lv).obj rfl inX5 2 (by decide) q135 rfl dX8_plan_9 ?_
    refine lv_iconst (v := (0 : Int32)) hx hb dX8_plan_12 (by decide) ?_
    obtain ⟨st_18, est_18, h⟩ := zl_e h
    refine k_putN hE hW ((hB_st.lv).pl).o ((hB_st.lv).pl).obj rfl inX4 tyX4 tyX4_ok nmX4 2 (by decide) q122 rfl rfl rfl (Nat.le_of_ble_eq_true rfl) dX8_plan_13 (fun H locs hW => ?_)
    obtain ⟨c, hB_st, hF, hW⟩ : ∃ c', KlB ct J ad c' b st_18 ∧ Fr c0 c' b 160 ∧ HW D J ad c' (aA J ad s.heap.size) s.heap H locs := ⟨_, by rw [est_18]; exact (hB_st.pLv ((hB_st.lv).pPl (((hB_st.lv).pl).wF (k := 2) (j := 0) rfl rfl) (Fr.rf.up (b := (b + 1 + 39)) (n := 3) (by omega) (by omega))) ((Fr.rf.up (b := (b + 1 + 39)) (n := 3) (by omega) (by omega)).wide (by omega) (by omega))), hF.up (by omega) (by omega), hW⟩
    refine lv_iconst (v := (0 : Int32)) hx hb dX8_plan_16 (by decide) ?_
    obtain ⟨rfl, rfl⟩ := Prod.mk.inj (Option.some.inj h)
    exact k_iret hE hr hlk hW ⟨hB_st, hF⟩ rfl dX8_plan_17
set_option maxHeartbeats 4000000 in
set_option maxRecDepth 100000 in
theorem mX8_book {l : Launch} {D : va_G} {ct : Nat → ClassId} {J : List Nat} {ad : Nat → Nat} {c0 : CF} {a1 : Int32} {a2 : Int32} {b : Nat} {st : KS} (hB_st : KlB ct J ad c0 b st) {r : Int32} {st9 : KS} (h : fX8_book  a1 a2 st = some (r, st9)) : Mi l D ct J ad yX8_book cX8_book 3 (some .int) (rr 1 22) [.ref (ad b), .int a1, .int a2] c0 r (fun c' => KlB ct J ad c' b st9 ∧ Fr c0 c' b 160) := by
  refine Mi_of (own := RX8) (by decide) rfl (Nat.le_of_ble_eq_true rfl) (fun p e s m below meth cd hE hr hlk hW ls hl => ?_)
  have hx := hE.1
  have hb := hE.2.1
  have hl : lv_has ls 3 [(0, .ref (ad b)), (1, .int a1), (2, .int a2)] := hl
  rw [fX8_book] at h
  obtain ⟨c, hB_st, hF, hW⟩ : ∃ c', KlB ct J ad c' b st ∧ Fr c0 c' b 160 ∧ HW D J ad c' (aA J ad s.heap.size) s.heap s.heap [] := ⟨c0, hB_st, Fr.rf, hW⟩
  refine lv_iload_n hx hb dX8_book_0 rfl (lv_at hl 1 rfl) ?_
  refine lv_iconst (v := (-1 : Int32)) hx hb dX8_book_1 (by decide) ?_
  refine lv_icmp_ne (tgt := 18) hx hb dX8_book_2 (by decide) (fun k_1 => ?_) (fun k_1 => ?_)
  · have h := it_f k_1 h
    refine lv_iload_n hx hb dX8_book_18 rfl (lv_at hl 1 rfl) ?_
    obtain ⟨r_2, hr_2, h⟩ := zb_e h
    refine k_callSi (rest := []) hE hW hl.1 (mX8_isLog hr_2) q286 q287 q1 q288 hd_X8_isLog.2 ⟨Nat.le_of_ble_eq_true rfl, Nat.le_of_ble_eq_true rfl⟩ ⟨rfl, rfl⟩ rfl (Nat.le_of_ble_eq_true rfl) dX8_book_19 ⟨Nat.zero_le _, Nat.zero_le _⟩ (fun c1 H locs hP hW => ?_)
    rw [hP] at hW
    refine lv_if_ne (tgt := 27) hx hb dX8_book_22 (by decide) (fun k_3 => ?_) (fun k_3 => ?_)
    · have h := it_f k_3 h
      refine lv_iload_n hx hb dX8_book_27 rfl (lv_at hl 2 rfl) ?_
      refine lv_if_lt (tgt := 38) hx hb dX8_book_28 (by decide) (fun k_4 => ?_) (fun k_4 => ?_)
      · have h := it_t k_4 h
        refine lv_bipush (v := (-2 : Int32)) hx hb dX8_book_38 (by decide) ?_
        obtain ⟨rfl, rfl⟩ := Prod.mk.inj (Option.some.inj h)
        exact k_iret hE hr hlk hW ⟨hB_st, hF⟩ rfl dX8_book_40
      · have h := it_f k_4 h
        refine lv_iload_n hx hb dX8_book_31 rfl (lv_at hl 2 rfl) ?_
        refine lv_sipush (v := (200 : Int32)) hx hb dX8_book_32 (by decide) ?_
        refine lv_icmp_le (tgt := 41) hx hb dX8_book_35 (by decide) (fun k_5 => ?_) (fun k_5 => ?_)
        · have h := it_t k_5 h
          refine lv_aload_n hx hb dX8_book_41 rfl (lv_at hl 0 rfl) ?_
          refine k_get (v := .ref (ad (b + 1))) hE hW hB_st.o hB_st.obj rfl inX8 0 (by decide) q244 rfl dX8_book_42 ?_
          refine k_getN (v := .ref (ad (b + 1 + 42))) hE hW (hB_st.lv).o (hB_st.lv).obj rfl inX5 3 (by decide) q137 rfl dX8_book_45 ?_
          obtain ⟨r_6, hr_6, h⟩ := zb_e h
          refine k_callVNi (rest := []) hE hW hl.1 (mX4_isFull (Nat.le_of_ble_eq_true rfl) ((hB_st.lv).bk) hr_6) ((hB_st.lv).bk).o ((hB_st.lv).bk).obj rfl q707 q709 qs65 q5 q710 hd_X4_isFull.2 ⟨Nat.le_of_ble_eq_true rfl, Nat.le_of_ble_eq_true rfl⟩ ⟨rfl, rfl⟩ rfl (Nat.le_of_ble_eq_true rfl) dX8_book_48 ⟨Nat.zero_le _, Nat.zero_le _⟩ (fun c1 H locs hP hW => ?_)
          rw [hP] at hW
          refine lv_if_eq (tgt := 59) hx hb dX8_book_51 (by decide) (fun k_7 => ?_) (fun k_7 => ?_)
          · have h := it_t k_7 h
            refine lv_aload_n hx hb dX8_book_59 rfl (lv_at hl 0 rfl) ?_
            refine k_get (v := .ref (ad (b + 1))) hE hW hB_st.o hB_st.obj rfl inX8 0 (by decide) q244 rfl dX8_book_60 ?_
            refine k_getN (v := .ref (ad (b + 1 + 42))) hE hW (hB_st.lv).o (hB_st.lv).obj rfl inX5 3 (by decide) q137 rfl dX8_book_63 ?_
            refine lv_iload_n hx hb dX8_book_66 rfl (lv_at hl 1 rfl) ?_
            refine lv_iload_n hx hb dX8_book_67 rfl (lv_at hl 2 rfl) ?_
            obtain ⟨r_8, y_10, hr_8, h⟩ := zb2_e h
            obtain ⟨st_9, est_9, h⟩ := zl_e h
            refine k_callVNi (rest := []) hE hW hl.1 (mX4_takeRow (Nat.le_of_ble_eq_true rfl) ((hB_st.lv).bk) hr_8) ((hB_st.lv).bk).o ((hB_st.lv).bk).obj rfl q711 q713 qs66 q5 q714 hd_X4_takeRow.2 ⟨Nat.le_of_ble_eq_true rfl, Nat.le_of_ble_eq_true rfl⟩ ⟨rfl, rfl⟩ rfl (Nat.le_of_ble_eq_true rfl) dX8_book_68 ⟨Nat.zero_le _, Nat.zero_le _⟩ (fun c1 H locs hP hW => ?_)
            obtain ⟨c, hB_st, hF, hW⟩ : ∃ c', KlB ct J ad c' b st_9 ∧ Fr c0 c' b 160 ∧ HW D J ad c' (aA J ad s.heap.size) s.heap H locs := ⟨c1, by rw [est_9]; exact (hB_st.pLv ((hB_st.lv).pBk hP.1 hP.2) (hP.2.wide (by omega) (by omega))), hF.trans (hP.2.wide (by omega) (by omega)), hW⟩
            obtain ⟨rfl, rfl⟩ := Prod.mk.inj (Option.some.inj h)
            exact k_iret hE hr hlk hW ⟨hB_st, hF⟩ rfl dX8_book_71
          · have h := it_f k_7 h
            refine lv_bipush (v := (-4 : Int32)) hx hb dX8_book_54 (by decide) ?_
            refine lv_goto (tgt := 71) hx hb dX8_book_56 (by decide) ?_
            obtain ⟨rfl, rfl⟩ := Prod.mk.inj (Option.some.inj h)
            exact k_iret hE hr hlk hW ⟨hB_st, hF⟩ rfl dX8_book_71
        · have h := it_f k_5 h
          refine lv_bipush (v := (-2 : Int32)) hx hb dX8_book_38 (by decide) ?_
          obtain ⟨rfl, rfl⟩ := Prod.mk.inj (Option.some.inj h)
          exact k_iret hE hr hlk hW ⟨hB_st, hF⟩ rfl dX8_book_40
    · have h := it_t k_3 h
      refine lv_iconst (v := (-1 : Int32)) hx hb dX8_book_25 (by decide) ?_
      obtain ⟨rfl, rfl⟩ := Prod.mk.inj (Option.some.inj h)
      exact k_iret hE hr hlk hW ⟨hB_st, hF⟩ rfl dX8_book_26
  · have h := it_t k_1 h
    refine lv_aload_n hx hb dX8_book_5 rfl (lv_at hl 0 rfl) ?_
    refine k_get (v := .ref (ad (b + 1))) hE hW hB_st.o hB_st.obj rfl inX8 0 (by decide) q244 rfl dX8_book_6 ?_
    refine k_getN (v := .ref (ad (b + 1 + 42))) hE hW (hB_st.lv).o (hB_st.lv).obj rfl inX5 3 (by decide) q137 rfl dX8_book_9 ?_
    refine lv_iconst (v := (0 : Int32)) hx hb dX8_book_12 (by decide) ?_
    obtain ⟨st_11, est_11, h⟩ := zl_e h
    refine k_putN hE hW ((hB_st.lv).bk).o ((hB_st.lv).bk).obj rfl inX4 tyX4 tyX4_ok nmX4 2 (by decide) q122 rfl rfl rfl (Nat.le_of_ble_eq_true rfl) dX8_book_13 (fun H locs hW => ?_)
    obtain ⟨c, hB_st, hF, hW⟩ : ∃ c', KlB ct J ad c' b st_11 ∧ Fr c0 c' b 160 ∧ HW D J ad c' (aA J ad s.heap.size) s.heap H locs := ⟨_, by rw [est_11]; exact (hB_st.pLv ((hB_st.lv).pBk (((hB_st.lv).bk).wF (k := 2) (j := 0) rfl rfl) (Fr.rf.up (b := (b + 1 + 42)) (n := 3) (by omega) (by omega))) ((Fr.rf.up (b := (b + 1 + 42)) (n := 3) (by omega) (by omega)).wide (by omega) (by omega))), hF.up (by omega) (by omega), hW⟩
    refine lv_iconst (v := (0 : Int32)) hx hb dX8_book_16 (by decide) ?_
    obtain ⟨rfl, rfl⟩ := Prod.mk.inj (Option.some.inj h)
    exact k_iret hE hr hlk hW ⟨hB_st, hF⟩ rfl dX8_book_17
set_option maxHeartbeats 4000000 in
set_option maxRecDepth 100000 in
theorem mX8_looked {l : Launch} {D : va_G} {ct : Nat → ClassId} {J : List Nat} {ad : Nat → Nat} {c0 : CF} {b : Nat} {st : KS} (hB_st : KlB ct J ad c0 b st) {r : Int32} (h : fX8_looked   st = some r) : Mi l D ct J ad yX8_looked cX8_looked 1 (some .int) (rr 2 41) [.ref (ad b)] c0 r (fun c' => c' = c0) := by
  refine Mi_of (own := RX8) (by decide) rfl (Nat.le_of_ble_eq_true rfl) (fun p e s m below meth cd hE hr hlk hW ls hl => ?_)
  have hx := hE.1
  have hb := hE.2.1
  have hl : lv_has ls 1 [(0, .ref (ad b))] := hl
  rw [fX8_looked] at h
  refine lv_aload_n hx hb dX8_looked_0 rfl (lv_at hl 0 rfl) ?_
  refine k_get (v := .ref (ad (b + 1))) hE hW hB_st.o hB_st.obj rfl inX8 0 (by decide) q244 rfl dX8_looked_1 ?_
  obtain ⟨r_1, hr_1, h⟩ := zb_e h
  refine k_callVNi (rest := []) hE hW hl.1 (mX5_firstOtherwise (hB_st.lv) hr_1) (hB_st.lv).o (hB_st.lv).obj rfl q762 q764 qs74 q2 q765 hd_X5_firstOtherwise.2 ⟨Nat.le_of_ble_eq_true rfl, Nat.le_of_ble_eq_true rfl⟩ ⟨rfl, rfl⟩ rfl (Nat.le_of_ble_eq_true rfl) dX8_looked_4 ⟨Nat.zero_le _, Nat.zero_le _⟩ (fun c1 H locs hP hW => ?_)
  rw [hP] at hW
  obtain rfl := Option.some.inj h
  exact k_iret hE hr hlk hW rfl rfl dX8_looked_7
set_option maxHeartbeats 4000000 in
set_option maxRecDepth 100000 in
theorem wX8_keep_59 {p : Program} {l : Launch} {e : Env} {s : State} {m : MethodId} {args : Array Value} {below : List Frame} {meth : Method} {cd : Code} {D : va_G} {ct : Nat → ClassId} {J : List Nat} {ad : Nat → Nat} {c0 : CF} {b : Nat} (hE : ME p s m cd args D ct cX8_keep RX8 4) (hr : meth.sig.returnType = (some .int)) (hlk : meth.locks = false) {r : Int32} {st9 : KS} : ∀ (x3 : Int32) (y0 : Int32) (j1 : Nat) (st : KS) (c : CF) (H : Heap) (locs : List Loc) (ls : Array Slot), j1 < 4 → HW D J ad c (aA J ad s.heap.size) s.heap H locs → KlB ct J ad c b st → Fr c0 c b 160 → lv_has ls 4 [(3, .int x3)] → fX8_keep_59 x3 y0 j1 st = some (r, st9) → W p l e (rr 2 46) s m args below meth cd H locs 0 0 (MQ below (Qi D J ad s.heap.size r (fun c' => KlB ct J ad c' b st9 ∧ Fr c0 c' b 160)) args s 0 0 (aA J ad s.heap.size)) (F0 m 59 ls [.int y0, .ref (ad (b + 1 + 1 + 1 + 8 * j1)), .ref (ad (b + 142))]) := by
  have hx := hE.1
  have hb := hE.2.1
  intro x3 y0 j1 st c H locs ls hj1 hW hB_st hF hl h
  rw [fX8_keep_59] at h
  refine lv_iload_n hx hb dX8_keep_59 rfl (lv_at hl 0 rfl) ?_
  obtain ⟨r_9, y_11, hr_9, h⟩ := zb2_e h
  obtain ⟨st_10, est_10, h⟩ := zl_e h
  refine k_callVNi (rest := []) hE hW hl.1 (mX2_filled (hB_st.kr) ((hB_st.lv).log hj1) (by omega) hr_9) (hB_st.kr).o (hB_st.kr).obj rfl q771 q773 qs75 q8 q774 hd_X2_filled.2 ⟨Nat.le_of_ble_eq_true rfl, Nat.le_of_ble_eq_true rfl⟩ ⟨rfl, rfl⟩ rfl (Nat.le_of_ble_eq_true rfl) dX8_keep_60 ⟨Nat.zero_le _, Nat.zero_le _⟩ (fun c1 H locs hP hW => ?_)
  obtain ⟨c, hB_st, hF, hW⟩ : ∃ c', KlB ct J ad c' b st_10 ∧ Fr c0 c' b 160 ∧ HW D J ad c' (aA J ad s.heap.size) s.heap H locs := ⟨c1, by rw [est_10]; exact (hB_st.pKr hP.1 hP.2), hF.trans (hP.2.wide (by omega) (by omega)), hW⟩
  obtain ⟨rfl, rfl⟩ := Prod.mk.inj (Option.some.inj h)
  exact k_iret hE hr hlk hW ⟨hB_st, hF⟩ rfl dX8_keep_63
set_option maxHeartbeats 4000000 in
set_option maxRecDepth 100000 in
theorem mX8_keep {l : Launch} {D : va_G} {ct : Nat → ClassId} {J : List Nat} {ad : Nat → Nat} {c0 : CF} {a1 : Int32} {a2 : Int32} {a3 : Int32} {b : Nat} {st : KS} (hB_st : KlB ct J ad c0 b st) {r : Int32} {st9 : KS} (h : fX8_keep  a1 a2 a3 st = some (r, st9)) : Mi l D ct J ad yX8_keep cX8_keep 4 (some .int) (rr 2 46) [.ref (ad b), .int a1, .int a2, .int a3] c0 r (fun c' => KlB ct J ad c' b st9 ∧ Fr c0 c' b 160) := by
  refine Mi_of (own := RX8) (by decide) rfl (Nat.le_of_ble_eq_true rfl) (fun p e s m below meth cd hE hr hlk hW ls hl => ?_)
  have hx := hE.1
  have hb := hE.2.1
  have hl : lv_has ls 4 [(0, .ref (ad b)), (1, .int a1), (2, .int a2), (3, .int a3)] := hl
  rw [fX8_keep] at h
  obtain ⟨c, hB_st, hF, hW⟩ : ∃ c', KlB ct J ad c' b st ∧ Fr c0 c' b 160 ∧ HW D J ad c' (aA J ad s.heap.size) s.heap s.heap [] := ⟨c0, hB_st, Fr.rf, hW⟩
  refine lv_iload_n hx hb dX8_keep_0 rfl (lv_at hl 1 rfl) ?_
  obtain ⟨r_1, hr_1, h⟩ := zb_e h
  refine k_callSi (rest := []) hE hW hl.1 (mX8_isLog hr_1) q286 q287 q1 q288 hd_X8_isLog.2 ⟨Nat.le_of_ble_eq_true rfl, Nat.le_of_ble_eq_true rfl⟩ ⟨rfl, rfl⟩ rfl (Nat.le_of_ble_eq_true rfl) dX8_keep_1 ⟨Nat.zero_le _, Nat.zero_le _⟩ (fun c1 H locs hP hW => ?_)
  rw [hP] at hW
  refine lv_if_ne (tgt := 9) hx hb dX8_keep_4 (by decide) (fun k_2 => ?_) (fun k_2 => ?_)
  · have h := it_f k_2 h
    refine lv_iload_n hx hb dX8_keep_9 rfl (lv_at hl 2 rfl) ?_
    refine lv_if_lt (tgt := 24) hx hb dX8_keep_10 (by decide) (fun k_3 => ?_) (fun k_3 => ?_)
    · have h := it_t k_3 h
      refine lv_bipush (v := (-2 : Int32)) hx hb dX8_keep_24 (by decide) ?_
      obtain ⟨rfl, rfl⟩ := Prod.mk.inj (Option.some.inj h)
      exact k_iret hE hr hlk hW ⟨hB_st, hF⟩ rfl dX8_keep_26
    · have h := it_f k_3 h
      refine lv_iload_n hx hb dX8_keep_13 rfl (lv_at hl 2 rfl) ?_
      refine lv_iconst (v := (1 : Int32)) hx hb dX8_keep_14 (by decide) ?_
      refine lv_icmp_gt (tgt := 24) hx hb dX8_keep_15 (by decide) (fun k_4 => ?_) (fun k_4 => ?_)
      · have h := it_t k_4 h
        refine lv_bipush (v := (-2 : Int32)) hx hb dX8_keep_24 (by decide) ?_
        obtain ⟨rfl, rfl⟩ := Prod.mk.inj (Option.some.inj h)
        exact k_iret hE hr hlk hW ⟨hB_st, hF⟩ rfl dX8_keep_26
      · have h := it_f k_4 h
        refine lv_iload_n hx hb dX8_keep_18 rfl (lv_at hl 3 rfl) ?_
        refine lv_bipush (v := (60 : Int32)) hx hb dX8_keep_19 (by decide) ?_
        refine lv_icmp_le (tgt := 27) hx hb dX8_keep_21 (by decide) (fun k_5 => ?_) (fun k_5 => ?_)
        · have h := it_t k_5 h
          refine lv_iload_n hx hb dX8_keep_27 rfl (lv_at hl 3 rfl) ?_
          refine lv_if_ge (tgt := 36) hx hb dX8_keep_28 (by decide) (fun k_6 => ?_) (fun k_6 => ?_)
          · have h := it_t k_6 h
            refine lv_aload_n hx hb dX8_keep_36 rfl (lv_at hl 0 rfl) ?_
            refine k_get (v := .ref (ad (b + 142))) hE hW hB_st.o hB_st.obj rfl inX8 2 (by decide) q246 rfl dX8_keep_37 ?_
            refine lv_aload_n hx hb dX8_keep_40 rfl (lv_at hl 0 rfl) ?_
            refine k_get (v := .ref (ad (b + 1))) hE hW hB_st.o hB_st.obj rfl inX8 0 (by decide) q244 rfl dX8_keep_41 ?_
            refine k_getN (v := .ref (ad (b + 1 + 1))) hE hW (hB_st.lv).o (hB_st.lv).obj rfl inX5 0 (by decide) q131 rfl dX8_keep_44 ?_
            refine lv_iload_n hx hb dX8_keep_47 rfl (lv_at hl 1 rfl) ?_
            obtain ⟨g_7, h⟩ := zi_e h
            have hg_7 := vp_lt g_7
            refine k_aaldR3 (g := fun i => b + 1 + 1 + 1 + 8 * i) hE hW (hB_st.lv).logs.o (hB_st.lv).logs.out g_7 dX8_keep_48 ?_
            refine lv_iload_n hx hb dX8_keep_49 rfl (lv_at hl 2 rfl) ?_
            refine lv_iconst (v := (1 : Int32)) hx hb dX8_keep_50 (by decide) ?_
            refine lv_icmp_ne (tgt := 58) hx hb dX8_keep_51 (by decide) (fun k_8 => ?_) (fun k_8 => ?_)
            · have h := it_f k_8 h
              refine lv_iconst (v := (0 : Int32)) hx hb dX8_keep_58 (by decide) ?_
              exact wX8_keep_59 hE hr hlk _ _ _ _ _ _ _ _ hg_7 hW hB_st hF (lv_sub hl [3] rfl) h
            · have h := it_t k_8 h
              refine lv_iconst (v := (1 : Int32)) hx hb dX8_keep_54 (by decide) ?_
              refine lv_goto (tgt := 59) hx hb dX8_keep_55 (by decide) ?_
              exact wX8_keep_59 hE hr hlk _ _ _ _ _ _ _ _ hg_7 hW hB_st hF (lv_sub hl [3] rfl) h
          · have h := it_f k_6 h
            refine lv_bipush (v := (-14 : Int32)) hx hb dX8_keep_31 (by decide) ?_
            refine lv_goto (tgt := 63) hx hb dX8_keep_33 (by decide) ?_
            obtain ⟨rfl, rfl⟩ := Prod.mk.inj (Option.some.inj h)
            exact k_iret hE hr hlk hW ⟨hB_st, hF⟩ rfl dX8_keep_63
        · have h := it_f k_5 h
          refine lv_bipush (v := (-2 : Int32)) hx hb dX8_keep_24 (by decide) ?_
          obtain ⟨rfl, rfl⟩ := Prod.mk.inj (Option.some.inj h)
          exact k_iret hE hr hlk hW ⟨hB_st, hF⟩ rfl dX8_keep_26
  · have h := it_t k_2 h
    refine lv_iconst (v := (-1 : Int32)) hx hb dX8_keep_7 (by decide) ?_
    obtain ⟨rfl, rfl⟩ := Prod.mk.inj (Option.some.inj h)
    exact k_iret hE hr hlk hW ⟨hB_st, hF⟩ rfl dX8_keep_8
set_option maxHeartbeats 4000000 in
set_option maxRecDepth 100000 in
theorem mX8_kept {l : Launch} {D : va_G} {ct : Nat → ClassId} {J : List Nat} {ad : Nat → Nat} {c0 : CF} {a1 : Int32} {a2 : Int32} {b : Nat} {st : KS} (hB_st : KlB ct J ad c0 b st) {r : Int64} (h : fX8_kept  a1 a2 st = some r) : Ml l D ct J ad yX8_kept cX8_kept 3 (some .long) (rr 1 22) [.ref (ad b), .int a1, .int a2] c0 r (fun c' => c' = c0) := by
  refine Ml_of (own := RX8) (by decide) rfl (Nat.le_of_ble_eq_true rfl) (fun p e s m below meth cd hE hr hlk hW ls hl => ?_)
  have hx := hE.1
  have hb := hE.2.1
  have hl : lv_has ls 3 [(0, .ref (ad b)), (1, .int a1), (2, .int a2)] := hl
  rw [fX8_kept] at h
  refine lv_iload_n hx hb dX8_kept_0 rfl (lv_at hl 1 rfl) ?_
  refine lv_if_lt (tgt := 27) hx hb dX8_kept_1 (by decide) (fun k_1 => ?_) (fun k_1 => ?_)
  · have h := it_t k_1 h
    refine lv_ldc2 (v := (-9223372036854775808 : Int64)) hx hb hE.2.2.2.1 (hE.2.2.2.2.1 _ q470) dX8_kept_27 ?_
    obtain rfl := Option.some.inj h
    exact k_lret hE hr hlk hW rfl rfl dX8_kept_30
  · have h := it_f k_1 h
    refine lv_iload_n hx hb dX8_kept_4 rfl (lv_at hl 1 rfl) ?_
    refine lv_aload_n hx hb dX8_kept_5 rfl (lv_at hl 0 rfl) ?_
    refine k_get (v := .ref (ad (b + 142))) hE hW hB_st.o hB_st.obj rfl inX8 2 (by decide) q246 rfl dX8_kept_6 ?_
    refine k_getN (v := .int (st.2.2.1.2 0)) hE hW (hB_st.kr).o (hB_st.kr).obj rfl inX2 4 (by decide) q212 rfl dX8_kept_9 ?_
    refine lv_icmp_ge (tgt := 27) hx hb dX8_kept_12 (by decide) (fun k_2 => ?_) (fun k_2 => ?_)
    · have h := it_t k_2 h
      refine lv_ldc2 (v := (-9223372036854775808 : Int64)) hx hb hE.2.2.2.1 (hE.2.2.2.2.1 _ q470) dX8_kept_27 ?_
      obtain rfl := Option.some.inj h
      exact k_lret hE hr hlk hW rfl rfl dX8_kept_30
    · have h := it_f k_2 h
      refine lv_aload_n hx hb dX8_kept_15 rfl (lv_at hl 0 rfl) ?_
      refine k_get (v := .ref (ad (b + 142))) hE hW hB_st.o hB_st.obj rfl inX8 2 (by decide) q246 rfl dX8_kept_16 ?_
      refine lv_iload_n hx hb dX8_kept_19 rfl (lv_at hl 1 rfl) ?_
      refine lv_iload_n hx hb dX8_kept_20 rfl (lv_at hl 2 rfl) ?_
      obtain ⟨r_3, hr_3, h⟩ := zb_e h
      refine k_callVNl (rest := []) hE hW hl.1 (mX2_about (hB_st.kr) hr_3) (hB_st.kr).o (hB_st.kr).obj rfl q784 q786 qs77 q8 q787 hd_X2_about.2 ⟨Nat.le_of_ble_eq_true rfl, Nat.le_of_ble_eq_true rfl⟩ ⟨rfl, rfl⟩ rfl (Nat.le_of_ble_eq_true rfl) dX8_kept_21 ⟨Nat.zero_le _, Nat.zero_le _⟩ (fun c1 H locs hP hW => ?_)
      rw [hP] at hW
      refine lv_goto (tgt := 30) hx hb dX8_kept_24 (by decide) ?_
      obtain rfl := Option.some.inj h
      exact k_lret hE hr hlk hW rfl rfl dX8_kept_30
set_option maxHeartbeats 4000000 in
set_option maxRecDepth 100000 in
theorem mX8_isTape {l : Launch} {D : va_G} {ct : Nat → ClassId} {J : List Nat} {ad : Nat → Nat} {c0 : CF} {a1 : Int32} {r : Int32} (h : fX8_isTape  a1 = some r) : Mi l D ct J ad yX8_isTape cX8_isTape 1 (some .boolean) (rr 0 0) [.int a1] c0 r (fun c' => c' = c0) := by
  refine Mi_of (own := RX8) (by decide) rfl (Nat.le_of_ble_eq_true rfl) (fun p e s m below meth cd hE hr hlk hW ls hl => ?_)
  have hx := hE.1
  have hb := hE.2.1
  have hl : lv_has ls 1 [(0, .int a1)] := hl
  rw [fX8_isTape] at h
  refine lv_iload_n hx hb dX8_isTape_0 rfl (lv_at hl 0 rfl) ?_
  refine lv_if_lt (tgt := 14) hx hb dX8_isTape_1 (by decide) (fun k_1 => ?_) (fun k_1 => ?_)
  · have h := it_t k_1 h
    refine lv_iconst (v := (0 : Int32)) hx hb dX8_isTape_14 (by decide) ?_
    obtain rfl := Option.some.inj h
    exact k_zret hE hr hlk hW rfl rfl rfl dX8_isTape_15
  · have h := it_f k_1 h
    refine lv_iload_n hx hb dX8_isTape_4 rfl (lv_at hl 0 rfl) ?_
    refine lv_bipush (v := (6 : Int32)) hx hb dX8_isTape_5 (by decide) ?_
    refine lv_icmp_ge (tgt := 14) hx hb dX8_isTape_7 (by decide) (fun k_2 => ?_) (fun k_2 => ?_)
    · have h := it_t k_2 h
      refine lv_iconst (v := (0 : Int32)) hx hb dX8_isTape_14 (by decide) ?_
      obtain rfl := Option.some.inj h
      exact k_zret hE hr hlk hW rfl rfl rfl dX8_isTape_15
    · have h := it_f k_2 h
      refine lv_iconst (v := (1 : Int32)) hx hb dX8_isTape_10 (by decide) ?_
      refine lv_goto (tgt := 15) hx hb dX8_isTape_11 (by decide) ?_
      obtain rfl := Option.some.inj h
      exact k_zret hE hr hlk hW rfl rfl rfl dX8_isTape_15
set_option maxHeartbeats 4000000 in
set_option maxRecDepth 100000 in
theorem wX8_judge_44 {p : Program} {l : Launch} {e : Env} {s : State} {m : MethodId} {args : Array Value} {below : List Frame} {meth : Method} {cd : Code} {D : va_G} {ct : Nat → ClassId} {J : List Nat} {ad : Nat → Nat} {c0 : CF} {b : Nat} (hE : ME p s m cd args D ct cX8_judge RX8 4) (hr : meth.sig.returnType = (some .int)) (hlk : meth.locks = false) {st : KS} (hB_st : KlB ct J ad c0 b st) {r : Int32} : ∀ (x1 : Int32) (x2 : Int32) (x3 : Int32) (H : Heap) (locs : List Loc) (ls : Array Slot), HW D J ad c0 (aA J ad s.heap.size) s.heap H locs → lv_has ls 4 [(0, .ref (ad b)), (1, .int x1), (2, .int x2), (3, .int x3)] → fX8_judge_44 st x1 x2 x3 = some r → W p l e (rr 2 45) s m args below meth cd H locs 0 0 (MQ below (Qi D J ad s.heap.size r (fun c' => c' = c0)) args s 0 0 (aA J ad s.heap.size)) (F0 m 44 ls []) := by
  have hx := hE.1
  have hb := hE.2.1
  intro x1 x2 x3 H locs ls hW hl h
  rw [fX8_judge_44] at h
  refine lv_aload_n hx hb dX8_judge_44 rfl (lv_at hl 0 rfl) ?_
  refine k_get (v := .ref (ad (b + 147))) hE hW hB_st.o hB_st.obj rfl inX8 3 (by decide) q247 rfl dX8_judge_45 ?_
  refine lv_iload_n hx hb dX8_judge_48 rfl (lv_at hl 2 rfl) ?_
  obtain ⟨g_8, h⟩ := zi_e h
  have hg_8 := vp_lt g_8
  refine k_aaldR4 (g := fun t => b + 148 + 2 * t) hE hW hB_st.memO hB_st.out g_8 dX8_judge_49 ?_
  refine lv_aload_n hx hb dX8_judge_50 rfl (lv_at hl 0 rfl) ?_
  refine k_get (v := .ref (ad (b + 1))) hE hW hB_st.o hB_st.obj rfl inX8 0 (by decide) q244 rfl dX8_judge_51 ?_
  refine k_getN (v := .ref (ad (b + 1 + 1))) hE hW (hB_st.lv).o (hB_st.lv).obj rfl inX5 0 (by decide) q131 rfl dX8_judge_54 ?_
  refine lv_iload_n hx hb dX8_judge_57 rfl (lv_at hl 1 rfl) ?_
  obtain ⟨g_9, h⟩ := zi_e h
  have hg_9 := vp_lt g_9
  refine k_aaldR3 (g := fun i => b + 1 + 1 + 1 + 8 * i) hE hW (hB_st.lv).logs.o (hB_st.lv).logs.out g_9 dX8_judge_58 ?_
  refine lv_iload_n hx hb dX8_judge_59 rfl (lv_at hl 3 rfl) ?_
  obtain ⟨r_10, hr_10, h⟩ := zb_e h
  refine k_callVNi (rest := []) hE hW hl.1 (mX6_judged (hB_st.tp hg_8) ((hB_st.lv).log hg_9) hr_10) (hB_st.tp hg_8).o (hB_st.tp hg_8).obj rfl q800 q802 qs79 q9 q803 hd_X6_judged.2 ⟨Nat.le_of_ble_eq_true rfl, Nat.le_of_ble_eq_true rfl⟩ ⟨rfl, rfl⟩ rfl (Nat.le_of_ble_eq_true rfl) dX8_judge_60 ⟨Nat.zero_le _, Nat.zero_le _⟩ (fun c1 H locs hP hW => ?_)
  rw [hP] at hW
  obtain rfl := Option.some.inj h
  exact k_iret hE hr hlk hW rfl rfl dX8_judge_63
set_option maxHeartbeats 4000000 in
set_option maxRecDepth 100000 in
theorem mX8_judge {l : Launch} {D : va_G} {ct : Nat → ClassId} {J : List Nat} {ad : Nat → Nat} {c0 : CF} {a1 : Int32} {a2 : Int32} {a3 : Int32} {b : Nat} {st : KS} (hB_st : KlB ct J ad c0 b st) {r : Int32} (h : fX8_judge  a1 a2 a3 st = some r) : Mi l D ct J ad yX8_judge cX8_judge 4 (some .int) (rr 2 45) [.ref (ad b), .int a1, .int a2, .int a3] c0 r (fun c' => c' = c0) := by
  refine Mi_of (own := RX8) (by decide) rfl (Nat.le_of_ble_eq_true rfl) (fun p e s m below meth cd hE hr hlk hW ls hl => ?_)
  have hx := hE.1
  have hb := hE.2.1
  have hl : lv_has ls 4 [(0, .ref (ad b)), (1, .int a1), (2, .int a2), (3, .int a3)] := hl
  rw [fX8_judge] at h
  refine lv_iload_n hx hb dX8_judge_0 rfl (lv_at hl 1 rfl) ?_
  obtain ⟨r_1, hr_1, h⟩ := zb_e h
  refine k_callSi (rest := []) hE hW hl.1 (mX8_isLog hr_1) q286 q287 q1 q288 hd_X8_isLog.2 ⟨Nat.le_of_ble_eq_true rfl, Nat.le_of_ble_eq_true rfl⟩ ⟨rfl, rfl⟩ rfl (Nat.le_of_ble_eq_true rfl) dX8_judge_1 ⟨Nat.zero_le _, Nat.zero_le _⟩ (fun c1 H locs hP hW => ?_)
  rw [hP] at hW
  refine lv_if_eq (tgt := 14) hx hb dX8_judge_4 (by decide) (fun k_2 => ?_) (fun k_2 => ?_)
  · have h := it_t k_2 h
    refine lv_iconst (v := (-1 : Int32)) hx hb dX8_judge_14 (by decide) ?_
    obtain rfl := Option.some.inj h
    exact k_iret hE hr hlk hW rfl rfl dX8_judge_15
  · have h := it_f k_2 h
    refine lv_iload_n hx hb dX8_judge_7 rfl (lv_at hl 2 rfl) ?_
    obtain ⟨r_3, hr_3, h⟩ := zb_e h
    refine k_callSi (rest := []) hE hW hl.1 (mX8_isTape hr_3) q793 q794 q1 q795 hd_X8_isTape.2 ⟨Nat.le_of_ble_eq_true rfl, Nat.le_of_ble_eq_true rfl⟩ ⟨rfl, rfl⟩ rfl (Nat.le_of_ble_eq_true rfl) dX8_judge_8 ⟨Nat.zero_le _, Nat.zero_le _⟩ (fun c1 H locs hP hW => ?_)
    rw [hP] at hW
    refine lv_if_ne (tgt := 16) hx hb dX8_judge_11 (by decide) (fun k_4 => ?_) (fun k_4 => ?_)
    · have h := it_f k_4 h
      refine lv_aload_n hx hb dX8_judge_16 rfl (lv_at hl 0 rfl) ?_
      refine k_get (v := .ref (ad (b + 147))) hE hW hB_st.o hB_st.obj rfl inX8 3 (by decide) q247 rfl dX8_judge_17 ?_
      refine lv_iload_n hx hb dX8_judge_20 rfl (lv_at hl 2 rfl) ?_
      obtain ⟨g_5, h⟩ := zi_e h
      have hg_5 := vp_lt g_5
      refine k_aaldR4 (g := fun t => b + 148 + 2 * t) hE hW hB_st.memO hB_st.out g_5 dX8_judge_21 ?_
      obtain ⟨r_6, hr_6, h⟩ := zb_e h
      refine k_callVNi (rest := []) hE hW hl.1 (mX6_isNothing (hB_st.tp hg_5) hr_6) (hB_st.tp hg_5).o (hB_st.tp hg_5).obj rfl q796 q798 qs78 q9 q799 hd_X6_isNothing.2 ⟨Nat.le_of_ble_eq_true rfl, Nat.le_of_ble_eq_true rfl⟩ ⟨rfl, rfl⟩ rfl (Nat.le_of_ble_eq_true rfl) dX8_judge_22 ⟨Nat.zero_le _, Nat.zero_le _⟩ (fun c1 H locs hP hW => ?_)
      rw [hP] at hW
      refine lv_if_ne (tgt := 44) hx hb dX8_judge_25 (by decide) (fun k_7 => ?_) (fun k_7 => ?_)
      · have h := it_f k_7 h
        exact wX8_judge_44 hE hr hlk hB_st _ _ _ _ _ _ hW (lv_sub hl [0, 1, 2, 3] rfl) h
      · have h := it_t k_7 h
        refine lv_aload_n hx hb dX8_judge_28 rfl (lv_at hl 0 rfl) ?_
        refine k_get (v := .ref (ad (b + 147))) hE hW hB_st.o hB_st.obj rfl inX8 3 (by decide) q247 rfl dX8_judge_29 ?_
        refine lv_iload_n hx hb dX8_judge_32 rfl (lv_at hl 2 rfl) ?_
        obtain ⟨g_11, h⟩ := zi_e h
        have hg_11 := vp_lt g_11
        refine k_aaldR4 (g := fun t => b + 148 + 2 * t) hE hW hB_st.memO hB_st.out g_11 dX8_judge_33 ?_
        refine k_getN (v := .int ((st.2.2.2.1 a2.toNatClampNeg).2 0)) hE hW (hB_st.tp hg_11).o (hB_st.tp hg_11).obj rfl inX6 1 (by decide) q234 rfl dX8_judge_34 ?_
        refine lv_iconst (v := (1 : Int32)) hx hb dX8_judge_37 (by decide) ?_
        refine lv_icmp_eq (tgt := 44) hx hb dX8_judge_38 (by decide) (fun k_12 => ?_) (fun k_12 => ?_)
        · have h := it_t k_12 h
          exact wX8_judge_44 hE hr hlk hB_st _ _ _ _ _ _ hW (lv_sub hl [0, 1, 2, 3] rfl) h
        · have h := it_f k_12 h
          refine lv_bipush (v := (-12 : Int32)) hx hb dX8_judge_41 (by decide) ?_
          obtain rfl := Option.some.inj h
          exact k_iret hE hr hlk hW rfl rfl dX8_judge_43
    · have h := it_t k_4 h
      refine lv_iconst (v := (-1 : Int32)) hx hb dX8_judge_14 (by decide) ?_
      obtain rfl := Option.some.inj h
      exact k_iret hE hr hlk hW rfl rfl dX8_judge_15
set_option maxHeartbeats 4000000 in
set_option maxRecDepth 100000 in
theorem mX8_undo {l : Launch} {D : va_G} {ct : Nat → ClassId} {J : List Nat} {ad : Nat → Nat} {c0 : CF} {b : Nat} {st : KS} (hB_st : KlB ct J ad c0 b st) {r : Int32} {st9 : KS} (h : fX8_undo   st = some (r, st9)) : Mi l D ct J ad yX8_undo cX8_undo 1 (some .int) (rr 4 86) [.ref (ad b)] c0 r (fun c' => KlB ct J ad c' b st9 ∧ Fr c0 c' b 160) := by
  refine Mi_of (own := RX8) (by decide) rfl (Nat.le_of_ble_eq_true rfl) (fun p e s m below meth cd hE hr hlk hW ls hl => ?_)
  have hx := hE.1
  have hb := hE.2.1
  have hl : lv_has ls 1 [(0, .ref (ad b))] := hl
  rw [fX8_undo] at h
  obtain ⟨c, hB_st, hF, hW⟩ : ∃ c', KlB ct J ad c' b st ∧ Fr c0 c' b 160 ∧ HW D J ad c' (aA J ad s.heap.size) s.heap s.heap [] := ⟨c0, hB_st, Fr.rf, hW⟩
  refine lv_aload_n hx hb dX8_undo_0 rfl (lv_at hl 0 rfl) ?_
  rcases ho_2 : st.2.2.2.2.1 with _ | S_1
  · have h := zo_n ho_2 h
    refine k_get (v := .null) hE hW hB_st.o hB_st.obj rfl inX8 4 (by decide) q248 (by show some (oRf ad _ (st.2.2.2.2.1)) = _; rw [ho_2]; rfl) dX8_undo_1 ?_
    refine lv_ifnonnullN hx hb dX8_undo_4 ?_
    refine lv_bipush (v := (-3 : Int32)) hx hb dX8_undo_7 (by decide) ?_
    obtain ⟨rfl, rfl⟩ := Prod.mk.inj (Option.some.inj h)
    exact k_iret hE hr hlk hW ⟨hB_st, hF⟩ rfl dX8_undo_9
  · have h := zo_s ho_2 h
    refine k_get (v := .ref (ad (b + 46))) hE hW hB_st.o hB_st.obj rfl inX8 4 (by decide) q248 (by show some (oRf ad _ (st.2.2.2.2.1)) = _; rw [ho_2]; rfl) dX8_undo_1 ?_
    refine lv_ifnonnull (tgt := 10) hx hb dX8_undo_4 (by decide) ?_
    refine lv_aload_n hx hb dX8_undo_10 rfl (lv_at hl 0 rfl) ?_
    refine k_get (v := .ref (ad (b + 1))) hE hW hB_st.o hB_st.obj rfl inX8 0 (by decide) q244 rfl dX8_undo_11 ?_
    refine lv_aload_n hx hb dX8_undo_14 rfl (lv_at hl 0 rfl) ?_
    refine k_get (v := .ref (ad (b + 46))) hE hW hB_st.o hB_st.obj rfl inX8 4 (by decide) q248 (by show some (oRf ad _ (st.2.2.2.2.1)) = _; rw [ho_2]; rfl) dX8_undo_15 ?_
    obtain ⟨y_6, hy_6, h⟩ := zb_e h
    obtain ⟨st_5, est_5, h⟩ := zl_e h
    refine k_callVNv (rest := []) hE hW hl.1 (mX5_copyFrom (hB_st.lv) (hB_st.tk ho_2) (by omega) hy_6) (hB_st.lv).o (hB_st.lv).obj rfl q719 q721 qs67 q2 q722 hd_X5_copyFrom.2 ⟨Nat.le_of_ble_eq_true rfl, Nat.le_of_ble_eq_true rfl⟩ ⟨rfl, rfl⟩ rfl (Nat.le_of_ble_eq_true rfl) dX8_undo_18 ⟨Nat.zero_le _, Nat.zero_le _⟩ (fun c1 H locs hP hW => ?_)
    obtain ⟨c, hB_st, hF, hW⟩ : ∃ c', KlB ct J ad c' b st_5 ∧ Fr c0 c' b 160 ∧ HW D J ad c' (aA J ad s.heap.size) s.heap H locs := ⟨c1, by rw [est_5]; exact (hB_st.pLv hP.1 hP.2), hF.trans (hP.2.wide (by omega) (by omega)), hW⟩
    refine lv_aload_n hx hb dX8_undo_21 rfl (lv_at hl 0 rfl) ?_
    refine k_get (v := .ref (ad (b + 1))) hE hW hB_st.o hB_st.obj rfl inX8 0 (by decide) q244 rfl dX8_undo_22 ?_
    obtain ⟨r_7, hr_7, h⟩ := zb_e h
    refine k_callVNi (rest := []) hE hW hl.1 (mX5_records (hB_st.lv) hr_7) (hB_st.lv).o (hB_st.lv).obj rfl q749 q751 qs73 q2 q752 hd_X5_records.2 ⟨Nat.le_of_ble_eq_true rfl, Nat.le_of_ble_eq_true rfl⟩ ⟨rfl, rfl⟩ rfl (Nat.le_of_ble_eq_true rfl) dX8_undo_25 ⟨Nat.zero_le _, Nat.zero_le _⟩ (fun c1 H locs hP hW => ?_)
    rw [hP] at hW
    obtain ⟨rfl, rfl⟩ := Prod.mk.inj (Option.some.inj h)
    exact k_iret hE hr hlk hW ⟨hB_st, hF⟩ rfl dX8_undo_28
set_option maxHeartbeats 4000000 in
set_option maxRecDepth 100000 in
theorem mX8_count {l : Launch} {D : va_G} {ct : Nat → ClassId} {J : List Nat} {ad : Nat → Nat} {c0 : CF} {a1 : Int32} {b : Nat} {st : KS} (hB_st : KlB ct J ad c0 b st) {r : Int32} (h : fX8_count  a1 st = some r) : Mi l D ct J ad yX8_count cX8_count 2 (some .int) (rr 4 86) [.ref (ad b), .int a1] c0 r (fun c' => c' = c0) := by
  refine Mi_of (own := RX8) (by decide) rfl (Nat.le_of_ble_eq_true rfl) (fun p e s m below meth cd hE hr hlk hW ls hl => ?_)
  have hx := hE.1
  have hb := hE.2.1
  have hl : lv_has ls 2 [(0, .ref (ad b)), (1, .int a1)] := hl
  rw [fX8_count] at h
  refine lv_iload_n hx hb dX8_count_0 rfl (lv_at hl 1 rfl) ?_
  rcases Classical.em (a1 = (0 : Int32)) with k_1 | k_1
  · have h := it_t k_1 h
    refine lv_tableIn (tgt := 36) hx hb dX8_count_1 (by rw [k_1]; decide) (by rw [k_1]; decide) (by rw [k_1]; rfl) (by decide) ?_
    refine lv_aload_n hx hb dX8_count_36 rfl (lv_at hl 0 rfl) ?_
    refine k_get (v := .ref (ad (b + 1))) hE hW hB_st.o hB_st.obj rfl inX8 0 (by decide) q244 rfl dX8_count_37 ?_
    obtain ⟨r_2, hr_2, h⟩ := zb_e h
    refine k_callVNi (rest := []) hE hW hl.1 (mX5_records (hB_st.lv) hr_2) (hB_st.lv).o (hB_st.lv).obj rfl q749 q751 qs73 q2 q752 hd_X5_records.2 ⟨Nat.le_of_ble_eq_true rfl, Nat.le_of_ble_eq_true rfl⟩ ⟨rfl, rfl⟩ rfl (Nat.le_of_ble_eq_true rfl) dX8_count_40 ⟨Nat.zero_le _, Nat.zero_le _⟩ (fun c1 H locs hP hW => ?_)
    rw [hP] at hW
    obtain rfl := Option.some.inj h
    exact k_iret hE hr hlk hW rfl rfl dX8_count_43
  have h := it_f k_1 h
  rcases Classical.em (a1 = (1 : Int32)) with k_3 | k_3
  · have h := it_t k_3 h
    refine lv_tableIn (tgt := 44) hx hb dX8_count_1 (by rw [k_3]; decide) (by rw [k_3]; decide) (by rw [k_3]; rfl) (by decide) ?_
    refine lv_aload_n hx hb dX8_count_44 rfl (lv_at hl 0 rfl) ?_
    refine k_get (v := .ref (ad (b + 1))) hE hW hB_st.o hB_st.obj rfl inX8 0 (by decide) q244 rfl dX8_count_45 ?_
    refine k_getN (v := .ref (ad (b + 1 + 34))) hE hW (hB_st.lv).o (hB_st.lv).obj rfl inX5 1 (by decide) q133 rfl dX8_count_48 ?_
    obtain ⟨r_4, hr_4, h⟩ := zb_e h
    refine k_callVNi (rest := []) hE hW hl.1 (mX1_membersIn ((hB_st.lv).gr) hr_4) ((hB_st.lv).gr).o ((hB_st.lv).gr).obj rfl q817 q619 qs53 q4 q620 hd_X1_membersIn.2 ⟨Nat.le_of_ble_eq_true rfl, Nat.le_of_ble_eq_true rfl⟩ ⟨rfl, rfl⟩ rfl (Nat.le_of_ble_eq_true rfl) dX8_count_51 ⟨Nat.zero_le _, Nat.zero_le _⟩ (fun c1 H locs hP hW => ?_)
    rw [hP] at hW
    obtain rfl := Option.some.inj h
    exact k_iret hE hr hlk hW rfl rfl dX8_count_54
  have h := it_f k_3 h
  rcases Classical.em (a1 = (2 : Int32)) with k_5 | k_5
  · have h := it_t k_5 h
    refine lv_tableIn (tgt := 55) hx hb dX8_count_1 (by rw [k_5]; decide) (by rw [k_5]; decide) (by rw [k_5]; rfl) (by decide) ?_
    refine lv_aload_n hx hb dX8_count_55 rfl (lv_at hl 0 rfl) ?_
    refine k_get (v := .ref (ad (b + 1))) hE hW hB_st.o hB_st.obj rfl inX8 0 (by decide) q244 rfl dX8_count_56 ?_
    refine k_getN (v := .ref (ad (b + 1 + 39))) hE hW (hB_st.lv).o (hB_st.lv).obj rfl inX5 2 (by decide) q135 rfl dX8_count_59 ?_
    refine k_getN (v := .int (st.1.2.2.1.2 0)) hE hW ((hB_st.lv).pl).o ((hB_st.lv).pl).obj rfl inX4 2 (by decide) q122 rfl dX8_count_62 ?_
    obtain rfl := Option.some.inj h
    exact k_iret hE hr hlk hW rfl rfl dX8_count_65
  have h := it_f k_5 h
  rcases Classical.em (a1 = (3 : Int32)) with k_6 | k_6
  · have h := it_t k_6 h
    refine lv_tableIn (tgt := 66) hx hb dX8_count_1 (by rw [k_6]; decide) (by rw [k_6]; decide) (by rw [k_6]; rfl) (by decide) ?_
    refine lv_aload_n hx hb dX8_count_66 rfl (lv_at hl 0 rfl) ?_
    refine k_get (v := .ref (ad (b + 1))) hE hW hB_st.o hB_st.obj rfl inX8 0 (by decide) q244 rfl dX8_count_67 ?_
    refine k_getN (v := .ref (ad (b + 1 + 42))) hE hW (hB_st.lv).o (hB_st.lv).obj rfl inX5 3 (by decide) q137 rfl dX8_count_70 ?_
    refine k_getN (v := .int (st.1.2.2.2.1.2 0)) hE hW ((hB_st.lv).bk).o ((hB_st.lv).bk).obj rfl inX4 2 (by decide) q122 rfl dX8_count_73 ?_
    obtain rfl := Option.some.inj h
    exact k_iret hE hr hlk hW rfl rfl dX8_count_76
  have h := it_f k_6 h
  rcases Classical.em (a1 = (4 : Int32)) with k_7 | k_7
  · have h := it_t k_7 h
    refine lv_tableIn (tgt := 77) hx hb dX8_count_1 (by rw [k_7]; decide) (by rw [k_7]; decide) (by rw [k_7]; rfl) (by decide) ?_
    refine lv_aload_n hx hb dX8_count_77 rfl (lv_at hl 0 rfl) ?_
    refine k_get (v := .ref (ad (b + 136))) hE hW hB_st.o hB_st.obj rfl inX8 1 (by decide) q245 rfl dX8_count_78 ?_
    refine k_getN (v := .int (st.2.1.2 0)) hE hW (hB_st.tx).o (hB_st.tx).obj rfl inX7 1 (by decide) q171 rfl dX8_count_81 ?_
    obtain rfl := Option.some.inj h
    exact k_iret hE hr hlk hW rfl rfl dX8_count_84
  have h := it_f k_7 h
  refine lv_tableOut (tgt := 85) hx hb dX8_count_1 (tb_out5 k_1 k_3 k_5 k_6 k_7) (by decide) ?_
  refine lv_bipush (v := (-2 : Int32)) hx hb dX8_count_85 (by decide) ?_
  obtain rfl := Option.some.inj h
  exact k_iret hE hr hlk hW rfl rfl dX8_count_87
set_option maxHeartbeats 4000000 in
set_option maxRecDepth 100000 in
theorem mX8_tape {l : Launch} {D : va_G} {ct : Nat → ClassId} {J : List Nat} {ad : Nat → Nat} {c0 : CF} {a1 : Int32} {a2 : Int32} {a3 : Int32} {b : Nat} {st : KS} (hB_st : KlB ct J ad c0 b st) {r : Int32} {st9 : KS} (h : fX8_tape  a1 a2 a3 st = some (r, st9)) : Mi l D ct J ad yX8_tape cX8_tape 4 (some .int) (rr 2 43) [.ref (ad b), .int a1, .int a2, .int a3] c0 r (fun c' => KlB ct J ad c' b st9 ∧ Fr c0 c' b 160) := by
  refine Mi_of (own := RX8) (by decide) rfl (Nat.le_of_ble_eq_true rfl) (fun p e s m below meth cd hE hr hlk hW ls hl => ?_)
  have hx := hE.1
  have hb := hE.2.1
  have hl : lv_has ls 4 [(0, .ref (ad b)), (1, .int a1), (2, .int a2), (3, .int a3)] := hl
  rw [fX8_tape] at h
  obtain ⟨c, hB_st, hF, hW⟩ : ∃ c', KlB ct J ad c' b st ∧ Fr c0 c' b 160 ∧ HW D J ad c' (aA J ad s.heap.size) s.heap s.heap [] := ⟨c0, hB_st, Fr.rf, hW⟩
  refine lv_iload_n hx hb dX8_tape_0 rfl (lv_at hl 1 rfl) ?_
  obtain ⟨r_1, hr_1, h⟩ := zb_e h
  refine k_callSi (rest := []) hE hW hl.1 (mX8_isTape hr_1) q793 q794 q1 q795 hd_X8_isTape.2 ⟨Nat.le_of_ble_eq_true rfl, Nat.le_of_ble_eq_true rfl⟩ ⟨rfl, rfl⟩ rfl (Nat.le_of_ble_eq_true rfl) dX8_tape_1 ⟨Nat.zero_le _, Nat.zero_le _⟩ (fun c1 H locs hP hW => ?_)
  rw [hP] at hW
  refine lv_if_ne (tgt := 9) hx hb dX8_tape_4 (by decide) (fun k_2 => ?_) (fun k_2 => ?_)
  · have h := it_f k_2 h
    refine lv_iload_n hx hb dX8_tape_9 rfl (lv_at hl 2 rfl) ?_
    refine lv_iconst (v := (-1 : Int32)) hx hb dX8_tape_10 (by decide) ?_
    refine lv_icmp_ne (tgt := 25) hx hb dX8_tape_11 (by decide) (fun k_3 => ?_) (fun k_3 => ?_)
    · have h := it_f k_3 h
      refine lv_iload_n hx hb dX8_tape_25 rfl (lv_at hl 2 rfl) ?_
      refine lv_if_lt (tgt := 40) hx hb dX8_tape_26 (by decide) (fun k_4 => ?_) (fun k_4 => ?_)
      · have h := it_t k_4 h
        refine lv_bipush (v := (-2 : Int32)) hx hb dX8_tape_40 (by decide) ?_
        obtain ⟨rfl, rfl⟩ := Prod.mk.inj (Option.some.inj h)
        exact k_iret hE hr hlk hW ⟨hB_st, hF⟩ rfl dX8_tape_42
      · have h := it_f k_4 h
        refine lv_iload_n hx hb dX8_tape_29 rfl (lv_at hl 2 rfl) ?_
        refine lv_iconst (v := (4 : Int32)) hx hb dX8_tape_30 (by decide) ?_
        refine lv_icmp_gt (tgt := 40) hx hb dX8_tape_31 (by decide) (fun k_5 => ?_) (fun k_5 => ?_)
        · have h := it_t k_5 h
          refine lv_bipush (v := (-2 : Int32)) hx hb dX8_tape_40 (by decide) ?_
          obtain ⟨rfl, rfl⟩ := Prod.mk.inj (Option.some.inj h)
          exact k_iret hE hr hlk hW ⟨hB_st, hF⟩ rfl dX8_tape_42
        · have h := it_f k_5 h
          refine lv_iload_n hx hb dX8_tape_34 rfl (lv_at hl 3 rfl) ?_
          refine lv_bipush (v := (60 : Int32)) hx hb dX8_tape_35 (by decide) ?_
          refine lv_icmp_le (tgt := 43) hx hb dX8_tape_37 (by decide) (fun k_6 => ?_) (fun k_6 => ?_)
          · have h := it_t k_6 h
            refine lv_iload_n hx hb dX8_tape_43 rfl (lv_at hl 3 rfl) ?_
            refine lv_if_ge (tgt := 50) hx hb dX8_tape_44 (by decide) (fun k_7 => ?_) (fun k_7 => ?_)
            · have h := it_t k_7 h
              refine lv_aload_n hx hb dX8_tape_50 rfl (lv_at hl 0 rfl) ?_
              refine k_get (v := .ref (ad (b + 147))) hE hW hB_st.o hB_st.obj rfl inX8 3 (by decide) q247 rfl dX8_tape_51 ?_
              refine lv_iload_n hx hb dX8_tape_54 rfl (lv_at hl 1 rfl) ?_
              obtain ⟨g_8, h⟩ := zi_e h
              have hg_8 := vp_lt g_8
              refine k_aaldR4 (g := fun t => b + 148 + 2 * t) hE hW hB_st.memO hB_st.out g_8 dX8_tape_55 ?_
              refine lv_iload_n hx hb dX8_tape_56 rfl (lv_at hl 2 rfl) ?_
              refine lv_iload_n hx hb dX8_tape_57 rfl (lv_at hl 3 rfl) ?_
              obtain ⟨y_10, hy_10, h⟩ := zb_e h
              obtain ⟨st_9, est_9, h⟩ := zl_e h
              refine k_callVNv (rest := []) hE hW hl.1 (mX6_become (hB_st.tp hg_8) hy_10) (hB_st.tp hg_8).o (hB_st.tp hg_8).obj rfl q826 q828 qs81 q9 q829 hd_X6_become.2 ⟨Nat.le_of_ble_eq_true rfl, Nat.le_of_ble_eq_true rfl⟩ ⟨rfl, rfl⟩ rfl (Nat.le_of_ble_eq_true rfl) dX8_tape_58 ⟨Nat.zero_le _, Nat.zero_le _⟩ (fun c1 H locs hP hW => ?_)
              obtain ⟨c, hB_st, hF, hW⟩ : ∃ c', KlB ct J ad c' b st_9 ∧ Fr c0 c' b 160 ∧ HW D J ad c' (aA J ad s.heap.size) s.heap H locs := ⟨c1, by rw [est_9]; exact (hB_st.pTp hg_8 hP.1 hP.2), hF.trans (hP.2.wide (by omega) (by omega)), hW⟩
              refine lv_iconst (v := (1 : Int32)) hx hb dX8_tape_61 (by decide) ?_
              obtain ⟨rfl, rfl⟩ := Prod.mk.inj (Option.some.inj h)
              exact k_iret hE hr hlk hW ⟨hB_st, hF⟩ rfl dX8_tape_62
            · have h := it_f k_7 h
              refine lv_bipush (v := (-14 : Int32)) hx hb dX8_tape_47 (by decide) ?_
              obtain ⟨rfl, rfl⟩ := Prod.mk.inj (Option.some.inj h)
              exact k_iret hE hr hlk hW ⟨hB_st, hF⟩ rfl dX8_tape_49
          · have h := it_f k_6 h
            refine lv_bipush (v := (-2 : Int32)) hx hb dX8_tape_40 (by decide) ?_
            obtain ⟨rfl, rfl⟩ := Prod.mk.inj (Option.some.inj h)
            exact k_iret hE hr hlk hW ⟨hB_st, hF⟩ rfl dX8_tape_42
    · have h := it_t k_3 h
      refine lv_aload_n hx hb dX8_tape_14 rfl (lv_at hl 0 rfl) ?_
      refine k_get (v := .ref (ad (b + 147))) hE hW hB_st.o hB_st.obj rfl inX8 3 (by decide) q247 rfl dX8_tape_15 ?_
      refine lv_iload_n hx hb dX8_tape_18 rfl (lv_at hl 1 rfl) ?_
      obtain ⟨g_11, h⟩ := zi_e h
      have hg_11 := vp_lt g_11
      refine k_aaldR4 (g := fun t => b + 148 + 2 * t) hE hW hB_st.memO hB_st.out g_11 dX8_tape_19 ?_
      obtain ⟨y_13, hy_13, h⟩ := zb_e h
      obtain ⟨st_12, est_12, h⟩ := zl_e h
      refine k_callVNv (rest := []) hE hW hl.1 (mX6_empty (hB_st.tp hg_11) hy_13) (hB_st.tp hg_11).o (hB_st.tp hg_11).obj rfl q822 q824 qs80 q9 q825 hd_X6_empty.2 ⟨Nat.le_of_ble_eq_true rfl, Nat.le_of_ble_eq_true rfl⟩ ⟨rfl, rfl⟩ rfl (Nat.le_of_ble_eq_true rfl) dX8_tape_20 ⟨Nat.zero_le _, Nat.zero_le _⟩ (fun c1 H locs hP hW => ?_)
      obtain ⟨c, hB_st, hF, hW⟩ : ∃ c', KlB ct J ad c' b st_12 ∧ Fr c0 c' b 160 ∧ HW D J ad c' (aA J ad s.heap.size) s.heap H locs := ⟨c1, by rw [est_12]; exact (hB_st.pTp hg_11 hP.1 hP.2), hF.trans (hP.2.wide (by omega) (by omega)), hW⟩
      refine lv_iconst (v := (1 : Int32)) hx hb dX8_tape_23 (by decide) ?_
      obtain ⟨rfl, rfl⟩ := Prod.mk.inj (Option.some.inj h)
      exact k_iret hE hr hlk hW ⟨hB_st, hF⟩ rfl dX8_tape_24
  · have h := it_t k_2 h
    refine lv_iconst (v := (-1 : Int32)) hx hb dX8_tape_7 (by decide) ?_
    obtain ⟨rfl, rfl⟩ := Prod.mk.inj (Option.some.inj h)
    exact k_iret hE hr hlk hW ⟨hB_st, hF⟩ rfl dX8_tape_8
set_option maxHeartbeats 4000000 in
set_option maxRecDepth 100000 in
theorem mX8_item {l : Launch} {D : va_G} {ct : Nat → ClassId} {J : List Nat} {ad : Nat → Nat} {c0 : CF} {a1 : Int32} {a2 : Int32} {a3 : Int64} {b : Nat} {st : KS} (hB_st : KlB ct J ad c0 b st) {r : Int32} {st9 : KS} (h : fX8_item  a1 a2 a3 st = some (r, st9)) : Mi l D ct J ad yX8_item cX8_item 5 (some .int) (rr 1 22) [.ref (ad b), .int a1, .int a2, .long a3] c0 r (fun c' => KlB ct J ad c' b st9 ∧ Fr c0 c' b 160) := by
  refine Mi_of (own := RX8) (by decide) rfl (Nat.le_of_ble_eq_true rfl) (fun p e s m below meth cd hE hr hlk hW ls hl => ?_)
  have hx := hE.1
  have hb := hE.2.1
  have hl : lv_has ls 5 [(0, .ref (ad b)), (1, .int a1), (2, .int a2), (3, .long a3)] := hl
  rw [fX8_item] at h
  obtain ⟨c, hB_st, hF, hW⟩ : ∃ c', KlB ct J ad c' b st ∧ Fr c0 c' b 160 ∧ HW D J ad c' (aA J ad s.heap.size) s.heap s.heap [] := ⟨c0, hB_st, Fr.rf, hW⟩
  refine lv_iload_n hx hb dX8_item_0 rfl (lv_at hl 1 rfl) ?_
  obtain ⟨r_1, hr_1, h⟩ := zb_e h
  refine k_callSi (rest := []) hE hW hl.1 (mX8_isTape hr_1) q793 q794 q1 q795 hd_X8_isTape.2 ⟨Nat.le_of_ble_eq_true rfl, Nat.le_of_ble_eq_true rfl⟩ ⟨rfl, rfl⟩ rfl (Nat.le_of_ble_eq_true rfl) dX8_item_1 ⟨Nat.zero_le _, Nat.zero_le _⟩ (fun c1 H locs hP hW => ?_)
  rw [hP] at hW
  refine lv_if_ne (tgt := 9) hx hb dX8_item_4 (by decide) (fun k_2 => ?_) (fun k_2 => ?_)
  · have h := it_f k_2 h
    refine lv_aload_n hx hb dX8_item_9 rfl (lv_at hl 0 rfl) ?_
    refine k_get (v := .ref (ad (b + 147))) hE hW hB_st.o hB_st.obj rfl inX8 3 (by decide) q247 rfl dX8_item_10 ?_
    refine lv_iload_n hx hb dX8_item_13 rfl (lv_at hl 1 rfl) ?_
    obtain ⟨g_3, h⟩ := zi_e h
    have hg_3 := vp_lt g_3
    refine k_aaldR4 (g := fun t => b + 148 + 2 * t) hE hW hB_st.memO hB_st.out g_3 dX8_item_14 ?_
    obtain ⟨r_4, hr_4, h⟩ := zb_e h
    refine k_callVNi (rest := []) hE hW hl.1 (mX6_isNothing (hB_st.tp hg_3) hr_4) (hB_st.tp hg_3).o (hB_st.tp hg_3).obj rfl q796 q798 qs78 q9 q799 hd_X6_isNothing.2 ⟨Nat.le_of_ble_eq_true rfl, Nat.le_of_ble_eq_true rfl⟩ ⟨rfl, rfl⟩ rfl (Nat.le_of_ble_eq_true rfl) dX8_item_15 ⟨Nat.zero_le _, Nat.zero_le _⟩ (fun c1 H locs hP hW => ?_)
    rw [hP] at hW
    refine lv_if_eq (tgt := 24) hx hb dX8_item_18 (by decide) (fun k_5 => ?_) (fun k_5 => ?_)
    · have h := it_t k_5 h
      refine lv_aload_n hx hb dX8_item_24 rfl (lv_at hl 0 rfl) ?_
      refine k_get (v := .ref (ad (b + 147))) hE hW hB_st.o hB_st.obj rfl inX8 3 (by decide) q247 rfl dX8_item_25 ?_
      refine lv_iload_n hx hb dX8_item_28 rfl (lv_at hl 1 rfl) ?_
      obtain ⟨g_6, h⟩ := zi_e h
      have hg_6 := vp_lt g_6
      refine k_aaldR4 (g := fun t => b + 148 + 2 * t) hE hW hB_st.memO hB_st.out g_6 dX8_item_29 ?_
      refine lv_iload_n hx hb dX8_item_30 rfl (lv_at hl 2 rfl) ?_
      obtain ⟨r_7, hr_7, h⟩ := zb_e h
      refine k_callVNi (rest := []) hE hW hl.1 (mX6_hasPlace (hB_st.tp hg_6) hr_7) (hB_st.tp hg_6).o (hB_st.tp hg_6).obj rfl q835 q837 qs82 q9 q838 hd_X6_hasPlace.2 ⟨Nat.le_of_ble_eq_true rfl, Nat.le_of_ble_eq_true rfl⟩ ⟨rfl, rfl⟩ rfl (Nat.le_of_ble_eq_true rfl) dX8_item_31 ⟨Nat.zero_le _, Nat.zero_le _⟩ (fun c1 H locs hP hW => ?_)
      rw [hP] at hW
      refine lv_if_ne (tgt := 40) hx hb dX8_item_34 (by decide) (fun k_8 => ?_) (fun k_8 => ?_)
      · have h := it_f k_8 h
        refine lv_aload_n hx hb dX8_item_40 rfl (lv_at hl 0 rfl) ?_
        refine k_get (v := .ref (ad (b + 147))) hE hW hB_st.o hB_st.obj rfl inX8 3 (by decide) q247 rfl dX8_item_41 ?_
        refine lv_iload_n hx hb dX8_item_44 rfl (lv_at hl 1 rfl) ?_
        obtain ⟨g_9, h⟩ := zi_e h
        have hg_9 := vp_lt g_9
        refine k_aaldR4 (g := fun t => b + 148 + 2 * t) hE hW hB_st.memO hB_st.out g_9 dX8_item_45 ?_
        refine k_getN (v := .ref (ad (b + 148 + 2 * a1.toNatClampNeg + 1 + 0))) hE hW (hB_st.tp hg_9).o (hB_st.tp hg_9).obj rfl inX6 0 (by decide) q232 rfl dX8_item_46 ?_
        refine lv_iload_n hx hb dX8_item_49 rfl (lv_at hl 2 rfl) ?_
        refine lv_aload_n hx hb dX8_item_50 rfl (lv_at hl 0 rfl) ?_
        refine k_get (v := .ref (ad (b + 147))) hE hW hB_st.o hB_st.obj rfl inX8 3 (by decide) q247 rfl dX8_item_51 ?_
        refine lv_iload_n hx hb dX8_item_54 rfl (lv_at hl 1 rfl) ?_
        obtain ⟨g_10, h⟩ := zi_e h
        have hg_10 := vp_lt g_10
        refine k_aaldR4 (g := fun t => b + 148 + 2 * t) hE hW hB_st.memO hB_st.out g_10 dX8_item_55 ?_
        refine lv_lload_n hx hb dX8_item_56 rfl (lv_at hl 3 rfl) ?_
        obtain ⟨r_11, hr_11, h⟩ := zb_e h
        refine k_callVNl (rest := [.int a2, .ref (ad (b + 148 + 2 * a1.toNatClampNeg + 1 + 0))]) hE hW hl.1 (mX6_asItem (hB_st.tp hg_10) hr_11) (hB_st.tp hg_10).o (hB_st.tp hg_10).obj rfl q839 q841 qs83 q9 q842 hd_X6_asItem.2 ⟨Nat.le_of_ble_eq_true rfl, Nat.le_of_ble_eq_true rfl⟩ ⟨rfl, rfl⟩ rfl (Nat.le_of_ble_eq_true rfl) dX8_item_57 ⟨Nat.zero_le _, Nat.zero_le _⟩ (fun c1 H locs hP hW => ?_)
        rw [hP] at hW
        obtain ⟨g_12, h⟩ := zi_e h
        obtain ⟨st_13, est_13, h⟩ := zl_e h
        refine k_last hE hW ((hB_st.tp hg_9).memR 0 (Nat.le_of_ble_eq_true rfl)) ((hB_st.tp hg_9).row 0 (Nat.le_of_ble_eq_true rfl)) g_12 dX8_item_60 (fun H locs hW => ?_)
        obtain ⟨c, hB_st, hF, hW⟩ : ∃ c', KlB ct J ad c' b st_13 ∧ Fr c0 c' b 160 ∧ HW D J ad c' (aA J ad s.heap.size) s.heap H locs := ⟨_, by rw [est_13]; exact (hB_st.pTp hg_9 ((hB_st.tp hg_9).wL (t := 0) (Nat.le_of_ble_eq_true rfl) rfl) (Fr.rf.up (b := (b + 148 + 2 * a1.toNatClampNeg)) (n := 2) (by omega) (by omega))), hF.up (by omega) (by omega), hW⟩
        refine lv_iconst (v := (1 : Int32)) hx hb dX8_item_61 (by decide) ?_
        obtain ⟨rfl, rfl⟩ := Prod.mk.inj (Option.some.inj h)
        exact k_iret hE hr hlk hW ⟨hB_st, hF⟩ rfl dX8_item_62
      · have h := it_t k_8 h
        refine lv_bipush (v := (-13 : Int32)) hx hb dX8_item_37 (by decide) ?_
        obtain ⟨rfl, rfl⟩ := Prod.mk.inj (Option.some.inj h)
        exact k_iret hE hr hlk hW ⟨hB_st, hF⟩ rfl dX8_item_39
    · have h := it_f k_5 h
      refine lv_bipush (v := (-11 : Int32)) hx hb dX8_item_21 (by decide) ?_
      obtain ⟨rfl, rfl⟩ := Prod.mk.inj (Option.some.inj h)
      exact k_iret hE hr hlk hW ⟨hB_st, hF⟩ rfl dX8_item_23
  · have h := it_t k_2 h
    refine lv_iconst (v := (-1 : Int32)) hx hb dX8_item_7 (by decide) ?_
    obtain ⟨rfl, rfl⟩ := Prod.mk.inj (Option.some.inj h)
    exact k_iret hE hr hlk hW ⟨hB_st, hF⟩ rfl dX8_item_8
set_option maxHeartbeats 4000000 in
set_option maxRecDepth 100000 in
theorem mX8_peek {l : Launch} {D : va_G} {ct : Nat → ClassId} {J : List Nat} {ad : Nat → Nat} {c0 : CF} {a1 : Int32} {a2 : Int32} {b : Nat} {st : KS} (hB_st : KlB ct J ad c0 b st) {r : Int64} (h : fX8_peek  a1 a2 st = some r) : Ml l D ct J ad yX8_peek cX8_peek 3 (some .long) (rr 1 21) [.ref (ad b), .int a1, .int a2] c0 r (fun c' => c' = c0) := by
  refine Ml_of (own := RX8) (by decide) rfl (Nat.le_of_ble_eq_true rfl) (fun p e s m below meth cd hE hr hlk hW ls hl => ?_)
  have hx := hE.1
  have hb := hE.2.1
  have hl : lv_has ls 3 [(0, .ref (ad b)), (1, .int a1), (2, .int a2)] := hl
  rw [fX8_peek] at h
  refine lv_iload_n hx hb dX8_peek_0 rfl (lv_at hl 1 rfl) ?_
  obtain ⟨r_1, hr_1, h⟩ := zb_e h
  refine k_callSi (rest := []) hE hW hl.1 (mX8_isTape hr_1) q793 q794 q1 q795 hd_X8_isTape.2 ⟨Nat.le_of_ble_eq_true rfl, Nat.le_of_ble_eq_true rfl⟩ ⟨rfl, rfl⟩ rfl (Nat.le_of_ble_eq_true rfl) dX8_peek_1 ⟨Nat.zero_le _, Nat.zero_le _⟩ (fun c1 H locs hP hW => ?_)
  rw [hP] at hW
  refine lv_if_eq (tgt := 34) hx hb dX8_peek_4 (by decide) (fun k_2 => ?_) (fun k_2 => ?_)
  · have h := it_t k_2 h
    refine lv_ldc2 (v := (-9223372036854775808 : Int64)) hx hb hE.2.2.2.1 (hE.2.2.2.2.1 _ q470) dX8_peek_34 ?_
    obtain rfl := Option.some.inj h
    exact k_lret hE hr hlk hW rfl rfl dX8_peek_37
  · have h := it_f k_2 h
    refine lv_aload_n hx hb dX8_peek_7 rfl (lv_at hl 0 rfl) ?_
    refine k_get (v := .ref (ad (b + 147))) hE hW hB_st.o hB_st.obj rfl inX8 3 (by decide) q247 rfl dX8_peek_8 ?_
    refine lv_iload_n hx hb dX8_peek_11 rfl (lv_at hl 1 rfl) ?_
    obtain ⟨g_3, h⟩ := zi_e h
    have hg_3 := vp_lt g_3
    refine k_aaldR4 (g := fun t => b + 148 + 2 * t) hE hW hB_st.memO hB_st.out g_3 dX8_peek_12 ?_
    refine lv_iload_n hx hb dX8_peek_13 rfl (lv_at hl 2 rfl) ?_
    obtain ⟨r_4, hr_4, h⟩ := zb_e h
    refine k_callVNi (rest := []) hE hW hl.1 (mX6_hasPlace (hB_st.tp hg_3) hr_4) (hB_st.tp hg_3).o (hB_st.tp hg_3).obj rfl q835 q837 qs82 q9 q838 hd_X6_hasPlace.2 ⟨Nat.le_of_ble_eq_true rfl, Nat.le_of_ble_eq_true rfl⟩ ⟨rfl, rfl⟩ rfl (Nat.le_of_ble_eq_true rfl) dX8_peek_14 ⟨Nat.zero_le _, Nat.zero_le _⟩ (fun c1 H locs hP hW => ?_)
    rw [hP] at hW
    refine lv_if_eq (tgt := 34) hx hb dX8_peek_17 (by decide) (fun k_5 => ?_) (fun k_5 => ?_)
    · have h := it_t k_5 h
      refine lv_ldc2 (v := (-9223372036854775808 : Int64)) hx hb hE.2.2.2.1 (hE.2.2.2.2.1 _ q470) dX8_peek_34 ?_
      obtain rfl := Option.some.inj h
      exact k_lret hE hr hlk hW rfl rfl dX8_peek_37
    · have h := it_f k_5 h
      refine lv_aload_n hx hb dX8_peek_20 rfl (lv_at hl 0 rfl) ?_
      refine k_get (v := .ref (ad (b + 147))) hE hW hB_st.o hB_st.obj rfl inX8 3 (by decide) q247 rfl dX8_peek_21 ?_
      refine lv_iload_n hx hb dX8_peek_24 rfl (lv_at hl 1 rfl) ?_
      obtain ⟨g_6, h⟩ := zi_e h
      have hg_6 := vp_lt g_6
      refine k_aaldR4 (g := fun t => b + 148 + 2 * t) hE hW hB_st.memO hB_st.out g_6 dX8_peek_25 ?_
      refine k_getN (v := .ref (ad (b + 148 + 2 * a1.toNatClampNeg + 1 + 0))) hE hW (hB_st.tp hg_6).o (hB_st.tp hg_6).obj rfl inX6 0 (by decide) q232 rfl dX8_peek_26 ?_
      refine lv_iload_n hx hb dX8_peek_29 rfl (lv_at hl 2 rfl) ?_
      obtain ⟨g_7, h⟩ := zi_e h
      refine k_lald hE hW ((hB_st.tp hg_6).memR 0 (Nat.le_of_ble_eq_true rfl)) ((hB_st.tp hg_6).row 0 (Nat.le_of_ble_eq_true rfl)) g_7 dX8_peek_30 ?_
      refine lv_goto (tgt := 37) hx hb dX8_peek_31 (by decide) ?_
      obtain rfl := Option.some.inj h
      exact k_lret hE hr hlk hW rfl rfl dX8_peek_37
set_option maxHeartbeats 4000000 in
set_option maxRecDepth 100000 in
theorem mX8_shift {l : Launch} {D : va_G} {ct : Nat → ClassId} {J : List Nat} {ad : Nat → Nat} {c0 : CF} {a1 : Int32} {a2 : Int32} {a3 : Int32} {a4 : Int32} {a5 : Int32} {b : Nat} {st : KS} (hB_st : KlB ct J ad c0 b st) {r : Int32} {st9 : KS} (h : fX8_shift  a1 a2 a3 a4 a5 st = some (r, st9)) : Mi l D ct J ad yX8_shift cX8_shift 8 (some .int) (rr 1 40) [.ref (ad b), .int a1, .int a2, .int a3, .int a4, .int a5] c0 r (fun c' => KlB ct J ad c' b st9 ∧ Fr c0 c' b 160) := by
  refine Mi_of (own := RX8) (by decide) rfl (Nat.le_of_ble_eq_true rfl) (fun p e s m below meth cd hE hr hlk hW ls hl => ?_)
  have hx := hE.1
  have hb := hE.2.1
  have hl : lv_has ls 8 [(0, .ref (ad b)), (1, .int a1), (2, .int a2), (3, .int a3), (4, .int a4), (5, .int a5)] := hl
  rw [fX8_shift] at h
  obtain ⟨c, hB_st, hF, hW⟩ : ∃ c', KlB ct J ad c' b st ∧ Fr c0 c' b 160 ∧ HW D J ad c' (aA J ad s.heap.size) s.heap s.heap [] := ⟨c0, hB_st, Fr.rf, hW⟩
  refine lv_iload_n hx hb dX8_shift_0 rfl (lv_at hl 1 rfl) ?_
  obtain ⟨r_1, hr_1, h⟩ := zb_e h
  refine k_callSi (rest := []) hE hW hl.1 (mX8_isTape hr_1) q793 q794 q1 q795 hd_X8_isTape.2 ⟨Nat.le_of_ble_eq_true rfl, Nat.le_of_ble_eq_true rfl⟩ ⟨rfl, rfl⟩ rfl (Nat.le_of_ble_eq_true rfl) dX8_shift_1 ⟨Nat.zero_le _, Nat.zero_le _⟩ (fun c1 H locs hP hW => ?_)
  rw [hP] at hW
  refine lv_if_eq (tgt := 14) hx hb dX8_shift_4 (by decide) (fun k_2 => ?_) (fun k_2 => ?_)
  · have h := it_t k_2 h
    refine lv_iconst (v := (-1 : Int32)) hx hb dX8_shift_14 (by decide) ?_
    obtain ⟨rfl, rfl⟩ := Prod.mk.inj (Option.some.inj h)
    exact k_iret hE hr hlk hW ⟨hB_st, hF⟩ rfl dX8_shift_15
  · have h := it_f k_2 h
    refine lv_iload_n hx hb dX8_shift_7 rfl (lv_at hl 3 rfl) ?_
    obtain ⟨r_3, hr_3, h⟩ := zb_e h
    refine k_callSi (rest := []) hE hW hl.1 (mX8_isTape hr_3) q793 q794 q1 q795 hd_X8_isTape.2 ⟨Nat.le_of_ble_eq_true rfl, Nat.le_of_ble_eq_true rfl⟩ ⟨rfl, rfl⟩ rfl (Nat.le_of_ble_eq_true rfl) dX8_shift_8 ⟨Nat.zero_le _, Nat.zero_le _⟩ (fun c1 H locs hP hW => ?_)
    rw [hP] at hW
    refine lv_if_ne (tgt := 16) hx hb dX8_shift_11 (by decide) (fun k_4 => ?_) (fun k_4 => ?_)
    · have h := it_f k_4 h
      refine lv_aload_n hx hb dX8_shift_16 rfl (lv_at hl 0 rfl) ?_
      refine k_get (v := .ref (ad (b + 147))) hE hW hB_st.o hB_st.obj rfl inX8 3 (by decide) q247 rfl dX8_shift_17 ?_
      refine lv_iload_n hx hb dX8_shift_20 rfl (lv_at hl 1 rfl) ?_
      obtain ⟨g_5, h⟩ := zi_e h
      have hg_5 := vp_lt g_5
      refine k_aaldR4 (g := fun t => b + 148 + 2 * t) hE hW hB_st.memO hB_st.out g_5 dX8_shift_21 ?_
      refine lv_astore (lv' := [(6, .ref (ad (b + 148 + 2 * a1.toNatClampNeg))), (0, .ref (ad b)), (1, .int a1), (2, .int a2), (3, .int a3), (4, .int a4), (5, .int a5)]) hx hb dX8_shift_22 hl (by decide) rfl (fun ls hl => ?_)
      refine lv_aload_n hx hb dX8_shift_24 rfl (lv_at hl 1 rfl) ?_
      refine k_get (v := .ref (ad (b + 147))) hE hW hB_st.o hB_st.obj rfl inX8 3 (by decide) q247 rfl dX8_shift_25 ?_
      refine lv_iload_n hx hb dX8_shift_28 rfl (lv_at hl 4 rfl) ?_
      obtain ⟨g_6, h⟩ := zi_e h
      have hg_6 := vp_lt g_6
      refine k_aaldR4 (g := fun t => b + 148 + 2 * t) hE hW hB_st.memO hB_st.out g_6 dX8_shift_29 ?_
      refine lv_astore (lv' := [(7, .ref (ad (b + 148 + 2 * a3.toNatClampNeg))), (6, .ref (ad (b + 148 + 2 * a1.toNatClampNeg))), (0, .ref (ad b)), (1, .int a1), (2, .int a2), (3, .int a3), (4, .int a4), (5, .int a5)]) hx hb dX8_shift_30 hl (by decide) rfl (fun ls hl => ?_)
      refine lv_aload hx hb dX8_shift_32 (lv_at hl 1 rfl) ?_
      obtain ⟨r_7, hr_7, h⟩ := zb_e h
      refine k_callVNi (rest := []) hE hW hl.1 (mX6_isNothing (hB_st.tp hg_5) hr_7) (hB_st.tp hg_5).o (hB_st.tp hg_5).obj rfl q796 q798 qs78 q9 q799 hd_X6_isNothing.2 ⟨Nat.le_of_ble_eq_true rfl, Nat.le_of_ble_eq_true rfl⟩ ⟨rfl, rfl⟩ rfl (Nat.le_of_ble_eq_true rfl) dX8_shift_34 ⟨Nat.zero_le _, Nat.zero_le _⟩ (fun c1 H locs hP hW => ?_)
      rw [hP] at hW
      refine lv_if_ne (tgt := 48) hx hb dX8_shift_37 (by decide) (fun k_8 => ?_) (fun k_8 => ?_)
      · have h := it_f k_8 h
        refine lv_bipush (v := (-11 : Int32)) hx hb dX8_shift_48 (by decide) ?_
        obtain ⟨rfl, rfl⟩ := Prod.mk.inj (Option.some.inj h)
        exact k_iret hE hr hlk hW ⟨hB_st, hF⟩ rfl dX8_shift_50
      · have h := it_t k_8 h
        refine lv_aload hx hb dX8_shift_40 (lv_at hl 0 rfl) ?_
        obtain ⟨r_9, hr_9, h⟩ := zb_e h
        refine k_callVNi (rest := []) hE hW hl.1 (mX6_isNothing (hB_st.tp hg_6) hr_9) (hB_st.tp hg_6).o (hB_st.tp hg_6).obj rfl q796 q798 qs78 q9 q799 hd_X6_isNothing.2 ⟨Nat.le_of_ble_eq_true rfl, Nat.le_of_ble_eq_true rfl⟩ ⟨rfl, rfl⟩ rfl (Nat.le_of_ble_eq_true rfl) dX8_shift_42 ⟨Nat.zero_le _, Nat.zero_le _⟩ (fun c1 H locs hP hW => ?_)
        rw [hP] at hW
        refine lv_if_eq (tgt := 51) hx hb dX8_shift_45 (by decide) (fun k_10 => ?_) (fun k_10 => ?_)
        · have h := it_t k_10 h
          refine lv_aload hx hb dX8_shift_51 (lv_at hl 1 rfl) ?_
          refine k_getN (v := .int ((st.2.2.2.1 a1.toNatClampNeg).2 0)) hE hW (hB_st.tp hg_5).o (hB_st.tp hg_5).obj rfl inX6 1 (by decide) q234 rfl dX8_shift_53 ?_
          refine lv_aload hx hb dX8_shift_56 (lv_at hl 0 rfl) ?_
          refine k_getN (v := .int ((st.2.2.2.1 a3.toNatClampNeg).2 0)) hE hW (hB_st.tp hg_6).o (hB_st.tp hg_6).obj rfl inX6 1 (by decide) q234 rfl dX8_shift_58 ?_
          refine lv_icmp_eq (tgt := 67) hx hb dX8_shift_61 (by decide) (fun k_11 => ?_) (fun k_11 => ?_)
          · have h := it_t k_11 h
            refine lv_aload hx hb dX8_shift_67 (lv_at hl 1 rfl) ?_
            refine lv_iload_n hx hb dX8_shift_69 rfl (lv_at hl 4 rfl) ?_
            refine lv_iload hx hb dX8_shift_70 (lv_at hl 7 rfl) ?_
            obtain ⟨r_12, hr_12, h⟩ := zb_e h
            refine k_callVNi (rest := []) hE hW hl.1 (mX6_hasPlaces (hB_st.tp hg_5) hr_12) (hB_st.tp hg_5).o (hB_st.tp hg_5).obj rfl q851 q853 qs84 q9 q854 hd_X6_hasPlaces.2 ⟨Nat.le_of_ble_eq_true rfl, Nat.le_of_ble_eq_true rfl⟩ ⟨rfl, rfl⟩ rfl (Nat.le_of_ble_eq_true rfl) dX8_shift_72 ⟨Nat.zero_le _, Nat.zero_le _⟩ (fun c1 H locs hP hW => ?_)
            rw [hP] at hW
            refine lv_if_eq (tgt := 90) hx hb dX8_shift_75 (by decide) (fun k_13 => ?_) (fun k_13 => ?_)
            · have h := it_t k_13 h
              refine lv_bipush (v := (-13 : Int32)) hx hb dX8_shift_90 (by decide) ?_
              obtain ⟨rfl, rfl⟩ := Prod.mk.inj (Option.some.inj h)
              exact k_iret hE hr hlk hW ⟨hB_st, hF⟩ rfl dX8_shift_92
            · have h := it_f k_13 h
              refine lv_aload hx hb dX8_shift_78 (lv_at hl 0 rfl) ?_
              refine lv_iload hx hb dX8_shift_80 (lv_at hl 6 rfl) ?_
              refine lv_iload hx hb dX8_shift_82 (lv_at hl 7 rfl) ?_
              obtain ⟨r_14, hr_14, h⟩ := zb_e h
              refine k_callVNi (rest := []) hE hW hl.1 (mX6_hasPlaces (hB_st.tp hg_6) hr_14) (hB_st.tp hg_6).o (hB_st.tp hg_6).obj rfl q851 q853 qs84 q9 q854 hd_X6_hasPlaces.2 ⟨Nat.le_of_ble_eq_true rfl, Nat.le_of_ble_eq_true rfl⟩ ⟨rfl, rfl⟩ rfl (Nat.le_of_ble_eq_true rfl) dX8_shift_84 ⟨Nat.zero_le _, Nat.zero_le _⟩ (fun c1 H locs hP hW => ?_)
              rw [hP] at hW
              refine lv_if_ne (tgt := 93) hx hb dX8_shift_87 (by decide) (fun k_15 => ?_) (fun k_15 => ?_)
              · have h := it_f k_15 h
                refine lv_aload hx hb dX8_shift_93 (lv_at hl 1 rfl) ?_
                refine k_getN (v := .ref (ad (b + 148 + 2 * a1.toNatClampNeg + 1 + 0))) hE hW (hB_st.tp hg_5).o (hB_st.tp hg_5).obj rfl inX6 0 (by decide) q232 rfl dX8_shift_95 ?_
                refine lv_iload_n hx hb dX8_shift_98 rfl (lv_at hl 4 rfl) ?_
                refine lv_aload hx hb dX8_shift_99 (lv_at hl 0 rfl) ?_
                refine k_getN (v := .ref (ad (b + 148 + 2 * a3.toNatClampNeg + 1 + 0))) hE hW (hB_st.tp hg_6).o (hB_st.tp hg_6).obj rfl inX6 0 (by decide) q232 rfl dX8_shift_101 ?_
                refine lv_iload hx hb dX8_shift_104 (lv_at hl 6 rfl) ?_
                refine lv_iload hx hb dX8_shift_106 (lv_at hl 7 rfl) ?_
                obtain ⟨g_16, h⟩ := zc_e h
                obtain ⟨st_17, est_17, h⟩ := zl_e h
                refine k_copyl (t := 1) (rest := []) hE hW (hE.2.2.1.symm.trans (hE.2.2.1.trans hl.1.symm)) q855 q612 q611 q14 ((hB_st.tp hg_5).memR 0 (Nat.le_of_ble_eq_true rfl)) ((hB_st.tp hg_5).row 0 (Nat.le_of_ble_eq_true rfl)) ((hB_st.tp hg_6).memR 0 (Nat.le_of_ble_eq_true rfl)) ((hB_st.tp hg_6).row 0 (Nat.le_of_ble_eq_true rfl)) rfl rfl g_16 (fun _ _ => rfl) (Nat.le_of_ble_eq_true rfl) (Nat.le_of_ble_eq_true rfl) dX8_shift_108 (fun H locs hW => ?_)
                obtain ⟨c, hB_st, hF, hW⟩ : ∃ c', KlB ct J ad c' b st_17 ∧ Fr c0 c' b 160 ∧ HW D J ad c' (aA J ad s.heap.size) s.heap H locs := ⟨_, by rw [est_17]; exact (hB_st.pTp hg_6 ((hB_st.tp hg_6).wLf (t := 0) (Nat.le_of_ble_eq_true rfl) rfl) (Fr.rf.up (b := (b + 148 + 2 * a3.toNatClampNeg)) (n := 2) (by omega) (by omega))), hF.up (by omega) (by omega), hW⟩
                refine lv_iload hx hb dX8_shift_111 (lv_at hl 7 rfl) ?_
                obtain ⟨rfl, rfl⟩ := Prod.mk.inj (Option.some.inj h)
                exact k_iret hE hr hlk hW ⟨hB_st, hF⟩ rfl dX8_shift_113
              · have h := it_t k_15 h
                refine lv_bipush (v := (-13 : Int32)) hx hb dX8_shift_90 (by decide) ?_
                obtain ⟨rfl, rfl⟩ := Prod.mk.inj (Option.some.inj h)
                exact k_iret hE hr hlk hW ⟨hB_st, hF⟩ rfl dX8_shift_92
          · have h := it_f k_11 h
            refine lv_bipush (v := (-12 : Int32)) hx hb dX8_shift_64 (by decide) ?_
            obtain ⟨rfl, rfl⟩ := Prod.mk.inj (Option.some.inj h)
            exact k_iret hE hr hlk hW ⟨hB_st, hF⟩ rfl dX8_shift_66
        · have h := it_f k_10 h
          refine lv_bipush (v := (-11 : Int32)) hx hb dX8_shift_48 (by decide) ?_
          obtain ⟨rfl, rfl⟩ := Prod.mk.inj (Option.some.inj h)
          exact k_iret hE hr hlk hW ⟨hB_st, hF⟩ rfl dX8_shift_50
    · have h := it_t k_4 h
      refine lv_iconst (v := (-1 : Int32)) hx hb dX8_shift_14 (by decide) ?_
      obtain ⟨rfl, rfl⟩ := Prod.mk.inj (Option.some.inj h)
      exact k_iret hE hr hlk hW ⟨hB_st, hF⟩ rfl dX8_shift_15
