theorem hd_X9_sets : yX9_sets.cls = RX9 ∧ yX9_sets.cls ≠ "java/lang/invoke/MethodHandle" ∧ yX9_sets.cls ≠ "java/lang/invoke/VarHandle" ∧ (parseMethodDescriptor yX9_sets.desc).map (fun d => d.parameters.length) = some 3 := by decide +kernel
theorem hd_X9_in : yX9_in.cls = RX9 ∧ yX9_in.cls ≠ "java/lang/invoke/MethodHandle" ∧ yX9_in.cls ≠ "java/lang/invoke/VarHandle" ∧ (parseMethodDescriptor yX9_in.desc).map (fun d => d.parameters.length) = some 3 := by decide +kernel
theorem hd_X9_copy : yX9_copy.cls = RX9 ∧ yX9_copy.cls ≠ "java/lang/invoke/MethodHandle" ∧ yX9_copy.cls ≠ "java/lang/invoke/VarHandle" ∧ (parseMethodDescriptor yX9_copy.desc).map (fun d => d.parameters.length) = some 2 := by decide +kernel
theorem hd_X9_isLog : yX9_isLog.cls = RX9 ∧ yX9_isLog.cls ≠ "java/lang/invoke/MethodHandle" ∧ yX9_isLog.cls ≠ "java/lang/invoke/VarHandle" ∧ (parseMethodDescriptor yX9_isLog.desc).map (fun d => d.parameters.length) = some 1 := by decide +kernel
theorem hd_X9_at : yX9_at.cls = RX9 ∧ yX9_at.cls ≠ "java/lang/invoke/MethodHandle" ∧ yX9_at.cls ≠ "java/lang/invoke/VarHandle" ∧ (parseMethodDescriptor yX9_at.desc).map (fun d => d.parameters.length) = some 2 := by decide +kernel
theorem hd_X9_isThere : yX9_isThere.cls = RX9 ∧ yX9_isThere.cls ≠ "java/lang/invoke/MethodHandle" ∧ yX9_isThere.cls ≠ "java/lang/invoke/VarHandle" ∧ (parseMethodDescriptor yX9_isThere.desc).map (fun d => d.parameters.length) = some 2 := by decide +kernel
theorem hd_X9_base : yX9_base.cls = RX9 ∧ yX9_base.cls ≠ "java/lang/invoke/MethodHandle" ∧ yX9_base.cls ≠ "java/lang/invoke/VarHandle" ∧ (parseMethodDescriptor yX9_base.desc).map (fun d => d.parameters.length) = some 2 := by decide +kernel
theorem hd_X9_endOf : yX9_endOf.cls = RX9 ∧ yX9_endOf.cls ≠ "java/lang/invoke/MethodHandle" ∧ yX9_endOf.cls ≠ "java/lang/invoke/VarHandle" ∧ (parseMethodDescriptor yX9_endOf.desc).map (fun d => d.parameters.length) = some 2 := by decide +kernel
theorem hd_X9_manyIn : yX9_manyIn.cls = RX9 ∧ yX9_manyIn.cls ≠ "java/lang/invoke/MethodHandle" ∧ yX9_manyIn.cls ≠ "java/lang/invoke/VarHandle" ∧ (parseMethodDescriptor yX9_manyIn.desc).map (fun d => d.parameters.length) = some 2 := by decide +kernel
theorem hd_X9_weighs : yX9_weighs.cls = RX9 ∧ yX9_weighs.cls ≠ "java/lang/invoke/MethodHandle" ∧ yX9_weighs.cls ≠ "java/lang/invoke/VarHandle" ∧ (parseMethodDescriptor yX9_weighs.desc).map (fun d => d.parameters.length) = some 3 := by decide +kernel
theorem hd_X9_weightIn : yX9_weightIn.cls = RX9 ∧ yX9_weightIn.cls ≠ "java/lang/invoke/MethodHandle" ∧ yX9_weightIn.cls ≠ "java/lang/invoke/VarHandle" ∧ (parseMethodDescriptor yX9_weightIn.desc).map (fun d => d.parameters.length) = some 2 := by decide +kernel
theorem hd_X9_all : yX9_all.cls = RX9 ∧ yX9_all.cls ≠ "java/lang/invoke/MethodHandle" ∧ yX9_all.cls ≠ "java/lang/invoke/VarHandle" ∧ (parseMethodDescriptor yX9_all.desc).map (fun d => d.parameters.length) = some 1 := by decide +kernel
theorem hd_X9_allLogs : yX9_allLogs.cls = RX9 ∧ yX9_allLogs.cls ≠ "java/lang/invoke/MethodHandle" ∧ yX9_allLogs.cls ≠ "java/lang/invoke/VarHandle" ∧ (parseMethodDescriptor yX9_allLogs.desc).map (fun d => d.parameters.length) = some 0 := by decide +kernel
theorem hd_X9_segmentOf : yX9_segmentOf.cls = RX9 ∧ yX9_segmentOf.cls ≠ "java/lang/invoke/MethodHandle" ∧ yX9_segmentOf.cls ≠ "java/lang/invoke/VarHandle" ∧ (parseMethodDescriptor yX9_segmentOf.desc).map (fun d => d.parameters.length) = some 2 := by decide +kernel
theorem hd_X9_partGoes : yX9_partGoes.cls = RX9 ∧ yX9_partGoes.cls ≠ "java/lang/invoke/MethodHandle" ∧ yX9_partGoes.cls ≠ "java/lang/invoke/VarHandle" ∧ (parseMethodDescriptor yX9_partGoes.desc).map (fun d => d.parameters.length) = some 2 := by decide +kernel
theorem hd_X9_comes : yX9_comes.cls = RX9 ∧ yX9_comes.cls ≠ "java/lang/invoke/MethodHandle" ∧ yX9_comes.cls ≠ "java/lang/invoke/VarHandle" ∧ (parseMethodDescriptor yX9_comes.desc).map (fun d => d.parameters.length) = some 5 := by decide +kernel
theorem hd_X9_noRecord : yX9_noRecord.cls = RX9 ∧ yX9_noRecord.cls ≠ "java/lang/invoke/MethodHandle" ∧ yX9_noRecord.cls ≠ "java/lang/invoke/VarHandle" ∧ (parseMethodDescriptor yX9_noRecord.desc).map (fun d => d.parameters.length) = some 3 := by decide +kernel
theorem hd_X9_tomb : yX9_tomb.cls = RX9 ∧ yX9_tomb.cls ≠ "java/lang/invoke/MethodHandle" ∧ yX9_tomb.cls ≠ "java/lang/invoke/VarHandle" ∧ (parseMethodDescriptor yX9_tomb.desc).map (fun d => d.parameters.length) = some 3 := by decide +kernel
theorem hd_X9_tick : yX9_tick.cls = RX9 ∧ yX9_tick.cls ≠ "java/lang/invoke/MethodHandle" ∧ yX9_tick.cls ≠ "java/lang/invoke/VarHandle" ∧ (parseMethodDescriptor yX9_tick.desc).map (fun d => d.parameters.length) = some 1 := by decide +kernel
theorem hd_X9_set : yX9_set.cls = RX9 ∧ yX9_set.cls ≠ "java/lang/invoke/MethodHandle" ∧ yX9_set.cls ≠ "java/lang/invoke/VarHandle" ∧ (parseMethodDescriptor yX9_set.desc).map (fun d => d.parameters.length) = some 2 := by decide +kernel
theorem hd_X9_hasLater : yX9_hasLater.cls = RX9 ∧ yX9_hasLater.cls ≠ "java/lang/invoke/MethodHandle" ∧ yX9_hasLater.cls ≠ "java/lang/invoke/VarHandle" ∧ (parseMethodDescriptor yX9_hasLater.desc).map (fun d => d.parameters.length) = some 2 := by decide +kernel
theorem hd_X9_compacted : yX9_compacted.cls = RX9 ∧ yX9_compacted.cls ≠ "java/lang/invoke/MethodHandle" ∧ yX9_compacted.cls ≠ "java/lang/invoke/VarHandle" ∧ (parseMethodDescriptor yX9_compacted.desc).map (fun d => d.parameters.length) = some 1 := by decide +kernel
theorem hd_X9_isOld : yX9_isOld.cls = RX9 ∧ yX9_isOld.cls ≠ "java/lang/invoke/MethodHandle" ∧ yX9_isOld.cls ≠ "java/lang/invoke/VarHandle" ∧ (parseMethodDescriptor yX9_isOld.desc).map (fun d => d.parameters.length) = some 1 := by decide +kernel
theorem hd_X9_retained : yX9_retained.cls = RX9 ∧ yX9_retained.cls ≠ "java/lang/invoke/MethodHandle" ∧ yX9_retained.cls ≠ "java/lang/invoke/VarHandle" ∧ (parseMethodDescriptor yX9_retained.desc).map (fun d => d.parameters.length) = some 1 := by decide +kernel
theorem hd_X9_compact : yX9_compact.cls = RX9 ∧ yX9_compact.cls ≠ "java/lang/invoke/MethodHandle" ∧ yX9_compact.cls ≠ "java/lang/invoke/VarHandle" ∧ (parseMethodDescriptor yX9_compact.desc).map (fun d => d.parameters.length) = some 1 := by decide +kernel
theorem hd_X9_retain : yX9_retain.cls = RX9 ∧ yX9_retain.cls ≠ "java/lang/invoke/MethodHandle" ∧ yX9_retain.cls ≠ "java/lang/invoke/VarHandle" ∧ (parseMethodDescriptor yX9_retain.desc).map (fun d => d.parameters.length) = some 1 := by decide +kernel
theorem hd_X9_feed : yX9_feed.cls = RX9 ∧ yX9_feed.cls ≠ "java/lang/invoke/MethodHandle" ∧ yX9_feed.cls ≠ "java/lang/invoke/VarHandle" ∧ (parseMethodDescriptor yX9_feed.desc).map (fun d => d.parameters.length) = some 1 := by decide +kernel
theorem hd_X9_sees : yX9_sees.cls = RX9 ∧ yX9_sees.cls ≠ "java/lang/invoke/MethodHandle" ∧ yX9_sees.cls ≠ "java/lang/invoke/VarHandle" ∧ (parseMethodDescriptor yX9_sees.desc).map (fun d => d.parameters.length) = some 2 := by decide +kernel
theorem hd_X9_must : yX9_must.cls = RX9 ∧ yX9_must.cls ≠ "java/lang/invoke/MethodHandle" ∧ yX9_must.cls ≠ "java/lang/invoke/VarHandle" ∧ (parseMethodDescriptor yX9_must.desc).map (fun d => d.parameters.length) = some 2 := by decide +kernel
theorem hd_X9_number : yX9_number.cls = RX9 ∧ yX9_number.cls ≠ "java/lang/invoke/MethodHandle" ∧ yX9_number.cls ≠ "java/lang/invoke/VarHandle" ∧ (parseMethodDescriptor yX9_number.desc).map (fun d => d.parameters.length) = some 1 := by decide +kernel
theorem hd_X9_clause : yX9_clause.cls = RX9 ∧ yX9_clause.cls ≠ "java/lang/invoke/MethodHandle" ∧ yX9_clause.cls ≠ "java/lang/invoke/VarHandle" ∧ (parseMethodDescriptor yX9_clause.desc).map (fun d => d.parameters.length) = some 1 := by decide +kernel
theorem hd_X9_replays : yX9_replays.cls = RX9 ∧ yX9_replays.cls ≠ "java/lang/invoke/MethodHandle" ∧ yX9_replays.cls ≠ "java/lang/invoke/VarHandle" ∧ (parseMethodDescriptor yX9_replays.desc).map (fun d => d.parameters.length) = some 2 := by decide +kernel
theorem hd_X9_isMapped : yX9_isMapped.cls = RX9 ∧ yX9_isMapped.cls ≠ "java/lang/invoke/MethodHandle" ∧ yX9_isMapped.cls ≠ "java/lang/invoke/VarHandle" ∧ (parseMethodDescriptor yX9_isMapped.desc).map (fun d => d.parameters.length) = some 2 := by decide +kernel
theorem hd_X9_mapped : yX9_mapped.cls = RX9 ∧ yX9_mapped.cls ≠ "java/lang/invoke/MethodHandle" ∧ yX9_mapped.cls ≠ "java/lang/invoke/VarHandle" ∧ (parseMethodDescriptor yX9_mapped.desc).map (fun d => d.parameters.length) = some 1 := by decide +kernel
theorem hd_X9_holes : yX9_holes.cls = RX9 ∧ yX9_holes.cls ≠ "java/lang/invoke/MethodHandle" ∧ yX9_holes.cls ≠ "java/lang/invoke/VarHandle" ∧ (parseMethodDescriptor yX9_holes.desc).map (fun d => d.parameters.length) = some 1 := by decide +kernel
theorem hd_X9_from : yX9_from.cls = RX9 ∧ yX9_from.cls ≠ "java/lang/invoke/MethodHandle" ∧ yX9_from.cls ≠ "java/lang/invoke/VarHandle" ∧ (parseMethodDescriptor yX9_from.desc).map (fun d => d.parameters.length) = some 3 := by decide +kernel
theorem hd_X9_of : yX9_of.cls = RX9 ∧ yX9_of.cls ≠ "java/lang/invoke/MethodHandle" ∧ yX9_of.cls ≠ "java/lang/invoke/VarHandle" ∧ (parseMethodDescriptor yX9_of.desc).map (fun d => d.parameters.length) = some 2 := by decide +kernel
theorem hd_X9_record : yX9_record.cls = RX9 ∧ yX9_record.cls ≠ "java/lang/invoke/MethodHandle" ∧ yX9_record.cls ≠ "java/lang/invoke/VarHandle" ∧ (parseMethodDescriptor yX9_record.desc).map (fun d => d.parameters.length) = some 3 := by decide +kernel
theorem hd_X9_segment : yX9_segment.cls = RX9 ∧ yX9_segment.cls ≠ "java/lang/invoke/MethodHandle" ∧ yX9_segment.cls ≠ "java/lang/invoke/VarHandle" ∧ (parseMethodDescriptor yX9_segment.desc).map (fun d => d.parameters.length) = some 3 := by decide +kernel
theorem hd_X9_valueIn : yX9_valueIn.cls = RX9 ∧ yX9_valueIn.cls ≠ "java/lang/invoke/MethodHandle" ∧ yX9_valueIn.cls ≠ "java/lang/invoke/VarHandle" ∧ (parseMethodDescriptor yX9_valueIn.desc).map (fun d => d.parameters.length) = some 3 := by decide +kernel
theorem hd_X9_value : yX9_value.cls = RX9 ∧ yX9_value.cls ≠ "java/lang/invoke/MethodHandle" ∧ yX9_value.cls ≠ "java/lang/invoke/VarHandle" ∧ (parseMethodDescriptor yX9_value.desc).map (fun d => d.parameters.length) = some 2 := by decide +kernel
theorem hd_X9_replay : yX9_replay.cls = RX9 ∧ yX9_replay.cls ≠ "java/lang/invoke/MethodHandle" ∧ yX9_replay.cls ≠ "java/lang/invoke/VarHandle" ∧ (parseMethodDescriptor yX9_replay.desc).map (fun d => d.parameters.length) = some 3 := by decide +kernel
theorem hd_X9_near : yX9_near.cls = RX9 ∧ yX9_near.cls ≠ "java/lang/invoke/MethodHandle" ∧ yX9_near.cls ≠ "java/lang/invoke/VarHandle" ∧ (parseMethodDescriptor yX9_near.desc).map (fun d => d.parameters.length) = some 3 := by decide +kernel
theorem hd_X9_isAhead : yX9_isAhead.cls = RX9 ∧ yX9_isAhead.cls ≠ "java/lang/invoke/MethodHandle" ∧ yX9_isAhead.cls ≠ "java/lang/invoke/VarHandle" ∧ (parseMethodDescriptor yX9_isAhead.desc).map (fun d => d.parameters.length) = some 3 := by decide +kernel
theorem hd_X9_oldest : yX9_oldest.cls = RX9 ∧ yX9_oldest.cls ≠ "java/lang/invoke/MethodHandle" ∧ yX9_oldest.cls ≠ "java/lang/invoke/VarHandle" ∧ (parseMethodDescriptor yX9_oldest.desc).map (fun d => d.parameters.length) = some 2 := by decide +kernel
theorem hd_X9_would : yX9_would.cls = RX9 ∧ yX9_would.cls ≠ "java/lang/invoke/MethodHandle" ∧ yX9_would.cls ≠ "java/lang/invoke/VarHandle" ∧ (parseMethodDescriptor yX9_would.desc).map (fun d => d.parameters.length) = some 2 := by decide +kernel
theorem hd_X9_need : yX9_need.cls = RX9 ∧ yX9_need.cls ≠ "java/lang/invoke/MethodHandle" ∧ yX9_need.cls ≠ "java/lang/invoke/VarHandle" ∧ (parseMethodDescriptor yX9_need.desc).map (fun d => d.parameters.length) = some 2 := by decide +kernel
theorem hd_X9_isIn : yX9_isIn.cls = RX9 ∧ yX9_isIn.cls ≠ "java/lang/invoke/MethodHandle" ∧ yX9_isIn.cls ≠ "java/lang/invoke/VarHandle" ∧ (parseMethodDescriptor yX9_isIn.desc).map (fun d => d.parameters.length) = some 1 := by decide +kernel
theorem hd_X9_membersIn : yX9_membersIn.cls = RX9 ∧ yX9_membersIn.cls ≠ "java/lang/invoke/MethodHandle" ∧ yX9_membersIn.cls ≠ "java/lang/invoke/VarHandle" ∧ (parseMethodDescriptor yX9_membersIn.desc).map (fun d => d.parameters.length) = some 0 := by decide +kernel
theorem hd_X9_logsOf : yX9_logsOf.cls = RX9 ∧ yX9_logsOf.cls ≠ "java/lang/invoke/MethodHandle" ∧ yX9_logsOf.cls ≠ "java/lang/invoke/VarHandle" ∧ (parseMethodDescriptor yX9_logsOf.desc).map (fun d => d.parameters.length) = some 1 := by decide +kernel
theorem hd_X9_bits : yX9_bits.cls = RX9 ∧ yX9_bits.cls ≠ "java/lang/invoke/MethodHandle" ∧ yX9_bits.cls ≠ "java/lang/invoke/VarHandle" ∧ (parseMethodDescriptor yX9_bits.desc).map (fun d => d.parameters.length) = some 1 := by decide +kernel
theorem hd_X9_lets : yX9_lets.cls = RX9 ∧ yX9_lets.cls ≠ "java/lang/invoke/MethodHandle" ∧ yX9_lets.cls ≠ "java/lang/invoke/VarHandle" ∧ (parseMethodDescriptor yX9_lets.desc).map (fun d => d.parameters.length) = some 2 := by decide +kernel
theorem hd_X9_least : yX9_least.cls = RX9 ∧ yX9_least.cls ≠ "java/lang/invoke/MethodHandle" ∧ yX9_least.cls ≠ "java/lang/invoke/VarHandle" ∧ (parseMethodDescriptor yX9_least.desc).map (fun d => d.parameters.length) = some 0 := by decide +kernel
theorem hd_X9_shares : yX9_shares.cls = RX9 ∧ yX9_shares.cls ≠ "java/lang/invoke/MethodHandle" ∧ yX9_shares.cls ≠ "java/lang/invoke/VarHandle" ∧ (parseMethodDescriptor yX9_shares.desc).map (fun d => d.parameters.length) = some 0 := by decide +kernel
theorem hd_X9_join : yX9_join.cls = RX9 ∧ yX9_join.cls ≠ "java/lang/invoke/MethodHandle" ∧ yX9_join.cls ≠ "java/lang/invoke/VarHandle" ∧ (parseMethodDescriptor yX9_join.desc).map (fun d => d.parameters.length) = some 1 := by decide +kernel
theorem hd_X9_leave : yX9_leave.cls = RX9 ∧ yX9_leave.cls ≠ "java/lang/invoke/MethodHandle" ∧ yX9_leave.cls ≠ "java/lang/invoke/VarHandle" ∧ (parseMethodDescriptor yX9_leave.desc).map (fun d => d.parameters.length) = some 1 := by decide +kernel
theorem hd_X9_polled : yX9_polled.cls = RX9 ∧ yX9_polled.cls ≠ "java/lang/invoke/MethodHandle" ∧ yX9_polled.cls ≠ "java/lang/invoke/VarHandle" ∧ (parseMethodDescriptor yX9_polled.desc).map (fun d => d.parameters.length) = some 1 := by decide +kernel
theorem hd_X9_poll : yX9_poll.cls = RX9 ∧ yX9_poll.cls ≠ "java/lang/invoke/MethodHandle" ∧ yX9_poll.cls ≠ "java/lang/invoke/VarHandle" ∧ (parseMethodDescriptor yX9_poll.desc).map (fun d => d.parameters.length) = some 1 := by decide +kernel
theorem hd_X9_seek : yX9_seek.cls = RX9 ∧ yX9_seek.cls ≠ "java/lang/invoke/MethodHandle" ∧ yX9_seek.cls ≠ "java/lang/invoke/VarHandle" ∧ (parseMethodDescriptor yX9_seek.desc).map (fun d => d.parameters.length) = some 2 := by decide +kernel
theorem hd_X9_lag : yX9_lag.cls = RX9 ∧ yX9_lag.cls ≠ "java/lang/invoke/MethodHandle" ∧ yX9_lag.cls ≠ "java/lang/invoke/VarHandle" ∧ (parseMethodDescriptor yX9_lag.desc).map (fun d => d.parameters.length) = some 1 := by decide +kernel
theorem hd_X9_member : yX9_member.cls = RX9 ∧ yX9_member.cls ≠ "java/lang/invoke/MethodHandle" ∧ yX9_member.cls ≠ "java/lang/invoke/VarHandle" ∧ (parseMethodDescriptor yX9_member.desc).map (fun d => d.parameters.length) = some 2 := by decide +kernel
theorem hd_X9_told : yX9_told.cls = RX9 ∧ yX9_told.cls ≠ "java/lang/invoke/MethodHandle" ∧ yX9_told.cls ≠ "java/lang/invoke/VarHandle" ∧ (parseMethodDescriptor yX9_told.desc).map (fun d => d.parameters.length) = some 1 := by decide +kernel
theorem hd_X9_common : yX9_common.cls = RX9 ∧ yX9_common.cls ≠ "java/lang/invoke/MethodHandle" ∧ yX9_common.cls ≠ "java/lang/invoke/VarHandle" ∧ (parseMethodDescriptor yX9_common.desc).map (fun d => d.parameters.length) = some 2 := by decide +kernel
theorem hd_X9_odds : yX9_odds.cls = RX9 ∧ yX9_odds.cls ≠ "java/lang/invoke/MethodHandle" ∧ yX9_odds.cls ≠ "java/lang/invoke/VarHandle" ∧ (parseMethodDescriptor yX9_odds.desc).map (fun d => d.parameters.length) = some 2 := by decide +kernel
theorem hd_X9_plan : yX9_plan.cls = RX9 ∧ yX9_plan.cls ≠ "java/lang/invoke/MethodHandle" ∧ yX9_plan.cls ≠ "java/lang/invoke/VarHandle" ∧ (parseMethodDescriptor yX9_plan.desc).map (fun d => d.parameters.length) = some 2 := by decide +kernel
theorem hd_X9_does : yX9_does.cls = RX9 ∧ yX9_does.cls ≠ "java/lang/invoke/MethodHandle" ∧ yX9_does.cls ≠ "java/lang/invoke/VarHandle" ∧ (parseMethodDescriptor yX9_does.desc).map (fun d => d.parameters.length) = some 2 := by decide +kernel
theorem hd_X9_ends : yX9_ends.cls = RX9 ∧ yX9_ends.cls ≠ "java/lang/invoke/MethodHandle" ∧ yX9_ends.cls ≠ "java/lang/invoke/VarHandle" ∧ (parseMethodDescriptor yX9_ends.desc).map (fun d => d.parameters.length) = some 1 := by decide +kernel
theorem hd_X9_book : yX9_book.cls = RX9 ∧ yX9_book.cls ≠ "java/lang/invoke/MethodHandle" ∧ yX9_book.cls ≠ "java/lang/invoke/VarHandle" ∧ (parseMethodDescriptor yX9_book.desc).map (fun d => d.parameters.length) = some 2 := by decide +kernel
theorem hd_X9_looked : yX9_looked.cls = RX9 ∧ yX9_looked.cls ≠ "java/lang/invoke/MethodHandle" ∧ yX9_looked.cls ≠ "java/lang/invoke/VarHandle" ∧ (parseMethodDescriptor yX9_looked.desc).map (fun d => d.parameters.length) = some 0 := by decide +kernel
theorem hd_X9_keep : yX9_keep.cls = RX9 ∧ yX9_keep.cls ≠ "java/lang/invoke/MethodHandle" ∧ yX9_keep.cls ≠ "java/lang/invoke/VarHandle" ∧ (parseMethodDescriptor yX9_keep.desc).map (fun d => d.parameters.length) = some 3 := by decide +kernel
theorem hd_X9_kept : yX9_kept.cls = RX9 ∧ yX9_kept.cls ≠ "java/lang/invoke/MethodHandle" ∧ yX9_kept.cls ≠ "java/lang/invoke/VarHandle" ∧ (parseMethodDescriptor yX9_kept.desc).map (fun d => d.parameters.length) = some 2 := by decide +kernel
theorem hd_X9_isTape : yX9_isTape.cls = RX9 ∧ yX9_isTape.cls ≠ "java/lang/invoke/MethodHandle" ∧ yX9_isTape.cls ≠ "java/lang/invoke/VarHandle" ∧ (parseMethodDescriptor yX9_isTape.desc).map (fun d => d.parameters.length) = some 1 := by decide +kernel
theorem hd_X9_judge : yX9_judge.cls = RX9 ∧ yX9_judge.cls ≠ "java/lang/invoke/MethodHandle" ∧ yX9_judge.cls ≠ "java/lang/invoke/VarHandle" ∧ (parseMethodDescriptor yX9_judge.desc).map (fun d => d.parameters.length) = some 3 := by decide +kernel
theorem hd_X9_image : yX9_image.cls = RX9 ∧ yX9_image.cls ≠ "java/lang/invoke/MethodHandle" ∧ yX9_image.cls ≠ "java/lang/invoke/VarHandle" ∧ (parseMethodDescriptor yX9_image.desc).map (fun d => d.parameters.length) = some 0 := by decide +kernel
theorem hd_X9_undo : yX9_undo.cls = RX9 ∧ yX9_undo.cls ≠ "java/lang/invoke/MethodHandle" ∧ yX9_undo.cls ≠ "java/lang/invoke/VarHandle" ∧ (parseMethodDescriptor yX9_undo.desc).map (fun d => d.parameters.length) = some 0 := by decide +kernel
theorem hd_X9_count : yX9_count.cls = RX9 ∧ yX9_count.cls ≠ "java/lang/invoke/MethodHandle" ∧ yX9_count.cls ≠ "java/lang/invoke/VarHandle" ∧ (parseMethodDescriptor yX9_count.desc).map (fun d => d.parameters.length) = some 1 := by decide +kernel
theorem hd_X9_tape : yX9_tape.cls = RX9 ∧ yX9_tape.cls ≠ "java/lang/invoke/MethodHandle" ∧ yX9_tape.cls ≠ "java/lang/invoke/VarHandle" ∧ (parseMethodDescriptor yX9_tape.desc).map (fun d => d.parameters.length) = some 3 := by decide +kernel
theorem hd_X9_fit : yX9_fit.cls = RX9 ∧ yX9_fit.cls ≠ "java/lang/invoke/MethodHandle" ∧ yX9_fit.cls ≠ "java/lang/invoke/VarHandle" ∧ (parseMethodDescriptor yX9_fit.desc).map (fun d => d.parameters.length) = some 2 := by decide +kernel
theorem hd_X9_item : yX9_item.cls = RX9 ∧ yX9_item.cls ≠ "java/lang/invoke/MethodHandle" ∧ yX9_item.cls ≠ "java/lang/invoke/VarHandle" ∧ (parseMethodDescriptor yX9_item.desc).map (fun d => d.parameters.length) = some 3 := by decide +kernel
theorem hd_X9_peek : yX9_peek.cls = RX9 ∧ yX9_peek.cls ≠ "java/lang/invoke/MethodHandle" ∧ yX9_peek.cls ≠ "java/lang/invoke/VarHandle" ∧ (parseMethodDescriptor yX9_peek.desc).map (fun d => d.parameters.length) = some 2 := by decide +kernel
theorem hd_X9_shift : yX9_shift.cls = RX9 ∧ yX9_shift.cls ≠ "java/lang/invoke/MethodHandle" ∧ yX9_shift.cls ≠ "java/lang/invoke/VarHandle" ∧ (parseMethodDescriptor yX9_shift.desc).map (fun d => d.parameters.length) = some 5 := by decide +kernel
set_option maxHeartbeats 4000000 in
set_option maxRecDepth 100000 in
theorem mX9_sets {l : Launch} {D : va_G} {ct : Nat → ClassId} {J : List Nat} {ad : Nat → Nat} {c0 : CF} {a1 : Int32} {a2 : Int32} {a3 : Int32} {b : Nat} {st : MS} (hB_st : MoB ct J ad c0 b st) {st9 : MS} (h : fX9_sets  a1 a2 a3 st = some st9) : Mv l D ct J ad yX9_sets cX9_sets 4 none (rr 0 0) [.ref (ad b), .int a1, .int a2, .int a3] c0 (fun c' => MoB ct J ad c' b st9 ∧ Fr c0 c' b 19) := by
  refine Mv_of (own := RX9) (by decide) rfl (Nat.le_of_ble_eq_true rfl) (fun p e s m below meth cd hE hr hlk hW ls hl => ?_)
  have hx := hE.1
  have hb := hE.2.1
  have hl : lv_has ls 4 [(0, .ref (ad b)), (1, .int a1), (2, .int a2), (3, .int a3)] := hl
  rw [fX9_sets] at h
  obtain ⟨c, hB_st, hF, hW⟩ : ∃ c', MoB ct J ad c' b st ∧ Fr c0 c' b 19 ∧ HW D J ad c' (aA J ad s.heap.size) s.heap s.heap [] := ⟨c0, hB_st, Fr.rf, hW⟩
  refine lv_aload_n hx hb dX9_sets_0 rfl (lv_at hl 0 rfl) ?_
  refine k_get (v := .ref (ad (b + 1 + 0))) hE hW hB_st.o hB_st.obj rfl inX9 0 (by decide) q868 rfl dX9_sets_1 ?_
  refine lv_iload_n hx hb dX9_sets_4 rfl (lv_at hl 1 rfl) ?_
  refine lv_sipush (v := (1274 : Int32)) hx hb dX9_sets_5 (by decide) ?_
  refine lv_imul hx hb dX9_sets_8 ?_
  refine lv_iload_n hx hb dX9_sets_9 rfl (lv_at hl 2 rfl) ?_
  refine lv_iadd hx hb dX9_sets_10 ?_
  refine lv_iload_n hx hb dX9_sets_11 rfl (lv_at hl 3 rfl) ?_
  obtain ⟨g_1, h⟩ := zi_e h
  obtain ⟨st_2, est_2, h⟩ := zl_e h
  refine k_iast hE hW (hB_st.memA 0 (Nat.le_of_ble_eq_true rfl)) (hB_st.arr 0 rfl) g_1 dX9_sets_12 (fun H locs hW => ?_)
  obtain ⟨c, hB_st, hF, hW⟩ : ∃ c', MoB ct J ad c' b st_2 ∧ Fr c0 c' b 19 ∧ HW D J ad c' (aA J ad s.heap.size) s.heap H locs := ⟨_, hB_st.wA (k := 0) rfl est_2, hF.up (by omega) (by omega), hW⟩
  obtain rfl := Option.some.inj h
  exact k_vret hE hr hlk hW ⟨hB_st, hF⟩ dX9_sets_13
set_option maxHeartbeats 4000000 in
set_option maxRecDepth 100000 in
theorem mX9_in {l : Launch} {D : va_G} {ct : Nat → ClassId} {J : List Nat} {ad : Nat → Nat} {c0 : CF} {a1 : Int32} {a2 : Int32} {a3 : Int32} {r : Int32} (h : fX9_in  a1 a2 a3 = some r) : Mi l D ct J ad yX9_in cX9_in 3 (some .boolean) (rr 0 0) [.int a1, .int a2, .int a3] c0 r (fun c' => c' = c0) := by
  refine Mi_of (own := RX9) (by decide) rfl (Nat.le_of_ble_eq_true rfl) (fun p e s m below meth cd hE hr hlk hW ls hl => ?_)
  have hx := hE.1
  have hb := hE.2.1
  have hl : lv_has ls 3 [(0, .int a1), (1, .int a2), (2, .int a3)] := hl
  rw [fX9_in] at h
  refine lv_iload_n hx hb dX9_in_0 rfl (lv_at hl 0 rfl) ?_
  refine lv_iload_n hx hb dX9_in_1 rfl (lv_at hl 1 rfl) ?_
  refine lv_icmp_lt (tgt := 14) hx hb dX9_in_2 (by decide) (fun k_1 => ?_) (fun k_1 => ?_)
  · have h := it_t k_1 h
    refine lv_iconst (v := (0 : Int32)) hx hb dX9_in_14 (by decide) ?_
    obtain rfl := Option.some.inj h
    exact k_zret hE hr hlk hW rfl rfl rfl dX9_in_15
  · have h := it_f k_1 h
    refine lv_iload_n hx hb dX9_in_5 rfl (lv_at hl 0 rfl) ?_
    refine lv_iload_n hx hb dX9_in_6 rfl (lv_at hl 2 rfl) ?_
    refine lv_icmp_gt (tgt := 14) hx hb dX9_in_7 (by decide) (fun k_2 => ?_) (fun k_2 => ?_)
    · have h := it_t k_2 h
      refine lv_iconst (v := (0 : Int32)) hx hb dX9_in_14 (by decide) ?_
      obtain rfl := Option.some.inj h
      exact k_zret hE hr hlk hW rfl rfl rfl dX9_in_15
    · have h := it_f k_2 h
      refine lv_iconst (v := (1 : Int32)) hx hb dX9_in_10 (by decide) ?_
      refine lv_goto (tgt := 15) hx hb dX9_in_11 (by decide) ?_
      obtain rfl := Option.some.inj h
      exact k_zret hE hr hlk hW rfl rfl rfl dX9_in_15
set_option maxHeartbeats 4000000 in
set_option maxRecDepth 100000 in
theorem wX9_copy_2 {p : Program} {l : Launch} {e : Env} {s : State} {m : MethodId} {args : Array Value} {below : List Frame} {meth : Method} {cd : Code} {D : va_G} {ct : Nat → ClassId} {J : List Nat} {ad : Nat → Nat} {c0 : CF} {b : Nat} (hE : ME p s m cd args D ct cX9_copy RX9 3) (hr : meth.sig.returnType = none) (hlk : meth.locks = false) {k1 : Nat} {k2 : Nat} (ha_k1 : arM[k1]? = some 5140) (ha_k2 : arM[k2]? = some 5140) (hm_k1 : k1 < 10) (hm_k2 : k2 < 10) {st9 : MS} : ∀ (n : Nat) (x2 : Int32) (st : MS) (c : CF) (H : Heap) (locs : List Loc) (ls : Array Slot), HW D J ad c (aA J ad s.heap.size) s.heap H locs → MoB ct J ad c b st → Fr c0 c b 19 → lv_has ls 3 [(0, .ref (ad (b + 1 + k1))), (1, .ref (ad (b + 1 + k2))), (2, .int x2)] → fX9_copy_2 k1 k2 n x2 st = some st9 → W p l e (rr 0 0) s m args below meth cd H locs 0 0 (MQ below (Qv D J ad s.heap.size (fun c' => MoB ct J ad c' b st9 ∧ Fr c0 c' b 19)) args s 0 0 (aA J ad s.heap.size)) (F0 m 2 ls []) := by
  have hx := hE.1
  have hb := hE.2.1
  intro n
  induction n with
  | zero =>
    intro x2 st c H locs ls hW hB_st hF hl h
    have h2 : (none : Option MS) = some st9 := h
    cases h2
  | succ n ih =>
    intro x2 st c H locs ls hW hB_st hF hl h
    rw [fX9_copy_2] at h
    refine lv_iload_n hx hb dX9_copy_2 rfl (lv_at hl 2 rfl) ?_
    refine lv_sipush (v := (5140 : Int32)) hx hb dX9_copy_3 (by decide) ?_
    refine lv_icmp_ge (tgt := 21) hx hb dX9_copy_6 (by decide) (fun k_1 => ?_) (fun k_1 => ?_)
    · have h := it_t k_1 h
      obtain rfl := Option.some.inj h
      exact k_vret hE hr hlk hW ⟨hB_st, hF⟩ dX9_copy_21
    · have h := it_f k_1 h
      refine lv_aload_n hx hb dX9_copy_9 rfl (lv_at hl 1 rfl) ?_
      refine lv_iload_n hx hb dX9_copy_10 rfl (lv_at hl 2 rfl) ?_
      refine lv_aload_n hx hb dX9_copy_11 rfl (lv_at hl 0 rfl) ?_
      refine lv_iload_n hx hb dX9_copy_12 rfl (lv_at hl 2 rfl) ?_
      obtain ⟨g_2, h⟩ := zi_e h
      refine k_iald hE hW (hB_st.memA k1 hm_k1) (hB_st.arr k1 ha_k1) g_2 dX9_copy_13 ?_
      obtain ⟨g_3, h⟩ := zi_e h
      obtain ⟨st_4, est_4, h⟩ := zl_e h
      refine k_iast hE hW (hB_st.memA k2 hm_k2) (hB_st.arr k2 ha_k2) g_3 dX9_copy_14 (fun H locs hW => ?_)
      obtain ⟨c, hB_st, hF, hW⟩ : ∃ c', MoB ct J ad c' b st_4 ∧ Fr c0 c' b 19 ∧ HW D J ad c' (aA J ad s.heap.size) s.heap H locs := ⟨_, hB_st.wA (k := k2) ha_k2 est_4, hF.up (by omega) (by omega), hW⟩
      refine lv_iinc (v := (x2 + (1 : Int32))) (lv' := [(2, .int (x2 + (1 : Int32))), (0, .ref (ad (b + 1 + k1))), (1, .ref (ad (b + 1 + k2)))]) hx hb dX9_copy_15 hl (k := 2) rfl rfl (by decide) rfl (fun ls hl => ?_)
      refine lv_goto (tgt := 2) hx hb dX9_copy_18 (by decide) ?_
      exact ih _ _ _ _ _ _ hW hB_st hF (lv_sub hl [1, 2, 0] rfl) h
set_option maxHeartbeats 4000000 in
set_option maxRecDepth 100000 in
theorem mX9_copy {l : Launch} {D : va_G} {ct : Nat → ClassId} {J : List Nat} {ad : Nat → Nat} {c0 : CF} {k1 : Nat} {k2 : Nat} (ha_k1 : arM[k1]? = some 5140) (ha_k2 : arM[k2]? = some 5140) (hm_k1 : k1 < 10) (hm_k2 : k2 < 10) {b : Nat} {st : MS} (hB_st : MoB ct J ad c0 b st) {st9 : MS} (h : fX9_copy  k1 k2  st = some st9) : Mv l D ct J ad yX9_copy cX9_copy 3 none (rr 0 0) [.ref (ad (b + 1 + k1)), .ref (ad (b + 1 + k2))] c0 (fun c' => MoB ct J ad c' b st9 ∧ Fr c0 c' b 19) := by
  refine Mv_of (own := RX9) (by decide) rfl (Nat.le_of_ble_eq_true rfl) (fun p e s m below meth cd hE hr hlk hW ls hl => ?_)
  have hx := hE.1
  have hb := hE.2.1
  have hl : lv_has ls 3 [(0, .ref (ad (b + 1 + k1))), (1, .ref (ad (b + 1 + k2)))] := hl
  rw [fX9_copy] at h
  obtain ⟨c, hB_st, hF, hW⟩ : ∃ c', MoB ct J ad c' b st ∧ Fr c0 c' b 19 ∧ HW D J ad c' (aA J ad s.heap.size) s.heap s.heap [] := ⟨c0, hB_st, Fr.rf, hW⟩
  refine lv_iconst (v := (0 : Int32)) hx hb dX9_copy_0 (by decide) ?_
  refine lv_istore_n (lv' := [(2, .int (0 : Int32)), (0, .ref (ad (b + 1 + k1))), (1, .ref (ad (b + 1 + k2)))]) hx hb dX9_copy_1 rfl hl (by decide) rfl (fun ls hl => ?_)
  exact wX9_copy_2 hE hr hlk ha_k1 ha_k2 hm_k1 hm_k2 _ _ _ _ _ _ _ hW hB_st hF (lv_sub hl [1, 2, 0] rfl) h
set_option maxHeartbeats 4000000 in
set_option maxRecDepth 100000 in
theorem mX9_isLog {l : Launch} {D : va_G} {ct : Nat → ClassId} {J : List Nat} {ad : Nat → Nat} {c0 : CF} {a1 : Int32} {r : Int32} (h : fX9_isLog  a1 = some r) : Mi l D ct J ad yX9_isLog cX9_isLog 1 (some .boolean) (rr 1 22) [.int a1] c0 r (fun c' => c' = c0) := by
  refine Mi_of (own := RX9) (by decide) rfl (Nat.le_of_ble_eq_true rfl) (fun p e s m below meth cd hE hr hlk hW ls hl => ?_)
  have hx := hE.1
  have hb := hE.2.1
  have hl : lv_has ls 1 [(0, .int a1)] := hl
  rw [fX9_isLog] at h
  refine lv_iload_n hx hb dX9_isLog_0 rfl (lv_at hl 0 rfl) ?_
  refine lv_iconst (v := (0 : Int32)) hx hb dX9_isLog_1 (by decide) ?_
  refine lv_iconst (v := (3 : Int32)) hx hb dX9_isLog_2 (by decide) ?_
  obtain ⟨r_1, hr_1, h⟩ := zb_e h
  refine k_callSi (rest := []) hE hW hl.1 (mX9_in hr_1) q931 q932 q10 q933 hd_X9_in.2 ⟨Nat.le_of_ble_eq_true rfl, Nat.le_of_ble_eq_true rfl⟩ ⟨rfl, rfl⟩ rfl (Nat.le_of_ble_eq_true rfl) dX9_isLog_3 ⟨Nat.zero_le _, Nat.zero_le _⟩ (fun c1 H locs hP hW => ?_)
  rw [hP] at hW
  obtain ⟨hz, h⟩ := zq_e h
  obtain rfl := Option.some.inj h
  exact k_zret hE hr hlk hW rfl rfl (nb_of hz) dX9_isLog_6
set_option maxHeartbeats 4000000 in
set_option maxRecDepth 100000 in
theorem mX9_at {l : Launch} {D : va_G} {ct : Nat → ClassId} {J : List Nat} {ad : Nat → Nat} {c0 : CF} {a1 : Int32} {a2 : Int32} {b : Nat} {st : MS} (hB_st : MoB ct J ad c0 b st) {r : Int32} (h : fX9_at  a1 a2 st = some r) : Mi l D ct J ad yX9_at cX9_at 3 (some .int) (rr 0 0) [.ref (ad b), .int a1, .int a2] c0 r (fun c' => c' = c0) := by
  refine Mi_of (own := RX9) (by decide) rfl (Nat.le_of_ble_eq_true rfl) (fun p e s m below meth cd hE hr hlk hW ls hl => ?_)
  have hx := hE.1
  have hb := hE.2.1
  have hl : lv_has ls 3 [(0, .ref (ad b)), (1, .int a1), (2, .int a2)] := hl
  rw [fX9_at] at h
  refine lv_aload_n hx hb dX9_at_0 rfl (lv_at hl 0 rfl) ?_
  refine k_get (v := .ref (ad (b + 1 + 0))) hE hW hB_st.o hB_st.obj rfl inX9 0 (by decide) q868 rfl dX9_at_1 ?_
  refine lv_iload_n hx hb dX9_at_4 rfl (lv_at hl 1 rfl) ?_
  refine lv_sipush (v := (1274 : Int32)) hx hb dX9_at_5 (by decide) ?_
  refine lv_imul hx hb dX9_at_8 ?_
  refine lv_iload_n hx hb dX9_at_9 rfl (lv_at hl 2 rfl) ?_
  refine lv_iadd hx hb dX9_at_10 ?_
  obtain ⟨g_1, h⟩ := zi_e h
  refine k_iald hE hW (hB_st.memA 0 (Nat.le_of_ble_eq_true rfl)) (hB_st.arr 0 rfl) g_1 dX9_at_11 ?_
  obtain rfl := Option.some.inj h
  exact k_iret hE hr hlk hW rfl rfl dX9_at_12
set_option maxHeartbeats 4000000 in
set_option maxRecDepth 100000 in
theorem mX9_isThere {l : Launch} {D : va_G} {ct : Nat → ClassId} {J : List Nat} {ad : Nat → Nat} {c0 : CF} {a1 : Int32} {a2 : Int32} {b : Nat} {st : MS} (hB_st : MoB ct J ad c0 b st) {r : Int32} (h : fX9_isThere  a1 a2 st = some r) : Mi l D ct J ad yX9_isThere cX9_isThere 3 (some .boolean) (rr 1 22) [.ref (ad b), .int a1, .int a2] c0 r (fun c' => c' = c0) := by
  refine Mi_of (own := RX9) (by decide) rfl (Nat.le_of_ble_eq_true rfl) (fun p e s m below meth cd hE hr hlk hW ls hl => ?_)
  have hx := hE.1
  have hb := hE.2.1
  have hl : lv_has ls 3 [(0, .ref (ad b)), (1, .int a1), (2, .int a2)] := hl
  rw [fX9_isThere] at h
  refine lv_iload_n hx hb dX9_isThere_0 rfl (lv_at hl 2 rfl) ?_
  refine lv_iconst (v := (0 : Int32)) hx hb dX9_isThere_1 (by decide) ?_
  refine lv_sipush (v := (199 : Int32)) hx hb dX9_isThere_2 (by decide) ?_
  obtain ⟨r_1, hr_1, h⟩ := zb_e h
  refine k_callSi (rest := []) hE hW hl.1 (mX9_in hr_1) q931 q932 q10 q933 hd_X9_in.2 ⟨Nat.le_of_ble_eq_true rfl, Nat.le_of_ble_eq_true rfl⟩ ⟨rfl, rfl⟩ rfl (Nat.le_of_ble_eq_true rfl) dX9_isThere_5 ⟨Nat.zero_le _, Nat.zero_le _⟩ (fun c1 H locs hP hW => ?_)
  rw [hP] at hW
  refine lv_if_eq (tgt := 27) hx hb dX9_isThere_8 (by decide) (fun k_2 => ?_) (fun k_2 => ?_)
  · have h := it_t k_2 h
    refine lv_iconst (v := (0 : Int32)) hx hb dX9_isThere_27 (by decide) ?_
    obtain rfl := Option.some.inj h
    exact k_zret hE hr hlk hW rfl rfl rfl dX9_isThere_28
  · have h := it_f k_2 h
    refine lv_aload_n hx hb dX9_isThere_11 rfl (lv_at hl 0 rfl) ?_
    refine lv_iload_n hx hb dX9_isThere_12 rfl (lv_at hl 1 rfl) ?_
    refine lv_iconst (v := (0 : Int32)) hx hb dX9_isThere_13 (by decide) ?_
    refine lv_iload_n hx hb dX9_isThere_14 rfl (lv_at hl 2 rfl) ?_
    refine lv_iadd hx hb dX9_isThere_15 ?_
    obtain ⟨r_3, hr_3, h⟩ := zb_e h
    refine k_callVi (rest := []) hE hW hl.1 (mX9_at hB_st hr_3) hB_st.o hB_st.obj rfl q934 q936 qs87 q10 q937 hd_X9_at ⟨Nat.le_of_ble_eq_true rfl, Nat.le_of_ble_eq_true rfl⟩ ⟨rfl, rfl⟩ rfl (Nat.le_of_ble_eq_true rfl) dX9_isThere_16 ⟨Nat.zero_le _, Nat.zero_le _⟩ (fun c1 H locs hP hW => ?_)
    rw [hP] at hW
    refine lv_iconst (v := (1 : Int32)) hx hb dX9_isThere_19 (by decide) ?_
    refine lv_icmp_ne (tgt := 27) hx hb dX9_isThere_20 (by decide) (fun k_4 => ?_) (fun k_4 => ?_)
    · have h := it_f k_4 h
      refine lv_iconst (v := (0 : Int32)) hx hb dX9_isThere_27 (by decide) ?_
      obtain rfl := Option.some.inj h
      exact k_zret hE hr hlk hW rfl rfl rfl dX9_isThere_28
    · have h := it_t k_4 h
      refine lv_iconst (v := (1 : Int32)) hx hb dX9_isThere_23 (by decide) ?_
      refine lv_goto (tgt := 28) hx hb dX9_isThere_24 (by decide) ?_
      obtain rfl := Option.some.inj h
      exact k_zret hE hr hlk hW rfl rfl rfl dX9_isThere_28
set_option maxHeartbeats 4000000 in
set_option maxRecDepth 100000 in
theorem mX9_base {l : Launch} {D : va_G} {ct : Nat → ClassId} {J : List Nat} {ad : Nat → Nat} {c0 : CF} {a1 : Int32} {a2 : Int32} {b : Nat} {st : MS} (hB_st : MoB ct J ad c0 b st) {r : Int32} (h : fX9_base  a1 a2 st = some r) : Mi l D ct J ad yX9_base cX9_base 3 (some .int) (rr 1 22) [.ref (ad b), .int a1, .int a2] c0 r (fun c' => c' = c0) := by
  refine Mi_of (own := RX9) (by decide) rfl (Nat.le_of_ble_eq_true rfl) (fun p e s m below meth cd hE hr hlk hW ls hl => ?_)
  have hx := hE.1
  have hb := hE.2.1
  have hl : lv_has ls 3 [(0, .ref (ad b)), (1, .int a1), (2, .int a2)] := hl
  rw [fX9_base] at h
  refine lv_aload_n hx hb dX9_base_0 rfl (lv_at hl 0 rfl) ?_
  refine lv_iload_n hx hb dX9_base_1 rfl (lv_at hl 1 rfl) ?_
  refine lv_sipush (v := (1200 : Int32)) hx hb dX9_base_2 (by decide) ?_
  refine lv_iload_n hx hb dX9_base_5 rfl (lv_at hl 2 rfl) ?_
  refine lv_iadd hx hb dX9_base_6 ?_
  obtain ⟨r_1, hr_1, h⟩ := zb_e h
  refine k_callVi (rest := []) hE hW hl.1 (mX9_at hB_st hr_1) hB_st.o hB_st.obj rfl q934 q936 qs87 q10 q937 hd_X9_at ⟨Nat.le_of_ble_eq_true rfl, Nat.le_of_ble_eq_true rfl⟩ ⟨rfl, rfl⟩ rfl (Nat.le_of_ble_eq_true rfl) dX9_base_7 ⟨Nat.zero_le _, Nat.zero_le _⟩ (fun c1 H locs hP hW => ?_)
  rw [hP] at hW
  obtain rfl := Option.some.inj h
  exact k_iret hE hr hlk hW rfl rfl dX9_base_10
set_option maxHeartbeats 4000000 in
set_option maxRecDepth 100000 in
theorem mX9_endOf {l : Launch} {D : va_G} {ct : Nat → ClassId} {J : List Nat} {ad : Nat → Nat} {c0 : CF} {a1 : Int32} {a2 : Int32} {b : Nat} {st : MS} (hB_st : MoB ct J ad c0 b st) {r : Int32} (h : fX9_endOf  a1 a2 st = some r) : Mi l D ct J ad yX9_endOf cX9_endOf 3 (some .int) (rr 2 44) [.ref (ad b), .int a1, .int a2] c0 r (fun c' => c' = c0) := by
  refine Mi_of (own := RX9) (by decide) rfl (Nat.le_of_ble_eq_true rfl) (fun p e s m below meth cd hE hr hlk hW ls hl => ?_)
  have hx := hE.1
  have hb := hE.2.1
  have hl : lv_has ls 3 [(0, .ref (ad b)), (1, .int a1), (2, .int a2)] := hl
  rw [fX9_endOf] at h
  refine lv_iload_n hx hb dX9_endOf_0 rfl (lv_at hl 2 rfl) ?_
  refine lv_iconst (v := (1 : Int32)) hx hb dX9_endOf_1 (by decide) ?_
  refine lv_iadd hx hb dX9_endOf_2 ?_
  refine lv_aload_n hx hb dX9_endOf_3 rfl (lv_at hl 0 rfl) ?_
  refine lv_iload_n hx hb dX9_endOf_4 rfl (lv_at hl 1 rfl) ?_
  refine lv_sipush (v := (1270 : Int32)) hx hb dX9_endOf_5 (by decide) ?_
  obtain ⟨r_1, hr_1, h⟩ := zb_e h
  refine k_callVi (rest := [.int (a2 + (1 : Int32))]) hE hW hl.1 (mX9_at hB_st hr_1) hB_st.o hB_st.obj rfl q934 q936 qs87 q10 q937 hd_X9_at ⟨Nat.le_of_ble_eq_true rfl, Nat.le_of_ble_eq_true rfl⟩ ⟨rfl, rfl⟩ rfl (Nat.le_of_ble_eq_true rfl) dX9_endOf_8 ⟨Nat.zero_le _, Nat.zero_le _⟩ (fun c1 H locs hP hW => ?_)
  rw [hP] at hW
  refine lv_icmp_ge (tgt := 25) hx hb dX9_endOf_11 (by decide) (fun k_2 => ?_) (fun k_2 => ?_)
  · have h := it_t k_2 h
    refine lv_aload_n hx hb dX9_endOf_25 rfl (lv_at hl 0 rfl) ?_
    refine lv_iload_n hx hb dX9_endOf_26 rfl (lv_at hl 1 rfl) ?_
    refine lv_sipush (v := (1271 : Int32)) hx hb dX9_endOf_27 (by decide) ?_
    obtain ⟨r_3, hr_3, h⟩ := zb_e h
    refine k_callVi (rest := []) hE hW hl.1 (mX9_at hB_st hr_3) hB_st.o hB_st.obj rfl q934 q936 qs87 q10 q937 hd_X9_at ⟨Nat.le_of_ble_eq_true rfl, Nat.le_of_ble_eq_true rfl⟩ ⟨rfl, rfl⟩ rfl (Nat.le_of_ble_eq_true rfl) dX9_endOf_30 ⟨Nat.zero_le _, Nat.zero_le _⟩ (fun c1 H locs hP hW => ?_)
    rw [hP] at hW
    obtain rfl := Option.some.inj h
    exact k_iret hE hr hlk hW rfl rfl dX9_endOf_33
  · have h := it_f k_2 h
    refine lv_aload_n hx hb dX9_endOf_14 rfl (lv_at hl 0 rfl) ?_
    refine lv_iload_n hx hb dX9_endOf_15 rfl (lv_at hl 1 rfl) ?_
    refine lv_iload_n hx hb dX9_endOf_16 rfl (lv_at hl 2 rfl) ?_
    refine lv_iconst (v := (1 : Int32)) hx hb dX9_endOf_17 (by decide) ?_
    refine lv_iadd hx hb dX9_endOf_18 ?_
    obtain ⟨r_4, hr_4, h⟩ := zb_e h
    refine k_callVi (rest := []) hE hW hl.1 (mX9_base hB_st hr_4) hB_st.o hB_st.obj rfl q959 q961 qs90 q10 q962 hd_X9_base ⟨Nat.le_of_ble_eq_true rfl, Nat.le_of_ble_eq_true rfl⟩ ⟨rfl, rfl⟩ rfl (Nat.le_of_ble_eq_true rfl) dX9_endOf_19 ⟨Nat.zero_le _, Nat.zero_le _⟩ (fun c1 H locs hP hW => ?_)
    rw [hP] at hW
    refine lv_goto (tgt := 33) hx hb dX9_endOf_22 (by decide) ?_
    obtain rfl := Option.some.inj h
    exact k_iret hE hr hlk hW rfl rfl dX9_endOf_33
set_option maxHeartbeats 4000000 in
set_option maxRecDepth 100000 in
theorem wX9_manyIn_10 {p : Program} {l : Launch} {e : Env} {s : State} {m : MethodId} {args : Array Value} {below : List Frame} {meth : Method} {cd : Code} {D : va_G} {ct : Nat → ClassId} {J : List Nat} {ad : Nat → Nat} {c0 : CF} {b : Nat} (hE : ME p s m cd args D ct cX9_manyIn RX9 5) (hr : meth.sig.returnType = (some .int)) (hlk : meth.locks = false) {x1 : Int32} {x2 : Int32} {st : MS} (hB_st : MoB ct J ad c0 b st) {r : Int32} : ∀ (n : Nat) (x3 : Int32) (x4 : Int32) (H : Heap) (locs : List Loc) (ls : Array Slot), HW D J ad c0 (aA J ad s.heap.size) s.heap H locs → lv_has ls 5 [(0, .ref (ad b)), (1, .int x1), (2, .int x2), (3, .int x3), (4, .int x4)] → fX9_manyIn_10 x1 x2 st n x3 x4 = some r → W p l e (rr 3 66) s m args below meth cd H locs 0 0 (MQ below (Qi D J ad s.heap.size r (fun c' => c' = c0)) args s 0 0 (aA J ad s.heap.size)) (F0 m 10 ls []) := by
  have hx := hE.1
  have hb := hE.2.1
  intro n
  induction n with
  | zero =>
    intro x3 x4 H locs ls hW hl h
    have h2 : (none : Option Int32) = some r := h
    cases h2
  | succ n ih =>
    intro x3 x4 H locs ls hW hl h
    rw [fX9_manyIn_10] at h
    refine lv_iload hx hb dX9_manyIn_10 (lv_at hl 4 rfl) ?_
    refine lv_aload_n hx hb dX9_manyIn_12 rfl (lv_at hl 0 rfl) ?_
    refine lv_iload_n hx hb dX9_manyIn_13 rfl (lv_at hl 1 rfl) ?_
    refine lv_iload_n hx hb dX9_manyIn_14 rfl (lv_at hl 2 rfl) ?_
    obtain ⟨r_2, hr_2, h⟩ := zb_e h
    refine k_callVi (rest := [.int x4]) hE hW hl.1 (mX9_endOf hB_st hr_2) hB_st.o hB_st.obj rfl q963 q965 qs91 q10 q966 hd_X9_endOf ⟨Nat.le_of_ble_eq_true rfl, Nat.le_of_ble_eq_true rfl⟩ ⟨rfl, rfl⟩ rfl (Nat.le_of_ble_eq_true rfl) dX9_manyIn_15 ⟨Nat.zero_le _, Nat.zero_le _⟩ (fun c1 H locs hP hW => ?_)
    rw [hP] at hW
    refine lv_icmp_ge (tgt := 39) hx hb dX9_manyIn_18 (by decide) (fun k_3 => ?_) (fun k_3 => ?_)
    · have h := it_t k_3 h
      refine lv_iload_n hx hb dX9_manyIn_39 rfl (lv_at hl 3 rfl) ?_
      obtain rfl := Option.some.inj h
      exact k_iret hE hr hlk hW rfl rfl dX9_manyIn_40
    · have h := it_f k_3 h
      refine lv_iload_n hx hb dX9_manyIn_21 rfl (lv_at hl 3 rfl) ?_
      refine lv_aload_n hx hb dX9_manyIn_22 rfl (lv_at hl 0 rfl) ?_
      refine lv_iload_n hx hb dX9_manyIn_23 rfl (lv_at hl 1 rfl) ?_
      refine lv_iconst (v := (0 : Int32)) hx hb dX9_manyIn_24 (by decide) ?_
      refine lv_iload hx hb dX9_manyIn_25 (lv_at hl 4 rfl) ?_
      refine lv_iadd hx hb dX9_manyIn_27 ?_
      obtain ⟨r_4, hr_4, h⟩ := zb_e h
      refine k_callVi (rest := [.int x3]) hE hW hl.1 (mX9_at hB_st hr_4) hB_st.o hB_st.obj rfl q934 q936 qs87 q10 q937 hd_X9_at ⟨Nat.le_of_ble_eq_true rfl, Nat.le_of_ble_eq_true rfl⟩ ⟨rfl, rfl⟩ rfl (Nat.le_of_ble_eq_true rfl) dX9_manyIn_28 ⟨Nat.zero_le _, Nat.zero_le _⟩ (fun c1 H locs hP hW => ?_)
      rw [hP] at hW
      refine lv_iadd hx hb dX9_manyIn_31 ?_
      refine lv_istore_n (lv' := [(3, .int (x3 + r_4)), (0, .ref (ad b)), (1, .int x1), (2, .int x2), (4, .int x4)]) hx hb dX9_manyIn_32 rfl hl (by decide) rfl (fun ls hl => ?_)
      refine lv_iinc (v := (x4 + (1 : Int32))) (lv' := [(4, .int (x4 + (1 : Int32))), (3, .int (x3 + r_4)), (0, .ref (ad b)), (1, .int x1), (2, .int x2)]) hx hb dX9_manyIn_33 hl (k := 4) rfl rfl (by decide) rfl (fun ls hl => ?_)
      refine lv_goto (tgt := 10) hx hb dX9_manyIn_36 (by decide) ?_
      exact ih _ _ _ _ _ hW (lv_sub hl [2, 3, 4, 1, 0] rfl) h
set_option maxHeartbeats 4000000 in
set_option maxRecDepth 100000 in
theorem mX9_manyIn {l : Launch} {D : va_G} {ct : Nat → ClassId} {J : List Nat} {ad : Nat → Nat} {c0 : CF} {a1 : Int32} {a2 : Int32} {b : Nat} {st : MS} (hB_st : MoB ct J ad c0 b st) {r : Int32} (h : fX9_manyIn  a1 a2 st = some r) : Mi l D ct J ad yX9_manyIn cX9_manyIn 5 (some .int) (rr 3 66) [.ref (ad b), .int a1, .int a2] c0 r (fun c' => c' = c0) := by
  refine Mi_of (own := RX9) (by decide) rfl (Nat.le_of_ble_eq_true rfl) (fun p e s m below meth cd hE hr hlk hW ls hl => ?_)
  have hx := hE.1
  have hb := hE.2.1
  have hl : lv_has ls 5 [(0, .ref (ad b)), (1, .int a1), (2, .int a2)] := hl
  rw [fX9_manyIn] at h
  refine lv_iconst (v := (0 : Int32)) hx hb dX9_manyIn_0 (by decide) ?_
  refine lv_istore_n (lv' := [(3, .int (0 : Int32)), (0, .ref (ad b)), (1, .int a1), (2, .int a2)]) hx hb dX9_manyIn_1 rfl hl (by decide) rfl (fun ls hl => ?_)
  refine lv_aload_n hx hb dX9_manyIn_2 rfl (lv_at hl 1 rfl) ?_
  refine lv_iload_n hx hb dX9_manyIn_3 rfl (lv_at hl 2 rfl) ?_
  refine lv_iload_n hx hb dX9_manyIn_4 rfl (lv_at hl 3 rfl) ?_
  obtain ⟨r_1, hr_1, h⟩ := zb_e h
  refine k_callVi (rest := []) hE hW hl.1 (mX9_base hB_st hr_1) hB_st.o hB_st.obj rfl q959 q961 qs90 q10 q962 hd_X9_base ⟨Nat.le_of_ble_eq_true rfl, Nat.le_of_ble_eq_true rfl⟩ ⟨rfl, rfl⟩ rfl (Nat.le_of_ble_eq_true rfl) dX9_manyIn_5 ⟨Nat.zero_le _, Nat.zero_le _⟩ (fun c1 H locs hP hW => ?_)
  rw [hP] at hW
  refine lv_istore (lv' := [(4, .int r_1), (3, .int (0 : Int32)), (0, .ref (ad b)), (1, .int a1), (2, .int a2)]) hx hb dX9_manyIn_8 hl (by decide) rfl (fun ls hl => ?_)
  exact wX9_manyIn_10 hE hr hlk hB_st _ _ _ _ _ _ hW (lv_sub hl [2, 3, 4, 1, 0] rfl) h
set_option maxHeartbeats 4000000 in
set_option maxRecDepth 100000 in
theorem wX9_weighs_6 {p : Program} {l : Launch} {e : Env} {s : State} {m : MethodId} {args : Array Value} {below : List Frame} {meth : Method} {cd : Code} {D : va_G} {ct : Nat → ClassId} {J : List Nat} {ad : Nat → Nat} {c0 : CF} {b : Nat} (hE : ME p s m cd args D ct cX9_weighs RX9 6) (hr : meth.sig.returnType = (some .int)) (hlk : meth.locks = false) {x1 : Int32} {x3 : Int32} {st : MS} (hB_st : MoB ct J ad c0 b st) {r : Int32} : ∀ (n : Nat) (x4 : Int32) (x5 : Int32) (H : Heap) (locs : List Loc) (ls : Array Slot), HW D J ad c0 (aA J ad s.heap.size) s.heap H locs → lv_has ls 6 [(0, .ref (ad b)), (1, .int x1), (3, .int x3), (4, .int x4), (5, .int x5)] → fX9_weighs_6 x1 x3 st n x4 x5 = some r → W p l e (rr 1 22) s m args below meth cd H locs 0 0 (MQ below (Qi D J ad s.heap.size r (fun c' => c' = c0)) args s 0 0 (aA J ad s.heap.size)) (F0 m 6 ls []) := by
  have hx := hE.1
  have hb := hE.2.1
  intro n
  induction n with
  | zero =>
    intro x4 x5 H locs ls hW hl h
    have h2 : (none : Option Int32) = some r := h
    cases h2
  | succ n ih =>
    intro x4 x5 H locs ls hW hl h
    rw [fX9_weighs_6] at h
    refine lv_iload hx hb dX9_weighs_6 (lv_at hl 4 rfl) ?_
    refine lv_iload_n hx hb dX9_weighs_8 rfl (lv_at hl 2 rfl) ?_
    refine lv_icmp_ge (tgt := 51) hx hb dX9_weighs_9 (by decide) (fun k_1 => ?_) (fun k_1 => ?_)
    · have h := it_t k_1 h
      refine lv_iload hx hb dX9_weighs_51 (lv_at hl 3 rfl) ?_
      obtain rfl := Option.some.inj h
      exact k_iret hE hr hlk hW rfl rfl dX9_weighs_53
    · have h := it_f k_1 h
      refine lv_iload hx hb dX9_weighs_12 (lv_at hl 3 rfl) ?_
      refine lv_aload_n hx hb dX9_weighs_14 rfl (lv_at hl 0 rfl) ?_
      refine lv_iload_n hx hb dX9_weighs_15 rfl (lv_at hl 1 rfl) ?_
      refine lv_iconst (v := (0 : Int32)) hx hb dX9_weighs_16 (by decide) ?_
      refine lv_iload hx hb dX9_weighs_17 (lv_at hl 4 rfl) ?_
      refine lv_iadd hx hb dX9_weighs_19 ?_
      obtain ⟨r_2, hr_2, h⟩ := zb_e h
      refine k_callVi (rest := [.int x4]) hE hW hl.1 (mX9_at hB_st hr_2) hB_st.o hB_st.obj rfl q934 q936 qs87 q10 q937 hd_X9_at ⟨Nat.le_of_ble_eq_true rfl, Nat.le_of_ble_eq_true rfl⟩ ⟨rfl, rfl⟩ rfl (Nat.le_of_ble_eq_true rfl) dX9_weighs_20 ⟨Nat.zero_le _, Nat.zero_le _⟩ (fun c1 H locs hP hW => ?_)
      rw [hP] at hW
      refine lv_iconst (v := (1 : Int32)) hx hb dX9_weighs_23 (by decide) ?_
      refine lv_icmp_ne (tgt := 41) hx hb dX9_weighs_24 (by decide) (fun k_3 => ?_) (fun k_3 => ?_)
      · have h := it_f k_3 h
        refine lv_iconst (v := (0 : Int32)) hx hb dX9_weighs_41 (by decide) ?_
        refine lv_iadd hx hb dX9_weighs_42 ?_
        refine lv_istore (lv' := [(4, .int (x4 + (0 : Int32))), (0, .ref (ad b)), (1, .int x1), (3, .int x3), (5, .int x5)]) hx hb dX9_weighs_43 hl (by decide) rfl (fun ls hl => ?_)
        refine lv_iinc (v := (x5 + (1 : Int32))) (lv' := [(5, .int (x5 + (1 : Int32))), (4, .int (x4 + (0 : Int32))), (0, .ref (ad b)), (1, .int x1), (3, .int x3)]) hx hb dX9_weighs_45 hl (k := 4) rfl rfl (by decide) rfl (fun ls hl => ?_)
        refine lv_goto (tgt := 6) hx hb dX9_weighs_48 (by decide) ?_
        exact ih _ _ _ _ _ hW (lv_sub hl [2, 3, 4, 1, 0] rfl) h
      · have h := it_t k_3 h
        refine lv_aload_n hx hb dX9_weighs_27 rfl (lv_at hl 0 rfl) ?_
        refine lv_iload_n hx hb dX9_weighs_28 rfl (lv_at hl 1 rfl) ?_
        refine lv_sipush (v := (600 : Int32)) hx hb dX9_weighs_29 (by decide) ?_
        refine lv_iload hx hb dX9_weighs_32 (lv_at hl 4 rfl) ?_
        refine lv_iadd hx hb dX9_weighs_34 ?_
        obtain ⟨r_4, hr_4, h⟩ := zb_e h
        refine k_callVi (rest := [.int x4]) hE hW hl.1 (mX9_at hB_st hr_4) hB_st.o hB_st.obj rfl q934 q936 qs87 q10 q937 hd_X9_at ⟨Nat.le_of_ble_eq_true rfl, Nat.le_of_ble_eq_true rfl⟩ ⟨rfl, rfl⟩ rfl (Nat.le_of_ble_eq_true rfl) dX9_weighs_35 ⟨Nat.zero_le _, Nat.zero_le _⟩ (fun c1 H locs hP hW => ?_)
        rw [hP] at hW
        refine lv_goto (tgt := 42) hx hb dX9_weighs_38 (by decide) ?_
        refine lv_iadd hx hb dX9_weighs_42 ?_
        refine lv_istore (lv' := [(4, .int (x4 + r_4)), (0, .ref (ad b)), (1, .int x1), (3, .int x3), (5, .int x5)]) hx hb dX9_weighs_43 hl (by decide) rfl (fun ls hl => ?_)
        refine lv_iinc (v := (x5 + (1 : Int32))) (lv' := [(5, .int (x5 + (1 : Int32))), (4, .int (x4 + r_4)), (0, .ref (ad b)), (1, .int x1), (3, .int x3)]) hx hb dX9_weighs_45 hl (k := 4) rfl rfl (by decide) rfl (fun ls hl => ?_)
        refine lv_goto (tgt := 6) hx hb dX9_weighs_48 (by decide) ?_
        exact ih _ _ _ _ _ hW (lv_sub hl [2, 3, 4, 1, 0] rfl) h
set_option maxHeartbeats 4000000 in
set_option maxRecDepth 100000 in
theorem mX9_weighs {l : Launch} {D : va_G} {ct : Nat → ClassId} {J : List Nat} {ad : Nat → Nat} {c0 : CF} {a1 : Int32} {a2 : Int32} {a3 : Int32} {b : Nat} {st : MS} (hB_st : MoB ct J ad c0 b st) {r : Int32} (h : fX9_weighs  a1 a2 a3 st = some r) : Mi l D ct J ad yX9_weighs cX9_weighs 6 (some .int) (rr 1 22) [.ref (ad b), .int a1, .int a2, .int a3] c0 r (fun c' => c' = c0) := by
  refine Mi_of (own := RX9) (by decide) rfl (Nat.le_of_ble_eq_true rfl) (fun p e s m below meth cd hE hr hlk hW ls hl => ?_)
  have hx := hE.1
  have hb := hE.2.1
  have hl : lv_has ls 6 [(0, .ref (ad b)), (1, .int a1), (2, .int a2), (3, .int a3)] := hl
  rw [fX9_weighs] at h
  refine lv_iconst (v := (0 : Int32)) hx hb dX9_weighs_0 (by decide) ?_
  refine lv_istore (lv' := [(4, .int (0 : Int32)), (0, .ref (ad b)), (1, .int a1), (2, .int a2), (3, .int a3)]) hx hb dX9_weighs_1 hl (by decide) rfl (fun ls hl => ?_)
  refine lv_iload_n hx hb dX9_weighs_3 rfl (lv_at hl 3 rfl) ?_
  refine lv_istore (lv' := [(5, .int a2), (4, .int (0 : Int32)), (0, .ref (ad b)), (1, .int a1), (2, .int a2), (3, .int a3)]) hx hb dX9_weighs_4 hl (by decide) rfl (fun ls hl => ?_)
  exact wX9_weighs_6 hE hr hlk hB_st _ _ _ _ _ _ hW (lv_sub hl [2, 3, 5, 1, 0] rfl) h
set_option maxHeartbeats 4000000 in
set_option maxRecDepth 100000 in
theorem mX9_weightIn {l : Launch} {D : va_G} {ct : Nat → ClassId} {J : List Nat} {ad : Nat → Nat} {c0 : CF} {a1 : Int32} {a2 : Int32} {b : Nat} {st : MS} (hB_st : MoB ct J ad c0 b st) {r : Int32} (h : fX9_weightIn  a1 a2 st = some r) : Mi l D ct J ad yX9_weightIn cX9_weightIn 3 (some .int) (rr 3 66) [.ref (ad b), .int a1, .int a2] c0 r (fun c' => c' = c0) := by
  refine Mi_of (own := RX9) (by decide) rfl (Nat.le_of_ble_eq_true rfl) (fun p e s m below meth cd hE hr hlk hW ls hl => ?_)
  have hx := hE.1
  have hb := hE.2.1
  have hl : lv_has ls 3 [(0, .ref (ad b)), (1, .int a1), (2, .int a2)] := hl
  rw [fX9_weightIn] at h
  refine lv_aload_n hx hb dX9_weightIn_0 rfl (lv_at hl 0 rfl) ?_
  refine lv_iload_n hx hb dX9_weightIn_1 rfl (lv_at hl 1 rfl) ?_
  refine lv_aload_n hx hb dX9_weightIn_2 rfl (lv_at hl 0 rfl) ?_
  refine lv_iload_n hx hb dX9_weightIn_3 rfl (lv_at hl 1 rfl) ?_
  refine lv_iload_n hx hb dX9_weightIn_4 rfl (lv_at hl 2 rfl) ?_
  obtain ⟨r_1, hr_1, h⟩ := zb_e h
  refine k_callVi (rest := [.int a1, .ref (ad b)]) hE hW hl.1 (mX9_base hB_st hr_1) hB_st.o hB_st.obj rfl q959 q961 qs90 q10 q962 hd_X9_base ⟨Nat.le_of_ble_eq_true rfl, Nat.le_of_ble_eq_true rfl⟩ ⟨rfl, rfl⟩ rfl (Nat.le_of_ble_eq_true rfl) dX9_weightIn_5 ⟨Nat.zero_le _, Nat.zero_le _⟩ (fun c1 H locs hP hW => ?_)
  rw [hP] at hW
  refine lv_aload_n hx hb dX9_weightIn_8 rfl (lv_at hl 0 rfl) ?_
  refine lv_iload_n hx hb dX9_weightIn_9 rfl (lv_at hl 1 rfl) ?_
  refine lv_iload_n hx hb dX9_weightIn_10 rfl (lv_at hl 2 rfl) ?_
  obtain ⟨r_2, hr_2, h⟩ := zb_e h
  refine k_callVi (rest := [.int r_1, .int a1, .ref (ad b)]) hE hW hl.1 (mX9_endOf hB_st hr_2) hB_st.o hB_st.obj rfl q963 q965 qs91 q10 q966 hd_X9_endOf ⟨Nat.le_of_ble_eq_true rfl, Nat.le_of_ble_eq_true rfl⟩ ⟨rfl, rfl⟩ rfl (Nat.le_of_ble_eq_true rfl) dX9_weightIn_11 ⟨Nat.zero_le _, Nat.zero_le _⟩ (fun c1 H locs hP hW => ?_)
  rw [hP] at hW
  obtain ⟨r_3, hr_3, h⟩ := zb_e h
  refine k_callVi (rest := []) hE hW hl.1 (mX9_weighs hB_st hr_3) hB_st.o hB_st.obj rfl q971 q973 qs93 q10 q974 hd_X9_weighs ⟨Nat.le_of_ble_eq_true rfl, Nat.le_of_ble_eq_true rfl⟩ ⟨rfl, rfl⟩ rfl (Nat.le_of_ble_eq_true rfl) dX9_weightIn_14 ⟨Nat.zero_le _, Nat.zero_le _⟩ (fun c1 H locs hP hW => ?_)
  rw [hP] at hW
  obtain rfl := Option.some.inj h
  exact k_iret hE hr hlk hW rfl rfl dX9_weightIn_17
set_option maxHeartbeats 4000000 in
set_option maxRecDepth 100000 in
theorem wX9_all_4 {p : Program} {l : Launch} {e : Env} {s : State} {m : MethodId} {args : Array Value} {below : List Frame} {meth : Method} {cd : Code} {D : va_G} {ct : Nat → ClassId} {J : List Nat} {ad : Nat → Nat} {c0 : CF} {b : Nat} (hE : ME p s m cd args D ct cX9_all RX9 4) (hr : meth.sig.returnType = (some .int)) (hlk : meth.locks = false) {x1 : Int32} {st : MS} (hB_st : MoB ct J ad c0 b st) {r : Int32} : ∀ (n : Nat) (x2 : Int32) (x3 : Int32) (H : Heap) (locs : List Loc) (ls : Array Slot), HW D J ad c0 (aA J ad s.heap.size) s.heap H locs → lv_has ls 4 [(0, .ref (ad b)), (1, .int x1), (2, .int x2), (3, .int x3)] → fX9_all_4 x1 st n x2 x3 = some r → W p l e (rr 1 22) s m args below meth cd H locs 0 0 (MQ below (Qi D J ad s.heap.size r (fun c' => c' = c0)) args s 0 0 (aA J ad s.heap.size)) (F0 m 4 ls []) := by
  have hx := hE.1
  have hb := hE.2.1
  intro n
  induction n with
  | zero =>
    intro x2 x3 H locs ls hW hl h
    have h2 : (none : Option Int32) = some r := h
    cases h2
  | succ n ih =>
    intro x2 x3 H locs ls hW hl h
    rw [fX9_all_4] at h
    refine lv_iload_n hx hb dX9_all_4 rfl (lv_at hl 3 rfl) ?_
    refine lv_sipush (v := (200 : Int32)) hx hb dX9_all_5 (by decide) ?_
    refine lv_icmp_ge (tgt := 28) hx hb dX9_all_8 (by decide) (fun k_1 => ?_) (fun k_1 => ?_)
    · have h := it_t k_1 h
      refine lv_iload_n hx hb dX9_all_28 rfl (lv_at hl 2 rfl) ?_
      obtain rfl := Option.some.inj h
      exact k_iret hE hr hlk hW rfl rfl dX9_all_29
    · have h := it_f k_1 h
      refine lv_iload_n hx hb dX9_all_11 rfl (lv_at hl 2 rfl) ?_
      refine lv_aload_n hx hb dX9_all_12 rfl (lv_at hl 0 rfl) ?_
      refine lv_iload_n hx hb dX9_all_13 rfl (lv_at hl 1 rfl) ?_
      refine lv_iconst (v := (0 : Int32)) hx hb dX9_all_14 (by decide) ?_
      refine lv_iload_n hx hb dX9_all_15 rfl (lv_at hl 3 rfl) ?_
      refine lv_iadd hx hb dX9_all_16 ?_
      obtain ⟨r_2, hr_2, h⟩ := zb_e h
      refine k_callVi (rest := [.int x2]) hE hW hl.1 (mX9_at hB_st hr_2) hB_st.o hB_st.obj rfl q934 q936 qs87 q10 q937 hd_X9_at ⟨Nat.le_of_ble_eq_true rfl, Nat.le_of_ble_eq_true rfl⟩ ⟨rfl, rfl⟩ rfl (Nat.le_of_ble_eq_true rfl) dX9_all_17 ⟨Nat.zero_le _, Nat.zero_le _⟩ (fun c1 H locs hP hW => ?_)
      rw [hP] at hW
      refine lv_iadd hx hb dX9_all_20 ?_
      refine lv_istore_n (lv' := [(2, .int (x2 + r_2)), (0, .ref (ad b)), (1, .int x1), (3, .int x3)]) hx hb dX9_all_21 rfl hl (by decide) rfl (fun ls hl => ?_)
      refine lv_iinc (v := (x3 + (1 : Int32))) (lv' := [(3, .int (x3 + (1 : Int32))), (2, .int (x2 + r_2)), (0, .ref (ad b)), (1, .int x1)]) hx hb dX9_all_22 hl (k := 3) rfl rfl (by decide) rfl (fun ls hl => ?_)
      refine lv_goto (tgt := 4) hx hb dX9_all_25 (by decide) ?_
      exact ih _ _ _ _ _ hW (lv_sub hl [2, 3, 1, 0] rfl) h
set_option maxHeartbeats 4000000 in
set_option maxRecDepth 100000 in
theorem mX9_all {l : Launch} {D : va_G} {ct : Nat → ClassId} {J : List Nat} {ad : Nat → Nat} {c0 : CF} {a1 : Int32} {b : Nat} {st : MS} (hB_st : MoB ct J ad c0 b st) {r : Int32} (h : fX9_all  a1 st = some r) : Mi l D ct J ad yX9_all cX9_all 4 (some .int) (rr 1 22) [.ref (ad b), .int a1] c0 r (fun c' => c' = c0) := by
  refine Mi_of (own := RX9) (by decide) rfl (Nat.le_of_ble_eq_true rfl) (fun p e s m below meth cd hE hr hlk hW ls hl => ?_)
  have hx := hE.1
  have hb := hE.2.1
  have hl : lv_has ls 4 [(0, .ref (ad b)), (1, .int a1)] := hl
  rw [fX9_all] at h
  refine lv_iconst (v := (0 : Int32)) hx hb dX9_all_0 (by decide) ?_
  refine lv_istore_n (lv' := [(2, .int (0 : Int32)), (0, .ref (ad b)), (1, .int a1)]) hx hb dX9_all_1 rfl hl (by decide) rfl (fun ls hl => ?_)
  refine lv_iconst (v := (0 : Int32)) hx hb dX9_all_2 (by decide) ?_
  refine lv_istore_n (lv' := [(3, .int (0 : Int32)), (2, .int (0 : Int32)), (0, .ref (ad b)), (1, .int a1)]) hx hb dX9_all_3 rfl hl (by decide) rfl (fun ls hl => ?_)
  exact wX9_all_4 hE hr hlk hB_st _ _ _ _ _ _ hW (lv_sub hl [2, 3, 1, 0] rfl) h
set_option maxHeartbeats 4000000 in
set_option maxRecDepth 100000 in
theorem wX9_allLogs_4 {p : Program} {l : Launch} {e : Env} {s : State} {m : MethodId} {args : Array Value} {below : List Frame} {meth : Method} {cd : Code} {D : va_G} {ct : Nat → ClassId} {J : List Nat} {ad : Nat → Nat} {c0 : CF} {b : Nat} (hE : ME p s m cd args D ct cX9_allLogs RX9 3) (hr : meth.sig.returnType = (some .int)) (hlk : meth.locks = false) {st : MS} (hB_st : MoB ct J ad c0 b st) {r : Int32} : ∀ (n : Nat) (x1 : Int32) (x2 : Int32) (H : Heap) (locs : List Loc) (ls : Array Slot), HW D J ad c0 (aA J ad s.heap.size) s.heap H locs → lv_has ls 3 [(0, .ref (ad b)), (1, .int x1), (2, .int x2)] → fX9_allLogs_4 st n x1 x2 = some r → W p l e (rr 2 45) s m args below meth cd H locs 0 0 (MQ below (Qi D J ad s.heap.size r (fun c' => c' = c0)) args s 0 0 (aA J ad s.heap.size)) (F0 m 4 ls []) := by
  have hx := hE.1
  have hb := hE.2.1
  intro n
  induction n with
  | zero =>
    intro x1 x2 H locs ls hW hl h
    have h2 : (none : Option Int32) = some r := h
    cases h2
  | succ n ih =>
    intro x1 x2 H locs ls hW hl h
    rw [fX9_allLogs_4] at h
    refine lv_iload_n hx hb dX9_allLogs_4 rfl (lv_at hl 2 rfl) ?_
    refine lv_iconst (v := (4 : Int32)) hx hb dX9_allLogs_5 (by decide) ?_
    refine lv_icmp_ge (tgt := 23) hx hb dX9_allLogs_6 (by decide) (fun k_1 => ?_) (fun k_1 => ?_)
    · have h := it_t k_1 h
      refine lv_iload_n hx hb dX9_allLogs_23 rfl (lv_at hl 1 rfl) ?_
      obtain rfl := Option.some.inj h
      exact k_iret hE hr hlk hW rfl rfl dX9_allLogs_24
    · have h := it_f k_1 h
      refine lv_iload_n hx hb dX9_allLogs_9 rfl (lv_at hl 1 rfl) ?_
      refine lv_aload_n hx hb dX9_allLogs_10 rfl (lv_at hl 0 rfl) ?_
      refine lv_iload_n hx hb dX9_allLogs_11 rfl (lv_at hl 2 rfl) ?_
      obtain ⟨r_2, hr_2, h⟩ := zb_e h
      refine k_callVi (rest := [.int x1]) hE hW hl.1 (mX9_all hB_st hr_2) hB_st.o hB_st.obj rfl q1044 q1046 qs103 q10 q1047 hd_X9_all ⟨Nat.le_of_ble_eq_true rfl, Nat.le_of_ble_eq_true rfl⟩ ⟨rfl, rfl⟩ rfl (Nat.le_of_ble_eq_true rfl) dX9_allLogs_12 ⟨Nat.zero_le _, Nat.zero_le _⟩ (fun c1 H locs hP hW => ?_)
      rw [hP] at hW
      refine lv_iadd hx hb dX9_allLogs_15 ?_
      refine lv_istore_n (lv' := [(1, .int (x1 + r_2)), (0, .ref (ad b)), (2, .int x2)]) hx hb dX9_allLogs_16 rfl hl (by decide) rfl (fun ls hl => ?_)
      refine lv_iinc (v := (x2 + (1 : Int32))) (lv' := [(2, .int (x2 + (1 : Int32))), (1, .int (x1 + r_2)), (0, .ref (ad b))]) hx hb dX9_allLogs_17 hl (k := 2) rfl rfl (by decide) rfl (fun ls hl => ?_)
      refine lv_goto (tgt := 4) hx hb dX9_allLogs_20 (by decide) ?_
      exact ih _ _ _ _ _ hW (lv_sub hl [2, 1, 0] rfl) h
set_option maxHeartbeats 4000000 in
set_option maxRecDepth 100000 in
theorem mX9_allLogs {l : Launch} {D : va_G} {ct : Nat → ClassId} {J : List Nat} {ad : Nat → Nat} {c0 : CF} {b : Nat} {st : MS} (hB_st : MoB ct J ad c0 b st) {r : Int32} (h : fX9_allLogs   st = some r) : Mi l D ct J ad yX9_allLogs cX9_allLogs 3 (some .int) (rr 2 45) [.ref (ad b)] c0 r (fun c' => c' = c0) := by
  refine Mi_of (own := RX9) (by decide) rfl (Nat.le_of_ble_eq_true rfl) (fun p e s m below meth cd hE hr hlk hW ls hl => ?_)
  have hx := hE.1
  have hb := hE.2.1
  have hl : lv_has ls 3 [(0, .ref (ad b))] := hl
  rw [fX9_allLogs] at h
  refine lv_iconst (v := (0 : Int32)) hx hb dX9_allLogs_0 (by decide) ?_
  refine lv_istore_n (lv' := [(1, .int (0 : Int32)), (0, .ref (ad b))]) hx hb dX9_allLogs_1 rfl hl (by decide) rfl (fun ls hl => ?_)
  refine lv_iconst (v := (0 : Int32)) hx hb dX9_allLogs_2 (by decide) ?_
  refine lv_istore_n (lv' := [(2, .int (0 : Int32)), (1, .int (0 : Int32)), (0, .ref (ad b))]) hx hb dX9_allLogs_3 rfl hl (by decide) rfl (fun ls hl => ?_)
  exact wX9_allLogs_4 hE hr hlk hB_st _ _ _ _ _ _ hW (lv_sub hl [2, 1, 0] rfl) h
set_option maxHeartbeats 4000000 in
set_option maxRecDepth 100000 in
theorem wX9_segmentOf_2 {p : Program} {l : Launch} {e : Env} {s : State} {m : MethodId} {args : Array Value} {below : List Frame} {meth : Method} {cd : Code} {D : va_G} {ct : Nat → ClassId} {J : List Nat} {ad : Nat → Nat} {c0 : CF} {b : Nat} (hE : ME p s m cd args D ct cX9_segmentOf RX9 4) (hr : meth.sig.returnType = (some .int)) (hlk : meth.locks = false) {x1 : Int32} {x2 : Int32} {st : MS} (hB_st : MoB ct J ad c0 b st) {r : Int32} : ∀ (n : Nat) (x3 : Int32) (H : Heap) (locs : List Loc) (ls : Array Slot), HW D J ad c0 (aA J ad s.heap.size) s.heap H locs → lv_has ls 4 [(0, .ref (ad b)), (1, .int x1), (2, .int x2), (3, .int x3)] → fX9_segmentOf_2 x1 x2 st n x3 = some r → W p l e (rr 2 44) s m args below meth cd H locs 0 0 (MQ below (Qi D J ad s.heap.size r (fun c' => c' = c0)) args s 0 0 (aA J ad s.heap.size)) (F0 m 2 ls []) := by
  have hx := hE.1
  have hb := hE.2.1
  intro n
  induction n with
  | zero =>
    intro x3 H locs ls hW hl h
    have h2 : (none : Option Int32) = some r := h
    cases h2
  | succ n ih =>
    intro x3 H locs ls hW hl h
    rw [fX9_segmentOf_2] at h
    refine lv_iload_n hx hb dX9_segmentOf_2 rfl (lv_at hl 3 rfl) ?_
    refine lv_iconst (v := (1 : Int32)) hx hb dX9_segmentOf_3 (by decide) ?_
    refine lv_iadd hx hb dX9_segmentOf_4 ?_
    refine lv_aload_n hx hb dX9_segmentOf_5 rfl (lv_at hl 0 rfl) ?_
    refine lv_iload_n hx hb dX9_segmentOf_6 rfl (lv_at hl 1 rfl) ?_
    refine lv_sipush (v := (1270 : Int32)) hx hb dX9_segmentOf_7 (by decide) ?_
    obtain ⟨r_1, hr_1, h⟩ := zb_e h
    refine k_callVi (rest := [.int (x3 + (1 : Int32))]) hE hW hl.1 (mX9_at hB_st hr_1) hB_st.o hB_st.obj rfl q934 q936 qs87 q10 q937 hd_X9_at ⟨Nat.le_of_ble_eq_true rfl, Nat.le_of_ble_eq_true rfl⟩ ⟨rfl, rfl⟩ rfl (Nat.le_of_ble_eq_true rfl) dX9_segmentOf_10 ⟨Nat.zero_le _, Nat.zero_le _⟩ (fun c1 H locs hP hW => ?_)
    rw [hP] at hW
    refine lv_icmp_ge (tgt := 34) hx hb dX9_segmentOf_13 (by decide) (fun k_2 => ?_) (fun k_2 => ?_)
    · have h := it_t k_2 h
      refine lv_iload_n hx hb dX9_segmentOf_34 rfl (lv_at hl 3 rfl) ?_
      obtain rfl := Option.some.inj h
      exact k_iret hE hr hlk hW rfl rfl dX9_segmentOf_35
    · have h := it_f k_2 h
      refine lv_aload_n hx hb dX9_segmentOf_16 rfl (lv_at hl 0 rfl) ?_
      refine lv_iload_n hx hb dX9_segmentOf_17 rfl (lv_at hl 1 rfl) ?_
      refine lv_iload_n hx hb dX9_segmentOf_18 rfl (lv_at hl 3 rfl) ?_
      refine lv_iconst (v := (1 : Int32)) hx hb dX9_segmentOf_19 (by decide) ?_
      refine lv_iadd hx hb dX9_segmentOf_20 ?_
      obtain ⟨r_3, hr_3, h⟩ := zb_e h
      refine k_callVi (rest := []) hE hW hl.1 (mX9_base hB_st hr_3) hB_st.o hB_st.obj rfl q959 q961 qs90 q10 q962 hd_X9_base ⟨Nat.le_of_ble_eq_true rfl, Nat.le_of_ble_eq_true rfl⟩ ⟨rfl, rfl⟩ rfl (Nat.le_of_ble_eq_true rfl) dX9_segmentOf_21 ⟨Nat.zero_le _, Nat.zero_le _⟩ (fun c1 H locs hP hW => ?_)
      rw [hP] at hW
      refine lv_iload_n hx hb dX9_segmentOf_24 rfl (lv_at hl 2 rfl) ?_
      refine lv_icmp_gt (tgt := 34) hx hb dX9_segmentOf_25 (by decide) (fun k_4 => ?_) (fun k_4 => ?_)
      · have h := it_t k_4 h
        refine lv_iload_n hx hb dX9_segmentOf_34 rfl (lv_at hl 3 rfl) ?_
        obtain rfl := Option.some.inj h
        exact k_iret hE hr hlk hW rfl rfl dX9_segmentOf_35
      · have h := it_f k_4 h
        refine lv_iinc (v := (x3 + (1 : Int32))) (lv' := [(3, .int (x3 + (1 : Int32))), (0, .ref (ad b)), (1, .int x1), (2, .int x2)]) hx hb dX9_segmentOf_28 hl (k := 3) rfl rfl (by decide) rfl (fun ls hl => ?_)
        refine lv_goto (tgt := 2) hx hb dX9_segmentOf_31 (by decide) ?_
        exact ih _ _ _ _ hW (lv_sub hl [1, 2, 3, 0] rfl) h
set_option maxHeartbeats 4000000 in
set_option maxRecDepth 100000 in
theorem mX9_segmentOf {l : Launch} {D : va_G} {ct : Nat → ClassId} {J : List Nat} {ad : Nat → Nat} {c0 : CF} {a1 : Int32} {a2 : Int32} {b : Nat} {st : MS} (hB_st : MoB ct J ad c0 b st) {r : Int32} (h : fX9_segmentOf  a1 a2 st = some r) : Mi l D ct J ad yX9_segmentOf cX9_segmentOf 4 (some .int) (rr 2 44) [.ref (ad b), .int a1, .int a2] c0 r (fun c' => c' = c0) := by
  refine Mi_of (own := RX9) (by decide) rfl (Nat.le_of_ble_eq_true rfl) (fun p e s m below meth cd hE hr hlk hW ls hl => ?_)
  have hx := hE.1
  have hb := hE.2.1
  have hl : lv_has ls 4 [(0, .ref (ad b)), (1, .int a1), (2, .int a2)] := hl
  rw [fX9_segmentOf] at h
  refine lv_iconst (v := (0 : Int32)) hx hb dX9_segmentOf_0 (by decide) ?_
  refine lv_istore_n (lv' := [(3, .int (0 : Int32)), (0, .ref (ad b)), (1, .int a1), (2, .int a2)]) hx hb dX9_segmentOf_1 rfl hl (by decide) rfl (fun ls hl => ?_)
  exact wX9_segmentOf_2 hE hr hlk hB_st _ _ _ _ _ hW (lv_sub hl [1, 2, 3, 0] rfl) h
set_option maxHeartbeats 4000000 in
set_option maxRecDepth 100000 in
theorem wX9_partGoes_14 {p : Program} {l : Launch} {e : Env} {s : State} {m : MethodId} {args : Array Value} {below : List Frame} {meth : Method} {cd : Code} {D : va_G} {ct : Nat → ClassId} {J : List Nat} {ad : Nat → Nat} {c0 : CF} {b : Nat} (hE : ME p s m cd args D ct cX9_partGoes RX9 5) (hr : meth.sig.returnType = none) (hlk : meth.locks = false) {x1 : Int32} {x3 : Int32} {st9 : MS} : ∀ (n : Nat) (x4 : Int32) (st : MS) (c : CF) (H : Heap) (locs : List Loc) (ls : Array Slot), HW D J ad c (aA J ad s.heap.size) s.heap H locs → MoB ct J ad c b st → Fr c0 c b 19 → lv_has ls 5 [(0, .ref (ad b)), (1, .int x1), (3, .int x3), (4, .int x4)] → fX9_partGoes_14 x1 x3 n x4 st = some st9 → W p l e (rr 2 44) s m args below meth cd H locs 0 0 (MQ below (Qv D J ad s.heap.size (fun c' => MoB ct J ad c' b st9 ∧ Fr c0 c' b 19)) args s 0 0 (aA J ad s.heap.size)) (F0 m 14 ls []) := by
  have hx := hE.1
  have hb := hE.2.1
  intro n
  induction n with
  | zero =>
    intro x4 st c H locs ls hW hB_st hF hl h
    have h2 : (none : Option MS) = some st9 := h
    cases h2
  | succ n ih =>
    intro x4 st c H locs ls hW hB_st hF hl h
    rw [fX9_partGoes_14] at h
    refine lv_iload hx hb dX9_partGoes_14 (lv_at hl 3 rfl) ?_
    refine lv_iload_n hx hb dX9_partGoes_16 rfl (lv_at hl 2 rfl) ?_
    refine lv_icmp_ge (tgt := 46) hx hb dX9_partGoes_17 (by decide) (fun k_2 => ?_) (fun k_2 => ?_)
    · have h := it_t k_2 h
      refine lv_aload_n hx hb dX9_partGoes_46 rfl (lv_at hl 0 rfl) ?_
      refine lv_iload_n hx hb dX9_partGoes_47 rfl (lv_at hl 1 rfl) ?_
      refine lv_sipush (v := (1270 : Int32)) hx hb dX9_partGoes_48 (by decide) ?_
      refine lv_iload_n hx hb dX9_partGoes_51 rfl (lv_at hl 2 rfl) ?_
      obtain ⟨st_3, hst_3, h⟩ := zb_e h
      refine k_callVv (rest := []) hE hW hl.1 (mX9_sets hB_st hst_3) hB_st.o hB_st.obj rfl q864 q866 qs85 q10 q867 hd_X9_sets ⟨Nat.le_of_ble_eq_true rfl, Nat.le_of_ble_eq_true rfl⟩ ⟨rfl, rfl⟩ rfl (Nat.le_of_ble_eq_true rfl) dX9_partGoes_52 ⟨Nat.zero_le _, Nat.zero_le _⟩ (fun c1 H locs hP hW => ?_)
      obtain ⟨c, hB_st, hF, hW⟩ : ∃ c', MoB ct J ad c' b st_3 ∧ Fr c0 c' b 19 ∧ HW D J ad c' (aA J ad s.heap.size) s.heap H locs := ⟨c1, hP.1, hF.trans hP.2, hW⟩
      obtain rfl := Option.some.inj h
      exact k_vret hE hr hlk hW ⟨hB_st, hF⟩ dX9_partGoes_55
    · have h := it_f k_2 h
      refine lv_aload_n hx hb dX9_partGoes_20 rfl (lv_at hl 0 rfl) ?_
      refine lv_iload_n hx hb dX9_partGoes_21 rfl (lv_at hl 1 rfl) ?_
      refine lv_sipush (v := (1200 : Int32)) hx hb dX9_partGoes_22 (by decide) ?_
      refine lv_iload hx hb dX9_partGoes_25 (lv_at hl 3 rfl) ?_
      refine lv_iadd hx hb dX9_partGoes_27 ?_
      refine lv_aload_n hx hb dX9_partGoes_28 rfl (lv_at hl 0 rfl) ?_
      refine lv_iload_n hx hb dX9_partGoes_29 rfl (lv_at hl 1 rfl) ?_
      refine lv_iload hx hb dX9_partGoes_30 (lv_at hl 3 rfl) ?_
      refine lv_iconst (v := (1 : Int32)) hx hb dX9_partGoes_32 (by decide) ?_
      refine lv_iadd hx hb dX9_partGoes_33 ?_
      obtain ⟨r_4, hr_4, h⟩ := zb_e h
      refine k_callVi (rest := [.int ((1200 : Int32) + x4), .int x1, .ref (ad b)]) hE hW hl.1 (mX9_base hB_st hr_4) hB_st.o hB_st.obj rfl q959 q961 qs90 q10 q962 hd_X9_base ⟨Nat.le_of_ble_eq_true rfl, Nat.le_of_ble_eq_true rfl⟩ ⟨rfl, rfl⟩ rfl (Nat.le_of_ble_eq_true rfl) dX9_partGoes_34 ⟨Nat.zero_le _, Nat.zero_le _⟩ (fun c1 H locs hP hW => ?_)
      rw [hP] at hW
      obtain ⟨st_5, hst_5, h⟩ := zb_e h
      refine k_callVv (rest := []) hE hW hl.1 (mX9_sets hB_st hst_5) hB_st.o hB_st.obj rfl q864 q866 qs85 q10 q867 hd_X9_sets ⟨Nat.le_of_ble_eq_true rfl, Nat.le_of_ble_eq_true rfl⟩ ⟨rfl, rfl⟩ rfl (Nat.le_of_ble_eq_true rfl) dX9_partGoes_37 ⟨Nat.zero_le _, Nat.zero_le _⟩ (fun c1 H locs hP hW => ?_)
      obtain ⟨c, hB_st, hF, hW⟩ : ∃ c', MoB ct J ad c' b st_5 ∧ Fr c0 c' b 19 ∧ HW D J ad c' (aA J ad s.heap.size) s.heap H locs := ⟨c1, hP.1, hF.trans hP.2, hW⟩
      refine lv_iinc (v := (x4 + (1 : Int32))) (lv' := [(4, .int (x4 + (1 : Int32))), (0, .ref (ad b)), (1, .int x1), (3, .int x3)]) hx hb dX9_partGoes_40 hl (k := 3) rfl rfl (by decide) rfl (fun ls hl => ?_)
      refine lv_goto (tgt := 14) hx hb dX9_partGoes_43 (by decide) ?_
      exact ih _ _ _ _ _ _ hW hB_st hF (lv_sub hl [1, 2, 3, 0] rfl) h
set_option maxHeartbeats 4000000 in
set_option maxRecDepth 100000 in
theorem mX9_partGoes {l : Launch} {D : va_G} {ct : Nat → ClassId} {J : List Nat} {ad : Nat → Nat} {c0 : CF} {a1 : Int32} {a2 : Int32} {b : Nat} {st : MS} (hB_st : MoB ct J ad c0 b st) {st9 : MS} (h : fX9_partGoes  a1 a2 st = some st9) : Mv l D ct J ad yX9_partGoes cX9_partGoes 5 none (rr 2 44) [.ref (ad b), .int a1, .int a2] c0 (fun c' => MoB ct J ad c' b st9 ∧ Fr c0 c' b 19) := by
  refine Mv_of (own := RX9) (by decide) rfl (Nat.le_of_ble_eq_true rfl) (fun p e s m below meth cd hE hr hlk hW ls hl => ?_)
  have hx := hE.1
  have hb := hE.2.1
  have hl : lv_has ls 5 [(0, .ref (ad b)), (1, .int a1), (2, .int a2)] := hl
  rw [fX9_partGoes] at h
  obtain ⟨c, hB_st, hF, hW⟩ : ∃ c', MoB ct J ad c' b st ∧ Fr c0 c' b 19 ∧ HW D J ad c' (aA J ad s.heap.size) s.heap s.heap [] := ⟨c0, hB_st, Fr.rf, hW⟩
  refine lv_aload_n hx hb dX9_partGoes_0 rfl (lv_at hl 0 rfl) ?_
  refine lv_iload_n hx hb dX9_partGoes_1 rfl (lv_at hl 1 rfl) ?_
  refine lv_sipush (v := (1270 : Int32)) hx hb dX9_partGoes_2 (by decide) ?_
  obtain ⟨r_1, hr_1, h⟩ := zb_e h
  refine k_callVi (rest := []) hE hW hl.1 (mX9_at hB_st hr_1) hB_st.o hB_st.obj rfl q934 q936 qs87 q10 q937 hd_X9_at ⟨Nat.le_of_ble_eq_true rfl, Nat.le_of_ble_eq_true rfl⟩ ⟨rfl, rfl⟩ rfl (Nat.le_of_ble_eq_true rfl) dX9_partGoes_5 ⟨Nat.zero_le _, Nat.zero_le _⟩ (fun c1 H locs hP hW => ?_)
  rw [hP] at hW
  refine lv_iconst (v := (1 : Int32)) hx hb dX9_partGoes_8 (by decide) ?_
  refine lv_isub hx hb dX9_partGoes_9 ?_
  refine lv_istore_n (lv' := [(3, .int (r_1 - (1 : Int32))), (0, .ref (ad b)), (1, .int a1), (2, .int a2)]) hx hb dX9_partGoes_10 rfl hl (by decide) rfl (fun ls hl => ?_)
  refine lv_iload_n hx hb dX9_partGoes_11 rfl (lv_at hl 3 rfl) ?_
  refine lv_istore (lv' := [(4, .int a2), (3, .int (r_1 - (1 : Int32))), (0, .ref (ad b)), (1, .int a1), (2, .int a2)]) hx hb dX9_partGoes_12 hl (by decide) rfl (fun ls hl => ?_)
  exact wX9_partGoes_14 hE hr hlk _ _ _ _ _ _ _ hW hB_st hF (lv_sub hl [2, 3, 1, 0] rfl) h
set_option maxHeartbeats 4000000 in
set_option maxRecDepth 100000 in
theorem wX9_comes_144 {p : Program} {l : Launch} {e : Env} {s : State} {m : MethodId} {args : Array Value} {below : List Frame} {meth : Method} {cd : Code} {D : va_G} {ct : Nat → ClassId} {J : List Nat} {ad : Nat → Nat} {c0 : CF} {b : Nat} (hE : ME p s m cd args D ct cX9_comes RX9 8) (hr : meth.sig.returnType = (some .int)) (hlk : meth.locks = false) {r : Int32} {st9 : MS} : ∀ (x1 : Int32) (x6 : Int32) (x7 : Int32) (st : MS) (c : CF) (H : Heap) (locs : List Loc) (ls : Array Slot), HW D J ad c (aA J ad s.heap.size) s.heap H locs → MoB ct J ad c b st → Fr c0 c b 19 → lv_has ls 8 [(0, .ref (ad b)), (1, .int x1), (6, .int x6), (7, .int x7)] → fX9_comes_144 x1 x6 x7 st = some (r, st9) → W p l e (rr 4 90) s m args below meth cd H locs 0 0 (MQ below (Qi D J ad s.heap.size r (fun c' => MoB ct J ad c' b st9 ∧ Fr c0 c' b 19)) args s 0 0 (aA J ad s.heap.size)) (F0 m 144 ls []) := by
  have hx := hE.1
  have hb := hE.2.1
  intro x1 x6 x7 st c H locs ls hW hB_st hF hl h
  rw [fX9_comes_144] at h
  refine lv_aload_n hx hb dX9_comes_144 rfl (lv_at hl 0 rfl) ?_
  refine lv_iload_n hx hb dX9_comes_145 rfl (lv_at hl 1 rfl) ?_
  refine lv_sipush (v := (1200 : Int32)) hx hb dX9_comes_146 (by decide) ?_
  refine lv_iload hx hb dX9_comes_149 (lv_at hl 3 rfl) ?_
  refine lv_iadd hx hb dX9_comes_151 ?_
  refine lv_iconst (v := (1 : Int32)) hx hb dX9_comes_152 (by decide) ?_
  refine lv_iadd hx hb dX9_comes_153 ?_
  refine lv_iload hx hb dX9_comes_154 (lv_at hl 2 rfl) ?_
  refine lv_iconst (v := (1 : Int32)) hx hb dX9_comes_156 (by decide) ?_
  refine lv_iadd hx hb dX9_comes_157 ?_
  obtain ⟨st_14, hst_14, h⟩ := zb_e h
  refine k_callVv (rest := []) hE hW hl.1 (mX9_sets hB_st hst_14) hB_st.o hB_st.obj rfl q864 q866 qs85 q10 q867 hd_X9_sets ⟨Nat.le_of_ble_eq_true rfl, Nat.le_of_ble_eq_true rfl⟩ ⟨rfl, rfl⟩ rfl (Nat.le_of_ble_eq_true rfl) dX9_comes_158 ⟨Nat.zero_le _, Nat.zero_le _⟩ (fun c1 H locs hP hW => ?_)
  obtain ⟨c, hB_st, hF, hW⟩ : ∃ c', MoB ct J ad c' b st_14 ∧ Fr c0 c' b 19 ∧ HW D J ad c' (aA J ad s.heap.size) s.heap H locs := ⟨c1, hP.1, hF.trans hP.2, hW⟩
  refine lv_aload_n hx hb dX9_comes_161 rfl (lv_at hl 0 rfl) ?_
  refine lv_iload_n hx hb dX9_comes_162 rfl (lv_at hl 1 rfl) ?_
  refine lv_sipush (v := (1270 : Int32)) hx hb dX9_comes_163 (by decide) ?_
  refine lv_iload hx hb dX9_comes_166 (lv_at hl 3 rfl) ?_
  refine lv_iconst (v := (2 : Int32)) hx hb dX9_comes_168 (by decide) ?_
  refine lv_iadd hx hb dX9_comes_169 ?_
  obtain ⟨st_15, hst_15, h⟩ := zb_e h
  refine k_callVv (rest := []) hE hW hl.1 (mX9_sets hB_st hst_15) hB_st.o hB_st.obj rfl q864 q866 qs85 q10 q867 hd_X9_sets ⟨Nat.le_of_ble_eq_true rfl, Nat.le_of_ble_eq_true rfl⟩ ⟨rfl, rfl⟩ rfl (Nat.le_of_ble_eq_true rfl) dX9_comes_170 ⟨Nat.zero_le _, Nat.zero_le _⟩ (fun c1 H locs hP hW => ?_)
  obtain ⟨c, hB_st, hF, hW⟩ : ∃ c', MoB ct J ad c' b st_15 ∧ Fr c0 c' b 19 ∧ HW D J ad c' (aA J ad s.heap.size) s.heap H locs := ⟨c1, hP.1, hF.trans hP.2, hW⟩
  refine lv_iload hx hb dX9_comes_173 (lv_at hl 2 rfl) ?_
  obtain ⟨rfl, rfl⟩ := Prod.mk.inj (Option.some.inj h)
  exact k_iret hE hr hlk hW ⟨hB_st, hF⟩ rfl dX9_comes_175
set_option maxHeartbeats 4000000 in
set_option maxRecDepth 100000 in
theorem wX9_comes_82 {p : Program} {l : Launch} {e : Env} {s : State} {m : MethodId} {args : Array Value} {below : List Frame} {meth : Method} {cd : Code} {D : va_G} {ct : Nat → ClassId} {J : List Nat} {ad : Nat → Nat} {c0 : CF} {b : Nat} (hE : ME p s m cd args D ct cX9_comes RX9 8) (hr : meth.sig.returnType = (some .int)) (hlk : meth.locks = false) {r : Int32} {st9 : MS} : ∀ (x1 : Int32) (x3 : Int32) (x6 : Int32) (y0 : Int32) (y1 : Int32) (y2 : Int32) (st : MS) (c : CF) (H : Heap) (locs : List Loc) (ls : Array Slot), HW D J ad c (aA J ad s.heap.size) s.heap H locs → MoB ct J ad c b st → Fr c0 c b 19 → lv_has ls 8 [(0, .ref (ad b)), (1, .int x1), (3, .int x3), (6, .int x6)] → fX9_comes_82 x1 x3 x6 y0 y1 y2 st = some (r, st9) → W p l e (rr 4 90) s m args below meth cd H locs 0 0 (MQ below (Qi D J ad s.heap.size r (fun c' => MoB ct J ad c' b st9 ∧ Fr c0 c' b 19)) args s 0 0 (aA J ad s.heap.size)) (F0 m 82 ls [.int y0, .int y1, .int y2, .ref (ad b)]) := by
  have hx := hE.1
  have hb := hE.2.1
  intro x1 x3 x6 y0 y1 y2 st c H locs ls hW hB_st hF hl h
  rw [fX9_comes_82] at h
  obtain ⟨st_8, hst_8, h⟩ := zb_e h
  refine k_callVv (rest := []) hE hW hl.1 (mX9_sets hB_st hst_8) hB_st.o hB_st.obj rfl q864 q866 qs85 q10 q867 hd_X9_sets ⟨Nat.le_of_ble_eq_true rfl, Nat.le_of_ble_eq_true rfl⟩ ⟨rfl, rfl⟩ rfl (Nat.le_of_ble_eq_true rfl) dX9_comes_82 ⟨Nat.zero_le _, Nat.zero_le _⟩ (fun c1 H locs hP hW => ?_)
  obtain ⟨c, hB_st, hF, hW⟩ : ∃ c', MoB ct J ad c' b st_8 ∧ Fr c0 c' b 19 ∧ HW D J ad c' (aA J ad s.heap.size) s.heap H locs := ⟨c1, hP.1, hF.trans hP.2, hW⟩
  refine lv_aload_n hx hb dX9_comes_85 rfl (lv_at hl 0 rfl) ?_
  refine lv_iload_n hx hb dX9_comes_86 rfl (lv_at hl 1 rfl) ?_
  refine lv_sipush (v := (1000 : Int32)) hx hb dX9_comes_87 (by decide) ?_
  refine lv_iload hx hb dX9_comes_90 (lv_at hl 3 rfl) ?_
  refine lv_iadd hx hb dX9_comes_92 ?_
  refine lv_iload_n hx hb dX9_comes_93 rfl (lv_at hl 2 rfl) ?_
  obtain ⟨st_9, hst_9, h⟩ := zb_e h
  refine k_callVv (rest := []) hE hW hl.1 (mX9_sets hB_st hst_9) hB_st.o hB_st.obj rfl q864 q866 qs85 q10 q867 hd_X9_sets ⟨Nat.le_of_ble_eq_true rfl, Nat.le_of_ble_eq_true rfl⟩ ⟨rfl, rfl⟩ rfl (Nat.le_of_ble_eq_true rfl) dX9_comes_94 ⟨Nat.zero_le _, Nat.zero_le _⟩ (fun c1 H locs hP hW => ?_)
  obtain ⟨c, hB_st, hF, hW⟩ : ∃ c', MoB ct J ad c' b st_9 ∧ Fr c0 c' b 19 ∧ HW D J ad c' (aA J ad s.heap.size) s.heap H locs := ⟨c1, hP.1, hF.trans hP.2, hW⟩
  refine lv_aload_n hx hb dX9_comes_97 rfl (lv_at hl 0 rfl) ?_
  refine lv_iload_n hx hb dX9_comes_98 rfl (lv_at hl 1 rfl) ?_
  refine lv_sipush (v := (1271 : Int32)) hx hb dX9_comes_99 (by decide) ?_
  refine lv_iload hx hb dX9_comes_102 (lv_at hl 3 rfl) ?_
  refine lv_iconst (v := (1 : Int32)) hx hb dX9_comes_104 (by decide) ?_
  refine lv_iadd hx hb dX9_comes_105 ?_
  obtain ⟨st_10, hst_10, h⟩ := zb_e h
  refine k_callVv (rest := []) hE hW hl.1 (mX9_sets hB_st hst_10) hB_st.o hB_st.obj rfl q864 q866 qs85 q10 q867 hd_X9_sets ⟨Nat.le_of_ble_eq_true rfl, Nat.le_of_ble_eq_true rfl⟩ ⟨rfl, rfl⟩ rfl (Nat.le_of_ble_eq_true rfl) dX9_comes_106 ⟨Nat.zero_le _, Nat.zero_le _⟩ (fun c1 H locs hP hW => ?_)
  obtain ⟨c, hB_st, hF, hW⟩ : ∃ c', MoB ct J ad c' b st_10 ∧ Fr c0 c' b 19 ∧ HW D J ad c' (aA J ad s.heap.size) s.heap H locs := ⟨c1, hP.1, hF.trans hP.2, hW⟩
  refine lv_aload_n hx hb dX9_comes_109 rfl (lv_at hl 0 rfl) ?_
  refine lv_iload_n hx hb dX9_comes_110 rfl (lv_at hl 1 rfl) ?_
  refine lv_sipush (v := (1270 : Int32)) hx hb dX9_comes_111 (by decide) ?_
  obtain ⟨r_11, hr_11, h⟩ := zb_e h
  refine k_callVi (rest := []) hE hW hl.1 (mX9_at hB_st hr_11) hB_st.o hB_st.obj rfl q934 q936 qs87 q10 q937 hd_X9_at ⟨Nat.le_of_ble_eq_true rfl, Nat.le_of_ble_eq_true rfl⟩ ⟨rfl, rfl⟩ rfl (Nat.le_of_ble_eq_true rfl) dX9_comes_114 ⟨Nat.zero_le _, Nat.zero_le _⟩ (fun c1 H locs hP hW => ?_)
  rw [hP] at hW
  refine lv_iconst (v := (1 : Int32)) hx hb dX9_comes_117 (by decide) ?_
  refine lv_isub hx hb dX9_comes_118 ?_
  refine lv_istore (lv' := [(7, .int (r_11 - (1 : Int32))), (0, .ref (ad b)), (1, .int x1), (3, .int x3), (6, .int x6)]) hx hb dX9_comes_119 hl (by decide) rfl (fun ls hl => ?_)
  refine lv_aload_n hx hb dX9_comes_121 rfl (lv_at hl 1 rfl) ?_
  refine lv_iload_n hx hb dX9_comes_122 rfl (lv_at hl 2 rfl) ?_
  refine lv_iload hx hb dX9_comes_123 (lv_at hl 0 rfl) ?_
  obtain ⟨r_12, hr_12, h⟩ := zb_e h
  refine k_callVi (rest := []) hE hW hl.1 (mX9_manyIn hB_st hr_12) hB_st.o hB_st.obj rfl q955 q957 qs89 q10 q958 hd_X9_manyIn ⟨Nat.le_of_ble_eq_true rfl, Nat.le_of_ble_eq_true rfl⟩ ⟨rfl, rfl⟩ rfl (Nat.le_of_ble_eq_true rfl) dX9_comes_125 ⟨Nat.zero_le _, Nat.zero_le _⟩ (fun c1 H locs hP hW => ?_)
  rw [hP] at hW
  refine lv_iconst (v := (4 : Int32)) hx hb dX9_comes_128 (by decide) ?_
  refine lv_icmp_ge (tgt := 144) hx hb dX9_comes_129 (by decide) (fun k_13 => ?_) (fun k_13 => ?_)
  · have h := it_t k_13 h
    exact wX9_comes_144 hE hr hlk _ _ _ _ _ _ _ _ hW hB_st hF (lv_sub hl [1, 2, 4, 0] rfl) h
  · have h := it_f k_13 h
    refine lv_aload_n hx hb dX9_comes_132 rfl (lv_at hl 1 rfl) ?_
    refine lv_iload_n hx hb dX9_comes_133 rfl (lv_at hl 2 rfl) ?_
    refine lv_iload hx hb dX9_comes_134 (lv_at hl 0 rfl) ?_
    obtain ⟨r_16, hr_16, h⟩ := zb_e h
    refine k_callVi (rest := []) hE hW hl.1 (mX9_weightIn hB_st hr_16) hB_st.o hB_st.obj rfl q967 q969 qs92 q10 q970 hd_X9_weightIn ⟨Nat.le_of_ble_eq_true rfl, Nat.le_of_ble_eq_true rfl⟩ ⟨rfl, rfl⟩ rfl (Nat.le_of_ble_eq_true rfl) dX9_comes_136 ⟨Nat.zero_le _, Nat.zero_le _⟩ (fun c1 H locs hP hW => ?_)
    rw [hP] at hW
    refine lv_bipush (v := (20 : Int32)) hx hb dX9_comes_139 (by decide) ?_
    refine lv_icmp_lt (tgt := 173) hx hb dX9_comes_141 (by decide) (fun k_17 => ?_) (fun k_17 => ?_)
    · have h := it_t k_17 h
      refine lv_iload hx hb dX9_comes_173 (lv_at hl 4 rfl) ?_
      obtain ⟨rfl, rfl⟩ := Prod.mk.inj (Option.some.inj h)
      exact k_iret hE hr hlk hW ⟨hB_st, hF⟩ rfl dX9_comes_175
    · have h := it_f k_17 h
      exact wX9_comes_144 hE hr hlk _ _ _ _ _ _ _ _ hW hB_st hF (lv_sub hl [1, 2, 4, 0] rfl) h
set_option maxHeartbeats 4000000 in
set_option maxRecDepth 100000 in
theorem mX9_comes {l : Launch} {D : va_G} {ct : Nat → ClassId} {J : List Nat} {ad : Nat → Nat} {c0 : CF} {a1 : Int32} {a2 : Int32} {a3 : Int32} {a4 : Int32} {a5 : Int32} {b : Nat} {st : MS} (hB_st : MoB ct J ad c0 b st) {r : Int32} {st9 : MS} (h : fX9_comes  a1 a2 a3 a4 a5 st = some (r, st9)) : Mi l D ct J ad yX9_comes cX9_comes 8 (some .int) (rr 4 90) [.ref (ad b), .int a1, .int a2, .int a3, .int a4, .int a5] c0 r (fun c' => MoB ct J ad c' b st9 ∧ Fr c0 c' b 19) := by
  refine Mi_of (own := RX9) (by decide) rfl (Nat.le_of_ble_eq_true rfl) (fun p e s m below meth cd hE hr hlk hW ls hl => ?_)
  have hx := hE.1
  have hb := hE.2.1
  have hl : lv_has ls 8 [(0, .ref (ad b)), (1, .int a1), (2, .int a2), (3, .int a3), (4, .int a4), (5, .int a5)] := hl
  rw [fX9_comes] at h
  obtain ⟨c, hB_st, hF, hW⟩ : ∃ c', MoB ct J ad c' b st ∧ Fr c0 c' b 19 ∧ HW D J ad c' (aA J ad s.heap.size) s.heap s.heap [] := ⟨c0, hB_st, Fr.rf, hW⟩
  refine lv_aload_n hx hb dX9_comes_0 rfl (lv_at hl 0 rfl) ?_
  refine lv_iload_n hx hb dX9_comes_1 rfl (lv_at hl 1 rfl) ?_
  refine lv_sipush (v := (1271 : Int32)) hx hb dX9_comes_2 (by decide) ?_
  obtain ⟨r_1, hr_1, h⟩ := zb_e h
  refine k_callVi (rest := []) hE hW hl.1 (mX9_at hB_st hr_1) hB_st.o hB_st.obj rfl q934 q936 qs87 q10 q937 hd_X9_at ⟨Nat.le_of_ble_eq_true rfl, Nat.le_of_ble_eq_true rfl⟩ ⟨rfl, rfl⟩ rfl (Nat.le_of_ble_eq_true rfl) dX9_comes_5 ⟨Nat.zero_le _, Nat.zero_le _⟩ (fun c1 H locs hP hW => ?_)
  rw [hP] at hW
  refine lv_istore (lv' := [(6, .int r_1), (0, .ref (ad b)), (1, .int a1), (2, .int a2), (3, .int a3), (4, .int a4), (5, .int a5)]) hx hb dX9_comes_8 hl (by decide) rfl (fun ls hl => ?_)
  refine lv_aload_n hx hb dX9_comes_10 rfl (lv_at hl 1 rfl) ?_
  refine lv_iload_n hx hb dX9_comes_11 rfl (lv_at hl 2 rfl) ?_
  refine lv_iconst (v := (0 : Int32)) hx hb dX9_comes_12 (by decide) ?_
  refine lv_iload hx hb dX9_comes_13 (lv_at hl 0 rfl) ?_
  refine lv_iadd hx hb dX9_comes_15 ?_
  refine lv_iconst (v := (1 : Int32)) hx hb dX9_comes_16 (by decide) ?_
  obtain ⟨st_2, hst_2, h⟩ := zb_e h
  refine k_callVv (rest := []) hE hW hl.1 (mX9_sets hB_st hst_2) hB_st.o hB_st.obj rfl q864 q866 qs85 q10 q867 hd_X9_sets ⟨Nat.le_of_ble_eq_true rfl, Nat.le_of_ble_eq_true rfl⟩ ⟨rfl, rfl⟩ rfl (Nat.le_of_ble_eq_true rfl) dX9_comes_17 ⟨Nat.zero_le _, Nat.zero_le _⟩ (fun c1 H locs hP hW => ?_)
  obtain ⟨c, hB_st, hF, hW⟩ : ∃ c', MoB ct J ad c' b st_2 ∧ Fr c0 c' b 19 ∧ HW D J ad c' (aA J ad s.heap.size) s.heap H locs := ⟨c1, hP.1, hF.trans hP.2, hW⟩
  refine lv_aload_n hx hb dX9_comes_20 rfl (lv_at hl 1 rfl) ?_
  refine lv_iload_n hx hb dX9_comes_21 rfl (lv_at hl 2 rfl) ?_
  refine lv_sipush (v := (200 : Int32)) hx hb dX9_comes_22 (by decide) ?_
  refine lv_iload hx hb dX9_comes_25 (lv_at hl 0 rfl) ?_
  refine lv_iadd hx hb dX9_comes_27 ?_
  refine lv_iload_n hx hb dX9_comes_28 rfl (lv_at hl 3 rfl) ?_
  obtain ⟨st_3, hst_3, h⟩ := zb_e h
  refine k_callVv (rest := []) hE hW hl.1 (mX9_sets hB_st hst_3) hB_st.o hB_st.obj rfl q864 q866 qs85 q10 q867 hd_X9_sets ⟨Nat.le_of_ble_eq_true rfl, Nat.le_of_ble_eq_true rfl⟩ ⟨rfl, rfl⟩ rfl (Nat.le_of_ble_eq_true rfl) dX9_comes_29 ⟨Nat.zero_le _, Nat.zero_le _⟩ (fun c1 H locs hP hW => ?_)
  obtain ⟨c, hB_st, hF, hW⟩ : ∃ c', MoB ct J ad c' b st_3 ∧ Fr c0 c' b 19 ∧ HW D J ad c' (aA J ad s.heap.size) s.heap H locs := ⟨c1, hP.1, hF.trans hP.2, hW⟩
  refine lv_aload_n hx hb dX9_comes_32 rfl (lv_at hl 1 rfl) ?_
  refine lv_iload_n hx hb dX9_comes_33 rfl (lv_at hl 2 rfl) ?_
  refine lv_sipush (v := (400 : Int32)) hx hb dX9_comes_34 (by decide) ?_
  refine lv_iload hx hb dX9_comes_37 (lv_at hl 0 rfl) ?_
  refine lv_iadd hx hb dX9_comes_39 ?_
  refine lv_aload_n hx hb dX9_comes_40 rfl (lv_at hl 1 rfl) ?_
  refine k_get (v := .ref (ad (b + 1 + 0))) hE hW hB_st.o hB_st.obj rfl inX9 0 (by decide) q868 rfl dX9_comes_41 ?_
  refine lv_sipush (v := (5096 : Int32)) hx hb dX9_comes_44 (by decide) ?_
  obtain ⟨g_4, h⟩ := zi_e h
  refine k_iald hE hW (hB_st.memA 0 (Nat.le_of_ble_eq_true rfl)) (hB_st.arr 0 rfl) g_4 dX9_comes_47 ?_
  obtain ⟨st_5, hst_5, h⟩ := zb_e h
  refine k_callVv (rest := []) hE hW hl.1 (mX9_sets hB_st hst_5) hB_st.o hB_st.obj rfl q864 q866 qs85 q10 q867 hd_X9_sets ⟨Nat.le_of_ble_eq_true rfl, Nat.le_of_ble_eq_true rfl⟩ ⟨rfl, rfl⟩ rfl (Nat.le_of_ble_eq_true rfl) dX9_comes_48 ⟨Nat.zero_le _, Nat.zero_le _⟩ (fun c1 H locs hP hW => ?_)
  obtain ⟨c, hB_st, hF, hW⟩ : ∃ c', MoB ct J ad c' b st_5 ∧ Fr c0 c' b 19 ∧ HW D J ad c' (aA J ad s.heap.size) s.heap H locs := ⟨c1, hP.1, hF.trans hP.2, hW⟩
  refine lv_aload_n hx hb dX9_comes_51 rfl (lv_at hl 1 rfl) ?_
  refine lv_iload_n hx hb dX9_comes_52 rfl (lv_at hl 2 rfl) ?_
  refine lv_sipush (v := (600 : Int32)) hx hb dX9_comes_53 (by decide) ?_
  refine lv_iload hx hb dX9_comes_56 (lv_at hl 0 rfl) ?_
  refine lv_iadd hx hb dX9_comes_58 ?_
  refine lv_iload hx hb dX9_comes_59 (lv_at hl 6 rfl) ?_
  obtain ⟨st_6, hst_6, h⟩ := zb_e h
  refine k_callVv (rest := []) hE hW hl.1 (mX9_sets hB_st hst_6) hB_st.o hB_st.obj rfl q864 q866 qs85 q10 q867 hd_X9_sets ⟨Nat.le_of_ble_eq_true rfl, Nat.le_of_ble_eq_true rfl⟩ ⟨rfl, rfl⟩ rfl (Nat.le_of_ble_eq_true rfl) dX9_comes_61 ⟨Nat.zero_le _, Nat.zero_le _⟩ (fun c1 H locs hP hW => ?_)
  obtain ⟨c, hB_st, hF, hW⟩ : ∃ c', MoB ct J ad c' b st_6 ∧ Fr c0 c' b 19 ∧ HW D J ad c' (aA J ad s.heap.size) s.heap H locs := ⟨c1, hP.1, hF.trans hP.2, hW⟩
  refine lv_aload_n hx hb dX9_comes_64 rfl (lv_at hl 1 rfl) ?_
  refine lv_iload_n hx hb dX9_comes_65 rfl (lv_at hl 2 rfl) ?_
  refine lv_sipush (v := (800 : Int32)) hx hb dX9_comes_66 (by decide) ?_
  refine lv_iload hx hb dX9_comes_69 (lv_at hl 0 rfl) ?_
  refine lv_iadd hx hb dX9_comes_71 ?_
  refine lv_iload hx hb dX9_comes_72 (lv_at hl 5 rfl) ?_
  refine lv_if_eq (tgt := 81) hx hb dX9_comes_74 (by decide) (fun k_7 => ?_) (fun k_7 => ?_)
  · have h := it_t k_7 h
    refine lv_iconst (v := (0 : Int32)) hx hb dX9_comes_81 (by decide) ?_
    exact wX9_comes_82 hE hr hlk _ _ _ _ _ _ _ _ _ _ _ hW hB_st hF (lv_sub hl [1, 2, 4, 0] rfl) h
  · have h := it_f k_7 h
    refine lv_iconst (v := (1 : Int32)) hx hb dX9_comes_77 (by decide) ?_
    refine lv_goto (tgt := 82) hx hb dX9_comes_78 (by decide) ?_
    exact wX9_comes_82 hE hr hlk _ _ _ _ _ _ _ _ _ _ _ hW hB_st hF (lv_sub hl [1, 2, 4, 0] rfl) h
set_option maxHeartbeats 4000000 in
set_option maxRecDepth 100000 in
theorem mX9_noRecord {l : Launch} {D : va_G} {ct : Nat → ClassId} {J : List Nat} {ad : Nat → Nat} {c0 : CF} {a1 : Int32} {a2 : Int32} {a3 : Int32} {b : Nat} {st : MS} (hB_st : MoB ct J ad c0 b st) {r : Int32} (h : fX9_noRecord  a1 a2 a3 st = some r) : Mi l D ct J ad yX9_noRecord cX9_noRecord 4 (some .int) (rr 2 42) [.ref (ad b), .int a1, .int a2, .int a3] c0 r (fun c' => c' = c0) := by
  refine Mi_of (own := RX9) (by decide) rfl (Nat.le_of_ble_eq_true rfl) (fun p e s m below meth cd hE hr hlk hW ls hl => ?_)
  have hx := hE.1
  have hb := hE.2.1
  have hl : lv_has ls 4 [(0, .ref (ad b)), (1, .int a1), (2, .int a2), (3, .int a3)] := hl
  rw [fX9_noRecord] at h
  refine lv_iload_n hx hb dX9_noRecord_0 rfl (lv_at hl 1 rfl) ?_
  obtain ⟨r_1, hr_1, h⟩ := zb_e h
  refine k_callSi (rest := []) hE hW hl.1 (mX9_isLog hr_1) q928 q929 q10 q930 hd_X9_isLog.2 ⟨Nat.le_of_ble_eq_true rfl, Nat.le_of_ble_eq_true rfl⟩ ⟨rfl, rfl⟩ rfl (Nat.le_of_ble_eq_true rfl) dX9_noRecord_1 ⟨Nat.zero_le _, Nat.zero_le _⟩ (fun c1 H locs hP hW => ?_)
  rw [hP] at hW
  refine lv_if_eq (tgt := 17) hx hb dX9_noRecord_4 (by decide) (fun k_2 => ?_) (fun k_2 => ?_)
  · have h := it_t k_2 h
    refine lv_iconst (v := (-1 : Int32)) hx hb dX9_noRecord_17 (by decide) ?_
    obtain rfl := Option.some.inj h
    exact k_iret hE hr hlk hW rfl rfl dX9_noRecord_18
  · have h := it_f k_2 h
    refine lv_iload_n hx hb dX9_noRecord_7 rfl (lv_at hl 2 rfl) ?_
    refine lv_iconst (v := (0 : Int32)) hx hb dX9_noRecord_8 (by decide) ?_
    refine lv_bipush (v := (25 : Int32)) hx hb dX9_noRecord_9 (by decide) ?_
    obtain ⟨r_3, hr_3, h⟩ := zb_e h
    refine k_callSi (rest := []) hE hW hl.1 (mX9_in hr_3) q931 q932 q10 q933 hd_X9_in.2 ⟨Nat.le_of_ble_eq_true rfl, Nat.le_of_ble_eq_true rfl⟩ ⟨rfl, rfl⟩ rfl (Nat.le_of_ble_eq_true rfl) dX9_noRecord_11 ⟨Nat.zero_le _, Nat.zero_le _⟩ (fun c1 H locs hP hW => ?_)
    rw [hP] at hW
    refine lv_if_ne (tgt := 19) hx hb dX9_noRecord_14 (by decide) (fun k_4 => ?_) (fun k_4 => ?_)
    · have h := it_f k_4 h
      refine lv_iload_n hx hb dX9_noRecord_19 rfl (lv_at hl 3 rfl) ?_
      refine lv_iconst (v := (1 : Int32)) hx hb dX9_noRecord_20 (by decide) ?_
      refine lv_bipush (v := (9 : Int32)) hx hb dX9_noRecord_21 (by decide) ?_
      obtain ⟨r_5, hr_5, h⟩ := zb_e h
      refine k_callSi (rest := []) hE hW hl.1 (mX9_in hr_5) q931 q932 q10 q933 hd_X9_in.2 ⟨Nat.le_of_ble_eq_true rfl, Nat.le_of_ble_eq_true rfl⟩ ⟨rfl, rfl⟩ rfl (Nat.le_of_ble_eq_true rfl) dX9_noRecord_23 ⟨Nat.zero_le _, Nat.zero_le _⟩ (fun c1 H locs hP hW => ?_)
      rw [hP] at hW
      refine lv_if_ne (tgt := 34) hx hb dX9_noRecord_26 (by decide) (fun k_6 => ?_) (fun k_6 => ?_)
      · have h := it_f k_6 h
        refine lv_aload_n hx hb dX9_noRecord_34 rfl (lv_at hl 0 rfl) ?_
        refine lv_iload_n hx hb dX9_noRecord_35 rfl (lv_at hl 1 rfl) ?_
        refine lv_sipush (v := (1271 : Int32)) hx hb dX9_noRecord_36 (by decide) ?_
        obtain ⟨r_7, hr_7, h⟩ := zb_e h
        refine k_callVi (rest := []) hE hW hl.1 (mX9_at hB_st hr_7) hB_st.o hB_st.obj rfl q934 q936 qs87 q10 q937 hd_X9_at ⟨Nat.le_of_ble_eq_true rfl, Nat.le_of_ble_eq_true rfl⟩ ⟨rfl, rfl⟩ rfl (Nat.le_of_ble_eq_true rfl) dX9_noRecord_39 ⟨Nat.zero_le _, Nat.zero_le _⟩ (fun c1 H locs hP hW => ?_)
        rw [hP] at hW
        refine lv_sipush (v := (200 : Int32)) hx hb dX9_noRecord_42 (by decide) ?_
        refine lv_icmp_ne (tgt := 53) hx hb dX9_noRecord_45 (by decide) (fun k_8 => ?_) (fun k_8 => ?_)
        · have h := it_f k_8 h
          refine lv_iconst (v := (0 : Int32)) hx hb dX9_noRecord_53 (by decide) ?_
          obtain rfl := Option.some.inj h
          exact k_iret hE hr hlk hW rfl rfl dX9_noRecord_54
        · have h := it_t k_8 h
          refine lv_bipush (v := (-4 : Int32)) hx hb dX9_noRecord_48 (by decide) ?_
          refine lv_goto (tgt := 54) hx hb dX9_noRecord_50 (by decide) ?_
          obtain rfl := Option.some.inj h
          exact k_iret hE hr hlk hW rfl rfl dX9_noRecord_54
      · have h := it_t k_6 h
        refine lv_bipush (v := (-2 : Int32)) hx hb dX9_noRecord_29 (by decide) ?_
        refine lv_goto (tgt := 54) hx hb dX9_noRecord_31 (by decide) ?_
        obtain rfl := Option.some.inj h
        exact k_iret hE hr hlk hW rfl rfl dX9_noRecord_54
    · have h := it_t k_4 h
      refine lv_iconst (v := (-1 : Int32)) hx hb dX9_noRecord_17 (by decide) ?_
      obtain rfl := Option.some.inj h
      exact k_iret hE hr hlk hW rfl rfl dX9_noRecord_18
set_option maxHeartbeats 4000000 in
set_option maxRecDepth 100000 in
theorem mX9_tomb {l : Launch} {D : va_G} {ct : Nat → ClassId} {J : List Nat} {ad : Nat → Nat} {c0 : CF} {a1 : Int32} {a2 : Int32} {a3 : Int32} {b : Nat} {st : MS} (hB_st : MoB ct J ad c0 b st) {r : Int32} {st9 : MS} (h : fX9_tomb  a1 a2 a3 st = some (r, st9)) : Mi l D ct J ad yX9_tomb cX9_tomb 5 (some .int) (rr 5 117) [.ref (ad b), .int a1, .int a2, .int a3] c0 r (fun c' => MoB ct J ad c' b st9 ∧ Fr c0 c' b 19) := by
  refine Mi_of (own := RX9) (by decide) rfl (Nat.le_of_ble_eq_true rfl) (fun p e s m below meth cd hE hr hlk hW ls hl => ?_)
  have hx := hE.1
  have hb := hE.2.1
  have hl : lv_has ls 5 [(0, .ref (ad b)), (1, .int a1), (2, .int a2), (3, .int a3)] := hl
  rw [fX9_tomb] at h
  obtain ⟨c, hB_st, hF, hW⟩ : ∃ c', MoB ct J ad c' b st ∧ Fr c0 c' b 19 ∧ HW D J ad c' (aA J ad s.heap.size) s.heap s.heap [] := ⟨c0, hB_st, Fr.rf, hW⟩
  refine lv_aload_n hx hb dX9_tomb_0 rfl (lv_at hl 0 rfl) ?_
  refine lv_iload_n hx hb dX9_tomb_1 rfl (lv_at hl 1 rfl) ?_
  refine lv_iload_n hx hb dX9_tomb_2 rfl (lv_at hl 2 rfl) ?_
  refine lv_iload_n hx hb dX9_tomb_3 rfl (lv_at hl 3 rfl) ?_
  obtain ⟨r_1, hr_1, h⟩ := zb_e h
  refine k_callVi (rest := []) hE hW hl.1 (mX9_noRecord hB_st hr_1) hB_st.o hB_st.obj rfl q924 q926 qs86 q10 q927 hd_X9_noRecord ⟨Nat.le_of_ble_eq_true rfl, Nat.le_of_ble_eq_true rfl⟩ ⟨rfl, rfl⟩ rfl (Nat.le_of_ble_eq_true rfl) dX9_tomb_4 ⟨Nat.zero_le _, Nat.zero_le _⟩ (fun c1 H locs hP hW => ?_)
  rw [hP] at hW
  refine lv_istore (lv' := [(4, .int r_1), (0, .ref (ad b)), (1, .int a1), (2, .int a2), (3, .int a3)]) hx hb dX9_tomb_7 hl (by decide) rfl (fun ls hl => ?_)
  refine lv_iload hx hb dX9_tomb_9 (lv_at hl 0 rfl) ?_
  refine lv_if_eq (tgt := 19) hx hb dX9_tomb_11 (by decide) (fun k_2 => ?_) (fun k_2 => ?_)
  · have h := it_t k_2 h
    refine lv_aload_n hx hb dX9_tomb_19 rfl (lv_at hl 1 rfl) ?_
    refine lv_iload_n hx hb dX9_tomb_20 rfl (lv_at hl 2 rfl) ?_
    refine lv_iload_n hx hb dX9_tomb_21 rfl (lv_at hl 3 rfl) ?_
    refine lv_iconst (v := (0 : Int32)) hx hb dX9_tomb_22 (by decide) ?_
    refine lv_iconst (v := (1 : Int32)) hx hb dX9_tomb_23 (by decide) ?_
    refine lv_iload_n hx hb dX9_tomb_24 rfl (lv_at hl 4 rfl) ?_
    obtain ⟨r_3, st_4, hr_3, h⟩ := zb2_e h
    refine k_callVi (rest := []) hE hW hl.1 (mX9_comes hB_st hr_3) hB_st.o hB_st.obj rfl q951 q953 qs88 q10 q954 hd_X9_comes ⟨Nat.le_of_ble_eq_true rfl, Nat.le_of_ble_eq_true rfl⟩ ⟨rfl, rfl⟩ rfl (Nat.le_of_ble_eq_true rfl) dX9_tomb_25 ⟨Nat.zero_le _, Nat.zero_le _⟩ (fun c1 H locs hP hW => ?_)
    obtain ⟨c, hB_st, hF, hW⟩ : ∃ c', MoB ct J ad c' b st_4 ∧ Fr c0 c' b 19 ∧ HW D J ad c' (aA J ad s.heap.size) s.heap H locs := ⟨c1, hP.1, hF.trans hP.2, hW⟩
    obtain ⟨rfl, rfl⟩ := Prod.mk.inj (Option.some.inj h)
    exact k_iret hE hr hlk hW ⟨hB_st, hF⟩ rfl dX9_tomb_28
  · have h := it_f k_2 h
    refine lv_iload hx hb dX9_tomb_14 (lv_at hl 0 rfl) ?_
    refine lv_goto (tgt := 28) hx hb dX9_tomb_16 (by decide) ?_
    obtain ⟨rfl, rfl⟩ := Prod.mk.inj (Option.some.inj h)
    exact k_iret hE hr hlk hW ⟨hB_st, hF⟩ rfl dX9_tomb_28
set_option maxHeartbeats 4000000 in
set_option maxRecDepth 100000 in
theorem mX9_tick {l : Launch} {D : va_G} {ct : Nat → ClassId} {J : List Nat} {ad : Nat → Nat} {c0 : CF} {a1 : Int32} {b : Nat} {st : MS} (hB_st : MoB ct J ad c0 b st) {r : Int32} {st9 : MS} (h : fX9_tick  a1 st = some (r, st9)) : Mi l D ct J ad yX9_tick cX9_tick 2 (some .int) (rr 1 22) [.ref (ad b), .int a1] c0 r (fun c' => MoB ct J ad c' b st9 ∧ Fr c0 c' b 19) := by
  refine Mi_of (own := RX9) (by decide) rfl (Nat.le_of_ble_eq_true rfl) (fun p e s m below meth cd hE hr hlk hW ls hl => ?_)
  have hx := hE.1
  have hb := hE.2.1
  have hl : lv_has ls 2 [(0, .ref (ad b)), (1, .int a1)] := hl
  rw [fX9_tick] at h
  obtain ⟨c, hB_st, hF, hW⟩ : ∃ c', MoB ct J ad c' b st ∧ Fr c0 c' b 19 ∧ HW D J ad c' (aA J ad s.heap.size) s.heap s.heap [] := ⟨c0, hB_st, Fr.rf, hW⟩
  refine lv_iload_n hx hb dX9_tick_0 rfl (lv_at hl 1 rfl) ?_
  refine lv_iconst (v := (0 : Int32)) hx hb dX9_tick_1 (by decide) ?_
  refine lv_bipush (v := (99 : Int32)) hx hb dX9_tick_2 (by decide) ?_
  obtain ⟨r_1, hr_1, h⟩ := zb_e h
  refine k_callSi (rest := []) hE hW hl.1 (mX9_in hr_1) q931 q932 q10 q933 hd_X9_in.2 ⟨Nat.le_of_ble_eq_true rfl, Nat.le_of_ble_eq_true rfl⟩ ⟨rfl, rfl⟩ rfl (Nat.le_of_ble_eq_true rfl) dX9_tick_4 ⟨Nat.zero_le _, Nat.zero_le _⟩ (fun c1 H locs hP hW => ?_)
  rw [hP] at hW
  refine lv_if_ne (tgt := 13) hx hb dX9_tick_7 (by decide) (fun k_2 => ?_) (fun k_2 => ?_)
  · have h := it_f k_2 h
    refine lv_aload_n hx hb dX9_tick_13 rfl (lv_at hl 0 rfl) ?_
    refine k_get (v := .ref (ad (b + 1 + 0))) hE hW hB_st.o hB_st.obj rfl inX9 0 (by decide) q868 rfl dX9_tick_14 ?_
    refine lv_sipush (v := (5096 : Int32)) hx hb dX9_tick_17 (by decide) ?_
    obtain ⟨g_3, h⟩ := zi_e h
    refine k_iald hE hW (hB_st.memA 0 (Nat.le_of_ble_eq_true rfl)) (hB_st.arr 0 rfl) g_3 dX9_tick_20 ?_
    refine lv_iload_n hx hb dX9_tick_21 rfl (lv_at hl 1 rfl) ?_
    refine lv_iadd hx hb dX9_tick_22 ?_
    refine lv_sipush (v := (9999 : Int32)) hx hb dX9_tick_23 (by decide) ?_
    refine lv_icmp_le (tgt := 32) hx hb dX9_tick_26 (by decide) (fun k_4 => ?_) (fun k_4 => ?_)
    · have h := it_t k_4 h
      refine lv_aload_n hx hb dX9_tick_32 rfl (lv_at hl 0 rfl) ?_
      refine k_get (v := .ref (ad (b + 1 + 0))) hE hW hB_st.o hB_st.obj rfl inX9 0 (by decide) q868 rfl dX9_tick_33 ?_
      refine lv_sipush (v := (5096 : Int32)) hx hb dX9_tick_36 (by decide) ?_
      refine lv_dup2_11 hx hb dX9_tick_39 rfl rfl ?_
      obtain ⟨g_5, h⟩ := zi_e h
      refine k_iald hE hW (hB_st.memA 0 (Nat.le_of_ble_eq_true rfl)) (hB_st.arr 0 rfl) g_5 dX9_tick_40 ?_
      refine lv_iload_n hx hb dX9_tick_41 rfl (lv_at hl 1 rfl) ?_
      refine lv_iadd hx hb dX9_tick_42 ?_
      obtain ⟨g_6, h⟩ := zi_e h
      obtain ⟨st_7, est_7, h⟩ := zl_e h
      refine k_iast hE hW (hB_st.memA 0 (Nat.le_of_ble_eq_true rfl)) (hB_st.arr 0 rfl) g_6 dX9_tick_43 (fun H locs hW => ?_)
      obtain ⟨c, hB_st, hF, hW⟩ : ∃ c', MoB ct J ad c' b st_7 ∧ Fr c0 c' b 19 ∧ HW D J ad c' (aA J ad s.heap.size) s.heap H locs := ⟨_, hB_st.wA (k := 0) rfl est_7, hF.up (by omega) (by omega), hW⟩
      refine lv_aload_n hx hb dX9_tick_44 rfl (lv_at hl 0 rfl) ?_
      refine k_get (v := .ref (ad (b + 1 + 0))) hE hW hB_st.o hB_st.obj rfl inX9 0 (by decide) q868 rfl dX9_tick_45 ?_
      refine lv_sipush (v := (5096 : Int32)) hx hb dX9_tick_48 (by decide) ?_
      obtain ⟨g_8, h⟩ := zi_e h
      refine k_iald hE hW (hB_st.memA 0 (Nat.le_of_ble_eq_true rfl)) (hB_st.arr 0 rfl) g_8 dX9_tick_51 ?_
      obtain ⟨rfl, rfl⟩ := Prod.mk.inj (Option.some.inj h)
      exact k_iret hE hr hlk hW ⟨hB_st, hF⟩ rfl dX9_tick_52
    · have h := it_f k_4 h
      refine lv_bipush (v := (-3 : Int32)) hx hb dX9_tick_29 (by decide) ?_
      obtain ⟨rfl, rfl⟩ := Prod.mk.inj (Option.some.inj h)
      exact k_iret hE hr hlk hW ⟨hB_st, hF⟩ rfl dX9_tick_31
  · have h := it_t k_2 h
    refine lv_bipush (v := (-2 : Int32)) hx hb dX9_tick_10 (by decide) ?_
    obtain ⟨rfl, rfl⟩ := Prod.mk.inj (Option.some.inj h)
    exact k_iret hE hr hlk hW ⟨hB_st, hF⟩ rfl dX9_tick_12
set_option maxHeartbeats 4000000 in
set_option maxRecDepth 100000 in
theorem wX9_set_25 {p : Program} {l : Launch} {e : Env} {s : State} {m : MethodId} {args : Array Value} {below : List Frame} {meth : Method} {cd : Code} {D : va_G} {ct : Nat → ClassId} {J : List Nat} {ad : Nat → Nat} {c0 : CF} {b : Nat} (hE : ME p s m cd args D ct cX9_set RX9 4) (hr : meth.sig.returnType = (some .int)) (hlk : meth.locks = false) {r : Int32} {st9 : MS} : ∀ (x1 : Int32) (x2 : Int32) (y0 : Int32) (y1 : Int32) (y2 : Int32) (st : MS) (c : CF) (H : Heap) (locs : List Loc) (ls : Array Slot), HW D J ad c (aA J ad s.heap.size) s.heap H locs → MoB ct J ad c b st → Fr c0 c b 19 → lv_has ls 4 [(0, .ref (ad b)), (1, .int x1), (2, .int x2)] → fX9_set_25 x1 x2 y0 y1 y2 st = some (r, st9) → W p l e (rr 1 22) s m args below meth cd H locs 0 0 (MQ below (Qi D J ad s.heap.size r (fun c' => MoB ct J ad c' b st9 ∧ Fr c0 c' b 19)) args s 0 0 (aA J ad s.heap.size)) (F0 m 25 ls [.int y0, .int y1, .int y2]) := by
  have hx := hE.1
  have hb := hE.2.1
  intro x1 x2 y0 y1 y2 st c H locs ls hW hB_st hF hl h
  rw [fX9_set_25] at h
  obtain ⟨r_4, hr_4, h⟩ := zb_e h
  refine k_callSi (rest := []) hE hW hl.1 (mX9_in hr_4) q931 q932 q10 q933 hd_X9_in.2 ⟨Nat.le_of_ble_eq_true rfl, Nat.le_of_ble_eq_true rfl⟩ ⟨rfl, rfl⟩ rfl (Nat.le_of_ble_eq_true rfl) dX9_set_25 ⟨Nat.zero_le _, Nat.zero_le _⟩ (fun c1 H locs hP hW => ?_)
  rw [hP] at hW
  refine lv_if_ne (tgt := 34) hx hb dX9_set_28 (by decide) (fun k_5 => ?_) (fun k_5 => ?_)
  · have h := it_f k_5 h
    refine lv_aload_n hx hb dX9_set_34 rfl (lv_at hl 0 rfl) ?_
    refine k_get (v := .ref (ad (b + 1 + 0))) hE hW hB_st.o hB_st.obj rfl inX9 0 (by decide) q868 rfl dX9_set_35 ?_
    refine lv_sipush (v := (5097 : Int32)) hx hb dX9_set_38 (by decide) ?_
    refine lv_iload_n hx hb dX9_set_41 rfl (lv_at hl 1 rfl) ?_
    refine lv_iadd hx hb dX9_set_42 ?_
    obtain ⟨g_6, h⟩ := zi_e h
    refine k_iald hE hW (hB_st.memA 0 (Nat.le_of_ble_eq_true rfl)) (hB_st.arr 0 rfl) g_6 dX9_set_43 ?_
    refine lv_topi (fun x_7 ex_7 => ?_)
    have h := zl_n h ex_7
    refine lv_istore_n (lv' := [(3, .int x_7), (0, .ref (ad b)), (1, .int x1), (2, .int x2)]) hx hb dX9_set_44 rfl hl (by decide) rfl (fun ls hl => ?_)
    refine lv_aload_n hx hb dX9_set_45 rfl (lv_at hl 1 rfl) ?_
    refine k_get (v := .ref (ad (b + 1 + 0))) hE hW hB_st.o hB_st.obj rfl inX9 0 (by decide) q868 rfl dX9_set_46 ?_
    refine lv_sipush (v := (5097 : Int32)) hx hb dX9_set_49 (by decide) ?_
    refine lv_iload_n hx hb dX9_set_52 rfl (lv_at hl 2 rfl) ?_
    refine lv_iadd hx hb dX9_set_53 ?_
    refine lv_iload_n hx hb dX9_set_54 rfl (lv_at hl 3 rfl) ?_
    obtain ⟨g_8, h⟩ := zi_e h
    obtain ⟨st_9, est_9, h⟩ := zl_e h
    refine k_iast hE hW (hB_st.memA 0 (Nat.le_of_ble_eq_true rfl)) (hB_st.arr 0 rfl) g_8 dX9_set_55 (fun H locs hW => ?_)
    obtain ⟨c, hB_st, hF, hW⟩ : ∃ c', MoB ct J ad c' b st_9 ∧ Fr c0 c' b 19 ∧ HW D J ad c' (aA J ad s.heap.size) s.heap H locs := ⟨_, hB_st.wA (k := 0) rfl est_9, hF.up (by omega) (by omega), hW⟩
    refine lv_iload_n hx hb dX9_set_56 rfl (lv_at hl 0 rfl) ?_
    obtain ⟨rfl, rfl⟩ := Prod.mk.inj (Option.some.inj h)
    exact k_iret hE hr hlk hW ⟨hB_st, hF⟩ rfl dX9_set_57
  · have h := it_t k_5 h
    refine lv_bipush (v := (-2 : Int32)) hx hb dX9_set_31 (by decide) ?_
    obtain ⟨rfl, rfl⟩ := Prod.mk.inj (Option.some.inj h)
    exact k_iret hE hr hlk hW ⟨hB_st, hF⟩ rfl dX9_set_33
set_option maxHeartbeats 4000000 in
set_option maxRecDepth 100000 in
theorem mX9_set {l : Launch} {D : va_G} {ct : Nat → ClassId} {J : List Nat} {ad : Nat → Nat} {c0 : CF} {a1 : Int32} {a2 : Int32} {b : Nat} {st : MS} (hB_st : MoB ct J ad c0 b st) {r : Int32} {st9 : MS} (h : fX9_set  a1 a2 st = some (r, st9)) : Mi l D ct J ad yX9_set cX9_set 4 (some .int) (rr 1 22) [.ref (ad b), .int a1, .int a2] c0 r (fun c' => MoB ct J ad c' b st9 ∧ Fr c0 c' b 19) := by
  refine Mi_of (own := RX9) (by decide) rfl (Nat.le_of_ble_eq_true rfl) (fun p e s m below meth cd hE hr hlk hW ls hl => ?_)
  have hx := hE.1
  have hb := hE.2.1
  have hl : lv_has ls 4 [(0, .ref (ad b)), (1, .int a1), (2, .int a2)] := hl
  rw [fX9_set] at h
  obtain ⟨c, hB_st, hF, hW⟩ : ∃ c', MoB ct J ad c' b st ∧ Fr c0 c' b 19 ∧ HW D J ad c' (aA J ad s.heap.size) s.heap s.heap [] := ⟨c0, hB_st, Fr.rf, hW⟩
  refine lv_iload_n hx hb dX9_set_0 rfl (lv_at hl 1 rfl) ?_
  refine lv_iconst (v := (0 : Int32)) hx hb dX9_set_1 (by decide) ?_
  refine lv_iconst (v := (2 : Int32)) hx hb dX9_set_2 (by decide) ?_
  obtain ⟨r_1, hr_1, h⟩ := zb_e h
  refine k_callSi (rest := []) hE hW hl.1 (mX9_in hr_1) q931 q932 q10 q933 hd_X9_in.2 ⟨Nat.le_of_ble_eq_true rfl, Nat.le_of_ble_eq_true rfl⟩ ⟨rfl, rfl⟩ rfl (Nat.le_of_ble_eq_true rfl) dX9_set_3 ⟨Nat.zero_le _, Nat.zero_le _⟩ (fun c1 H locs hP hW => ?_)
  rw [hP] at hW
  refine lv_if_ne (tgt := 11) hx hb dX9_set_6 (by decide) (fun k_2 => ?_) (fun k_2 => ?_)
  · have h := it_f k_2 h
    refine lv_iload_n hx hb dX9_set_11 rfl (lv_at hl 2 rfl) ?_
    refine lv_iconst (v := (0 : Int32)) hx hb dX9_set_12 (by decide) ?_
    refine lv_iload_n hx hb dX9_set_13 rfl (lv_at hl 1 rfl) ?_
    refine lv_if_ne (tgt := 22) hx hb dX9_set_14 (by decide) (fun k_3 => ?_) (fun k_3 => ?_)
    · have h := it_f k_3 h
      refine lv_sipush (v := (999 : Int32)) hx hb dX9_set_22 (by decide) ?_
      exact wX9_set_25 hE hr hlk _ _ _ _ _ _ _ _ _ _ hW hB_st hF (lv_sub hl [0, 1, 2] rfl) h
    · have h := it_t k_3 h
      refine lv_bipush (v := (99 : Int32)) hx hb dX9_set_17 (by decide) ?_
      refine lv_goto (tgt := 25) hx hb dX9_set_19 (by decide) ?_
      exact wX9_set_25 hE hr hlk _ _ _ _ _ _ _ _ _ _ hW hB_st hF (lv_sub hl [0, 1, 2] rfl) h
  · have h := it_t k_2 h
    refine lv_iconst (v := (-1 : Int32)) hx hb dX9_set_9 (by decide) ?_
    obtain ⟨rfl, rfl⟩ := Prod.mk.inj (Option.some.inj h)
    exact k_iret hE hr hlk hW ⟨hB_st, hF⟩ rfl dX9_set_10
set_option maxHeartbeats 4000000 in
set_option maxRecDepth 100000 in
theorem wX9_hasLater_4 {p : Program} {l : Launch} {e : Env} {s : State} {m : MethodId} {args : Array Value} {below : List Frame} {meth : Method} {cd : Code} {D : va_G} {ct : Nat → ClassId} {J : List Nat} {ad : Nat → Nat} {c0 : CF} {b : Nat} (hE : ME p s m cd args D ct cX9_hasLater RX9 4) (hr : meth.sig.returnType = (some .boolean)) (hlk : meth.locks = false) {x1 : Int32} {x2 : Int32} {st : MS} (hB_st : MoB ct J ad c0 b st) {r : Int32} : ∀ (n : Nat) (x3 : Int32) (H : Heap) (locs : List Loc) (ls : Array Slot), HW D J ad c0 (aA J ad s.heap.size) s.heap H locs → lv_has ls 4 [(0, .ref (ad b)), (1, .int x1), (2, .int x2), (3, .int x3)] → fX9_hasLater_4 x1 x2 st n x3 = some r → W p l e (rr 1 22) s m args below meth cd H locs 0 0 (MQ below (Qi D J ad s.heap.size r (fun c' => c' = c0)) args s 0 0 (aA J ad s.heap.size)) (F0 m 4 ls []) := by
  have hx := hE.1
  have hb := hE.2.1
  intro n
  induction n with
  | zero =>
    intro x3 H locs ls hW hl h
    have h2 : (none : Option Int32) = some r := h
    cases h2
  | succ n ih =>
    intro x3 H locs ls hW hl h
    rw [fX9_hasLater_4] at h
    refine lv_iload_n hx hb dX9_hasLater_4 rfl (lv_at hl 3 rfl) ?_
    refine lv_aload_n hx hb dX9_hasLater_5 rfl (lv_at hl 0 rfl) ?_
    refine lv_iload_n hx hb dX9_hasLater_6 rfl (lv_at hl 1 rfl) ?_
    refine lv_sipush (v := (1271 : Int32)) hx hb dX9_hasLater_7 (by decide) ?_
    obtain ⟨r_1, hr_1, h⟩ := zb_e h
    refine k_callVi (rest := [.int x3]) hE hW hl.1 (mX9_at hB_st hr_1) hB_st.o hB_st.obj rfl q934 q936 qs87 q10 q937 hd_X9_at ⟨Nat.le_of_ble_eq_true rfl, Nat.le_of_ble_eq_true rfl⟩ ⟨rfl, rfl⟩ rfl (Nat.le_of_ble_eq_true rfl) dX9_hasLater_10 ⟨Nat.zero_le _, Nat.zero_le _⟩ (fun c1 H locs hP hW => ?_)
    rw [hP] at hW
    refine lv_icmp_ge (tgt := 59) hx hb dX9_hasLater_13 (by decide) (fun k_2 => ?_) (fun k_2 => ?_)
    · have h := it_t k_2 h
      refine lv_iconst (v := (0 : Int32)) hx hb dX9_hasLater_59 (by decide) ?_
      obtain rfl := Option.some.inj h
      exact k_zret hE hr hlk hW rfl rfl rfl dX9_hasLater_60
    · have h := it_f k_2 h
      refine lv_aload_n hx hb dX9_hasLater_16 rfl (lv_at hl 0 rfl) ?_
      refine lv_iload_n hx hb dX9_hasLater_17 rfl (lv_at hl 1 rfl) ?_
      refine lv_iconst (v := (0 : Int32)) hx hb dX9_hasLater_18 (by decide) ?_
      refine lv_iload_n hx hb dX9_hasLater_19 rfl (lv_at hl 3 rfl) ?_
      refine lv_iadd hx hb dX9_hasLater_20 ?_
      obtain ⟨r_3, hr_3, h⟩ := zb_e h
      refine k_callVi (rest := []) hE hW hl.1 (mX9_at hB_st hr_3) hB_st.o hB_st.obj rfl q934 q936 qs87 q10 q937 hd_X9_at ⟨Nat.le_of_ble_eq_true rfl, Nat.le_of_ble_eq_true rfl⟩ ⟨rfl, rfl⟩ rfl (Nat.le_of_ble_eq_true rfl) dX9_hasLater_21 ⟨Nat.zero_le _, Nat.zero_le _⟩ (fun c1 H locs hP hW => ?_)
      rw [hP] at hW
      refine lv_iconst (v := (1 : Int32)) hx hb dX9_hasLater_24 (by decide) ?_
      refine lv_icmp_ne (tgt := 53) hx hb dX9_hasLater_25 (by decide) (fun k_4 => ?_) (fun k_4 => ?_)
      · have h := it_f k_4 h
        refine lv_iinc (v := (x3 + (1 : Int32))) (lv' := [(3, .int (x3 + (1 : Int32))), (0, .ref (ad b)), (1, .int x1), (2, .int x2)]) hx hb dX9_hasLater_53 hl (k := 3) rfl rfl (by decide) rfl (fun ls hl => ?_)
        refine lv_goto (tgt := 4) hx hb dX9_hasLater_56 (by decide) ?_
        exact ih _ _ _ _ hW (lv_sub hl [1, 2, 3, 0] rfl) h
      · have h := it_t k_4 h
        refine lv_aload_n hx hb dX9_hasLater_28 rfl (lv_at hl 0 rfl) ?_
        refine lv_iload_n hx hb dX9_hasLater_29 rfl (lv_at hl 1 rfl) ?_
        refine lv_sipush (v := (200 : Int32)) hx hb dX9_hasLater_30 (by decide) ?_
        refine lv_iload_n hx hb dX9_hasLater_33 rfl (lv_at hl 3 rfl) ?_
        refine lv_iadd hx hb dX9_hasLater_34 ?_
        obtain ⟨r_5, hr_5, h⟩ := zb_e h
        refine k_callVi (rest := []) hE hW hl.1 (mX9_at hB_st hr_5) hB_st.o hB_st.obj rfl q934 q936 qs87 q10 q937 hd_X9_at ⟨Nat.le_of_ble_eq_true rfl, Nat.le_of_ble_eq_true rfl⟩ ⟨rfl, rfl⟩ rfl (Nat.le_of_ble_eq_true rfl) dX9_hasLater_35 ⟨Nat.zero_le _, Nat.zero_le _⟩ (fun c1 H locs hP hW => ?_)
        rw [hP] at hW
        refine lv_aload_n hx hb dX9_hasLater_38 rfl (lv_at hl 0 rfl) ?_
        refine lv_iload_n hx hb dX9_hasLater_39 rfl (lv_at hl 1 rfl) ?_
        refine lv_sipush (v := (200 : Int32)) hx hb dX9_hasLater_40 (by decide) ?_
        refine lv_iload_n hx hb dX9_hasLater_43 rfl (lv_at hl 2 rfl) ?_
        refine lv_iadd hx hb dX9_hasLater_44 ?_
        obtain ⟨r_6, hr_6, h⟩ := zb_e h
        refine k_callVi (rest := [.int r_5]) hE hW hl.1 (mX9_at hB_st hr_6) hB_st.o hB_st.obj rfl q934 q936 qs87 q10 q937 hd_X9_at ⟨Nat.le_of_ble_eq_true rfl, Nat.le_of_ble_eq_true rfl⟩ ⟨rfl, rfl⟩ rfl (Nat.le_of_ble_eq_true rfl) dX9_hasLater_45 ⟨Nat.zero_le _, Nat.zero_le _⟩ (fun c1 H locs hP hW => ?_)
        rw [hP] at hW
        refine lv_icmp_ne (tgt := 53) hx hb dX9_hasLater_48 (by decide) (fun k_7 => ?_) (fun k_7 => ?_)
        · have h := it_f k_7 h
          refine lv_iinc (v := (x3 + (1 : Int32))) (lv' := [(3, .int (x3 + (1 : Int32))), (0, .ref (ad b)), (1, .int x1), (2, .int x2)]) hx hb dX9_hasLater_53 hl (k := 3) rfl rfl (by decide) rfl (fun ls hl => ?_)
          refine lv_goto (tgt := 4) hx hb dX9_hasLater_56 (by decide) ?_
          exact ih _ _ _ _ hW (lv_sub hl [1, 2, 3, 0] rfl) h
        · have h := it_t k_7 h
          refine lv_iconst (v := (1 : Int32)) hx hb dX9_hasLater_51 (by decide) ?_
          obtain rfl := Option.some.inj h
          exact k_zret hE hr hlk hW rfl rfl rfl dX9_hasLater_52
set_option maxHeartbeats 4000000 in
set_option maxRecDepth 100000 in
theorem mX9_hasLater {l : Launch} {D : va_G} {ct : Nat → ClassId} {J : List Nat} {ad : Nat → Nat} {c0 : CF} {a1 : Int32} {a2 : Int32} {b : Nat} {st : MS} (hB_st : MoB ct J ad c0 b st) {r : Int32} (h : fX9_hasLater  a1 a2 st = some r) : Mi l D ct J ad yX9_hasLater cX9_hasLater 4 (some .boolean) (rr 1 22) [.ref (ad b), .int a1, .int a2] c0 r (fun c' => c' = c0) := by
  refine Mi_of (own := RX9) (by decide) rfl (Nat.le_of_ble_eq_true rfl) (fun p e s m below meth cd hE hr hlk hW ls hl => ?_)
  have hx := hE.1
  have hb := hE.2.1
  have hl : lv_has ls 4 [(0, .ref (ad b)), (1, .int a1), (2, .int a2)] := hl
  rw [fX9_hasLater] at h
  refine lv_iload_n hx hb dX9_hasLater_0 rfl (lv_at hl 2 rfl) ?_
  refine lv_iconst (v := (1 : Int32)) hx hb dX9_hasLater_1 (by decide) ?_
  refine lv_iadd hx hb dX9_hasLater_2 ?_
  refine lv_istore_n (lv' := [(3, .int (a2 + (1 : Int32))), (0, .ref (ad b)), (1, .int a1), (2, .int a2)]) hx hb dX9_hasLater_3 rfl hl (by decide) rfl (fun ls hl => ?_)
  exact wX9_hasLater_4 hE hr hlk hB_st _ _ _ _ _ hW (lv_sub hl [1, 2, 3, 0] rfl) h
set_option maxHeartbeats 4000000 in
set_option maxRecDepth 100000 in
theorem wX9_compacted_130 {p : Program} {l : Launch} {e : Env} {s : State} {m : MethodId} {args : Array Value} {below : List Frame} {meth : Method} {cd : Code} {D : va_G} {ct : Nat → ClassId} {J : List Nat} {ad : Nat → Nat} {c0 : CF} {b : Nat} (hE : ME p s m cd args D ct cX9_compacted RX9 6) (hr : meth.sig.returnType = (some .int)) (hlk : meth.locks = false) {x1 : Int32} {x3 : Int32} {r : Int32} {st9 : MS} : ∀ (n : Nat) (x4 : Int32) (st : MS) (c : CF) (H : Heap) (locs : List Loc) (ls : Array Slot), HW D J ad c (aA J ad s.heap.size) s.heap H locs → MoB ct J ad c b st → Fr c0 c b 19 → lv_has ls 6 [(0, .ref (ad b)), (1, .int x1), (3, .int x3), (4, .int x4)] → fX9_compacted_130 x1 x3 n x4 st = some (r, st9) → W p l e (rr 4 90) s m args below meth cd H locs 0 0 (MQ below (Qi D J ad s.heap.size r (fun c' => MoB ct J ad c' b st9 ∧ Fr c0 c' b 19)) args s 0 0 (aA J ad s.heap.size)) (F0 m 130 ls []) := by
  have hx := hE.1
  have hb := hE.2.1
  intro n
  induction n with
  | zero =>
    intro x4 st c H locs ls hW hB_st hF hl h
    have h2 : (none : Option (Int32 × MS)) = some (r, st9) := h
    cases h2
  | succ n ih =>
    intro x4 st c H locs ls hW hB_st hF hl h
    rw [fX9_compacted_130] at h
    refine lv_iload hx hb dX9_compacted_130 (lv_at hl 3 rfl) ?_
    refine lv_iconst (v := (2 : Int32)) hx hb dX9_compacted_132 (by decide) ?_
    refine lv_iadd hx hb dX9_compacted_133 ?_
    refine lv_aload_n hx hb dX9_compacted_134 rfl (lv_at hl 0 rfl) ?_
    refine lv_iload_n hx hb dX9_compacted_135 rfl (lv_at hl 1 rfl) ?_
    refine lv_sipush (v := (1270 : Int32)) hx hb dX9_compacted_136 (by decide) ?_
    obtain ⟨r_4, hr_4, h⟩ := zb_e h
    refine k_callVi (rest := [.int (x4 + (2 : Int32))]) hE hW hl.1 (mX9_at hB_st hr_4) hB_st.o hB_st.obj rfl q934 q936 qs87 q10 q937 hd_X9_at ⟨Nat.le_of_ble_eq_true rfl, Nat.le_of_ble_eq_true rfl⟩ ⟨rfl, rfl⟩ rfl (Nat.le_of_ble_eq_true rfl) dX9_compacted_139 ⟨Nat.zero_le _, Nat.zero_le _⟩ (fun c1 H locs hP hW => ?_)
    rw [hP] at hW
    refine lv_icmp_ge (tgt := 207) hx hb dX9_compacted_142 (by decide) (fun k_5 => ?_) (fun k_5 => ?_)
    · have h := it_t k_5 h
      refine lv_iload_n hx hb dX9_compacted_207 rfl (lv_at hl 2 rfl) ?_
      obtain ⟨rfl, rfl⟩ := Prod.mk.inj (Option.some.inj h)
      exact k_iret hE hr hlk hW ⟨hB_st, hF⟩ rfl dX9_compacted_208
    · have h := it_f k_5 h
      refine lv_aload_n hx hb dX9_compacted_145 rfl (lv_at hl 0 rfl) ?_
      refine lv_iload_n hx hb dX9_compacted_146 rfl (lv_at hl 1 rfl) ?_
      refine lv_iload hx hb dX9_compacted_147 (lv_at hl 3 rfl) ?_
      obtain ⟨r_6, hr_6, h⟩ := zb_e h
      refine k_callVi (rest := []) hE hW hl.1 (mX9_weightIn hB_st hr_6) hB_st.o hB_st.obj rfl q967 q969 qs92 q10 q970 hd_X9_weightIn ⟨Nat.le_of_ble_eq_true rfl, Nat.le_of_ble_eq_true rfl⟩ ⟨rfl, rfl⟩ rfl (Nat.le_of_ble_eq_true rfl) dX9_compacted_149 ⟨Nat.zero_le _, Nat.zero_le _⟩ (fun c1 H locs hP hW => ?_)
      rw [hP] at hW
      refine lv_aload_n hx hb dX9_compacted_152 rfl (lv_at hl 0 rfl) ?_
      refine lv_iload_n hx hb dX9_compacted_153 rfl (lv_at hl 1 rfl) ?_
      refine lv_iload hx hb dX9_compacted_154 (lv_at hl 3 rfl) ?_
      refine lv_iconst (v := (1 : Int32)) hx hb dX9_compacted_156 (by decide) ?_
      refine lv_iadd hx hb dX9_compacted_157 ?_
      obtain ⟨r_7, hr_7, h⟩ := zb_e h
      refine k_callVi (rest := [.int r_6]) hE hW hl.1 (mX9_weightIn hB_st hr_7) hB_st.o hB_st.obj rfl q967 q969 qs92 q10 q970 hd_X9_weightIn ⟨Nat.le_of_ble_eq_true rfl, Nat.le_of_ble_eq_true rfl⟩ ⟨rfl, rfl⟩ rfl (Nat.le_of_ble_eq_true rfl) dX9_compacted_158 ⟨Nat.zero_le _, Nat.zero_le _⟩ (fun c1 H locs hP hW => ?_)
      rw [hP] at hW
      refine lv_iadd hx hb dX9_compacted_161 ?_
      refine lv_bipush (v := (20 : Int32)) hx hb dX9_compacted_162 (by decide) ?_
      refine lv_icmp_gt (tgt := 201) hx hb dX9_compacted_164 (by decide) (fun k_8 => ?_) (fun k_8 => ?_)
      · have h := it_t k_8 h
        refine lv_iinc (v := (x4 + (1 : Int32))) (lv' := [(4, .int (x4 + (1 : Int32))), (0, .ref (ad b)), (1, .int x1), (3, .int x3)]) hx hb dX9_compacted_201 hl (k := 3) rfl rfl (by decide) rfl (fun ls hl => ?_)
        refine lv_goto (tgt := 130) hx hb dX9_compacted_204 (by decide) ?_
        exact ih _ _ _ _ _ _ hW hB_st hF (lv_sub hl [1, 2, 3, 0] rfl) h
      · have h := it_f k_8 h
        refine lv_aload_n hx hb dX9_compacted_167 rfl (lv_at hl 0 rfl) ?_
        refine lv_iload_n hx hb dX9_compacted_168 rfl (lv_at hl 1 rfl) ?_
        refine lv_iload hx hb dX9_compacted_169 (lv_at hl 3 rfl) ?_
        obtain ⟨r_9, hr_9, h⟩ := zb_e h
        refine k_callVi (rest := []) hE hW hl.1 (mX9_manyIn hB_st hr_9) hB_st.o hB_st.obj rfl q955 q957 qs89 q10 q958 hd_X9_manyIn ⟨Nat.le_of_ble_eq_true rfl, Nat.le_of_ble_eq_true rfl⟩ ⟨rfl, rfl⟩ rfl (Nat.le_of_ble_eq_true rfl) dX9_compacted_171 ⟨Nat.zero_le _, Nat.zero_le _⟩ (fun c1 H locs hP hW => ?_)
        rw [hP] at hW
        refine lv_aload_n hx hb dX9_compacted_174 rfl (lv_at hl 0 rfl) ?_
        refine lv_iload_n hx hb dX9_compacted_175 rfl (lv_at hl 1 rfl) ?_
        refine lv_iload hx hb dX9_compacted_176 (lv_at hl 3 rfl) ?_
        refine lv_iconst (v := (1 : Int32)) hx hb dX9_compacted_178 (by decide) ?_
        refine lv_iadd hx hb dX9_compacted_179 ?_
        obtain ⟨r_10, hr_10, h⟩ := zb_e h
        refine k_callVi (rest := [.int r_9]) hE hW hl.1 (mX9_manyIn hB_st hr_10) hB_st.o hB_st.obj rfl q955 q957 qs89 q10 q958 hd_X9_manyIn ⟨Nat.le_of_ble_eq_true rfl, Nat.le_of_ble_eq_true rfl⟩ ⟨rfl, rfl⟩ rfl (Nat.le_of_ble_eq_true rfl) dX9_compacted_180 ⟨Nat.zero_le _, Nat.zero_le _⟩ (fun c1 H locs hP hW => ?_)
        rw [hP] at hW
        refine lv_iadd hx hb dX9_compacted_183 ?_
        refine lv_bipush (v := (8 : Int32)) hx hb dX9_compacted_184 (by decide) ?_
        refine lv_icmp_gt (tgt := 201) hx hb dX9_compacted_186 (by decide) (fun k_11 => ?_) (fun k_11 => ?_)
        · have h := it_t k_11 h
          refine lv_iinc (v := (x4 + (1 : Int32))) (lv' := [(4, .int (x4 + (1 : Int32))), (0, .ref (ad b)), (1, .int x1), (3, .int x3)]) hx hb dX9_compacted_201 hl (k := 3) rfl rfl (by decide) rfl (fun ls hl => ?_)
          refine lv_goto (tgt := 130) hx hb dX9_compacted_204 (by decide) ?_
          exact ih _ _ _ _ _ _ hW hB_st hF (lv_sub hl [1, 2, 3, 0] rfl) h
        · have h := it_f k_11 h
          refine lv_aload_n hx hb dX9_compacted_189 rfl (lv_at hl 0 rfl) ?_
          refine lv_iload_n hx hb dX9_compacted_190 rfl (lv_at hl 1 rfl) ?_
          refine lv_iload hx hb dX9_compacted_191 (lv_at hl 3 rfl) ?_
          refine lv_iconst (v := (1 : Int32)) hx hb dX9_compacted_193 (by decide) ?_
          refine lv_iadd hx hb dX9_compacted_194 ?_
          obtain ⟨st_12, hst_12, h⟩ := zb_e h
          refine k_callVv (rest := []) hE hW hl.1 (mX9_partGoes hB_st hst_12) hB_st.o hB_st.obj rfl q999 q1001 qs96 q10 q1002 hd_X9_partGoes ⟨Nat.le_of_ble_eq_true rfl, Nat.le_of_ble_eq_true rfl⟩ ⟨rfl, rfl⟩ rfl (Nat.le_of_ble_eq_true rfl) dX9_compacted_195 ⟨Nat.zero_le _, Nat.zero_le _⟩ (fun c1 H locs hP hW => ?_)
          obtain ⟨c, hB_st, hF, hW⟩ : ∃ c', MoB ct J ad c' b st_12 ∧ Fr c0 c' b 19 ∧ HW D J ad c' (aA J ad s.heap.size) s.heap H locs := ⟨c1, hP.1, hF.trans hP.2, hW⟩
          refine lv_goto (tgt := 130) hx hb dX9_compacted_198 (by decide) ?_
          exact ih _ _ _ _ _ _ hW hB_st hF (lv_sub hl [0, 1, 2, 3] rfl) h
set_option maxHeartbeats 4000000 in
set_option maxRecDepth 100000 in
theorem wX9_compacted_108 {p : Program} {l : Launch} {e : Env} {s : State} {m : MethodId} {args : Array Value} {below : List Frame} {meth : Method} {cd : Code} {D : va_G} {ct : Nat → ClassId} {J : List Nat} {ad : Nat → Nat} {c0 : CF} {b : Nat} (hE : ME p s m cd args D ct cX9_compacted RX9 6) (hr : meth.sig.returnType = (some .int)) (hlk : meth.locks = false) {x1 : Int32} {x2 : Int32} {r : Int32} {st9 : MS} {K21 : Int32 → Int32 → MS → Option (Int32 × MS)} (hK21 : ∀ (x3 : Int32) (x4 : Int32) (st : MS) (c : CF) (H : Heap) (locs : List Loc) (ls : Array Slot), HW D J ad c (aA J ad s.heap.size) s.heap H locs → MoB ct J ad c b st → Fr c0 c b 19 → lv_has ls 6 [(0, .ref (ad b)), (1, .int x1), (2, .int x2), (3, .int x3), (4, .int x4)] → K21 x3 x4 st = some (r, st9) → W p l e (rr 4 90) s m args below meth cd H locs 0 0 (MQ below (Qi D J ad s.heap.size r (fun c' => MoB ct J ad c' b st9 ∧ Fr c0 c' b 19)) args s 0 0 (aA J ad s.heap.size)) (F0 m 21 ls [])) : ∀ (x3 : Int32) (x4 : Int32) (st : MS) (c : CF) (H : Heap) (locs : List Loc) (ls : Array Slot), HW D J ad c (aA J ad s.heap.size) s.heap H locs → MoB ct J ad c b st → Fr c0 c b 19 → lv_has ls 6 [(0, .ref (ad b)), (1, .int x1), (2, .int x2), (3, .int x3), (4, .int x4)] → fX9_compacted_108 x1 x2 K21 x3 x4 st = some (r, st9) → W p l e (rr 4 90) s m args below meth cd H locs 0 0 (MQ below (Qi D J ad s.heap.size r (fun c' => MoB ct J ad c' b st9 ∧ Fr c0 c' b 19)) args s 0 0 (aA J ad s.heap.size)) (F0 m 108 ls []) := by
  have hx := hE.1
  have hb := hE.2.1
  intro x3 x4 st c H locs ls hW hB_st hF hl h
  rw [fX9_compacted_108] at h
  refine lv_aload_n hx hb dX9_compacted_108 rfl (lv_at hl 0 rfl) ?_
  refine lv_iload_n hx hb dX9_compacted_109 rfl (lv_at hl 1 rfl) ?_
  refine lv_iconst (v := (0 : Int32)) hx hb dX9_compacted_110 (by decide) ?_
  refine lv_iload hx hb dX9_compacted_111 (lv_at hl 4 rfl) ?_
  refine lv_iadd hx hb dX9_compacted_113 ?_
  refine lv_iconst (v := (0 : Int32)) hx hb dX9_compacted_114 (by decide) ?_
  obtain ⟨st_19, hst_19, h⟩ := zb_e h
  refine k_callVv (rest := []) hE hW hl.1 (mX9_sets hB_st hst_19) hB_st.o hB_st.obj rfl q864 q866 qs85 q10 q867 hd_X9_sets ⟨Nat.le_of_ble_eq_true rfl, Nat.le_of_ble_eq_true rfl⟩ ⟨rfl, rfl⟩ rfl (Nat.le_of_ble_eq_true rfl) dX9_compacted_115 ⟨Nat.zero_le _, Nat.zero_le _⟩ (fun c1 H locs hP hW => ?_)
  obtain ⟨c, hB_st, hF, hW⟩ : ∃ c', MoB ct J ad c' b st_19 ∧ Fr c0 c' b 19 ∧ HW D J ad c' (aA J ad s.heap.size) s.heap H locs := ⟨c1, hP.1, hF.trans hP.2, hW⟩
  refine lv_iinc (v := (x3 + (1 : Int32))) (lv' := [(3, .int (x3 + (1 : Int32))), (0, .ref (ad b)), (1, .int x1), (2, .int x2), (4, .int x4)]) hx hb dX9_compacted_118 hl (k := 3) rfl rfl (by decide) rfl (fun ls hl => ?_)
  refine lv_iinc (v := (x4 + (1 : Int32))) (lv' := [(4, .int (x4 + (1 : Int32))), (3, .int (x3 + (1 : Int32))), (0, .ref (ad b)), (1, .int x1), (2, .int x2)]) hx hb dX9_compacted_121 hl (k := 4) rfl rfl (by decide) rfl (fun ls hl => ?_)
  refine lv_goto (tgt := 21) hx hb dX9_compacted_124 (by decide) ?_
  exact hK21 _ _ _ _ _ _ _ hW hB_st hF (lv_sub hl [2, 3, 4, 1, 0] rfl) h
set_option maxHeartbeats 4000000 in
set_option maxRecDepth 100000 in
theorem wX9_compacted_91 {p : Program} {l : Launch} {e : Env} {s : State} {m : MethodId} {args : Array Value} {below : List Frame} {meth : Method} {cd : Code} {D : va_G} {ct : Nat → ClassId} {J : List Nat} {ad : Nat → Nat} {c0 : CF} {b : Nat} (hE : ME p s m cd args D ct cX9_compacted RX9 6) (hr : meth.sig.returnType = (some .int)) (hlk : meth.locks = false) {x1 : Int32} {x2 : Int32} {r : Int32} {st9 : MS} {K21 : Int32 → Int32 → MS → Option (Int32 × MS)} (hK21 : ∀ (x3 : Int32) (x4 : Int32) (st : MS) (c : CF) (H : Heap) (locs : List Loc) (ls : Array Slot), HW D J ad c (aA J ad s.heap.size) s.heap H locs → MoB ct J ad c b st → Fr c0 c b 19 → lv_has ls 6 [(0, .ref (ad b)), (1, .int x1), (2, .int x2), (3, .int x3), (4, .int x4)] → K21 x3 x4 st = some (r, st9) → W p l e (rr 4 90) s m args below meth cd H locs 0 0 (MQ below (Qi D J ad s.heap.size r (fun c' => MoB ct J ad c' b st9 ∧ Fr c0 c' b 19)) args s 0 0 (aA J ad s.heap.size)) (F0 m 21 ls [])) : ∀ (x3 : Int32) (x4 : Int32) (y0 : Int32) (st : MS) (c : CF) (H : Heap) (locs : List Loc) (ls : Array Slot), HW D J ad c (aA J ad s.heap.size) s.heap H locs → MoB ct J ad c b st → Fr c0 c b 19 → lv_has ls 6 [(0, .ref (ad b)), (1, .int x1), (2, .int x2), (3, .int x3), (4, .int x4)] → fX9_compacted_91 x1 x2 K21 x3 x4 y0 st = some (r, st9) → W p l e (rr 4 90) s m args below meth cd H locs 0 0 (MQ below (Qi D J ad s.heap.size r (fun c' => MoB ct J ad c' b st9 ∧ Fr c0 c' b 19)) args s 0 0 (aA J ad s.heap.size)) (F0 m 91 ls [.int y0]) := by
  have hx := hE.1
  have hb := hE.2.1
  intro x3 x4 y0 st c H locs ls hW hB_st hF hl h
  rw [fX9_compacted_91] at h
  refine lv_istore (lv' := [(5, .int y0), (0, .ref (ad b)), (1, .int x1), (2, .int x2), (3, .int x3), (4, .int x4)]) hx hb dX9_compacted_91 hl (by decide) rfl (fun ls hl => ?_)
  refine lv_aload_n hx hb dX9_compacted_93 rfl (lv_at hl 1 rfl) ?_
  refine lv_iload_n hx hb dX9_compacted_94 rfl (lv_at hl 2 rfl) ?_
  refine lv_iload hx hb dX9_compacted_95 (lv_at hl 5 rfl) ?_
  obtain ⟨r_17, hr_17, h⟩ := zb_e h
  refine k_callVi (rest := []) hE hW hl.1 (mX9_hasLater hB_st hr_17) hB_st.o hB_st.obj rfl q995 q997 qs95 q10 q998 hd_X9_hasLater ⟨Nat.le_of_ble_eq_true rfl, Nat.le_of_ble_eq_true rfl⟩ ⟨rfl, rfl⟩ rfl (Nat.le_of_ble_eq_true rfl) dX9_compacted_97 ⟨Nat.zero_le _, Nat.zero_le _⟩ (fun c1 H locs hP hW => ?_)
  rw [hP] at hW
  refine lv_if_ne (tgt := 108) hx hb dX9_compacted_100 (by decide) (fun k_18 => ?_) (fun k_18 => ?_)
  · have h := it_f k_18 h
    exact wX9_compacted_108 hE hr hlk hK21 _ _ _ _ _ _ _ hW hB_st hF (lv_sub hl [1, 2, 3, 4, 5] rfl) h
  · have h := it_t k_18 h
    refine lv_iload hx hb dX9_compacted_103 (lv_at hl 0 rfl) ?_
    refine lv_if_eq (tgt := 121) hx hb dX9_compacted_105 (by decide) (fun k_20 => ?_) (fun k_20 => ?_)
    · have h := it_t k_20 h
      refine lv_iinc (v := (x4 + (1 : Int32))) (lv' := [(4, .int (x4 + (1 : Int32))), (5, .int y0), (0, .ref (ad b)), (1, .int x1), (2, .int x2), (3, .int x3)]) hx hb dX9_compacted_121 hl (k := 5) rfl rfl (by decide) rfl (fun ls hl => ?_)
      refine lv_goto (tgt := 21) hx hb dX9_compacted_124 (by decide) ?_
      exact hK21 _ _ _ _ _ _ _ hW hB_st hF (lv_sub hl [2, 3, 4, 5, 0] rfl) h
    · have h := it_f k_20 h
      exact wX9_compacted_108 hE hr hlk hK21 _ _ _ _ _ _ _ hW hB_st hF (lv_sub hl [1, 2, 3, 4, 5] rfl) h
set_option maxHeartbeats 4000000 in
set_option maxRecDepth 100000 in
theorem wX9_compacted_90 {p : Program} {l : Launch} {e : Env} {s : State} {m : MethodId} {args : Array Value} {below : List Frame} {meth : Method} {cd : Code} {D : va_G} {ct : Nat → ClassId} {J : List Nat} {ad : Nat → Nat} {c0 : CF} {b : Nat} (hE : ME p s m cd args D ct cX9_compacted RX9 6) (hr : meth.sig.returnType = (some .int)) (hlk : meth.locks = false) {x1 : Int32} {x2 : Int32} {r : Int32} {st9 : MS} {K21 : Int32 → Int32 → MS → Option (Int32 × MS)} (hK21 : ∀ (x3 : Int32) (x4 : Int32) (st : MS) (c : CF) (H : Heap) (locs : List Loc) (ls : Array Slot), HW D J ad c (aA J ad s.heap.size) s.heap H locs → MoB ct J ad c b st → Fr c0 c b 19 → lv_has ls 6 [(0, .ref (ad b)), (1, .int x1), (2, .int x2), (3, .int x3), (4, .int x4)] → K21 x3 x4 st = some (r, st9) → W p l e (rr 4 90) s m args below meth cd H locs 0 0 (MQ below (Qi D J ad s.heap.size r (fun c' => MoB ct J ad c' b st9 ∧ Fr c0 c' b 19)) args s 0 0 (aA J ad s.heap.size)) (F0 m 21 ls [])) : ∀ (x3 : Int32) (x4 : Int32) (st : MS) (c : CF) (H : Heap) (locs : List Loc) (ls : Array Slot), HW D J ad c (aA J ad s.heap.size) s.heap H locs → MoB ct J ad c b st → Fr c0 c b 19 → lv_has ls 6 [(0, .ref (ad b)), (1, .int x1), (2, .int x2), (3, .int x3), (4, .int x4)] → fX9_compacted_90 x1 x2 K21 x3 x4 st = some (r, st9) → W p l e (rr 4 90) s m args below meth cd H locs 0 0 (MQ below (Qi D J ad s.heap.size r (fun c' => MoB ct J ad c' b st9 ∧ Fr c0 c' b 19)) args s 0 0 (aA J ad s.heap.size)) (F0 m 90 ls []) := by
  have hx := hE.1
  have hb := hE.2.1
  intro x3 x4 st c H locs ls hW hB_st hF hl h
  rw [fX9_compacted_90] at h
  refine lv_iconst (v := (0 : Int32)) hx hb dX9_compacted_90 (by decide) ?_
  exact wX9_compacted_91 hE hr hlk hK21 _ _ _ _ _ _ _ _ hW hB_st hF (lv_sub hl [0, 1, 2, 3, 4] rfl) h
set_option maxHeartbeats 4000000 in
set_option maxRecDepth 100000 in
theorem wX9_compacted_21 {p : Program} {l : Launch} {e : Env} {s : State} {m : MethodId} {args : Array Value} {below : List Frame} {meth : Method} {cd : Code} {D : va_G} {ct : Nat → ClassId} {J : List Nat} {ad : Nat → Nat} {c0 : CF} {b : Nat} (hE : ME p s m cd args D ct cX9_compacted RX9 6) (hr : meth.sig.returnType = (some .int)) (hlk : meth.locks = false) {x1 : Int32} {x2 : Int32} {r : Int32} {st9 : MS} : ∀ (n : Nat) (x3 : Int32) (x4 : Int32) (st : MS) (c : CF) (H : Heap) (locs : List Loc) (ls : Array Slot), HW D J ad c (aA J ad s.heap.size) s.heap H locs → MoB ct J ad c b st → Fr c0 c b 19 → lv_has ls 6 [(0, .ref (ad b)), (1, .int x1), (2, .int x2), (3, .int x3), (4, .int x4)] → fX9_compacted_21 x1 x2 n x3 x4 st = some (r, st9) → W p l e (rr 4 90) s m args below meth cd H locs 0 0 (MQ below (Qi D J ad s.heap.size r (fun c' => MoB ct J ad c' b st9 ∧ Fr c0 c' b 19)) args s 0 0 (aA J ad s.heap.size)) (F0 m 21 ls []) := by
  have hx := hE.1
  have hb := hE.2.1
  intro n
  induction n with
  | zero =>
    intro x3 x4 st c H locs ls hW hB_st hF hl h
    have h2 : (none : Option (Int32 × MS)) = some (r, st9) := h
    cases h2
  | succ n ih =>
    intro x3 x4 st c H locs ls hW hB_st hF hl h
    rw [fX9_compacted_21] at h
    refine lv_iload hx hb dX9_compacted_21 (lv_at hl 4 rfl) ?_
    refine lv_iload_n hx hb dX9_compacted_23 rfl (lv_at hl 2 rfl) ?_
    refine lv_icmp_ge (tgt := 127) hx hb dX9_compacted_24 (by decide) (fun k_3 => ?_) (fun k_3 => ?_)
    · have h := it_t k_3 h
      refine lv_iconst (v := (0 : Int32)) hx hb dX9_compacted_127 (by decide) ?_
      refine lv_istore (lv' := [(4, .int (0 : Int32)), (0, .ref (ad b)), (1, .int x1), (2, .int x2), (3, .int x3)]) hx hb dX9_compacted_128 hl (by decide) rfl (fun ls hl => ?_)
      exact wX9_compacted_130 hE hr hlk _ _ _ _ _ _ _ hW hB_st hF (lv_sub hl [1, 2, 4, 0] rfl) h
    · have h := it_f k_3 h
      refine lv_aload_n hx hb dX9_compacted_27 rfl (lv_at hl 0 rfl) ?_
      refine lv_iload_n hx hb dX9_compacted_28 rfl (lv_at hl 1 rfl) ?_
      refine lv_iconst (v := (0 : Int32)) hx hb dX9_compacted_29 (by decide) ?_
      refine lv_iload hx hb dX9_compacted_30 (lv_at hl 4 rfl) ?_
      refine lv_iadd hx hb dX9_compacted_32 ?_
      obtain ⟨r_13, hr_13, h⟩ := zb_e h
      refine k_callVi (rest := []) hE hW hl.1 (mX9_at hB_st hr_13) hB_st.o hB_st.obj rfl q934 q936 qs87 q10 q937 hd_X9_at ⟨Nat.le_of_ble_eq_true rfl, Nat.le_of_ble_eq_true rfl⟩ ⟨rfl, rfl⟩ rfl (Nat.le_of_ble_eq_true rfl) dX9_compacted_33 ⟨Nat.zero_le _, Nat.zero_le _⟩ (fun c1 H locs hP hW => ?_)
      rw [hP] at hW
      refine lv_iconst (v := (1 : Int32)) hx hb dX9_compacted_36 (by decide) ?_
      refine lv_icmp_ne (tgt := 121) hx hb dX9_compacted_37 (by decide) (fun k_14 => ?_) (fun k_14 => ?_)
      · have h := it_f k_14 h
        refine lv_iinc (v := (x4 + (1 : Int32))) (lv' := [(4, .int (x4 + (1 : Int32))), (0, .ref (ad b)), (1, .int x1), (2, .int x2), (3, .int x3)]) hx hb dX9_compacted_121 hl (k := 4) rfl rfl (by decide) rfl (fun ls hl => ?_)
        refine lv_goto (tgt := 21) hx hb dX9_compacted_124 (by decide) ?_
        exact ih _ _ _ _ _ _ _ hW hB_st hF (lv_sub hl [1, 2, 3, 4, 0] rfl) h
      · have h := it_t k_14 h
        refine lv_aload_n hx hb dX9_compacted_40 rfl (lv_at hl 0 rfl) ?_
        refine lv_iload_n hx hb dX9_compacted_41 rfl (lv_at hl 1 rfl) ?_
        refine lv_sipush (v := (800 : Int32)) hx hb dX9_compacted_42 (by decide) ?_
        refine lv_iload hx hb dX9_compacted_45 (lv_at hl 4 rfl) ?_
        refine lv_iadd hx hb dX9_compacted_47 ?_
        obtain ⟨r_15, hr_15, h⟩ := zb_e h
        refine k_callVi (rest := []) hE hW hl.1 (mX9_at hB_st hr_15) hB_st.o hB_st.obj rfl q934 q936 qs87 q10 q937 hd_X9_at ⟨Nat.le_of_ble_eq_true rfl, Nat.le_of_ble_eq_true rfl⟩ ⟨rfl, rfl⟩ rfl (Nat.le_of_ble_eq_true rfl) dX9_compacted_48 ⟨Nat.zero_le _, Nat.zero_le _⟩ (fun c1 H locs hP hW => ?_)
        rw [hP] at hW
        refine lv_iconst (v := (1 : Int32)) hx hb dX9_compacted_51 (by decide) ?_
        refine lv_icmp_ne (tgt := 90) hx hb dX9_compacted_52 (by decide) (fun k_16 => ?_) (fun k_16 => ?_)
        · have h := it_f k_16 h
          exact wX9_compacted_90 hE hr hlk ih _ _ _ _ _ _ _ hW hB_st hF (lv_sub hl [0, 1, 2, 3, 4] rfl) h
        · have h := it_t k_16 h
          refine lv_aload_n hx hb dX9_compacted_55 rfl (lv_at hl 0 rfl) ?_
          refine k_get (v := .ref (ad (b + 1 + 0))) hE hW hB_st.o hB_st.obj rfl inX9 0 (by decide) q868 rfl dX9_compacted_56 ?_
          refine lv_sipush (v := (5096 : Int32)) hx hb dX9_compacted_59 (by decide) ?_
          obtain ⟨g_21, h⟩ := zi_e h
          refine k_iald hE hW (hB_st.memA 0 (Nat.le_of_ble_eq_true rfl)) (hB_st.arr 0 rfl) g_21 dX9_compacted_62 ?_
          refine lv_aload_n hx hb dX9_compacted_63 rfl (lv_at hl 0 rfl) ?_
          refine lv_iload_n hx hb dX9_compacted_64 rfl (lv_at hl 1 rfl) ?_
          refine lv_sipush (v := (400 : Int32)) hx hb dX9_compacted_65 (by decide) ?_
          refine lv_iload hx hb dX9_compacted_68 (lv_at hl 4 rfl) ?_
          refine lv_iadd hx hb dX9_compacted_70 ?_
          obtain ⟨r_22, hr_22, h⟩ := zb_e h
          refine k_callVi (rest := [.int (st.1 0 (5096 : Int32).toNatClampNeg)]) hE hW hl.1 (mX9_at hB_st hr_22) hB_st.o hB_st.obj rfl q934 q936 qs87 q10 q937 hd_X9_at ⟨Nat.le_of_ble_eq_true rfl, Nat.le_of_ble_eq_true rfl⟩ ⟨rfl, rfl⟩ rfl (Nat.le_of_ble_eq_true rfl) dX9_compacted_71 ⟨Nat.zero_le _, Nat.zero_le _⟩ (fun c1 H locs hP hW => ?_)
          rw [hP] at hW
          refine lv_isub hx hb dX9_compacted_74 ?_
          refine lv_aload_n hx hb dX9_compacted_75 rfl (lv_at hl 0 rfl) ?_
          refine k_get (v := .ref (ad (b + 1 + 0))) hE hW hB_st.o hB_st.obj rfl inX9 0 (by decide) q868 rfl dX9_compacted_76 ?_
          refine lv_sipush (v := (5097 : Int32)) hx hb dX9_compacted_79 (by decide) ?_
          obtain ⟨g_23, h⟩ := zi_e h
          refine k_iald hE hW (hB_st.memA 0 (Nat.le_of_ble_eq_true rfl)) (hB_st.arr 0 rfl) g_23 dX9_compacted_82 ?_
          refine lv_icmp_lt (tgt := 90) hx hb dX9_compacted_83 (by decide) (fun k_24 => ?_) (fun k_24 => ?_)
          · have h := it_t k_24 h
            exact wX9_compacted_90 hE hr hlk ih _ _ _ _ _ _ _ hW hB_st hF (lv_sub hl [0, 1, 2, 3, 4] rfl) h
          · have h := it_f k_24 h
            refine lv_iconst (v := (1 : Int32)) hx hb dX9_compacted_86 (by decide) ?_
            refine lv_goto (tgt := 91) hx hb dX9_compacted_87 (by decide) ?_
            exact wX9_compacted_91 hE hr hlk ih _ _ _ _ _ _ _ _ hW hB_st hF (lv_sub hl [0, 1, 2, 3, 4] rfl) h
set_option maxHeartbeats 4000000 in
set_option maxRecDepth 100000 in
theorem mX9_compacted {l : Launch} {D : va_G} {ct : Nat → ClassId} {J : List Nat} {ad : Nat → Nat} {c0 : CF} {a1 : Int32} {b : Nat} {st : MS} (hB_st : MoB ct J ad c0 b st) {r : Int32} {st9 : MS} (h : fX9_compacted  a1 st = some (r, st9)) : Mi l D ct J ad yX9_compacted cX9_compacted 6 (some .int) (rr 4 90) [.ref (ad b), .int a1] c0 r (fun c' => MoB ct J ad c' b st9 ∧ Fr c0 c' b 19) := by
  refine Mi_of (own := RX9) (by decide) rfl (Nat.le_of_ble_eq_true rfl) (fun p e s m below meth cd hE hr hlk hW ls hl => ?_)
  have hx := hE.1
  have hb := hE.2.1
  have hl : lv_has ls 6 [(0, .ref (ad b)), (1, .int a1)] := hl
  rw [fX9_compacted] at h
  obtain ⟨c, hB_st, hF, hW⟩ : ∃ c', MoB ct J ad c' b st ∧ Fr c0 c' b 19 ∧ HW D J ad c' (aA J ad s.heap.size) s.heap s.heap [] := ⟨c0, hB_st, Fr.rf, hW⟩
  refine lv_aload_n hx hb dX9_compacted_0 rfl (lv_at hl 0 rfl) ?_
  refine lv_iload_n hx hb dX9_compacted_1 rfl (lv_at hl 1 rfl) ?_
  refine lv_aload_n hx hb dX9_compacted_2 rfl (lv_at hl 0 rfl) ?_
  refine lv_iload_n hx hb dX9_compacted_3 rfl (lv_at hl 1 rfl) ?_
  refine lv_sipush (v := (1270 : Int32)) hx hb dX9_compacted_4 (by decide) ?_
  obtain ⟨r_1, hr_1, h⟩ := zb_e h
  refine k_callVi (rest := [.int a1, .ref (ad b)]) hE hW hl.1 (mX9_at hB_st hr_1) hB_st.o hB_st.obj rfl q934 q936 qs87 q10 q937 hd_X9_at ⟨Nat.le_of_ble_eq_true rfl, Nat.le_of_ble_eq_true rfl⟩ ⟨rfl, rfl⟩ rfl (Nat.le_of_ble_eq_true rfl) dX9_compacted_7 ⟨Nat.zero_le _, Nat.zero_le _⟩ (fun c1 H locs hP hW => ?_)
  rw [hP] at hW
  refine lv_iconst (v := (1 : Int32)) hx hb dX9_compacted_10 (by decide) ?_
  refine lv_isub hx hb dX9_compacted_11 ?_
  obtain ⟨r_2, hr_2, h⟩ := zb_e h
  refine k_callVi (rest := []) hE hW hl.1 (mX9_base hB_st hr_2) hB_st.o hB_st.obj rfl q959 q961 qs90 q10 q962 hd_X9_base ⟨Nat.le_of_ble_eq_true rfl, Nat.le_of_ble_eq_true rfl⟩ ⟨rfl, rfl⟩ rfl (Nat.le_of_ble_eq_true rfl) dX9_compacted_12 ⟨Nat.zero_le _, Nat.zero_le _⟩ (fun c1 H locs hP hW => ?_)
  rw [hP] at hW
  refine lv_istore_n (lv' := [(2, .int r_2), (0, .ref (ad b)), (1, .int a1)]) hx hb dX9_compacted_15 rfl hl (by decide) rfl (fun ls hl => ?_)
  refine lv_iconst (v := (0 : Int32)) hx hb dX9_compacted_16 (by decide) ?_
  refine lv_istore_n (lv' := [(3, .int (0 : Int32)), (2, .int r_2), (0, .ref (ad b)), (1, .int a1)]) hx hb dX9_compacted_17 rfl hl (by decide) rfl (fun ls hl => ?_)
  refine lv_iconst (v := (0 : Int32)) hx hb dX9_compacted_18 (by decide) ?_
  refine lv_istore (lv' := [(4, .int (0 : Int32)), (3, .int (0 : Int32)), (2, .int r_2), (0, .ref (ad b)), (1, .int a1)]) hx hb dX9_compacted_19 hl (by decide) rfl (fun ls hl => ?_)
  exact wX9_compacted_21 hE hr hlk _ _ _ _ _ _ _ _ hW hB_st hF (lv_sub hl [3, 4, 2, 1, 0] rfl) h
set_option maxHeartbeats 4000000 in
set_option maxRecDepth 100000 in
theorem wX9_isOld_10 {p : Program} {l : Launch} {e : Env} {s : State} {m : MethodId} {args : Array Value} {below : List Frame} {meth : Method} {cd : Code} {D : va_G} {ct : Nat → ClassId} {J : List Nat} {ad : Nat → Nat} {c0 : CF} {b : Nat} (hE : ME p s m cd args D ct cX9_isOld RX9 4) (hr : meth.sig.returnType = (some .boolean)) (hlk : meth.locks = false) {x1 : Int32} {st : MS} (hB_st : MoB ct J ad c0 b st) {r : Int32} : ∀ (n : Nat) (x2 : Int32) (x3 : Int32) (H : Heap) (locs : List Loc) (ls : Array Slot), HW D J ad c0 (aA J ad s.heap.size) s.heap H locs → lv_has ls 4 [(0, .ref (ad b)), (1, .int x1), (2, .int x2), (3, .int x3)] → fX9_isOld_10 x1 st n x2 x3 = some r → W p l e (rr 3 66) s m args below meth cd H locs 0 0 (MQ below (Qi D J ad s.heap.size r (fun c' => c' = c0)) args s 0 0 (aA J ad s.heap.size)) (F0 m 10 ls []) := by
  have hx := hE.1
  have hb := hE.2.1
  intro n
  induction n with
  | zero =>
    intro x2 x3 H locs ls hW hl h
    have h2 : (none : Option Int32) = some r := h
    cases h2
  | succ n ih =>
    intro x2 x3 H locs ls hW hl h
    rw [fX9_isOld_10] at h
    refine lv_iload_n hx hb dX9_isOld_10 rfl (lv_at hl 3 rfl) ?_
    refine lv_aload_n hx hb dX9_isOld_11 rfl (lv_at hl 0 rfl) ?_
    refine lv_iload_n hx hb dX9_isOld_12 rfl (lv_at hl 1 rfl) ?_
    refine lv_iconst (v := (0 : Int32)) hx hb dX9_isOld_13 (by decide) ?_
    obtain ⟨r_2, hr_2, h⟩ := zb_e h
    refine k_callVi (rest := [.int x3]) hE hW hl.1 (mX9_endOf hB_st hr_2) hB_st.o hB_st.obj rfl q963 q965 qs91 q10 q966 hd_X9_endOf ⟨Nat.le_of_ble_eq_true rfl, Nat.le_of_ble_eq_true rfl⟩ ⟨rfl, rfl⟩ rfl (Nat.le_of_ble_eq_true rfl) dX9_isOld_14 ⟨Nat.zero_le _, Nat.zero_le _⟩ (fun c1 H locs hP hW => ?_)
    rw [hP] at hW
    refine lv_icmp_ge (tgt := 67) hx hb dX9_isOld_17 (by decide) (fun k_3 => ?_) (fun k_3 => ?_)
    · have h := it_t k_3 h
      refine lv_iload_n hx hb dX9_isOld_67 rfl (lv_at hl 2 rfl) ?_
      refine lv_aload_n hx hb dX9_isOld_68 rfl (lv_at hl 0 rfl) ?_
      refine k_get (v := .ref (ad (b + 1 + 0))) hE hW hB_st.o hB_st.obj rfl inX9 0 (by decide) q868 rfl dX9_isOld_69 ?_
      refine lv_sipush (v := (5096 : Int32)) hx hb dX9_isOld_72 (by decide) ?_
      obtain ⟨g_4, h⟩ := zi_e h
      refine k_iald hE hW (hB_st.memA 0 (Nat.le_of_ble_eq_true rfl)) (hB_st.arr 0 rfl) g_4 dX9_isOld_75 ?_
      refine lv_aload_n hx hb dX9_isOld_76 rfl (lv_at hl 0 rfl) ?_
      refine k_get (v := .ref (ad (b + 1 + 0))) hE hW hB_st.o hB_st.obj rfl inX9 0 (by decide) q868 rfl dX9_isOld_77 ?_
      refine lv_sipush (v := (5099 : Int32)) hx hb dX9_isOld_80 (by decide) ?_
      obtain ⟨g_5, h⟩ := zi_e h
      refine k_iald hE hW (hB_st.memA 0 (Nat.le_of_ble_eq_true rfl)) (hB_st.arr 0 rfl) g_5 dX9_isOld_83 ?_
      refine lv_isub hx hb dX9_isOld_84 ?_
      refine lv_icmp_ge (tgt := 92) hx hb dX9_isOld_85 (by decide) (fun k_6 => ?_) (fun k_6 => ?_)
      · have h := it_t k_6 h
        refine lv_iconst (v := (0 : Int32)) hx hb dX9_isOld_92 (by decide) ?_
        obtain rfl := Option.some.inj h
        exact k_zret hE hr hlk hW rfl rfl rfl dX9_isOld_93
      · have h := it_f k_6 h
        refine lv_iconst (v := (1 : Int32)) hx hb dX9_isOld_88 (by decide) ?_
        refine lv_goto (tgt := 93) hx hb dX9_isOld_89 (by decide) ?_
        obtain rfl := Option.some.inj h
        exact k_zret hE hr hlk hW rfl rfl rfl dX9_isOld_93
    · have h := it_f k_3 h
      refine lv_aload_n hx hb dX9_isOld_20 rfl (lv_at hl 0 rfl) ?_
      refine lv_iload_n hx hb dX9_isOld_21 rfl (lv_at hl 1 rfl) ?_
      refine lv_iconst (v := (0 : Int32)) hx hb dX9_isOld_22 (by decide) ?_
      refine lv_iload_n hx hb dX9_isOld_23 rfl (lv_at hl 3 rfl) ?_
      refine lv_iadd hx hb dX9_isOld_24 ?_
      obtain ⟨r_7, hr_7, h⟩ := zb_e h
      refine k_callVi (rest := []) hE hW hl.1 (mX9_at hB_st hr_7) hB_st.o hB_st.obj rfl q934 q936 qs87 q10 q937 hd_X9_at ⟨Nat.le_of_ble_eq_true rfl, Nat.le_of_ble_eq_true rfl⟩ ⟨rfl, rfl⟩ rfl (Nat.le_of_ble_eq_true rfl) dX9_isOld_25 ⟨Nat.zero_le _, Nat.zero_le _⟩ (fun c1 H locs hP hW => ?_)
      rw [hP] at hW
      refine lv_iconst (v := (1 : Int32)) hx hb dX9_isOld_28 (by decide) ?_
      refine lv_icmp_ne (tgt := 59) hx hb dX9_isOld_29 (by decide) (fun k_8 => ?_) (fun k_8 => ?_)
      · have h := it_f k_8 h
        refine lv_iload_n hx hb dX9_isOld_59 rfl (lv_at hl 2 rfl) ?_
        refine lv_istore_n (lv' := [(2, .int x2), (0, .ref (ad b)), (1, .int x1), (3, .int x3)]) hx hb dX9_isOld_60 rfl hl (by decide) rfl (fun ls hl => ?_)
        refine lv_iinc (v := (x3 + (1 : Int32))) (lv' := [(3, .int (x3 + (1 : Int32))), (2, .int x2), (0, .ref (ad b)), (1, .int x1)]) hx hb dX9_isOld_61 hl (k := 3) rfl rfl (by decide) rfl (fun ls hl => ?_)
        refine lv_goto (tgt := 10) hx hb dX9_isOld_64 (by decide) ?_
        exact ih _ _ _ _ _ hW (lv_sub hl [2, 3, 1, 0] rfl) h
      · have h := it_t k_8 h
        refine lv_aload_n hx hb dX9_isOld_32 rfl (lv_at hl 0 rfl) ?_
        refine lv_iload_n hx hb dX9_isOld_33 rfl (lv_at hl 1 rfl) ?_
        refine lv_sipush (v := (400 : Int32)) hx hb dX9_isOld_34 (by decide) ?_
        refine lv_iload_n hx hb dX9_isOld_37 rfl (lv_at hl 3 rfl) ?_
        refine lv_iadd hx hb dX9_isOld_38 ?_
        obtain ⟨r_9, hr_9, h⟩ := zb_e h
        refine k_callVi (rest := []) hE hW hl.1 (mX9_at hB_st hr_9) hB_st.o hB_st.obj rfl q934 q936 qs87 q10 q937 hd_X9_at ⟨Nat.le_of_ble_eq_true rfl, Nat.le_of_ble_eq_true rfl⟩ ⟨rfl, rfl⟩ rfl (Nat.le_of_ble_eq_true rfl) dX9_isOld_39 ⟨Nat.zero_le _, Nat.zero_le _⟩ (fun c1 H locs hP hW => ?_)
        rw [hP] at hW
        refine lv_iload_n hx hb dX9_isOld_42 rfl (lv_at hl 2 rfl) ?_
        refine lv_icmp_le (tgt := 59) hx hb dX9_isOld_43 (by decide) (fun k_10 => ?_) (fun k_10 => ?_)
        · have h := it_t k_10 h
          refine lv_iload_n hx hb dX9_isOld_59 rfl (lv_at hl 2 rfl) ?_
          refine lv_istore_n (lv' := [(2, .int x2), (0, .ref (ad b)), (1, .int x1), (3, .int x3)]) hx hb dX9_isOld_60 rfl hl (by decide) rfl (fun ls hl => ?_)
          refine lv_iinc (v := (x3 + (1 : Int32))) (lv' := [(3, .int (x3 + (1 : Int32))), (2, .int x2), (0, .ref (ad b)), (1, .int x1)]) hx hb dX9_isOld_61 hl (k := 3) rfl rfl (by decide) rfl (fun ls hl => ?_)
          refine lv_goto (tgt := 10) hx hb dX9_isOld_64 (by decide) ?_
          exact ih _ _ _ _ _ hW (lv_sub hl [2, 3, 1, 0] rfl) h
        · have h := it_f k_10 h
          refine lv_aload_n hx hb dX9_isOld_46 rfl (lv_at hl 0 rfl) ?_
          refine lv_iload_n hx hb dX9_isOld_47 rfl (lv_at hl 1 rfl) ?_
          refine lv_sipush (v := (400 : Int32)) hx hb dX9_isOld_48 (by decide) ?_
          refine lv_iload_n hx hb dX9_isOld_51 rfl (lv_at hl 3 rfl) ?_
          refine lv_iadd hx hb dX9_isOld_52 ?_
          obtain ⟨r_11, hr_11, h⟩ := zb_e h
          refine k_callVi (rest := []) hE hW hl.1 (mX9_at hB_st hr_11) hB_st.o hB_st.obj rfl q934 q936 qs87 q10 q937 hd_X9_at ⟨Nat.le_of_ble_eq_true rfl, Nat.le_of_ble_eq_true rfl⟩ ⟨rfl, rfl⟩ rfl (Nat.le_of_ble_eq_true rfl) dX9_isOld_53 ⟨Nat.zero_le _, Nat.zero_le _⟩ (fun c1 H locs hP hW => ?_)
          rw [hP] at hW
          refine lv_goto (tgt := 60) hx hb dX9_isOld_56 (by decide) ?_
          refine lv_istore_n (lv' := [(2, .int r_11), (0, .ref (ad b)), (1, .int x1), (3, .int x3)]) hx hb dX9_isOld_60 rfl hl (by decide) rfl (fun ls hl => ?_)
          refine lv_iinc (v := (x3 + (1 : Int32))) (lv' := [(3, .int (x3 + (1 : Int32))), (2, .int r_11), (0, .ref (ad b)), (1, .int x1)]) hx hb dX9_isOld_61 hl (k := 3) rfl rfl (by decide) rfl (fun ls hl => ?_)
          refine lv_goto (tgt := 10) hx hb dX9_isOld_64 (by decide) ?_
          exact ih _ _ _ _ _ hW (lv_sub hl [2, 3, 1, 0] rfl) h
set_option maxHeartbeats 4000000 in
set_option maxRecDepth 100000 in
theorem mX9_isOld {l : Launch} {D : va_G} {ct : Nat → ClassId} {J : List Nat} {ad : Nat → Nat} {c0 : CF} {a1 : Int32} {b : Nat} {st : MS} (hB_st : MoB ct J ad c0 b st) {r : Int32} (h : fX9_isOld  a1 st = some r) : Mi l D ct J ad yX9_isOld cX9_isOld 4 (some .boolean) (rr 3 66) [.ref (ad b), .int a1] c0 r (fun c' => c' = c0) := by
  refine Mi_of (own := RX9) (by decide) rfl (Nat.le_of_ble_eq_true rfl) (fun p e s m below meth cd hE hr hlk hW ls hl => ?_)
  have hx := hE.1
  have hb := hE.2.1
  have hl : lv_has ls 4 [(0, .ref (ad b)), (1, .int a1)] := hl
  rw [fX9_isOld] at h
  refine lv_ldc (v := (-2147483648 : Int32)) hx hb hE.2.2.2.1 (hE.2.2.2.2.1 _ q1015) dX9_isOld_0 ?_
  refine lv_istore_n (lv' := [(2, .int (-2147483648 : Int32)), (0, .ref (ad b)), (1, .int a1)]) hx hb dX9_isOld_2 rfl hl (by decide) rfl (fun ls hl => ?_)
  refine lv_aload_n hx hb dX9_isOld_3 rfl (lv_at hl 1 rfl) ?_
  refine lv_iload_n hx hb dX9_isOld_4 rfl (lv_at hl 2 rfl) ?_
  refine lv_iconst (v := (0 : Int32)) hx hb dX9_isOld_5 (by decide) ?_
  obtain ⟨r_1, hr_1, h⟩ := zb_e h
  refine k_callVi (rest := []) hE hW hl.1 (mX9_base hB_st hr_1) hB_st.o hB_st.obj rfl q959 q961 qs90 q10 q962 hd_X9_base ⟨Nat.le_of_ble_eq_true rfl, Nat.le_of_ble_eq_true rfl⟩ ⟨rfl, rfl⟩ rfl (Nat.le_of_ble_eq_true rfl) dX9_isOld_6 ⟨Nat.zero_le _, Nat.zero_le _⟩ (fun c1 H locs hP hW => ?_)
  rw [hP] at hW
  refine lv_istore_n (lv' := [(3, .int r_1), (2, .int (-2147483648 : Int32)), (0, .ref (ad b)), (1, .int a1)]) hx hb dX9_isOld_9 rfl hl (by decide) rfl (fun ls hl => ?_)
  exact wX9_isOld_10 hE hr hlk hB_st _ _ _ _ _ _ hW (lv_sub hl [2, 3, 1, 0] rfl) h
set_option maxHeartbeats 4000000 in
set_option maxRecDepth 100000 in
theorem wX9_retained_67 {p : Program} {l : Launch} {e : Env} {s : State} {m : MethodId} {args : Array Value} {below : List Frame} {meth : Method} {cd : Code} {D : va_G} {ct : Nat → ClassId} {J : List Nat} {ad : Nat → Nat} {c0 : CF} {b : Nat} (hE : ME p s m cd args D ct cX9_retained RX9 4) (hr : meth.sig.returnType = (some .int)) (hlk : meth.locks = false) {x1 : Int32} {x2 : Int32} {r : Int32} {st9 : MS} {K2 : Int32 → MS → Option (Int32 × MS)} (hK2 : ∀ (x2 : Int32) (st : MS) (c : CF) (H : Heap) (locs : List Loc) (ls : Array Slot), HW D J ad c (aA J ad s.heap.size) s.heap H locs → MoB ct J ad c b st → Fr c0 c b 19 → lv_has ls 4 [(0, .ref (ad b)), (1, .int x1), (2, .int x2)] → K2 x2 st = some (r, st9) → W p l e (rr 4 90) s m args below meth cd H locs 0 0 (MQ below (Qi D J ad s.heap.size r (fun c' => MoB ct J ad c' b st9 ∧ Fr c0 c' b 19)) args s 0 0 (aA J ad s.heap.size)) (F0 m 2 ls [])) : ∀ (n : Nat) (x3 : Int32) (st : MS) (c : CF) (H : Heap) (locs : List Loc) (ls : Array Slot), HW D J ad c (aA J ad s.heap.size) s.heap H locs → MoB ct J ad c b st → Fr c0 c b 19 → lv_has ls 4 [(0, .ref (ad b)), (1, .int x1), (2, .int x2), (3, .int x3)] → fX9_retained_67 x1 x2 K2 n x3 st = some (r, st9) → W p l e (rr 4 90) s m args below meth cd H locs 0 0 (MQ below (Qi D J ad s.heap.size r (fun c' => MoB ct J ad c' b st9 ∧ Fr c0 c' b 19)) args s 0 0 (aA J ad s.heap.size)) (F0 m 67 ls []) := by
  have hx := hE.1
  have hb := hE.2.1
  intro n
  induction n with
  | zero =>
    intro x3 st c H locs ls hW hB_st hF hl h
    have h2 : (none : Option (Int32 × MS)) = some (r, st9) := h
    cases h2
  | succ n ih =>
    intro x3 st c H locs ls hW hB_st hF hl h
    rw [fX9_retained_67] at h
    refine lv_iload_n hx hb dX9_retained_67 rfl (lv_at hl 3 rfl) ?_
    refine lv_aload_n hx hb dX9_retained_68 rfl (lv_at hl 0 rfl) ?_
    refine lv_iload_n hx hb dX9_retained_69 rfl (lv_at hl 1 rfl) ?_
    refine lv_iconst (v := (0 : Int32)) hx hb dX9_retained_70 (by decide) ?_
    obtain ⟨r_8, hr_8, h⟩ := zb_e h
    refine k_callVi (rest := [.int x3]) hE hW hl.1 (mX9_endOf hB_st hr_8) hB_st.o hB_st.obj rfl q963 q965 qs91 q10 q966 hd_X9_endOf ⟨Nat.le_of_ble_eq_true rfl, Nat.le_of_ble_eq_true rfl⟩ ⟨rfl, rfl⟩ rfl (Nat.le_of_ble_eq_true rfl) dX9_retained_71 ⟨Nat.zero_le _, Nat.zero_le _⟩ (fun c1 H locs hP hW => ?_)
    rw [hP] at hW
    refine lv_icmp_ge (tgt := 92) hx hb dX9_retained_74 (by decide) (fun k_9 => ?_) (fun k_9 => ?_)
    · have h := it_t k_9 h
      refine lv_aload_n hx hb dX9_retained_92 rfl (lv_at hl 0 rfl) ?_
      refine lv_iload_n hx hb dX9_retained_93 rfl (lv_at hl 1 rfl) ?_
      refine lv_iconst (v := (0 : Int32)) hx hb dX9_retained_94 (by decide) ?_
      obtain ⟨st_10, hst_10, h⟩ := zb_e h
      refine k_callVv (rest := []) hE hW hl.1 (mX9_partGoes hB_st hst_10) hB_st.o hB_st.obj rfl q999 q1001 qs96 q10 q1002 hd_X9_partGoes ⟨Nat.le_of_ble_eq_true rfl, Nat.le_of_ble_eq_true rfl⟩ ⟨rfl, rfl⟩ rfl (Nat.le_of_ble_eq_true rfl) dX9_retained_95 ⟨Nat.zero_le _, Nat.zero_le _⟩ (fun c1 H locs hP hW => ?_)
      obtain ⟨c, hB_st, hF, hW⟩ : ∃ c', MoB ct J ad c' b st_10 ∧ Fr c0 c' b 19 ∧ HW D J ad c' (aA J ad s.heap.size) s.heap H locs := ⟨c1, hP.1, hF.trans hP.2, hW⟩
      refine lv_goto (tgt := 2) hx hb dX9_retained_98 (by decide) ?_
      exact hK2 _ _ _ _ _ _ hW hB_st hF (lv_sub hl [0, 1, 2] rfl) h
    · have h := it_f k_9 h
      refine lv_aload_n hx hb dX9_retained_77 rfl (lv_at hl 0 rfl) ?_
      refine lv_iload_n hx hb dX9_retained_78 rfl (lv_at hl 1 rfl) ?_
      refine lv_iconst (v := (0 : Int32)) hx hb dX9_retained_79 (by decide) ?_
      refine lv_iload_n hx hb dX9_retained_80 rfl (lv_at hl 3 rfl) ?_
      refine lv_iadd hx hb dX9_retained_81 ?_
      refine lv_iconst (v := (0 : Int32)) hx hb dX9_retained_82 (by decide) ?_
      obtain ⟨st_11, hst_11, h⟩ := zb_e h
      refine k_callVv (rest := []) hE hW hl.1 (mX9_sets hB_st hst_11) hB_st.o hB_st.obj rfl q864 q866 qs85 q10 q867 hd_X9_sets ⟨Nat.le_of_ble_eq_true rfl, Nat.le_of_ble_eq_true rfl⟩ ⟨rfl, rfl⟩ rfl (Nat.le_of_ble_eq_true rfl) dX9_retained_83 ⟨Nat.zero_le _, Nat.zero_le _⟩ (fun c1 H locs hP hW => ?_)
      obtain ⟨c, hB_st, hF, hW⟩ : ∃ c', MoB ct J ad c' b st_11 ∧ Fr c0 c' b 19 ∧ HW D J ad c' (aA J ad s.heap.size) s.heap H locs := ⟨c1, hP.1, hF.trans hP.2, hW⟩
      refine lv_iinc (v := (x3 + (1 : Int32))) (lv' := [(3, .int (x3 + (1 : Int32))), (0, .ref (ad b)), (1, .int x1), (2, .int x2)]) hx hb dX9_retained_86 hl (k := 3) rfl rfl (by decide) rfl (fun ls hl => ?_)
      refine lv_goto (tgt := 67) hx hb dX9_retained_89 (by decide) ?_
      exact ih _ _ _ _ _ _ hW hB_st hF (lv_sub hl [1, 2, 3, 0] rfl) h
set_option maxHeartbeats 4000000 in
set_option maxRecDepth 100000 in
theorem wX9_retained_51 {p : Program} {l : Launch} {e : Env} {s : State} {m : MethodId} {args : Array Value} {below : List Frame} {meth : Method} {cd : Code} {D : va_G} {ct : Nat → ClassId} {J : List Nat} {ad : Nat → Nat} {c0 : CF} {b : Nat} (hE : ME p s m cd args D ct cX9_retained RX9 4) (hr : meth.sig.returnType = (some .int)) (hlk : meth.locks = false) {x1 : Int32} {r : Int32} {st9 : MS} {K2 : Int32 → MS → Option (Int32 × MS)} (hK2 : ∀ (x2 : Int32) (st : MS) (c : CF) (H : Heap) (locs : List Loc) (ls : Array Slot), HW D J ad c (aA J ad s.heap.size) s.heap H locs → MoB ct J ad c b st → Fr c0 c b 19 → lv_has ls 4 [(0, .ref (ad b)), (1, .int x1), (2, .int x2)] → K2 x2 st = some (r, st9) → W p l e (rr 4 90) s m args below meth cd H locs 0 0 (MQ below (Qi D J ad s.heap.size r (fun c' => MoB ct J ad c' b st9 ∧ Fr c0 c' b 19)) args s 0 0 (aA J ad s.heap.size)) (F0 m 2 ls [])) : ∀ (x2 : Int32) (st : MS) (c : CF) (H : Heap) (locs : List Loc) (ls : Array Slot), HW D J ad c (aA J ad s.heap.size) s.heap H locs → MoB ct J ad c b st → Fr c0 c b 19 → lv_has ls 4 [(0, .ref (ad b)), (1, .int x1), (2, .int x2)] → fX9_retained_51 x1 K2 x2 st = some (r, st9) → W p l e (rr 4 90) s m args below meth cd H locs 0 0 (MQ below (Qi D J ad s.heap.size r (fun c' => MoB ct J ad c' b st9 ∧ Fr c0 c' b 19)) args s 0 0 (aA J ad s.heap.size)) (F0 m 51 ls []) := by
  have hx := hE.1
  have hb := hE.2.1
  intro x2 st c H locs ls hW hB_st hF hl h
  rw [fX9_retained_51] at h
  refine lv_iload_n hx hb dX9_retained_51 rfl (lv_at hl 2 rfl) ?_
  refine lv_aload_n hx hb dX9_retained_52 rfl (lv_at hl 0 rfl) ?_
  refine lv_iload_n hx hb dX9_retained_53 rfl (lv_at hl 1 rfl) ?_
  refine lv_iconst (v := (0 : Int32)) hx hb dX9_retained_54 (by decide) ?_
  obtain ⟨r_6, hr_6, h⟩ := zb_e h
  refine k_callVi (rest := [.int x2]) hE hW hl.1 (mX9_manyIn hB_st hr_6) hB_st.o hB_st.obj rfl q955 q957 qs89 q10 q958 hd_X9_manyIn ⟨Nat.le_of_ble_eq_true rfl, Nat.le_of_ble_eq_true rfl⟩ ⟨rfl, rfl⟩ rfl (Nat.le_of_ble_eq_true rfl) dX9_retained_55 ⟨Nat.zero_le _, Nat.zero_le _⟩ (fun c1 H locs hP hW => ?_)
  rw [hP] at hW
  refine lv_iadd hx hb dX9_retained_58 ?_
  refine lv_istore_n (lv' := [(2, .int (x2 + r_6)), (0, .ref (ad b)), (1, .int x1)]) hx hb dX9_retained_59 rfl hl (by decide) rfl (fun ls hl => ?_)
  refine lv_aload_n hx hb dX9_retained_60 rfl (lv_at hl 1 rfl) ?_
  refine lv_iload_n hx hb dX9_retained_61 rfl (lv_at hl 2 rfl) ?_
  refine lv_iconst (v := (0 : Int32)) hx hb dX9_retained_62 (by decide) ?_
  obtain ⟨r_7, hr_7, h⟩ := zb_e h
  refine k_callVi (rest := []) hE hW hl.1 (mX9_base hB_st hr_7) hB_st.o hB_st.obj rfl q959 q961 qs90 q10 q962 hd_X9_base ⟨Nat.le_of_ble_eq_true rfl, Nat.le_of_ble_eq_true rfl⟩ ⟨rfl, rfl⟩ rfl (Nat.le_of_ble_eq_true rfl) dX9_retained_63 ⟨Nat.zero_le _, Nat.zero_le _⟩ (fun c1 H locs hP hW => ?_)
  rw [hP] at hW
  refine lv_istore_n (lv' := [(3, .int r_7), (2, .int (x2 + r_6)), (0, .ref (ad b)), (1, .int x1)]) hx hb dX9_retained_66 rfl hl (by decide) rfl (fun ls hl => ?_)
  exact wX9_retained_67 hE hr hlk hK2 _ _ _ _ _ _ _ hW hB_st hF (lv_sub hl [2, 3, 1, 0] rfl) h
set_option maxHeartbeats 4000000 in
set_option maxRecDepth 100000 in
theorem wX9_retained_2 {p : Program} {l : Launch} {e : Env} {s : State} {m : MethodId} {args : Array Value} {below : List Frame} {meth : Method} {cd : Code} {D : va_G} {ct : Nat → ClassId} {J : List Nat} {ad : Nat → Nat} {c0 : CF} {b : Nat} (hE : ME p s m cd args D ct cX9_retained RX9 4) (hr : meth.sig.returnType = (some .int)) (hlk : meth.locks = false) {x1 : Int32} {r : Int32} {st9 : MS} : ∀ (n : Nat) (x2 : Int32) (st : MS) (c : CF) (H : Heap) (locs : List Loc) (ls : Array Slot), HW D J ad c (aA J ad s.heap.size) s.heap H locs → MoB ct J ad c b st → Fr c0 c b 19 → lv_has ls 4 [(0, .ref (ad b)), (1, .int x1), (2, .int x2)] → fX9_retained_2 x1 n x2 st = some (r, st9) → W p l e (rr 4 90) s m args below meth cd H locs 0 0 (MQ below (Qi D J ad s.heap.size r (fun c' => MoB ct J ad c' b st9 ∧ Fr c0 c' b 19)) args s 0 0 (aA J ad s.heap.size)) (F0 m 2 ls []) := by
  have hx := hE.1
  have hb := hE.2.1
  intro n
  induction n with
  | zero =>
    intro x2 st c H locs ls hW hB_st hF hl h
    have h2 : (none : Option (Int32 × MS)) = some (r, st9) := h
    cases h2
  | succ n ih =>
    intro x2 st c H locs ls hW hB_st hF hl h
    rw [fX9_retained_2] at h
    refine lv_aload_n hx hb dX9_retained_2 rfl (lv_at hl 0 rfl) ?_
    refine lv_iload_n hx hb dX9_retained_3 rfl (lv_at hl 1 rfl) ?_
    refine lv_sipush (v := (1270 : Int32)) hx hb dX9_retained_4 (by decide) ?_
    obtain ⟨r_1, hr_1, h⟩ := zb_e h
    refine k_callVi (rest := []) hE hW hl.1 (mX9_at hB_st hr_1) hB_st.o hB_st.obj rfl q934 q936 qs87 q10 q937 hd_X9_at ⟨Nat.le_of_ble_eq_true rfl, Nat.le_of_ble_eq_true rfl⟩ ⟨rfl, rfl⟩ rfl (Nat.le_of_ble_eq_true rfl) dX9_retained_7 ⟨Nat.zero_le _, Nat.zero_le _⟩ (fun c1 H locs hP hW => ?_)
    rw [hP] at hW
    refine lv_iconst (v := (1 : Int32)) hx hb dX9_retained_10 (by decide) ?_
    refine lv_icmp_le (tgt := 101) hx hb dX9_retained_11 (by decide) (fun k_2 => ?_) (fun k_2 => ?_)
    · have h := it_t k_2 h
      refine lv_iload_n hx hb dX9_retained_101 rfl (lv_at hl 2 rfl) ?_
      obtain ⟨rfl, rfl⟩ := Prod.mk.inj (Option.some.inj h)
      exact k_iret hE hr hlk hW ⟨hB_st, hF⟩ rfl dX9_retained_102
    · have h := it_f k_2 h
      refine lv_aload_n hx hb dX9_retained_14 rfl (lv_at hl 0 rfl) ?_
      refine lv_iload_n hx hb dX9_retained_15 rfl (lv_at hl 1 rfl) ?_
      refine lv_iconst (v := (0 : Int32)) hx hb dX9_retained_16 (by decide) ?_
      refine lv_sipush (v := (200 : Int32)) hx hb dX9_retained_17 (by decide) ?_
      obtain ⟨r_3, hr_3, h⟩ := zb_e h
      refine k_callVi (rest := []) hE hW hl.1 (mX9_weighs hB_st hr_3) hB_st.o hB_st.obj rfl q971 q973 qs93 q10 q974 hd_X9_weighs ⟨Nat.le_of_ble_eq_true rfl, Nat.le_of_ble_eq_true rfl⟩ ⟨rfl, rfl⟩ rfl (Nat.le_of_ble_eq_true rfl) dX9_retained_20 ⟨Nat.zero_le _, Nat.zero_le _⟩ (fun c1 H locs hP hW => ?_)
      rw [hP] at hW
      refine lv_aload_n hx hb dX9_retained_23 rfl (lv_at hl 0 rfl) ?_
      refine k_get (v := .ref (ad (b + 1 + 0))) hE hW hB_st.o hB_st.obj rfl inX9 0 (by decide) q868 rfl dX9_retained_24 ?_
      refine lv_sipush (v := (5098 : Int32)) hx hb dX9_retained_27 (by decide) ?_
      obtain ⟨g_4, h⟩ := zi_e h
      refine k_iald hE hW (hB_st.memA 0 (Nat.le_of_ble_eq_true rfl)) (hB_st.arr 0 rfl) g_4 dX9_retained_30 ?_
      refine lv_icmp_gt (tgt := 51) hx hb dX9_retained_31 (by decide) (fun k_5 => ?_) (fun k_5 => ?_)
      · have h := it_t k_5 h
        exact wX9_retained_51 hE hr hlk ih _ _ _ _ _ _ hW hB_st hF (lv_sub hl [0, 1, 2] rfl) h
      · have h := it_f k_5 h
        refine lv_aload_n hx hb dX9_retained_34 rfl (lv_at hl 0 rfl) ?_
        refine lv_iload_n hx hb dX9_retained_35 rfl (lv_at hl 1 rfl) ?_
        refine lv_iconst (v := (0 : Int32)) hx hb dX9_retained_36 (by decide) ?_
        obtain ⟨r_12, hr_12, h⟩ := zb_e h
        refine k_callVi (rest := []) hE hW hl.1 (mX9_manyIn hB_st hr_12) hB_st.o hB_st.obj rfl q955 q957 qs89 q10 q958 hd_X9_manyIn ⟨Nat.le_of_ble_eq_true rfl, Nat.le_of_ble_eq_true rfl⟩ ⟨rfl, rfl⟩ rfl (Nat.le_of_ble_eq_true rfl) dX9_retained_37 ⟨Nat.zero_le _, Nat.zero_le _⟩ (fun c1 H locs hP hW => ?_)
        rw [hP] at hW
        refine lv_if_eq (tgt := 51) hx hb dX9_retained_40 (by decide) (fun k_13 => ?_) (fun k_13 => ?_)
        · have h := it_t k_13 h
          exact wX9_retained_51 hE hr hlk ih _ _ _ _ _ _ hW hB_st hF (lv_sub hl [0, 1, 2] rfl) h
        · have h := it_f k_13 h
          refine lv_aload_n hx hb dX9_retained_43 rfl (lv_at hl 0 rfl) ?_
          refine lv_iload_n hx hb dX9_retained_44 rfl (lv_at hl 1 rfl) ?_
          obtain ⟨r_14, hr_14, h⟩ := zb_e h
          refine k_callVi (rest := []) hE hW hl.1 (mX9_isOld hB_st hr_14) hB_st.o hB_st.obj rfl q1011 q1013 qs98 q10 q1014 hd_X9_isOld ⟨Nat.le_of_ble_eq_true rfl, Nat.le_of_ble_eq_true rfl⟩ ⟨rfl, rfl⟩ rfl (Nat.le_of_ble_eq_true rfl) dX9_retained_45 ⟨Nat.zero_le _, Nat.zero_le _⟩ (fun c1 H locs hP hW => ?_)
          rw [hP] at hW
          refine lv_if_eq (tgt := 101) hx hb dX9_retained_48 (by decide) (fun k_15 => ?_) (fun k_15 => ?_)
          · have h := it_t k_15 h
            refine lv_iload_n hx hb dX9_retained_101 rfl (lv_at hl 2 rfl) ?_
            obtain ⟨rfl, rfl⟩ := Prod.mk.inj (Option.some.inj h)
            exact k_iret hE hr hlk hW ⟨hB_st, hF⟩ rfl dX9_retained_102
          · have h := it_f k_15 h
            exact wX9_retained_51 hE hr hlk ih _ _ _ _ _ _ hW hB_st hF (lv_sub hl [0, 1, 2] rfl) h
set_option maxHeartbeats 4000000 in
set_option maxRecDepth 100000 in
theorem mX9_retained {l : Launch} {D : va_G} {ct : Nat → ClassId} {J : List Nat} {ad : Nat → Nat} {c0 : CF} {a1 : Int32} {b : Nat} {st : MS} (hB_st : MoB ct J ad c0 b st) {r : Int32} {st9 : MS} (h : fX9_retained  a1 st = some (r, st9)) : Mi l D ct J ad yX9_retained cX9_retained 4 (some .int) (rr 4 90) [.ref (ad b), .int a1] c0 r (fun c' => MoB ct J ad c' b st9 ∧ Fr c0 c' b 19) := by
  refine Mi_of (own := RX9) (by decide) rfl (Nat.le_of_ble_eq_true rfl) (fun p e s m below meth cd hE hr hlk hW ls hl => ?_)
  have hx := hE.1
  have hb := hE.2.1
  have hl : lv_has ls 4 [(0, .ref (ad b)), (1, .int a1)] := hl
  rw [fX9_retained] at h
  obtain ⟨c, hB_st, hF, hW⟩ : ∃ c', MoB ct J ad c' b st ∧ Fr c0 c' b 19 ∧ HW D J ad c' (aA J ad s.heap.size) s.heap s.heap [] := ⟨c0, hB_st, Fr.rf, hW⟩
  refine lv_iconst (v := (0 : Int32)) hx hb dX9_retained_0 (by decide) ?_
  refine lv_istore_n (lv' := [(2, .int (0 : Int32)), (0, .ref (ad b)), (1, .int a1)]) hx hb dX9_retained_1 rfl hl (by decide) rfl (fun ls hl => ?_)
  exact wX9_retained_2 hE hr hlk _ _ _ _ _ _ _ hW hB_st hF (lv_sub hl [1, 2, 0] rfl) h
set_option maxHeartbeats 4000000 in
set_option maxRecDepth 100000 in
theorem mX9_compact {l : Launch} {D : va_G} {ct : Nat → ClassId} {J : List Nat} {ad : Nat → Nat} {c0 : CF} {a1 : Int32} {b : Nat} {st : MS} (hB_st : MoB ct J ad c0 b st) {r : Int32} {st9 : MS} (h : fX9_compact  a1 st = some (r, st9)) : Mi l D ct J ad yX9_compact cX9_compact 2 (some .int) (rr 5 115) [.ref (ad b), .int a1] c0 r (fun c' => MoB ct J ad c' b st9 ∧ Fr c0 c' b 19) := by
  refine Mi_of (own := RX9) (by decide) rfl (Nat.le_of_ble_eq_true rfl) (fun p e s m below meth cd hE hr hlk hW ls hl => ?_)
  have hx := hE.1
  have hb := hE.2.1
  have hl : lv_has ls 2 [(0, .ref (ad b)), (1, .int a1)] := hl
  rw [fX9_compact] at h
  obtain ⟨c, hB_st, hF, hW⟩ : ∃ c', MoB ct J ad c' b st ∧ Fr c0 c' b 19 ∧ HW D J ad c' (aA J ad s.heap.size) s.heap s.heap [] := ⟨c0, hB_st, Fr.rf, hW⟩
  refine lv_iload_n hx hb dX9_compact_0 rfl (lv_at hl 1 rfl) ?_
  obtain ⟨r_1, hr_1, h⟩ := zb_e h
  refine k_callSi (rest := []) hE hW hl.1 (mX9_isLog hr_1) q928 q929 q10 q930 hd_X9_isLog.2 ⟨Nat.le_of_ble_eq_true rfl, Nat.le_of_ble_eq_true rfl⟩ ⟨rfl, rfl⟩ rfl (Nat.le_of_ble_eq_true rfl) dX9_compact_1 ⟨Nat.zero_le _, Nat.zero_le _⟩ (fun c1 H locs hP hW => ?_)
  rw [hP] at hW
  refine lv_if_eq (tgt := 15) hx hb dX9_compact_4 (by decide) (fun k_2 => ?_) (fun k_2 => ?_)
  · have h := it_t k_2 h
    refine lv_iconst (v := (-1 : Int32)) hx hb dX9_compact_15 (by decide) ?_
    obtain ⟨rfl, rfl⟩ := Prod.mk.inj (Option.some.inj h)
    exact k_iret hE hr hlk hW ⟨hB_st, hF⟩ rfl dX9_compact_16
  · have h := it_f k_2 h
    refine lv_aload_n hx hb dX9_compact_7 rfl (lv_at hl 0 rfl) ?_
    refine lv_iload_n hx hb dX9_compact_8 rfl (lv_at hl 1 rfl) ?_
    obtain ⟨r_3, st_4, hr_3, h⟩ := zb2_e h
    refine k_callVi (rest := []) hE hW hl.1 (mX9_compacted hB_st hr_3) hB_st.o hB_st.obj rfl q991 q993 qs94 q10 q994 hd_X9_compacted ⟨Nat.le_of_ble_eq_true rfl, Nat.le_of_ble_eq_true rfl⟩ ⟨rfl, rfl⟩ rfl (Nat.le_of_ble_eq_true rfl) dX9_compact_9 ⟨Nat.zero_le _, Nat.zero_le _⟩ (fun c1 H locs hP hW => ?_)
    obtain ⟨c, hB_st, hF, hW⟩ : ∃ c', MoB ct J ad c' b st_4 ∧ Fr c0 c' b 19 ∧ HW D J ad c' (aA J ad s.heap.size) s.heap H locs := ⟨c1, hP.1, hF.trans hP.2, hW⟩
    refine lv_goto (tgt := 16) hx hb dX9_compact_12 (by decide) ?_
    obtain ⟨rfl, rfl⟩ := Prod.mk.inj (Option.some.inj h)
    exact k_iret hE hr hlk hW ⟨hB_st, hF⟩ rfl dX9_compact_16
set_option maxHeartbeats 4000000 in
set_option maxRecDepth 100000 in
theorem mX9_retain {l : Launch} {D : va_G} {ct : Nat → ClassId} {J : List Nat} {ad : Nat → Nat} {c0 : CF} {a1 : Int32} {b : Nat} {st : MS} (hB_st : MoB ct J ad c0 b st) {r : Int32} {st9 : MS} (h : fX9_retain  a1 st = some (r, st9)) : Mi l D ct J ad yX9_retain cX9_retain 2 (some .int) (rr 5 113) [.ref (ad b), .int a1] c0 r (fun c' => MoB ct J ad c' b st9 ∧ Fr c0 c' b 19) := by
  refine Mi_of (own := RX9) (by decide) rfl (Nat.le_of_ble_eq_true rfl) (fun p e s m below meth cd hE hr hlk hW ls hl => ?_)
  have hx := hE.1
  have hb := hE.2.1
  have hl : lv_has ls 2 [(0, .ref (ad b)), (1, .int a1)] := hl
  rw [fX9_retain] at h
  obtain ⟨c, hB_st, hF, hW⟩ : ∃ c', MoB ct J ad c' b st ∧ Fr c0 c' b 19 ∧ HW D J ad c' (aA J ad s.heap.size) s.heap s.heap [] := ⟨c0, hB_st, Fr.rf, hW⟩
  refine lv_iload_n hx hb dX9_retain_0 rfl (lv_at hl 1 rfl) ?_
  obtain ⟨r_1, hr_1, h⟩ := zb_e h
  refine k_callSi (rest := []) hE hW hl.1 (mX9_isLog hr_1) q928 q929 q10 q930 hd_X9_isLog.2 ⟨Nat.le_of_ble_eq_true rfl, Nat.le_of_ble_eq_true rfl⟩ ⟨rfl, rfl⟩ rfl (Nat.le_of_ble_eq_true rfl) dX9_retain_1 ⟨Nat.zero_le _, Nat.zero_le _⟩ (fun c1 H locs hP hW => ?_)
  rw [hP] at hW
  refine lv_if_eq (tgt := 15) hx hb dX9_retain_4 (by decide) (fun k_2 => ?_) (fun k_2 => ?_)
  · have h := it_t k_2 h
    refine lv_iconst (v := (-1 : Int32)) hx hb dX9_retain_15 (by decide) ?_
    obtain ⟨rfl, rfl⟩ := Prod.mk.inj (Option.some.inj h)
    exact k_iret hE hr hlk hW ⟨hB_st, hF⟩ rfl dX9_retain_16
  · have h := it_f k_2 h
    refine lv_aload_n hx hb dX9_retain_7 rfl (lv_at hl 0 rfl) ?_
    refine lv_iload_n hx hb dX9_retain_8 rfl (lv_at hl 1 rfl) ?_
    obtain ⟨r_3, st_4, hr_3, h⟩ := zb2_e h
    refine k_callVi (rest := []) hE hW hl.1 (mX9_retained hB_st hr_3) hB_st.o hB_st.obj rfl q1007 q1009 qs97 q10 q1010 hd_X9_retained ⟨Nat.le_of_ble_eq_true rfl, Nat.le_of_ble_eq_true rfl⟩ ⟨rfl, rfl⟩ rfl (Nat.le_of_ble_eq_true rfl) dX9_retain_9 ⟨Nat.zero_le _, Nat.zero_le _⟩ (fun c1 H locs hP hW => ?_)
    obtain ⟨c, hB_st, hF, hW⟩ : ∃ c', MoB ct J ad c' b st_4 ∧ Fr c0 c' b 19 ∧ HW D J ad c' (aA J ad s.heap.size) s.heap H locs := ⟨c1, hP.1, hF.trans hP.2, hW⟩
    refine lv_goto (tgt := 16) hx hb dX9_retain_12 (by decide) ?_
    obtain ⟨rfl, rfl⟩ := Prod.mk.inj (Option.some.inj h)
    exact k_iret hE hr hlk hW ⟨hB_st, hF⟩ rfl dX9_retain_16
set_option maxHeartbeats 4000000 in
set_option maxRecDepth 100000 in
theorem mX9_feed {l : Launch} {D : va_G} {ct : Nat → ClassId} {J : List Nat} {ad : Nat → Nat} {c0 : CF} {a1 : Int32} {b : Nat} {st : MS} (hB_st : MoB ct J ad c0 b st) {r : Int32} {st9 : MS} (h : fX9_feed  a1 st = some (r, st9)) : Mi l D ct J ad yX9_feed cX9_feed 2 (some .int) (rr 1 22) [.ref (ad b), .int a1] c0 r (fun c' => MoB ct J ad c' b st9 ∧ Fr c0 c' b 19) := by
  refine Mi_of (own := RX9) (by decide) rfl (Nat.le_of_ble_eq_true rfl) (fun p e s m below meth cd hE hr hlk hW ls hl => ?_)
  have hx := hE.1
  have hb := hE.2.1
  have hl : lv_has ls 2 [(0, .ref (ad b)), (1, .int a1)] := hl
  rw [fX9_feed] at h
  obtain ⟨c, hB_st, hF, hW⟩ : ∃ c', MoB ct J ad c' b st ∧ Fr c0 c' b 19 ∧ HW D J ad c' (aA J ad s.heap.size) s.heap s.heap [] := ⟨c0, hB_st, Fr.rf, hW⟩
  refine lv_iload_n hx hb dX9_feed_0 rfl (lv_at hl 1 rfl) ?_
  refine lv_iconst (v := (0 : Int32)) hx hb dX9_feed_1 (by decide) ?_
  refine lv_bipush (v := (127 : Int32)) hx hb dX9_feed_2 (by decide) ?_
  obtain ⟨r_1, hr_1, h⟩ := zb_e h
  refine k_callSi (rest := []) hE hW hl.1 (mX9_in hr_1) q931 q932 q10 q933 hd_X9_in.2 ⟨Nat.le_of_ble_eq_true rfl, Nat.le_of_ble_eq_true rfl⟩ ⟨rfl, rfl⟩ rfl (Nat.le_of_ble_eq_true rfl) dX9_feed_4 ⟨Nat.zero_le _, Nat.zero_le _⟩ (fun c1 H locs hP hW => ?_)
  rw [hP] at hW
  refine lv_if_ne (tgt := 13) hx hb dX9_feed_7 (by decide) (fun k_2 => ?_) (fun k_2 => ?_)
  · have h := it_f k_2 h
    refine lv_aload_n hx hb dX9_feed_13 rfl (lv_at hl 0 rfl) ?_
    refine k_get (v := .int (st.2.1 1)) hE hW hB_st.o hB_st.obj rfl inX9 5 (by decide) q873 rfl dX9_feed_14 ?_
    refine lv_bipush (v := (100 : Int32)) hx hb dX9_feed_17 (by decide) ?_
    refine lv_icmp_ne (tgt := 25) hx hb dX9_feed_19 (by decide) (fun k_3 => ?_) (fun k_3 => ?_)
    · have h := it_f k_3 h
      refine lv_aload_n hx hb dX9_feed_25 rfl (lv_at hl 0 rfl) ?_
      refine k_get (v := .ref (ad (b + 1 + 3))) hE hW hB_st.o hB_st.obj rfl inX9 4 (by decide) q872 rfl dX9_feed_26 ?_
      refine lv_aload_n hx hb dX9_feed_29 rfl (lv_at hl 0 rfl) ?_
      refine lv_dup hx hb dX9_feed_30 rfl ?_
      refine k_get (v := .int (st.2.1 1)) hE hW hB_st.o hB_st.obj rfl inX9 5 (by decide) q873 rfl dX9_feed_31 ?_
      refine lv_dup_x1 hx hb dX9_feed_34 rfl rfl ?_
      refine lv_iconst (v := (1 : Int32)) hx hb dX9_feed_35 (by decide) ?_
      refine lv_iadd hx hb dX9_feed_36 ?_
      obtain ⟨st_4, est_4, h⟩ := zl_e h
      refine k_put hE hW hB_st.o hB_st.obj rfl inX9 tyX9 tyX9_ok nmX9 5 (by decide) q873 rfl rfl rfl (Nat.le_of_ble_eq_true rfl) dX9_feed_37 (fun H locs hW => ?_)
      obtain ⟨c, hB_st, hF, hW⟩ : ∃ c', MoB ct J ad c' b st_4 ∧ Fr c0 c' b 19 ∧ HW D J ad c' (aA J ad s.heap.size) s.heap H locs := ⟨_, hB_st.wF (k := 5) (j := 1) rfl est_4, hF.up (by omega) (by omega), hW⟩
      refine lv_iload_n hx hb dX9_feed_40 rfl (lv_at hl 1 rfl) ?_
      obtain ⟨g_5, h⟩ := zi_e h
      obtain ⟨st_6, est_6, h⟩ := zl_e h
      refine k_iast hE hW (hB_st.memA 3 (Nat.le_of_ble_eq_true rfl)) (hB_st.arr 3 rfl) g_5 dX9_feed_41 (fun H locs hW => ?_)
      obtain ⟨c, hB_st, hF, hW⟩ : ∃ c', MoB ct J ad c' b st_6 ∧ Fr c0 c' b 19 ∧ HW D J ad c' (aA J ad s.heap.size) s.heap H locs := ⟨_, hB_st.wA (k := 3) rfl est_6, hF.up (by omega) (by omega), hW⟩
      refine lv_aload_n hx hb dX9_feed_42 rfl (lv_at hl 0 rfl) ?_
      refine k_get (v := .int (st_6.2.1 1)) hE hW hB_st.o hB_st.obj rfl inX9 5 (by decide) q873 rfl dX9_feed_43 ?_
      obtain ⟨rfl, rfl⟩ := Prod.mk.inj (Option.some.inj h)
      exact k_iret hE hr hlk hW ⟨hB_st, hF⟩ rfl dX9_feed_46
    · have h := it_t k_3 h
      refine lv_bipush (v := (-4 : Int32)) hx hb dX9_feed_22 (by decide) ?_
      obtain ⟨rfl, rfl⟩ := Prod.mk.inj (Option.some.inj h)
      exact k_iret hE hr hlk hW ⟨hB_st, hF⟩ rfl dX9_feed_24
  · have h := it_t k_2 h
    refine lv_bipush (v := (-2 : Int32)) hx hb dX9_feed_10 (by decide) ?_
    obtain ⟨rfl, rfl⟩ := Prod.mk.inj (Option.some.inj h)
    exact k_iret hE hr hlk hW ⟨hB_st, hF⟩ rfl dX9_feed_12
set_option maxHeartbeats 4000000 in
set_option maxRecDepth 100000 in
theorem mX9_sees {l : Launch} {D : va_G} {ct : Nat → ClassId} {J : List Nat} {ad : Nat → Nat} {c0 : CF} {a1 : Int32} {a2 : Int32} {b : Nat} {st : MS} (hB_st : MoB ct J ad c0 b st) {r : Int32} (h : fX9_sees  a1 a2 st = some r) : Mi l D ct J ad yX9_sees cX9_sees 3 (some .boolean) (rr 1 22) [.ref (ad b), .int a1, .int a2] c0 r (fun c' => c' = c0) := by
  refine Mi_of (own := RX9) (by decide) rfl (Nat.le_of_ble_eq_true rfl) (fun p e s m below meth cd hE hr hlk hW ls hl => ?_)
  have hx := hE.1
  have hb := hE.2.1
  have hl : lv_has ls 3 [(0, .ref (ad b)), (1, .int a1), (2, .int a2)] := hl
  rw [fX9_sees] at h
  refine lv_aload_n hx hb dX9_sees_0 rfl (lv_at hl 0 rfl) ?_
  refine k_get (v := .int (st.2.1 4)) hE hW hB_st.o hB_st.obj rfl inX9 16 (by decide) q884 rfl dX9_sees_1 ?_
  refine lv_if_ge (tgt := 39) hx hb dX9_sees_4 (by decide) (fun k_1 => ?_) (fun k_1 => ?_)
  · have h := it_t k_1 h
    refine lv_iconst (v := (0 : Int32)) hx hb dX9_sees_39 (by decide) ?_
    obtain rfl := Option.some.inj h
    exact k_zret hE hr hlk hW rfl rfl rfl dX9_sees_40
  · have h := it_f k_1 h
    refine lv_aload_n hx hb dX9_sees_7 rfl (lv_at hl 0 rfl) ?_
    refine k_get (v := .int (st.2.1 3)) hE hW hB_st.o hB_st.obj rfl inX9 15 (by decide) q883 rfl dX9_sees_8 ?_
    refine lv_aload_n hx hb dX9_sees_11 rfl (lv_at hl 0 rfl) ?_
    refine k_get (v := .int (st.2.1 1)) hE hW hB_st.o hB_st.obj rfl inX9 5 (by decide) q873 rfl dX9_sees_12 ?_
    refine lv_icmp_ge (tgt := 39) hx hb dX9_sees_15 (by decide) (fun k_2 => ?_) (fun k_2 => ?_)
    · have h := it_t k_2 h
      refine lv_iconst (v := (0 : Int32)) hx hb dX9_sees_39 (by decide) ?_
      obtain rfl := Option.some.inj h
      exact k_zret hE hr hlk hW rfl rfl rfl dX9_sees_40
    · have h := it_f k_2 h
      refine lv_aload_n hx hb dX9_sees_18 rfl (lv_at hl 0 rfl) ?_
      refine k_get (v := .ref (ad (b + 1 + 3))) hE hW hB_st.o hB_st.obj rfl inX9 4 (by decide) q872 rfl dX9_sees_19 ?_
      refine lv_aload_n hx hb dX9_sees_22 rfl (lv_at hl 0 rfl) ?_
      refine k_get (v := .int (st.2.1 3)) hE hW hB_st.o hB_st.obj rfl inX9 15 (by decide) q883 rfl dX9_sees_23 ?_
      obtain ⟨g_3, h⟩ := zi_e h
      refine k_iald hE hW (hB_st.memA 3 (Nat.le_of_ble_eq_true rfl)) (hB_st.arr 3 rfl) g_3 dX9_sees_26 ?_
      refine lv_iload_n hx hb dX9_sees_27 rfl (lv_at hl 1 rfl) ?_
      refine lv_iload_n hx hb dX9_sees_28 rfl (lv_at hl 2 rfl) ?_
      obtain ⟨r_4, hr_4, h⟩ := zb_e h
      refine k_callSi (rest := []) hE hW hl.1 (mX9_in hr_4) q931 q932 q10 q933 hd_X9_in.2 ⟨Nat.le_of_ble_eq_true rfl, Nat.le_of_ble_eq_true rfl⟩ ⟨rfl, rfl⟩ rfl (Nat.le_of_ble_eq_true rfl) dX9_sees_29 ⟨Nat.zero_le _, Nat.zero_le _⟩ (fun c1 H locs hP hW => ?_)
      rw [hP] at hW
      refine lv_if_eq (tgt := 39) hx hb dX9_sees_32 (by decide) (fun k_5 => ?_) (fun k_5 => ?_)
      · have h := it_t k_5 h
        refine lv_iconst (v := (0 : Int32)) hx hb dX9_sees_39 (by decide) ?_
        obtain rfl := Option.some.inj h
        exact k_zret hE hr hlk hW rfl rfl rfl dX9_sees_40
      · have h := it_f k_5 h
        refine lv_iconst (v := (1 : Int32)) hx hb dX9_sees_35 (by decide) ?_
        refine lv_goto (tgt := 40) hx hb dX9_sees_36 (by decide) ?_
        obtain rfl := Option.some.inj h
        exact k_zret hE hr hlk hW rfl rfl rfl dX9_sees_40
set_option maxHeartbeats 4000000 in
set_option maxRecDepth 100000 in
theorem wX9_must_28 {p : Program} {l : Launch} {e : Env} {s : State} {m : MethodId} {args : Array Value} {below : List Frame} {meth : Method} {cd : Code} {D : va_G} {ct : Nat → ClassId} {J : List Nat} {ad : Nat → Nat} {c0 : CF} {b : Nat} (hE : ME p s m cd args D ct cX9_must RX9 3) (hr : meth.sig.returnType = (some .int)) (hlk : meth.locks = false) {r : Int32} {st9 : MS} : ∀ (x1 : Int32) (y0 : Int32) (st : MS) (c : CF) (H : Heap) (locs : List Loc) (ls : Array Slot), HW D J ad c (aA J ad s.heap.size) s.heap H locs → MoB ct J ad c b st → Fr c0 c b 19 → lv_has ls 3 [(1, .int x1)] → fX9_must_28 x1 y0 st = some (r, st9) → W p l e (rr 2 44) s m args below meth cd H locs 0 0 (MQ below (Qi D J ad s.heap.size r (fun c' => MoB ct J ad c' b st9 ∧ Fr c0 c' b 19)) args s 0 0 (aA J ad s.heap.size)) (F0 m 28 ls [.int y0, .ref (ad b)]) := by
  have hx := hE.1
  have hb := hE.2.1
  intro x1 y0 st c H locs ls hW hB_st hF hl h
  rw [fX9_must_28] at h
  obtain ⟨st_6, est_6, h⟩ := zl_e h
  refine k_put hE hW hB_st.o hB_st.obj rfl inX9 tyX9 tyX9_ok nmX9 16 (by decide) q884 rfl rfl rfl (Nat.le_of_ble_eq_true rfl) dX9_must_28 (fun H locs hW => ?_)
  obtain ⟨c, hB_st, hF, hW⟩ : ∃ c', MoB ct J ad c' b st_6 ∧ Fr c0 c' b 19 ∧ HW D J ad c' (aA J ad s.heap.size) s.heap H locs := ⟨_, hB_st.wF (k := 16) (j := 4) rfl est_6, hF.up (by omega) (by omega), hW⟩
  refine lv_iload_n hx hb dX9_must_31 rfl (lv_at hl 0 rfl) ?_
  obtain ⟨rfl, rfl⟩ := Prod.mk.inj (Option.some.inj h)
  exact k_iret hE hr hlk hW ⟨hB_st, hF⟩ rfl dX9_must_32
set_option maxHeartbeats 4000000 in
set_option maxRecDepth 100000 in
theorem mX9_must {l : Launch} {D : va_G} {ct : Nat → ClassId} {J : List Nat} {ad : Nat → Nat} {c0 : CF} {a1 : Int32} {a2 : Int32} {b : Nat} {st : MS} (hB_st : MoB ct J ad c0 b st) {r : Int32} {st9 : MS} (h : fX9_must  a1 a2 st = some (r, st9)) : Mi l D ct J ad yX9_must cX9_must 3 (some .int) (rr 2 44) [.ref (ad b), .int a1, .int a2] c0 r (fun c' => MoB ct J ad c' b st9 ∧ Fr c0 c' b 19) := by
  refine Mi_of (own := RX9) (by decide) rfl (Nat.le_of_ble_eq_true rfl) (fun p e s m below meth cd hE hr hlk hW ls hl => ?_)
  have hx := hE.1
  have hb := hE.2.1
  have hl : lv_has ls 3 [(0, .ref (ad b)), (1, .int a1), (2, .int a2)] := hl
  rw [fX9_must] at h
  obtain ⟨c, hB_st, hF, hW⟩ : ∃ c', MoB ct J ad c' b st ∧ Fr c0 c' b 19 ∧ HW D J ad c' (aA J ad s.heap.size) s.heap s.heap [] := ⟨c0, hB_st, Fr.rf, hW⟩
  refine lv_aload_n hx hb dX9_must_0 rfl (lv_at hl 0 rfl) ?_
  refine lv_iload_n hx hb dX9_must_1 rfl (lv_at hl 1 rfl) ?_
  refine lv_iload_n hx hb dX9_must_2 rfl (lv_at hl 2 rfl) ?_
  obtain ⟨r_1, hr_1, h⟩ := zb_e h
  refine k_callVi (rest := []) hE hW hl.1 (mX9_sees hB_st hr_1) hB_st.o hB_st.obj rfl q1032 q1034 qs101 q10 q1035 hd_X9_sees ⟨Nat.le_of_ble_eq_true rfl, Nat.le_of_ble_eq_true rfl⟩ ⟨rfl, rfl⟩ rfl (Nat.le_of_ble_eq_true rfl) dX9_must_3 ⟨Nat.zero_le _, Nat.zero_le _⟩ (fun c1 H locs hP hW => ?_)
  rw [hP] at hW
  refine lv_if_ne (tgt := 33) hx hb dX9_must_6 (by decide) (fun k_2 => ?_) (fun k_2 => ?_)
  · have h := it_f k_2 h
    refine lv_aload_n hx hb dX9_must_33 rfl (lv_at hl 0 rfl) ?_
    refine k_get (v := .ref (ad (b + 1 + 3))) hE hW hB_st.o hB_st.obj rfl inX9 4 (by decide) q872 rfl dX9_must_34 ?_
    refine lv_aload_n hx hb dX9_must_37 rfl (lv_at hl 0 rfl) ?_
    refine lv_dup hx hb dX9_must_38 rfl ?_
    refine k_get (v := .int (st.2.1 3)) hE hW hB_st.o hB_st.obj rfl inX9 15 (by decide) q883 rfl dX9_must_39 ?_
    refine lv_dup_x1 hx hb dX9_must_42 rfl rfl ?_
    refine lv_iconst (v := (1 : Int32)) hx hb dX9_must_43 (by decide) ?_
    refine lv_iadd hx hb dX9_must_44 ?_
    obtain ⟨st_3, est_3, h⟩ := zl_e h
    refine k_put hE hW hB_st.o hB_st.obj rfl inX9 tyX9 tyX9_ok nmX9 15 (by decide) q883 rfl rfl rfl (Nat.le_of_ble_eq_true rfl) dX9_must_45 (fun H locs hW => ?_)
    obtain ⟨c, hB_st, hF, hW⟩ : ∃ c', MoB ct J ad c' b st_3 ∧ Fr c0 c' b 19 ∧ HW D J ad c' (aA J ad s.heap.size) s.heap H locs := ⟨_, hB_st.wF (k := 15) (j := 3) rfl est_3, hF.up (by omega) (by omega), hW⟩
    obtain ⟨g_4, h⟩ := zi_e h
    refine k_iald hE hW (hB_st.memA 3 (Nat.le_of_ble_eq_true rfl)) (hB_st.arr 3 rfl) g_4 dX9_must_48 ?_
    obtain ⟨rfl, rfl⟩ := Prod.mk.inj (Option.some.inj h)
    exact k_iret hE hr hlk hW ⟨hB_st, hF⟩ rfl dX9_must_49
  · have h := it_t k_2 h
    refine lv_aload_n hx hb dX9_must_9 rfl (lv_at hl 0 rfl) ?_
    refine lv_aload_n hx hb dX9_must_10 rfl (lv_at hl 0 rfl) ?_
    refine k_get (v := .int (st.2.1 4)) hE hW hB_st.o hB_st.obj rfl inX9 16 (by decide) q884 rfl dX9_must_11 ?_
    refine lv_if_ge (tgt := 24) hx hb dX9_must_14 (by decide) (fun k_5 => ?_) (fun k_5 => ?_)
    · have h := it_t k_5 h
      refine lv_aload_n hx hb dX9_must_24 rfl (lv_at hl 0 rfl) ?_
      refine k_get (v := .int (st.2.1 4)) hE hW hB_st.o hB_st.obj rfl inX9 16 (by decide) q884 rfl dX9_must_25 ?_
      exact wX9_must_28 hE hr hlk _ _ _ _ _ _ _ hW hB_st hF (lv_sub hl [1] rfl) h
    · have h := it_f k_5 h
      refine lv_aload_n hx hb dX9_must_17 rfl (lv_at hl 0 rfl) ?_
      refine k_get (v := .int (st.2.1 3)) hE hW hB_st.o hB_st.obj rfl inX9 15 (by decide) q883 rfl dX9_must_18 ?_
      refine lv_goto (tgt := 28) hx hb dX9_must_21 (by decide) ?_
      exact wX9_must_28 hE hr hlk _ _ _ _ _ _ _ hW hB_st hF (lv_sub hl [1] rfl) h
set_option maxHeartbeats 4000000 in
set_option maxRecDepth 100000 in
theorem wX9_number_14 {p : Program} {l : Launch} {e : Env} {s : State} {m : MethodId} {args : Array Value} {below : List Frame} {meth : Method} {cd : Code} {D : va_G} {ct : Nat → ClassId} {J : List Nat} {ad : Nat → Nat} {c0 : CF} {b : Nat} (hE : ME p s m cd args D ct cX9_number RX9 4) (hr : meth.sig.returnType = (some .int)) (hlk : meth.locks = false) {x1 : Int32} {r : Int32} {st9 : MS} : ∀ (n : Nat) (x2 : Int32) (x3 : Int32) (st : MS) (c : CF) (H : Heap) (locs : List Loc) (ls : Array Slot), HW D J ad c (aA J ad s.heap.size) s.heap H locs → MoB ct J ad c b st → Fr c0 c b 19 → lv_has ls 4 [(0, .ref (ad b)), (1, .int x1), (2, .int x2), (3, .int x3)] → fX9_number_14 x1 n x2 x3 st = some (r, st9) → W p l e (rr 3 66) s m args below meth cd H locs 0 0 (MQ below (Qi D J ad s.heap.size r (fun c' => MoB ct J ad c' b st9 ∧ Fr c0 c' b 19)) args s 0 0 (aA J ad s.heap.size)) (F0 m 14 ls []) := by
  have hx := hE.1
  have hb := hE.2.1
  intro n
  induction n with
  | zero =>
    intro x2 x3 st c H locs ls hW hB_st hF hl h
    have h2 : (none : Option (Int32 × MS)) = some (r, st9) := h
    cases h2
  | succ n ih =>
    intro x2 x3 st c H locs ls hW hB_st hF hl h
    rw [fX9_number_14] at h
    refine lv_iload_n hx hb dX9_number_14 rfl (lv_at hl 3 rfl) ?_
    refine lv_iload_n hx hb dX9_number_15 rfl (lv_at hl 1 rfl) ?_
    refine lv_icmp_ge (tgt := 61) hx hb dX9_number_16 (by decide) (fun k_3 => ?_) (fun k_3 => ?_)
    · have h := it_t k_3 h
      refine lv_iload_n hx hb dX9_number_61 rfl (lv_at hl 2 rfl) ?_
      obtain ⟨rfl, rfl⟩ := Prod.mk.inj (Option.some.inj h)
      exact k_iret hE hr hlk hW ⟨hB_st, hF⟩ rfl dX9_number_62
    · have h := it_f k_3 h
      refine lv_aload_n hx hb dX9_number_19 rfl (lv_at hl 0 rfl) ?_
      refine lv_bipush (v := (48 : Int32)) hx hb dX9_number_20 (by decide) ?_
      refine lv_bipush (v := (57 : Int32)) hx hb dX9_number_22 (by decide) ?_
      obtain ⟨r_4, hr_4, h⟩ := zb_e h
      refine k_callVi (rest := []) hE hW hl.1 (mX9_sees hB_st hr_4) hB_st.o hB_st.obj rfl q1032 q1034 qs101 q10 q1035 hd_X9_sees ⟨Nat.le_of_ble_eq_true rfl, Nat.le_of_ble_eq_true rfl⟩ ⟨rfl, rfl⟩ rfl (Nat.le_of_ble_eq_true rfl) dX9_number_24 ⟨Nat.zero_le _, Nat.zero_le _⟩ (fun c1 H locs hP hW => ?_)
      rw [hP] at hW
      refine lv_if_eq (tgt := 61) hx hb dX9_number_27 (by decide) (fun k_5 => ?_) (fun k_5 => ?_)
      · have h := it_t k_5 h
        refine lv_iload_n hx hb dX9_number_61 rfl (lv_at hl 2 rfl) ?_
        obtain ⟨rfl, rfl⟩ := Prod.mk.inj (Option.some.inj h)
        exact k_iret hE hr hlk hW ⟨hB_st, hF⟩ rfl dX9_number_62
      · have h := it_f k_5 h
        refine lv_bipush (v := (10 : Int32)) hx hb dX9_number_30 (by decide) ?_
        refine lv_iload_n hx hb dX9_number_32 rfl (lv_at hl 2 rfl) ?_
        refine lv_imul hx hb dX9_number_33 ?_
        refine lv_aload_n hx hb dX9_number_34 rfl (lv_at hl 0 rfl) ?_
        refine k_get (v := .ref (ad (b + 1 + 3))) hE hW hB_st.o hB_st.obj rfl inX9 4 (by decide) q872 rfl dX9_number_35 ?_
        refine lv_aload_n hx hb dX9_number_38 rfl (lv_at hl 0 rfl) ?_
        refine lv_dup hx hb dX9_number_39 rfl ?_
        refine k_get (v := .int (st.2.1 3)) hE hW hB_st.o hB_st.obj rfl inX9 15 (by decide) q883 rfl dX9_number_40 ?_
        refine lv_dup_x1 hx hb dX9_number_43 rfl rfl ?_
        refine lv_iconst (v := (1 : Int32)) hx hb dX9_number_44 (by decide) ?_
        refine lv_iadd hx hb dX9_number_45 ?_
        obtain ⟨st_6, est_6, h⟩ := zl_e h
        refine k_put hE hW hB_st.o hB_st.obj rfl inX9 tyX9 tyX9_ok nmX9 15 (by decide) q883 rfl rfl rfl (Nat.le_of_ble_eq_true rfl) dX9_number_46 (fun H locs hW => ?_)
        obtain ⟨c, hB_st, hF, hW⟩ : ∃ c', MoB ct J ad c' b st_6 ∧ Fr c0 c' b 19 ∧ HW D J ad c' (aA J ad s.heap.size) s.heap H locs := ⟨_, hB_st.wF (k := 15) (j := 3) rfl est_6, hF.up (by omega) (by omega), hW⟩
        obtain ⟨g_7, h⟩ := zi_e h
        refine k_iald hE hW (hB_st.memA 3 (Nat.le_of_ble_eq_true rfl)) (hB_st.arr 3 rfl) g_7 dX9_number_49 ?_
        refine lv_iadd hx hb dX9_number_50 ?_
        refine lv_bipush (v := (48 : Int32)) hx hb dX9_number_51 (by decide) ?_
        refine lv_isub hx hb dX9_number_53 ?_
        refine lv_topi (fun x_8 ex_8 => ?_)
        have h := zl_n h ex_8
        refine lv_istore_n (lv' := [(2, .int x_8), (0, .ref (ad b)), (1, .int x1), (3, .int x3)]) hx hb dX9_number_54 rfl hl (by decide) rfl (fun ls hl => ?_)
        refine lv_iinc (v := (x3 + (1 : Int32))) (lv' := [(3, .int (x3 + (1 : Int32))), (2, .int x_8), (0, .ref (ad b)), (1, .int x1)]) hx hb dX9_number_55 hl (k := 3) rfl rfl (by decide) rfl (fun ls hl => ?_)
        refine lv_goto (tgt := 14) hx hb dX9_number_58 (by decide) ?_
        exact ih _ _ _ _ _ _ _ hW hB_st hF (lv_sub hl [2, 3, 1, 0] rfl) h
set_option maxHeartbeats 4000000 in
set_option maxRecDepth 100000 in
theorem mX9_number {l : Launch} {D : va_G} {ct : Nat → ClassId} {J : List Nat} {ad : Nat → Nat} {c0 : CF} {a1 : Int32} {b : Nat} {st : MS} (hB_st : MoB ct J ad c0 b st) {r : Int32} {st9 : MS} (h : fX9_number  a1 st = some (r, st9)) : Mi l D ct J ad yX9_number cX9_number 4 (some .int) (rr 3 66) [.ref (ad b), .int a1] c0 r (fun c' => MoB ct J ad c' b st9 ∧ Fr c0 c' b 19) := by
  refine Mi_of (own := RX9) (by decide) rfl (Nat.le_of_ble_eq_true rfl) (fun p e s m below meth cd hE hr hlk hW ls hl => ?_)
  have hx := hE.1
  have hb := hE.2.1
  have hl : lv_has ls 4 [(0, .ref (ad b)), (1, .int a1)] := hl
  rw [fX9_number] at h
  obtain ⟨c, hB_st, hF, hW⟩ : ∃ c', MoB ct J ad c' b st ∧ Fr c0 c' b 19 ∧ HW D J ad c' (aA J ad s.heap.size) s.heap s.heap [] := ⟨c0, hB_st, Fr.rf, hW⟩
  refine lv_aload_n hx hb dX9_number_0 rfl (lv_at hl 0 rfl) ?_
  refine lv_bipush (v := (48 : Int32)) hx hb dX9_number_1 (by decide) ?_
  refine lv_bipush (v := (57 : Int32)) hx hb dX9_number_3 (by decide) ?_
  obtain ⟨r_1, st_2, hr_1, h⟩ := zb2_e h
  refine k_callVi (rest := []) hE hW hl.1 (mX9_must hB_st hr_1) hB_st.o hB_st.obj rfl q1028 q1030 qs100 q10 q1031 hd_X9_must ⟨Nat.le_of_ble_eq_true rfl, Nat.le_of_ble_eq_true rfl⟩ ⟨rfl, rfl⟩ rfl (Nat.le_of_ble_eq_true rfl) dX9_number_5 ⟨Nat.zero_le _, Nat.zero_le _⟩ (fun c1 H locs hP hW => ?_)
  obtain ⟨c, hB_st, hF, hW⟩ : ∃ c', MoB ct J ad c' b st_2 ∧ Fr c0 c' b 19 ∧ HW D J ad c' (aA J ad s.heap.size) s.heap H locs := ⟨c1, hP.1, hF.trans hP.2, hW⟩
  refine lv_bipush (v := (48 : Int32)) hx hb dX9_number_8 (by decide) ?_
  refine lv_isub hx hb dX9_number_10 ?_
  refine lv_istore_n (lv' := [(2, .int (r_1 - (48 : Int32))), (0, .ref (ad b)), (1, .int a1)]) hx hb dX9_number_11 rfl hl (by decide) rfl (fun ls hl => ?_)
  refine lv_iconst (v := (1 : Int32)) hx hb dX9_number_12 (by decide) ?_
  refine lv_istore_n (lv' := [(3, .int (1 : Int32)), (2, .int (r_1 - (48 : Int32))), (0, .ref (ad b)), (1, .int a1)]) hx hb dX9_number_13 rfl hl (by decide) rfl (fun ls hl => ?_)
  exact wX9_number_14 hE hr hlk _ _ _ _ _ _ _ _ hW hB_st hF (lv_sub hl [2, 3, 1, 0] rfl) h
set_option maxHeartbeats 4000000 in
set_option maxRecDepth 100000 in
theorem wX9_clause_175 {p : Program} {l : Launch} {e : Env} {s : State} {m : MethodId} {args : Array Value} {below : List Frame} {meth : Method} {cd : Code} {D : va_G} {ct : Nat → ClassId} {J : List Nat} {ad : Nat → Nat} {c0 : CF} {b : Nat} (hE : ME p s m cd args D ct cX9_clause RX9 5) (hr : meth.sig.returnType = none) (hlk : meth.locks = false) {st9 : MS} : ∀ (x1 : Int32) (y0 : Int32) (y1 : Int32) (st : MS) (c : CF) (H : Heap) (locs : List Loc) (ls : Array Slot), HW D J ad c (aA J ad s.heap.size) s.heap H locs → MoB ct J ad c b st → Fr c0 c b 19 → lv_has ls 5 [(0, .ref (ad b)), (1, .int x1)] → fX9_clause_175 x1 y0 y1 st = some st9 → W p l e (rr 4 89) s m args below meth cd H locs 0 0 (MQ below (Qv D J ad s.heap.size (fun c' => MoB ct J ad c' b st9 ∧ Fr c0 c' b 19)) args s 0 0 (aA J ad s.heap.size)) (F0 m 175 ls [.int y0, .int y1, .ref (ad (b + 1 + 4))]) := by
  have hx := hE.1
  have hb := hE.2.1
  intro x1 y0 y1 st c H locs ls hW hB_st hF hl h
  rw [fX9_clause_175] at h
  obtain ⟨g_27, h⟩ := zi_e h
  obtain ⟨st_28, est_28, h⟩ := zl_e h
  refine k_iast hE hW (hB_st.memA 4 (Nat.le_of_ble_eq_true rfl)) (hB_st.arr 4 rfl) g_27 dX9_clause_175 (fun H locs hW => ?_)
  obtain ⟨c, hB_st, hF, hW⟩ : ∃ c', MoB ct J ad c' b st_28 ∧ Fr c0 c' b 19 ∧ HW D J ad c' (aA J ad s.heap.size) s.heap H locs := ⟨_, hB_st.wA (k := 4) rfl est_28, hF.up (by omega) (by omega), hW⟩
  refine lv_aload_n hx hb dX9_clause_176 rfl (lv_at hl 0 rfl) ?_
  refine lv_bipush (v := (47 : Int32)) hx hb dX9_clause_177 (by decide) ?_
  refine lv_bipush (v := (47 : Int32)) hx hb dX9_clause_179 (by decide) ?_
  obtain ⟨r_29, hr_29, h⟩ := zb_e h
  refine k_callVi (rest := []) hE hW hl.1 (mX9_sees hB_st hr_29) hB_st.o hB_st.obj rfl q1032 q1034 qs101 q10 q1035 hd_X9_sees ⟨Nat.le_of_ble_eq_true rfl, Nat.le_of_ble_eq_true rfl⟩ ⟨rfl, rfl⟩ rfl (Nat.le_of_ble_eq_true rfl) dX9_clause_181 ⟨Nat.zero_le _, Nat.zero_le _⟩ (fun c1 H locs hP hW => ?_)
  rw [hP] at hW
  refine lv_if_eq (tgt := 210) hx hb dX9_clause_184 (by decide) (fun k_30 => ?_) (fun k_30 => ?_)
  · have h := it_t k_30 h
    obtain rfl := Option.some.inj h
    exact k_vret hE hr hlk hW ⟨hB_st, hF⟩ dX9_clause_210
  · have h := it_f k_30 h
    refine lv_aload_n hx hb dX9_clause_187 rfl (lv_at hl 0 rfl) ?_
    refine lv_dup hx hb dX9_clause_188 rfl ?_
    refine k_get (v := .int (st_28.2.1 3)) hE hW hB_st.o hB_st.obj rfl inX9 15 (by decide) q883 rfl dX9_clause_189 ?_
    refine lv_iconst (v := (1 : Int32)) hx hb dX9_clause_192 (by decide) ?_
    refine lv_iadd hx hb dX9_clause_193 ?_
    obtain ⟨st_31, est_31, h⟩ := zl_e h
    refine k_put hE hW hB_st.o hB_st.obj rfl inX9 tyX9 tyX9_ok nmX9 15 (by decide) q883 rfl rfl rfl (Nat.le_of_ble_eq_true rfl) dX9_clause_194 (fun H locs hW => ?_)
    obtain ⟨c, hB_st, hF, hW⟩ : ∃ c', MoB ct J ad c' b st_31 ∧ Fr c0 c' b 19 ∧ HW D J ad c' (aA J ad s.heap.size) s.heap H locs := ⟨_, hB_st.wF (k := 15) (j := 3) rfl est_31, hF.up (by omega) (by omega), hW⟩
    refine lv_aload_n hx hb dX9_clause_197 rfl (lv_at hl 0 rfl) ?_
    refine k_get (v := .ref (ad (b + 1 + 4))) hE hW hB_st.o hB_st.obj rfl inX9 6 (by decide) q874 rfl dX9_clause_198 ?_
    refine lv_iload_n hx hb dX9_clause_201 rfl (lv_at hl 1 rfl) ?_
    refine lv_iconst (v := (4 : Int32)) hx hb dX9_clause_202 (by decide) ?_
    refine lv_iadd hx hb dX9_clause_203 ?_
    refine lv_aload_n hx hb dX9_clause_204 rfl (lv_at hl 0 rfl) ?_
    refine lv_iconst (v := (2 : Int32)) hx hb dX9_clause_205 (by decide) ?_
    obtain ⟨r_32, st_33, hr_32, h⟩ := zb2_e h
    refine k_callVi (rest := [.int (x1 + (4 : Int32)), .ref (ad (b + 1 + 4))]) hE hW hl.1 (mX9_number hB_st hr_32) hB_st.o hB_st.obj rfl q1036 q1038 qs102 q10 q1039 hd_X9_number ⟨Nat.le_of_ble_eq_true rfl, Nat.le_of_ble_eq_true rfl⟩ ⟨rfl, rfl⟩ rfl (Nat.le_of_ble_eq_true rfl) dX9_clause_206 ⟨Nat.zero_le _, Nat.zero_le _⟩ (fun c1 H locs hP hW => ?_)
    obtain ⟨c, hB_st, hF, hW⟩ : ∃ c', MoB ct J ad c' b st_33 ∧ Fr c0 c' b 19 ∧ HW D J ad c' (aA J ad s.heap.size) s.heap H locs := ⟨c1, hP.1, hF.trans hP.2, hW⟩
    obtain ⟨g_34, h⟩ := zi_e h
    obtain ⟨st_35, est_35, h⟩ := zl_e h
    refine k_iast hE hW (hB_st.memA 4 (Nat.le_of_ble_eq_true rfl)) (hB_st.arr 4 rfl) g_34 dX9_clause_209 (fun H locs hW => ?_)
    obtain ⟨c, hB_st, hF, hW⟩ : ∃ c', MoB ct J ad c' b st_35 ∧ Fr c0 c' b 19 ∧ HW D J ad c' (aA J ad s.heap.size) s.heap H locs := ⟨_, hB_st.wA (k := 4) rfl est_35, hF.up (by omega) (by omega), hW⟩
    obtain rfl := Option.some.inj h
    exact k_vret hE hr hlk hW ⟨hB_st, hF⟩ dX9_clause_210
set_option maxHeartbeats 4000000 in
set_option maxRecDepth 100000 in
theorem wX9_clause_126 {p : Program} {l : Launch} {e : Env} {s : State} {m : MethodId} {args : Array Value} {below : List Frame} {meth : Method} {cd : Code} {D : va_G} {ct : Nat → ClassId} {J : List Nat} {ad : Nat → Nat} {c0 : CF} {b : Nat} (hE : ME p s m cd args D ct cX9_clause RX9 5) (hr : meth.sig.returnType = none) (hlk : meth.locks = false) {st9 : MS} : ∀ (x1 : Int32) (x2 : Int32) (x3 : Int32) (y0 : Int32) (y1 : Int32) (st : MS) (c : CF) (H : Heap) (locs : List Loc) (ls : Array Slot), HW D J ad c (aA J ad s.heap.size) s.heap H locs → MoB ct J ad c b st → Fr c0 c b 19 → lv_has ls 5 [(0, .ref (ad b)), (1, .int x1), (2, .int x2), (3, .int x3)] → fX9_clause_126 x1 x2 x3 y0 y1 st = some st9 → W p l e (rr 4 89) s m args below meth cd H locs 0 0 (MQ below (Qv D J ad s.heap.size (fun c' => MoB ct J ad c' b st9 ∧ Fr c0 c' b 19)) args s 0 0 (aA J ad s.heap.size)) (F0 m 126 ls [.int y0, .int y1, .ref (ad (b + 1 + 4))]) := by
  have hx := hE.1
  have hb := hE.2.1
  intro x1 x2 x3 y0 y1 st c H locs ls hW hB_st hF hl h
  rw [fX9_clause_126] at h
  obtain ⟨g_17, h⟩ := zi_e h
  obtain ⟨st_18, est_18, h⟩ := zl_e h
  refine k_iast hE hW (hB_st.memA 4 (Nat.le_of_ble_eq_true rfl)) (hB_st.arr 4 rfl) g_17 dX9_clause_126 (fun H locs hW => ?_)
  obtain ⟨c, hB_st, hF, hW⟩ : ∃ c', MoB ct J ad c' b st_18 ∧ Fr c0 c' b 19 ∧ HW D J ad c' (aA J ad s.heap.size) s.heap H locs := ⟨_, hB_st.wA (k := 4) rfl est_18, hF.up (by omega) (by omega), hW⟩
  refine lv_aload_n hx hb dX9_clause_127 rfl (lv_at hl 0 rfl) ?_
  refine k_get (v := .ref (ad (b + 1 + 4))) hE hW hB_st.o hB_st.obj rfl inX9 6 (by decide) q874 rfl dX9_clause_128 ?_
  refine lv_iload_n hx hb dX9_clause_131 rfl (lv_at hl 1 rfl) ?_
  refine lv_iconst (v := (3 : Int32)) hx hb dX9_clause_132 (by decide) ?_
  refine lv_iadd hx hb dX9_clause_133 ?_
  refine lv_iconst (v := (0 : Int32)) hx hb dX9_clause_134 (by decide) ?_
  obtain ⟨g_19, h⟩ := zi_e h
  obtain ⟨st_20, est_20, h⟩ := zl_e h
  refine k_iast hE hW (hB_st.memA 4 (Nat.le_of_ble_eq_true rfl)) (hB_st.arr 4 rfl) g_19 dX9_clause_135 (fun H locs hW => ?_)
  obtain ⟨c, hB_st, hF, hW⟩ : ∃ c', MoB ct J ad c' b st_20 ∧ Fr c0 c' b 19 ∧ HW D J ad c' (aA J ad s.heap.size) s.heap H locs := ⟨_, hB_st.wA (k := 4) rfl est_20, hF.up (by omega) (by omega), hW⟩
  refine lv_aload_n hx hb dX9_clause_136 rfl (lv_at hl 0 rfl) ?_
  refine k_get (v := .ref (ad (b + 1 + 4))) hE hW hB_st.o hB_st.obj rfl inX9 6 (by decide) q874 rfl dX9_clause_137 ?_
  refine lv_iload_n hx hb dX9_clause_140 rfl (lv_at hl 1 rfl) ?_
  refine lv_iconst (v := (4 : Int32)) hx hb dX9_clause_141 (by decide) ?_
  refine lv_iadd hx hb dX9_clause_142 ?_
  refine lv_iconst (v := (1 : Int32)) hx hb dX9_clause_143 (by decide) ?_
  obtain ⟨g_21, h⟩ := zi_e h
  obtain ⟨st_22, est_22, h⟩ := zl_e h
  refine k_iast hE hW (hB_st.memA 4 (Nat.le_of_ble_eq_true rfl)) (hB_st.arr 4 rfl) g_21 dX9_clause_144 (fun H locs hW => ?_)
  obtain ⟨c, hB_st, hF, hW⟩ : ∃ c', MoB ct J ad c' b st_22 ∧ Fr c0 c' b 19 ∧ HW D J ad c' (aA J ad s.heap.size) s.heap H locs := ⟨_, hB_st.wA (k := 4) rfl est_22, hF.up (by omega) (by omega), hW⟩
  refine lv_iload_n hx hb dX9_clause_145 rfl (lv_at hl 2 rfl) ?_
  refine lv_if_ne (tgt := 210) hx hb dX9_clause_146 (by decide) (fun k_23 => ?_) (fun k_23 => ?_)
  · have h := it_f k_23 h
    obtain rfl := Option.some.inj h
    exact k_vret hE hr hlk hW ⟨hB_st, hF⟩ dX9_clause_210
  · have h := it_t k_23 h
    refine lv_aload_n hx hb dX9_clause_149 rfl (lv_at hl 0 rfl) ?_
    refine lv_iconst (v := (4 : Int32)) hx hb dX9_clause_150 (by decide) ?_
    obtain ⟨r_24, st_25, hr_24, h⟩ := zb2_e h
    refine k_callVi (rest := []) hE hW hl.1 (mX9_number hB_st hr_24) hB_st.o hB_st.obj rfl q1036 q1038 qs102 q10 q1039 hd_X9_number ⟨Nat.le_of_ble_eq_true rfl, Nat.le_of_ble_eq_true rfl⟩ ⟨rfl, rfl⟩ rfl (Nat.le_of_ble_eq_true rfl) dX9_clause_151 ⟨Nat.zero_le _, Nat.zero_le _⟩ (fun c1 H locs hP hW => ?_)
    obtain ⟨c, hB_st, hF, hW⟩ : ∃ c', MoB ct J ad c' b st_25 ∧ Fr c0 c' b 19 ∧ HW D J ad c' (aA J ad s.heap.size) s.heap H locs := ⟨c1, hP.1, hF.trans hP.2, hW⟩
    refine lv_istore (lv' := [(4, .int r_24), (0, .ref (ad b)), (1, .int x1), (2, .int x2), (3, .int x3)]) hx hb dX9_clause_154 hl (by decide) rfl (fun ls hl => ?_)
    refine lv_aload_n hx hb dX9_clause_156 rfl (lv_at hl 1 rfl) ?_
    refine k_get (v := .ref (ad (b + 1 + 4))) hE hW hB_st.o hB_st.obj rfl inX9 6 (by decide) q874 rfl dX9_clause_157 ?_
    refine lv_iload_n hx hb dX9_clause_160 rfl (lv_at hl 2 rfl) ?_
    refine lv_iconst (v := (3 : Int32)) hx hb dX9_clause_161 (by decide) ?_
    refine lv_iadd hx hb dX9_clause_162 ?_
    refine lv_iload_n hx hb dX9_clause_163 rfl (lv_at hl 4 rfl) ?_
    refine lv_if_eq (tgt := 173) hx hb dX9_clause_164 (by decide) (fun k_26 => ?_) (fun k_26 => ?_)
    · have h := it_t k_26 h
      refine lv_iload hx hb dX9_clause_173 (lv_at hl 0 rfl) ?_
      exact wX9_clause_175 hE hr hlk _ _ _ _ _ _ _ _ hW hB_st hF (lv_sub hl [1, 2] rfl) h
    · have h := it_f k_26 h
      refine lv_iload hx hb dX9_clause_167 (lv_at hl 0 rfl) ?_
      refine lv_ineg hx hb dX9_clause_169 ?_
      refine lv_goto (tgt := 175) hx hb dX9_clause_170 (by decide) ?_
      exact wX9_clause_175 hE hr hlk _ _ _ _ _ _ _ _ hW hB_st hF (lv_sub hl [1, 2] rfl) h
set_option maxHeartbeats 4000000 in
set_option maxRecDepth 100000 in
theorem wX9_clause_106 {p : Program} {l : Launch} {e : Env} {s : State} {m : MethodId} {args : Array Value} {below : List Frame} {meth : Method} {cd : Code} {D : va_G} {ct : Nat → ClassId} {J : List Nat} {ad : Nat → Nat} {c0 : CF} {b : Nat} (hE : ME p s m cd args D ct cX9_clause RX9 5) (hr : meth.sig.returnType = none) (hlk : meth.locks = false) {st9 : MS} : ∀ (x1 : Int32) (x2 : Int32) (x3 : Int32) (y0 : Int32) (y1 : Int32) (st : MS) (c : CF) (H : Heap) (locs : List Loc) (ls : Array Slot), HW D J ad c (aA J ad s.heap.size) s.heap H locs → MoB ct J ad c b st → Fr c0 c b 19 → lv_has ls 5 [(0, .ref (ad b)), (1, .int x1), (2, .int x2), (3, .int x3)] → fX9_clause_106 x1 x2 x3 y0 y1 st = some st9 → W p l e (rr 4 89) s m args below meth cd H locs 0 0 (MQ below (Qv D J ad s.heap.size (fun c' => MoB ct J ad c' b st9 ∧ Fr c0 c' b 19)) args s 0 0 (aA J ad s.heap.size)) (F0 m 106 ls [.int y0, .int y1, .ref (ad b)]) := by
  have hx := hE.1
  have hb := hE.2.1
  intro x1 x2 x3 y0 y1 st c H locs ls hW hB_st hF hl h
  rw [fX9_clause_106] at h
  refine lv_iadd hx hb dX9_clause_106 ?_
  obtain ⟨st_15, est_15, h⟩ := zl_e h
  refine k_put hE hW hB_st.o hB_st.obj rfl inX9 tyX9 tyX9_ok nmX9 15 (by decide) q883 rfl rfl rfl (Nat.le_of_ble_eq_true rfl) dX9_clause_107 (fun H locs hW => ?_)
  obtain ⟨c, hB_st, hF, hW⟩ : ∃ c', MoB ct J ad c' b st_15 ∧ Fr c0 c' b 19 ∧ HW D J ad c' (aA J ad s.heap.size) s.heap H locs := ⟨_, hB_st.wF (k := 15) (j := 3) rfl est_15, hF.up (by omega) (by omega), hW⟩
  refine lv_aload_n hx hb dX9_clause_110 rfl (lv_at hl 0 rfl) ?_
  refine k_get (v := .ref (ad (b + 1 + 4))) hE hW hB_st.o hB_st.obj rfl inX9 6 (by decide) q874 rfl dX9_clause_111 ?_
  refine lv_iload_n hx hb dX9_clause_114 rfl (lv_at hl 1 rfl) ?_
  refine lv_iconst (v := (2 : Int32)) hx hb dX9_clause_115 (by decide) ?_
  refine lv_iadd hx hb dX9_clause_116 ?_
  refine lv_iload_n hx hb dX9_clause_117 rfl (lv_at hl 2 rfl) ?_
  refine lv_if_eq (tgt := 125) hx hb dX9_clause_118 (by decide) (fun k_16 => ?_) (fun k_16 => ?_)
  · have h := it_t k_16 h
    refine lv_iconst (v := (0 : Int32)) hx hb dX9_clause_125 (by decide) ?_
    exact wX9_clause_126 hE hr hlk _ _ _ _ _ _ _ _ _ _ hW hB_st hF (lv_sub hl [0, 1, 2, 3] rfl) h
  · have h := it_f k_16 h
    refine lv_iconst (v := (1 : Int32)) hx hb dX9_clause_121 (by decide) ?_
    refine lv_goto (tgt := 126) hx hb dX9_clause_122 (by decide) ?_
    exact wX9_clause_126 hE hr hlk _ _ _ _ _ _ _ _ _ _ hW hB_st hF (lv_sub hl [0, 1, 2, 3] rfl) h
set_option maxHeartbeats 4000000 in
set_option maxRecDepth 100000 in
theorem wX9_clause_91 {p : Program} {l : Launch} {e : Env} {s : State} {m : MethodId} {args : Array Value} {below : List Frame} {meth : Method} {cd : Code} {D : va_G} {ct : Nat → ClassId} {J : List Nat} {ad : Nat → Nat} {c0 : CF} {b : Nat} (hE : ME p s m cd args D ct cX9_clause RX9 5) (hr : meth.sig.returnType = none) (hlk : meth.locks = false) {st9 : MS} : ∀ (x1 : Int32) (x2 : Int32) (y0 : Int32) (st : MS) (c : CF) (H : Heap) (locs : List Loc) (ls : Array Slot), HW D J ad c (aA J ad s.heap.size) s.heap H locs → MoB ct J ad c b st → Fr c0 c b 19 → lv_has ls 5 [(0, .ref (ad b)), (1, .int x1), (2, .int x2)] → fX9_clause_91 x1 x2 y0 st = some st9 → W p l e (rr 4 89) s m args below meth cd H locs 0 0 (MQ below (Qv D J ad s.heap.size (fun c' => MoB ct J ad c' b st9 ∧ Fr c0 c' b 19)) args s 0 0 (aA J ad s.heap.size)) (F0 m 91 ls [.int y0]) := by
  have hx := hE.1
  have hb := hE.2.1
  intro x1 x2 y0 st c H locs ls hW hB_st hF hl h
  rw [fX9_clause_91] at h
  refine lv_istore_n (lv' := [(3, .int y0), (0, .ref (ad b)), (1, .int x1), (2, .int x2)]) hx hb dX9_clause_91 rfl hl (by decide) rfl (fun ls hl => ?_)
  refine lv_aload_n hx hb dX9_clause_92 rfl (lv_at hl 1 rfl) ?_
  refine lv_dup hx hb dX9_clause_93 rfl ?_
  refine k_get (v := .int (st.2.1 3)) hE hW hB_st.o hB_st.obj rfl inX9 15 (by decide) q883 rfl dX9_clause_94 ?_
  refine lv_iload_n hx hb dX9_clause_97 rfl (lv_at hl 0 rfl) ?_
  refine lv_if_eq (tgt := 105) hx hb dX9_clause_98 (by decide) (fun k_14 => ?_) (fun k_14 => ?_)
  · have h := it_t k_14 h
    refine lv_iconst (v := (0 : Int32)) hx hb dX9_clause_105 (by decide) ?_
    exact wX9_clause_106 hE hr hlk _ _ _ _ _ _ _ _ _ _ hW hB_st hF (lv_sub hl [1, 2, 3, 0] rfl) h
  · have h := it_f k_14 h
    refine lv_iconst (v := (1 : Int32)) hx hb dX9_clause_101 (by decide) ?_
    refine lv_goto (tgt := 106) hx hb dX9_clause_102 (by decide) ?_
    exact wX9_clause_106 hE hr hlk _ _ _ _ _ _ _ _ _ _ hW hB_st hF (lv_sub hl [1, 2, 3, 0] rfl) h
set_option maxHeartbeats 4000000 in
set_option maxRecDepth 100000 in
theorem wX9_clause_90 {p : Program} {l : Launch} {e : Env} {s : State} {m : MethodId} {args : Array Value} {below : List Frame} {meth : Method} {cd : Code} {D : va_G} {ct : Nat → ClassId} {J : List Nat} {ad : Nat → Nat} {c0 : CF} {b : Nat} (hE : ME p s m cd args D ct cX9_clause RX9 5) (hr : meth.sig.returnType = none) (hlk : meth.locks = false) {st9 : MS} : ∀ (x1 : Int32) (x2 : Int32) (st : MS) (c : CF) (H : Heap) (locs : List Loc) (ls : Array Slot), HW D J ad c (aA J ad s.heap.size) s.heap H locs → MoB ct J ad c b st → Fr c0 c b 19 → lv_has ls 5 [(0, .ref (ad b)), (1, .int x1), (2, .int x2)] → fX9_clause_90 x1 x2 st = some st9 → W p l e (rr 4 89) s m args below meth cd H locs 0 0 (MQ below (Qv D J ad s.heap.size (fun c' => MoB ct J ad c' b st9 ∧ Fr c0 c' b 19)) args s 0 0 (aA J ad s.heap.size)) (F0 m 90 ls []) := by
  have hx := hE.1
  have hb := hE.2.1
  intro x1 x2 st c H locs ls hW hB_st hF hl h
  rw [fX9_clause_90] at h
  refine lv_iconst (v := (0 : Int32)) hx hb dX9_clause_90 (by decide) ?_
  exact wX9_clause_91 hE hr hlk _ _ _ _ _ _ _ _ hW hB_st hF (lv_sub hl [0, 1, 2] rfl) h
set_option maxHeartbeats 4000000 in
set_option maxRecDepth 100000 in
theorem wX9_clause_71 {p : Program} {l : Launch} {e : Env} {s : State} {m : MethodId} {args : Array Value} {below : List Frame} {meth : Method} {cd : Code} {D : va_G} {ct : Nat → ClassId} {J : List Nat} {ad : Nat → Nat} {c0 : CF} {b : Nat} (hE : ME p s m cd args D ct cX9_clause RX9 5) (hr : meth.sig.returnType = none) (hlk : meth.locks = false) {st9 : MS} : ∀ (x1 : Int32) (x2 : Int32) (st : MS) (c : CF) (H : Heap) (locs : List Loc) (ls : Array Slot), HW D J ad c (aA J ad s.heap.size) s.heap H locs → MoB ct J ad c b st → Fr c0 c b 19 → lv_has ls 5 [(0, .ref (ad b)), (1, .int x1), (2, .int x2)] → fX9_clause_71 x1 x2 st = some st9 → W p l e (rr 4 89) s m args below meth cd H locs 0 0 (MQ below (Qv D J ad s.heap.size (fun c' => MoB ct J ad c' b st9 ∧ Fr c0 c' b 19)) args s 0 0 (aA J ad s.heap.size)) (F0 m 71 ls []) := by
  have hx := hE.1
  have hb := hE.2.1
  intro x1 x2 st c H locs ls hW hB_st hF hl h
  rw [fX9_clause_71] at h
  refine lv_iload_n hx hb dX9_clause_71 rfl (lv_at hl 2 rfl) ?_
  refine lv_if_ne (tgt := 90) hx hb dX9_clause_72 (by decide) (fun k_13 => ?_) (fun k_13 => ?_)
  · have h := it_f k_13 h
    exact wX9_clause_90 hE hr hlk _ _ _ _ _ _ _ hW hB_st hF (lv_sub hl [0, 1, 2] rfl) h
  · have h := it_t k_13 h
    refine lv_aload_n hx hb dX9_clause_75 rfl (lv_at hl 0 rfl) ?_
    refine lv_bipush (v := (45 : Int32)) hx hb dX9_clause_76 (by decide) ?_
    refine lv_bipush (v := (45 : Int32)) hx hb dX9_clause_78 (by decide) ?_
    obtain ⟨r_36, hr_36, h⟩ := zb_e h
    refine k_callVi (rest := []) hE hW hl.1 (mX9_sees hB_st hr_36) hB_st.o hB_st.obj rfl q1032 q1034 qs101 q10 q1035 hd_X9_sees ⟨Nat.le_of_ble_eq_true rfl, Nat.le_of_ble_eq_true rfl⟩ ⟨rfl, rfl⟩ rfl (Nat.le_of_ble_eq_true rfl) dX9_clause_80 ⟨Nat.zero_le _, Nat.zero_le _⟩ (fun c1 H locs hP hW => ?_)
    rw [hP] at hW
    refine lv_if_eq (tgt := 90) hx hb dX9_clause_83 (by decide) (fun k_37 => ?_) (fun k_37 => ?_)
    · have h := it_t k_37 h
      exact wX9_clause_90 hE hr hlk _ _ _ _ _ _ _ hW hB_st hF (lv_sub hl [0, 1, 2] rfl) h
    · have h := it_f k_37 h
      refine lv_iconst (v := (1 : Int32)) hx hb dX9_clause_86 (by decide) ?_
      refine lv_goto (tgt := 91) hx hb dX9_clause_87 (by decide) ?_
      exact wX9_clause_91 hE hr hlk _ _ _ _ _ _ _ _ hW hB_st hF (lv_sub hl [0, 1, 2] rfl) h
set_option maxHeartbeats 4000000 in
set_option maxRecDepth 100000 in
theorem mX9_clause {l : Launch} {D : va_G} {ct : Nat → ClassId} {J : List Nat} {ad : Nat → Nat} {c0 : CF} {a1 : Int32} {b : Nat} {st : MS} (hB_st : MoB ct J ad c0 b st) {st9 : MS} (h : fX9_clause  a1 st = some st9) : Mv l D ct J ad yX9_clause cX9_clause 5 none (rr 4 89) [.ref (ad b), .int a1] c0 (fun c' => MoB ct J ad c' b st9 ∧ Fr c0 c' b 19) := by
  refine Mv_of (own := RX9) (by decide) rfl (Nat.le_of_ble_eq_true rfl) (fun p e s m below meth cd hE hr hlk hW ls hl => ?_)
  have hx := hE.1
  have hb := hE.2.1
  have hl : lv_has ls 5 [(0, .ref (ad b)), (1, .int a1)] := hl
  rw [fX9_clause] at h
  obtain ⟨c, hB_st, hF, hW⟩ : ∃ c', MoB ct J ad c' b st ∧ Fr c0 c' b 19 ∧ HW D J ad c' (aA J ad s.heap.size) s.heap s.heap [] := ⟨c0, hB_st, Fr.rf, hW⟩
  refine lv_aload_n hx hb dX9_clause_0 rfl (lv_at hl 0 rfl) ?_
  refine k_get (v := .ref (ad (b + 1 + 4))) hE hW hB_st.o hB_st.obj rfl inX9 6 (by decide) q874 rfl dX9_clause_1 ?_
  refine lv_iload_n hx hb dX9_clause_4 rfl (lv_at hl 1 rfl) ?_
  refine lv_aload_n hx hb dX9_clause_5 rfl (lv_at hl 0 rfl) ?_
  refine lv_bipush (v := (48 : Int32)) hx hb dX9_clause_6 (by decide) ?_
  refine lv_bipush (v := (51 : Int32)) hx hb dX9_clause_8 (by decide) ?_
  obtain ⟨r_1, st_2, hr_1, h⟩ := zb2_e h
  refine k_callVi (rest := [.int a1, .ref (ad (b + 1 + 4))]) hE hW hl.1 (mX9_must hB_st hr_1) hB_st.o hB_st.obj rfl q1028 q1030 qs100 q10 q1031 hd_X9_must ⟨Nat.le_of_ble_eq_true rfl, Nat.le_of_ble_eq_true rfl⟩ ⟨rfl, rfl⟩ rfl (Nat.le_of_ble_eq_true rfl) dX9_clause_10 ⟨Nat.zero_le _, Nat.zero_le _⟩ (fun c1 H locs hP hW => ?_)
  obtain ⟨c, hB_st, hF, hW⟩ : ∃ c', MoB ct J ad c' b st_2 ∧ Fr c0 c' b 19 ∧ HW D J ad c' (aA J ad s.heap.size) s.heap H locs := ⟨c1, hP.1, hF.trans hP.2, hW⟩
  refine lv_bipush (v := (48 : Int32)) hx hb dX9_clause_13 (by decide) ?_
  refine lv_isub hx hb dX9_clause_15 ?_
  obtain ⟨g_3, h⟩ := zi_e h
  obtain ⟨st_4, est_4, h⟩ := zl_e h
  refine k_iast hE hW (hB_st.memA 4 (Nat.le_of_ble_eq_true rfl)) (hB_st.arr 4 rfl) g_3 dX9_clause_16 (fun H locs hW => ?_)
  obtain ⟨c, hB_st, hF, hW⟩ : ∃ c', MoB ct J ad c' b st_4 ∧ Fr c0 c' b 19 ∧ HW D J ad c' (aA J ad s.heap.size) s.heap H locs := ⟨_, hB_st.wA (k := 4) rfl est_4, hF.up (by omega) (by omega), hW⟩
  refine lv_aload_n hx hb dX9_clause_17 rfl (lv_at hl 0 rfl) ?_
  refine k_get (v := .ref (ad (b + 1 + 4))) hE hW hB_st.o hB_st.obj rfl inX9 6 (by decide) q874 rfl dX9_clause_18 ?_
  refine lv_iload_n hx hb dX9_clause_21 rfl (lv_at hl 1 rfl) ?_
  refine lv_iconst (v := (1 : Int32)) hx hb dX9_clause_22 (by decide) ?_
  refine lv_iadd hx hb dX9_clause_23 ?_
  refine lv_aload_n hx hb dX9_clause_24 rfl (lv_at hl 0 rfl) ?_
  refine lv_bipush (v := (97 : Int32)) hx hb dX9_clause_25 (by decide) ?_
  refine lv_bipush (v := (122 : Int32)) hx hb dX9_clause_27 (by decide) ?_
  obtain ⟨r_5, st_6, hr_5, h⟩ := zb2_e h
  refine k_callVi (rest := [.int (a1 + (1 : Int32)), .ref (ad (b + 1 + 4))]) hE hW hl.1 (mX9_must hB_st hr_5) hB_st.o hB_st.obj rfl q1028 q1030 qs100 q10 q1031 hd_X9_must ⟨Nat.le_of_ble_eq_true rfl, Nat.le_of_ble_eq_true rfl⟩ ⟨rfl, rfl⟩ rfl (Nat.le_of_ble_eq_true rfl) dX9_clause_29 ⟨Nat.zero_le _, Nat.zero_le _⟩ (fun c1 H locs hP hW => ?_)
  obtain ⟨c, hB_st, hF, hW⟩ : ∃ c', MoB ct J ad c' b st_6 ∧ Fr c0 c' b 19 ∧ HW D J ad c' (aA J ad s.heap.size) s.heap H locs := ⟨c1, hP.1, hF.trans hP.2, hW⟩
  refine lv_bipush (v := (97 : Int32)) hx hb dX9_clause_32 (by decide) ?_
  refine lv_isub hx hb dX9_clause_34 ?_
  obtain ⟨g_7, h⟩ := zi_e h
  obtain ⟨st_8, est_8, h⟩ := zl_e h
  refine k_iast hE hW (hB_st.memA 4 (Nat.le_of_ble_eq_true rfl)) (hB_st.arr 4 rfl) g_7 dX9_clause_35 (fun H locs hW => ?_)
  obtain ⟨c, hB_st, hF, hW⟩ : ∃ c', MoB ct J ad c' b st_8 ∧ Fr c0 c' b 19 ∧ HW D J ad c' (aA J ad s.heap.size) s.heap H locs := ⟨_, hB_st.wA (k := 4) rfl est_8, hF.up (by omega) (by omega), hW⟩
  refine lv_aload_n hx hb dX9_clause_36 rfl (lv_at hl 0 rfl) ?_
  refine lv_bipush (v := (45 : Int32)) hx hb dX9_clause_37 (by decide) ?_
  refine lv_bipush (v := (45 : Int32)) hx hb dX9_clause_39 (by decide) ?_
  obtain ⟨r_9, hr_9, h⟩ := zb_e h
  refine k_callVi (rest := []) hE hW hl.1 (mX9_sees hB_st hr_9) hB_st.o hB_st.obj rfl q1032 q1034 qs101 q10 q1035 hd_X9_sees ⟨Nat.le_of_ble_eq_true rfl, Nat.le_of_ble_eq_true rfl⟩ ⟨rfl, rfl⟩ rfl (Nat.le_of_ble_eq_true rfl) dX9_clause_41 ⟨Nat.zero_le _, Nat.zero_le _⟩ (fun c1 H locs hP hW => ?_)
  rw [hP] at hW
  refine lv_istore_n (lv' := [(2, .int r_9), (0, .ref (ad b)), (1, .int a1)]) hx hb dX9_clause_44 rfl hl (by decide) rfl (fun ls hl => ?_)
  refine lv_iload_n hx hb dX9_clause_45 rfl (lv_at hl 0 rfl) ?_
  refine lv_if_eq (tgt := 62) hx hb dX9_clause_46 (by decide) (fun k_10 => ?_) (fun k_10 => ?_)
  · have h := it_t k_10 h
    refine lv_aload_n hx hb dX9_clause_62 rfl (lv_at hl 1 rfl) ?_
    refine lv_bipush (v := (61 : Int32)) hx hb dX9_clause_63 (by decide) ?_
    refine lv_bipush (v := (61 : Int32)) hx hb dX9_clause_65 (by decide) ?_
    obtain ⟨r_11, st_12, hr_11, h⟩ := zb2_e h
    refine k_callVi (rest := []) hE hW hl.1 (mX9_must hB_st hr_11) hB_st.o hB_st.obj rfl q1028 q1030 qs100 q10 q1031 hd_X9_must ⟨Nat.le_of_ble_eq_true rfl, Nat.le_of_ble_eq_true rfl⟩ ⟨rfl, rfl⟩ rfl (Nat.le_of_ble_eq_true rfl) dX9_clause_67 ⟨Nat.zero_le _, Nat.zero_le _⟩ (fun c1 H locs hP hW => ?_)
    obtain ⟨c, hB_st, hF, hW⟩ : ∃ c', MoB ct J ad c' b st_12 ∧ Fr c0 c' b 19 ∧ HW D J ad c' (aA J ad s.heap.size) s.heap H locs := ⟨c1, hP.1, hF.trans hP.2, hW⟩
    refine lv_pop hx hb dX9_clause_70 rfl ?_
    exact wX9_clause_71 hE hr hlk _ _ _ _ _ _ _ hW hB_st hF (lv_sub hl [1, 2, 0] rfl) h
  · have h := it_f k_10 h
    refine lv_aload_n hx hb dX9_clause_49 rfl (lv_at hl 1 rfl) ?_
    refine lv_dup hx hb dX9_clause_50 rfl ?_
    refine k_get (v := .int (st_8.2.1 3)) hE hW hB_st.o hB_st.obj rfl inX9 15 (by decide) q883 rfl dX9_clause_51 ?_
    refine lv_iconst (v := (1 : Int32)) hx hb dX9_clause_54 (by decide) ?_
    refine lv_iadd hx hb dX9_clause_55 ?_
    obtain ⟨st_38, est_38, h⟩ := zl_e h
    refine k_put hE hW hB_st.o hB_st.obj rfl inX9 tyX9 tyX9_ok nmX9 15 (by decide) q883 rfl rfl rfl (Nat.le_of_ble_eq_true rfl) dX9_clause_56 (fun H locs hW => ?_)
    obtain ⟨c, hB_st, hF, hW⟩ : ∃ c', MoB ct J ad c' b st_38 ∧ Fr c0 c' b 19 ∧ HW D J ad c' (aA J ad s.heap.size) s.heap H locs := ⟨_, hB_st.wF (k := 15) (j := 3) rfl est_38, hF.up (by omega) (by omega), hW⟩
    refine lv_goto (tgt := 71) hx hb dX9_clause_59 (by decide) ?_
    exact wX9_clause_71 hE hr hlk _ _ _ _ _ _ _ hW hB_st hF (lv_sub hl [1, 2, 0] rfl) h
set_option maxHeartbeats 4000000 in
set_option maxRecDepth 100000 in
theorem wX9_replays_23 {p : Program} {l : Launch} {e : Env} {s : State} {m : MethodId} {args : Array Value} {below : List Frame} {meth : Method} {cd : Code} {D : va_G} {ct : Nat → ClassId} {J : List Nat} {ad : Nat → Nat} {c0 : CF} {b : Nat} (hE : ME p s m cd args D ct cX9_replays RX9 4) (hr : meth.sig.returnType = none) (hlk : meth.locks = false) {x1 : Int32} {x2 : Int32} {st9 : MS} : ∀ (n : Nat) (x3 : Int32) (st : MS) (c : CF) (H : Heap) (locs : List Loc) (ls : Array Slot), HW D J ad c (aA J ad s.heap.size) s.heap H locs → MoB ct J ad c b st → Fr c0 c b 19 → lv_has ls 4 [(0, .ref (ad b)), (1, .int x1), (2, .int x2), (3, .int x3)] → fX9_replays_23 x1 x2 n x3 st = some st9 → W p l e (rr 1 22) s m args below meth cd H locs 0 0 (MQ below (Qv D J ad s.heap.size (fun c' => MoB ct J ad c' b st9 ∧ Fr c0 c' b 19)) args s 0 0 (aA J ad s.heap.size)) (F0 m 23 ls []) := by
  have hx := hE.1
  have hb := hE.2.1
  intro n
  induction n with
  | zero =>
    intro x3 st c H locs ls hW hB_st hF hl h
    have h2 : (none : Option MS) = some st9 := h
    cases h2
  | succ n ih =>
    intro x3 st c H locs ls hW hB_st hF hl h
    rw [fX9_replays_23] at h
    refine lv_iload_n hx hb dX9_replays_23 rfl (lv_at hl 3 rfl) ?_
    refine lv_sipush (v := (200 : Int32)) hx hb dX9_replays_24 (by decide) ?_
    refine lv_icmp_ge (tgt := 69) hx hb dX9_replays_27 (by decide) (fun k_2 => ?_) (fun k_2 => ?_)
    · have h := it_t k_2 h
      obtain rfl := Option.some.inj h
      exact k_vret hE hr hlk hW ⟨hB_st, hF⟩ dX9_replays_69
    · have h := it_f k_2 h
      refine lv_iload_n hx hb dX9_replays_30 rfl (lv_at hl 3 rfl) ?_
      refine lv_iload_n hx hb dX9_replays_31 rfl (lv_at hl 2 rfl) ?_
      refine lv_icmp_ge (tgt := 69) hx hb dX9_replays_32 (by decide) (fun k_3 => ?_) (fun k_3 => ?_)
      · have h := it_t k_3 h
        obtain rfl := Option.some.inj h
        exact k_vret hE hr hlk hW ⟨hB_st, hF⟩ dX9_replays_69
      · have h := it_f k_3 h
        refine lv_aload_n hx hb dX9_replays_35 rfl (lv_at hl 0 rfl) ?_
        refine lv_iload_n hx hb dX9_replays_36 rfl (lv_at hl 1 rfl) ?_
        refine lv_iconst (v := (0 : Int32)) hx hb dX9_replays_37 (by decide) ?_
        refine lv_iload_n hx hb dX9_replays_38 rfl (lv_at hl 3 rfl) ?_
        refine lv_iadd hx hb dX9_replays_39 ?_
        obtain ⟨r_4, hr_4, h⟩ := zb_e h
        refine k_callVi (rest := []) hE hW hl.1 (mX9_at hB_st hr_4) hB_st.o hB_st.obj rfl q934 q936 qs87 q10 q937 hd_X9_at ⟨Nat.le_of_ble_eq_true rfl, Nat.le_of_ble_eq_true rfl⟩ ⟨rfl, rfl⟩ rfl (Nat.le_of_ble_eq_true rfl) dX9_replays_40 ⟨Nat.zero_le _, Nat.zero_le _⟩ (fun c1 H locs hP hW => ?_)
        rw [hP] at hW
        refine lv_iconst (v := (1 : Int32)) hx hb dX9_replays_43 (by decide) ?_
        refine lv_icmp_ne (tgt := 63) hx hb dX9_replays_44 (by decide) (fun k_5 => ?_) (fun k_5 => ?_)
        · have h := it_f k_5 h
          refine lv_iinc (v := (x3 + (1 : Int32))) (lv' := [(3, .int (x3 + (1 : Int32))), (0, .ref (ad b)), (1, .int x1), (2, .int x2)]) hx hb dX9_replays_63 hl (k := 3) rfl rfl (by decide) rfl (fun ls hl => ?_)
          refine lv_goto (tgt := 23) hx hb dX9_replays_66 (by decide) ?_
          exact ih _ _ _ _ _ _ hW hB_st hF (lv_sub hl [1, 2, 3, 0] rfl) h
        · have h := it_t k_5 h
          refine lv_aload_n hx hb dX9_replays_47 rfl (lv_at hl 0 rfl) ?_
          refine k_get (v := .ref (ad (b + 1 + 5))) hE hW hB_st.o hB_st.obj rfl inX9 7 (by decide) q875 rfl dX9_replays_48 ?_
          refine lv_aload_n hx hb dX9_replays_51 rfl (lv_at hl 0 rfl) ?_
          refine lv_iload_n hx hb dX9_replays_52 rfl (lv_at hl 1 rfl) ?_
          refine lv_sipush (v := (200 : Int32)) hx hb dX9_replays_53 (by decide) ?_
          refine lv_iload_n hx hb dX9_replays_56 rfl (lv_at hl 3 rfl) ?_
          refine lv_iadd hx hb dX9_replays_57 ?_
          obtain ⟨r_6, hr_6, h⟩ := zb_e h
          refine k_callVi (rest := [.ref (ad (b + 1 + 5))]) hE hW hl.1 (mX9_at hB_st hr_6) hB_st.o hB_st.obj rfl q934 q936 qs87 q10 q937 hd_X9_at ⟨Nat.le_of_ble_eq_true rfl, Nat.le_of_ble_eq_true rfl⟩ ⟨rfl, rfl⟩ rfl (Nat.le_of_ble_eq_true rfl) dX9_replays_58 ⟨Nat.zero_le _, Nat.zero_le _⟩ (fun c1 H locs hP hW => ?_)
          rw [hP] at hW
          refine lv_iload_n hx hb dX9_replays_61 rfl (lv_at hl 3 rfl) ?_
          obtain ⟨g_7, h⟩ := zi_e h
          obtain ⟨st_8, est_8, h⟩ := zl_e h
          refine k_iast hE hW (hB_st.memA 5 (Nat.le_of_ble_eq_true rfl)) (hB_st.arr 5 rfl) g_7 dX9_replays_62 (fun H locs hW => ?_)
          obtain ⟨c, hB_st, hF, hW⟩ : ∃ c', MoB ct J ad c' b st_8 ∧ Fr c0 c' b 19 ∧ HW D J ad c' (aA J ad s.heap.size) s.heap H locs := ⟨_, hB_st.wA (k := 5) rfl est_8, hF.up (by omega) (by omega), hW⟩
          refine lv_iinc (v := (x3 + (1 : Int32))) (lv' := [(3, .int (x3 + (1 : Int32))), (0, .ref (ad b)), (1, .int x1), (2, .int x2)]) hx hb dX9_replays_63 hl (k := 3) rfl rfl (by decide) rfl (fun ls hl => ?_)
          refine lv_goto (tgt := 23) hx hb dX9_replays_66 (by decide) ?_
          exact ih _ _ _ _ _ _ hW hB_st hF (lv_sub hl [1, 2, 3, 0] rfl) h
set_option maxHeartbeats 4000000 in
set_option maxRecDepth 100000 in
theorem wX9_replays_2 {p : Program} {l : Launch} {e : Env} {s : State} {m : MethodId} {args : Array Value} {below : List Frame} {meth : Method} {cd : Code} {D : va_G} {ct : Nat → ClassId} {J : List Nat} {ad : Nat → Nat} {c0 : CF} {b : Nat} (hE : ME p s m cd args D ct cX9_replays RX9 4) (hr : meth.sig.returnType = none) (hlk : meth.locks = false) {x1 : Int32} {x2 : Int32} {st9 : MS} : ∀ (n : Nat) (x3 : Int32) (st : MS) (c : CF) (H : Heap) (locs : List Loc) (ls : Array Slot), HW D J ad c (aA J ad s.heap.size) s.heap H locs → MoB ct J ad c b st → Fr c0 c b 19 → lv_has ls 4 [(0, .ref (ad b)), (1, .int x1), (2, .int x2), (3, .int x3)] → fX9_replays_2 x1 x2 n x3 st = some st9 → W p l e (rr 1 22) s m args below meth cd H locs 0 0 (MQ below (Qv D J ad s.heap.size (fun c' => MoB ct J ad c' b st9 ∧ Fr c0 c' b 19)) args s 0 0 (aA J ad s.heap.size)) (F0 m 2 ls []) := by
  have hx := hE.1
  have hb := hE.2.1
  intro n
  induction n with
  | zero =>
    intro x3 st c H locs ls hW hB_st hF hl h
    have h2 : (none : Option MS) = some st9 := h
    cases h2
  | succ n ih =>
    intro x3 st c H locs ls hW hB_st hF hl h
    rw [fX9_replays_2] at h
    refine lv_iload_n hx hb dX9_replays_2 rfl (lv_at hl 3 rfl) ?_
    refine lv_bipush (v := (26 : Int32)) hx hb dX9_replays_3 (by decide) ?_
    refine lv_icmp_ge (tgt := 21) hx hb dX9_replays_5 (by decide) (fun k_1 => ?_) (fun k_1 => ?_)
    · have h := it_t k_1 h
      refine lv_iconst (v := (0 : Int32)) hx hb dX9_replays_21 (by decide) ?_
      refine lv_istore_n (lv' := [(3, .int (0 : Int32)), (0, .ref (ad b)), (1, .int x1), (2, .int x2)]) hx hb dX9_replays_22 rfl hl (by decide) rfl (fun ls hl => ?_)
      exact wX9_replays_23 hE hr hlk _ _ _ _ _ _ _ hW hB_st hF (lv_sub hl [1, 2, 3, 0] rfl) h
    · have h := it_f k_1 h
      refine lv_aload_n hx hb dX9_replays_8 rfl (lv_at hl 0 rfl) ?_
      refine k_get (v := .ref (ad (b + 1 + 5))) hE hW hB_st.o hB_st.obj rfl inX9 7 (by decide) q875 rfl dX9_replays_9 ?_
      refine lv_iload_n hx hb dX9_replays_12 rfl (lv_at hl 3 rfl) ?_
      refine lv_iconst (v := (-1 : Int32)) hx hb dX9_replays_13 (by decide) ?_
      obtain ⟨g_9, h⟩ := zi_e h
      obtain ⟨st_10, est_10, h⟩ := zl_e h
      refine k_iast hE hW (hB_st.memA 5 (Nat.le_of_ble_eq_true rfl)) (hB_st.arr 5 rfl) g_9 dX9_replays_14 (fun H locs hW => ?_)
      obtain ⟨c, hB_st, hF, hW⟩ : ∃ c', MoB ct J ad c' b st_10 ∧ Fr c0 c' b 19 ∧ HW D J ad c' (aA J ad s.heap.size) s.heap H locs := ⟨_, hB_st.wA (k := 5) rfl est_10, hF.up (by omega) (by omega), hW⟩
      refine lv_iinc (v := (x3 + (1 : Int32))) (lv' := [(3, .int (x3 + (1 : Int32))), (0, .ref (ad b)), (1, .int x1), (2, .int x2)]) hx hb dX9_replays_15 hl (k := 3) rfl rfl (by decide) rfl (fun ls hl => ?_)
      refine lv_goto (tgt := 2) hx hb dX9_replays_18 (by decide) ?_
      exact ih _ _ _ _ _ _ hW hB_st hF (lv_sub hl [1, 2, 3, 0] rfl) h
set_option maxHeartbeats 4000000 in
set_option maxRecDepth 100000 in
theorem mX9_replays {l : Launch} {D : va_G} {ct : Nat → ClassId} {J : List Nat} {ad : Nat → Nat} {c0 : CF} {a1 : Int32} {a2 : Int32} {b : Nat} {st : MS} (hB_st : MoB ct J ad c0 b st) {st9 : MS} (h : fX9_replays  a1 a2 st = some st9) : Mv l D ct J ad yX9_replays cX9_replays 4 none (rr 1 22) [.ref (ad b), .int a1, .int a2] c0 (fun c' => MoB ct J ad c' b st9 ∧ Fr c0 c' b 19) := by
  refine Mv_of (own := RX9) (by decide) rfl (Nat.le_of_ble_eq_true rfl) (fun p e s m below meth cd hE hr hlk hW ls hl => ?_)
  have hx := hE.1
  have hb := hE.2.1
  have hl : lv_has ls 4 [(0, .ref (ad b)), (1, .int a1), (2, .int a2)] := hl
  rw [fX9_replays] at h
  obtain ⟨c, hB_st, hF, hW⟩ : ∃ c', MoB ct J ad c' b st ∧ Fr c0 c' b 19 ∧ HW D J ad c' (aA J ad s.heap.size) s.heap s.heap [] := ⟨c0, hB_st, Fr.rf, hW⟩
  refine lv_iconst (v := (0 : Int32)) hx hb dX9_replays_0 (by decide) ?_
  refine lv_istore_n (lv' := [(3, .int (0 : Int32)), (0, .ref (ad b)), (1, .int a1), (2, .int a2)]) hx hb dX9_replays_1 rfl hl (by decide) rfl (fun ls hl => ?_)
  exact wX9_replays_2 hE hr hlk _ _ _ _ _ _ _ hW hB_st hF (lv_sub hl [1, 2, 3, 0] rfl) h
set_option maxHeartbeats 4000000 in
set_option maxRecDepth 100000 in
theorem mX9_isMapped {l : Launch} {D : va_G} {ct : Nat → ClassId} {J : List Nat} {ad : Nat → Nat} {c0 : CF} {a1 : Int32} {a2 : Int32} {b : Nat} {st : MS} (hB_st : MoB ct J ad c0 b st) {r : Int32} (h : fX9_isMapped  a1 a2 st = some r) : Mi l D ct J ad yX9_isMapped cX9_isMapped 3 (some .boolean) (rr 1 22) [.ref (ad b), .int a1, .int a2] c0 r (fun c' => c' = c0) := by
  refine Mi_of (own := RX9) (by decide) rfl (Nat.le_of_ble_eq_true rfl) (fun p e s m below meth cd hE hr hlk hW ls hl => ?_)
  have hx := hE.1
  have hb := hE.2.1
  have hl : lv_has ls 3 [(0, .ref (ad b)), (1, .int a1), (2, .int a2)] := hl
  rw [fX9_isMapped] at h
  refine lv_aload_n hx hb dX9_isMapped_0 rfl (lv_at hl 0 rfl) ?_
  refine k_get (v := .ref (ad (b + 1 + 5))) hE hW hB_st.o hB_st.obj rfl inX9 7 (by decide) q875 rfl dX9_isMapped_1 ?_
  refine lv_iload_n hx hb dX9_isMapped_4 rfl (lv_at hl 2 rfl) ?_
  obtain ⟨g_1, h⟩ := zi_e h
  refine k_iald hE hW (hB_st.memA 5 (Nat.le_of_ble_eq_true rfl)) (hB_st.arr 5 rfl) g_1 dX9_isMapped_5 ?_
  refine lv_if_lt (tgt := 31) hx hb dX9_isMapped_6 (by decide) (fun k_2 => ?_) (fun k_2 => ?_)
  · have h := it_t k_2 h
    refine lv_iconst (v := (0 : Int32)) hx hb dX9_isMapped_31 (by decide) ?_
    obtain rfl := Option.some.inj h
    exact k_zret hE hr hlk hW rfl rfl rfl dX9_isMapped_32
  · have h := it_f k_2 h
    refine lv_aload_n hx hb dX9_isMapped_9 rfl (lv_at hl 0 rfl) ?_
    refine lv_iload_n hx hb dX9_isMapped_10 rfl (lv_at hl 1 rfl) ?_
    refine lv_sipush (v := (800 : Int32)) hx hb dX9_isMapped_11 (by decide) ?_
    refine lv_aload_n hx hb dX9_isMapped_14 rfl (lv_at hl 0 rfl) ?_
    refine k_get (v := .ref (ad (b + 1 + 5))) hE hW hB_st.o hB_st.obj rfl inX9 7 (by decide) q875 rfl dX9_isMapped_15 ?_
    refine lv_iload_n hx hb dX9_isMapped_18 rfl (lv_at hl 2 rfl) ?_
    obtain ⟨g_3, h⟩ := zi_e h
    refine k_iald hE hW (hB_st.memA 5 (Nat.le_of_ble_eq_true rfl)) (hB_st.arr 5 rfl) g_3 dX9_isMapped_19 ?_
    refine lv_iadd hx hb dX9_isMapped_20 ?_
    obtain ⟨r_4, hr_4, h⟩ := zb_e h
    refine k_callVi (rest := []) hE hW hl.1 (mX9_at hB_st hr_4) hB_st.o hB_st.obj rfl q934 q936 qs87 q10 q937 hd_X9_at ⟨Nat.le_of_ble_eq_true rfl, Nat.le_of_ble_eq_true rfl⟩ ⟨rfl, rfl⟩ rfl (Nat.le_of_ble_eq_true rfl) dX9_isMapped_21 ⟨Nat.zero_le _, Nat.zero_le _⟩ (fun c1 H locs hP hW => ?_)
    rw [hP] at hW
    refine lv_if_ne (tgt := 31) hx hb dX9_isMapped_24 (by decide) (fun k_5 => ?_) (fun k_5 => ?_)
    · have h := it_f k_5 h
      refine lv_iconst (v := (0 : Int32)) hx hb dX9_isMapped_31 (by decide) ?_
      obtain rfl := Option.some.inj h
      exact k_zret hE hr hlk hW rfl rfl rfl dX9_isMapped_32
    · have h := it_t k_5 h
      refine lv_iconst (v := (1 : Int32)) hx hb dX9_isMapped_27 (by decide) ?_
      refine lv_goto (tgt := 32) hx hb dX9_isMapped_28 (by decide) ?_
      obtain rfl := Option.some.inj h
      exact k_zret hE hr hlk hW rfl rfl rfl dX9_isMapped_32
set_option maxHeartbeats 4000000 in
set_option maxRecDepth 100000 in
theorem wX9_mapped_4 {p : Program} {l : Launch} {e : Env} {s : State} {m : MethodId} {args : Array Value} {below : List Frame} {meth : Method} {cd : Code} {D : va_G} {ct : Nat → ClassId} {J : List Nat} {ad : Nat → Nat} {c0 : CF} {b : Nat} (hE : ME p s m cd args D ct cX9_mapped RX9 4) (hr : meth.sig.returnType = (some .int)) (hlk : meth.locks = false) {x1 : Int32} {st : MS} (hB_st : MoB ct J ad c0 b st) {r : Int32} : ∀ (n : Nat) (x2 : Int32) (x3 : Int32) (H : Heap) (locs : List Loc) (ls : Array Slot), HW D J ad c0 (aA J ad s.heap.size) s.heap H locs → lv_has ls 4 [(0, .ref (ad b)), (1, .int x1), (2, .int x2), (3, .int x3)] → fX9_mapped_4 x1 st n x2 x3 = some r → W p l e (rr 2 44) s m args below meth cd H locs 0 0 (MQ below (Qi D J ad s.heap.size r (fun c' => c' = c0)) args s 0 0 (aA J ad s.heap.size)) (F0 m 4 ls []) := by
  have hx := hE.1
  have hb := hE.2.1
  intro n
  induction n with
  | zero =>
    intro x2 x3 H locs ls hW hl h
    have h2 : (none : Option Int32) = some r := h
    cases h2
  | succ n ih =>
    intro x2 x3 H locs ls hW hl h
    rw [fX9_mapped_4] at h
    refine lv_iload_n hx hb dX9_mapped_4 rfl (lv_at hl 3 rfl) ?_
    refine lv_bipush (v := (26 : Int32)) hx hb dX9_mapped_5 (by decide) ?_
    refine lv_icmp_ge (tgt := 33) hx hb dX9_mapped_7 (by decide) (fun k_1 => ?_) (fun k_1 => ?_)
    · have h := it_t k_1 h
      refine lv_iload_n hx hb dX9_mapped_33 rfl (lv_at hl 2 rfl) ?_
      obtain rfl := Option.some.inj h
      exact k_iret hE hr hlk hW rfl rfl dX9_mapped_34
    · have h := it_f k_1 h
      refine lv_iload_n hx hb dX9_mapped_10 rfl (lv_at hl 2 rfl) ?_
      refine lv_aload_n hx hb dX9_mapped_11 rfl (lv_at hl 0 rfl) ?_
      refine lv_iload_n hx hb dX9_mapped_12 rfl (lv_at hl 1 rfl) ?_
      refine lv_iload_n hx hb dX9_mapped_13 rfl (lv_at hl 3 rfl) ?_
      obtain ⟨r_2, hr_2, h⟩ := zb_e h
      refine k_callVi (rest := [.int x2]) hE hW hl.1 (mX9_isMapped hB_st hr_2) hB_st.o hB_st.obj rfl q1060 q1062 qs107 q10 q1063 hd_X9_isMapped ⟨Nat.le_of_ble_eq_true rfl, Nat.le_of_ble_eq_true rfl⟩ ⟨rfl, rfl⟩ rfl (Nat.le_of_ble_eq_true rfl) dX9_mapped_14 ⟨Nat.zero_le _, Nat.zero_le _⟩ (fun c1 H locs hP hW => ?_)
      rw [hP] at hW
      refine lv_if_eq (tgt := 24) hx hb dX9_mapped_17 (by decide) (fun k_3 => ?_) (fun k_3 => ?_)
      · have h := it_t k_3 h
        refine lv_iconst (v := (0 : Int32)) hx hb dX9_mapped_24 (by decide) ?_
        refine lv_iadd hx hb dX9_mapped_25 ?_
        refine lv_istore_n (lv' := [(2, .int (x2 + (0 : Int32))), (0, .ref (ad b)), (1, .int x1), (3, .int x3)]) hx hb dX9_mapped_26 rfl hl (by decide) rfl (fun ls hl => ?_)
        refine lv_iinc (v := (x3 + (1 : Int32))) (lv' := [(3, .int (x3 + (1 : Int32))), (2, .int (x2 + (0 : Int32))), (0, .ref (ad b)), (1, .int x1)]) hx hb dX9_mapped_27 hl (k := 3) rfl rfl (by decide) rfl (fun ls hl => ?_)
        refine lv_goto (tgt := 4) hx hb dX9_mapped_30 (by decide) ?_
        exact ih _ _ _ _ _ hW (lv_sub hl [2, 3, 1, 0] rfl) h
      · have h := it_f k_3 h
        refine lv_iconst (v := (1 : Int32)) hx hb dX9_mapped_20 (by decide) ?_
        refine lv_goto (tgt := 25) hx hb dX9_mapped_21 (by decide) ?_
        refine lv_iadd hx hb dX9_mapped_25 ?_
        refine lv_istore_n (lv' := [(2, .int (x2 + (1 : Int32))), (0, .ref (ad b)), (1, .int x1), (3, .int x3)]) hx hb dX9_mapped_26 rfl hl (by decide) rfl (fun ls hl => ?_)
        refine lv_iinc (v := (x3 + (1 : Int32))) (lv' := [(3, .int (x3 + (1 : Int32))), (2, .int (x2 + (1 : Int32))), (0, .ref (ad b)), (1, .int x1)]) hx hb dX9_mapped_27 hl (k := 3) rfl rfl (by decide) rfl (fun ls hl => ?_)
        refine lv_goto (tgt := 4) hx hb dX9_mapped_30 (by decide) ?_
        exact ih _ _ _ _ _ hW (lv_sub hl [2, 3, 1, 0] rfl) h
set_option maxHeartbeats 4000000 in
set_option maxRecDepth 100000 in
theorem mX9_mapped {l : Launch} {D : va_G} {ct : Nat → ClassId} {J : List Nat} {ad : Nat → Nat} {c0 : CF} {a1 : Int32} {b : Nat} {st : MS} (hB_st : MoB ct J ad c0 b st) {r : Int32} (h : fX9_mapped  a1 st = some r) : Mi l D ct J ad yX9_mapped cX9_mapped 4 (some .int) (rr 2 44) [.ref (ad b), .int a1] c0 r (fun c' => c' = c0) := by
  refine Mi_of (own := RX9) (by decide) rfl (Nat.le_of_ble_eq_true rfl) (fun p e s m below meth cd hE hr hlk hW ls hl => ?_)
  have hx := hE.1
  have hb := hE.2.1
  have hl : lv_has ls 4 [(0, .ref (ad b)), (1, .int a1)] := hl
  rw [fX9_mapped] at h
  refine lv_iconst (v := (0 : Int32)) hx hb dX9_mapped_0 (by decide) ?_
  refine lv_istore_n (lv' := [(2, .int (0 : Int32)), (0, .ref (ad b)), (1, .int a1)]) hx hb dX9_mapped_1 rfl hl (by decide) rfl (fun ls hl => ?_)
  refine lv_iconst (v := (0 : Int32)) hx hb dX9_mapped_2 (by decide) ?_
  refine lv_istore_n (lv' := [(3, .int (0 : Int32)), (2, .int (0 : Int32)), (0, .ref (ad b)), (1, .int a1)]) hx hb dX9_mapped_3 rfl hl (by decide) rfl (fun ls hl => ?_)
  exact wX9_mapped_4 hE hr hlk hB_st _ _ _ _ _ _ hW (lv_sub hl [2, 3, 1, 0] rfl) h
set_option maxHeartbeats 4000000 in
set_option maxRecDepth 100000 in
theorem wX9_holes_9 {p : Program} {l : Launch} {e : Env} {s : State} {m : MethodId} {args : Array Value} {below : List Frame} {meth : Method} {cd : Code} {D : va_G} {ct : Nat → ClassId} {J : List Nat} {ad : Nat → Nat} {c0 : CF} {b : Nat} (hE : ME p s m cd args D ct cX9_holes RX9 4) (hr : meth.sig.returnType = (some .int)) (hlk : meth.locks = false) {x1 : Int32} {st : MS} (hB_st : MoB ct J ad c0 b st) {r : Int32} : ∀ (n : Nat) (x2 : Int32) (x3 : Int32) (H : Heap) (locs : List Loc) (ls : Array Slot), HW D J ad c0 (aA J ad s.heap.size) s.heap H locs → lv_has ls 4 [(0, .ref (ad b)), (1, .int x1), (2, .int x2), (3, .int x3)] → fX9_holes_9 x1 st n x2 x3 = some r → W p l e (rr 2 44) s m args below meth cd H locs 0 0 (MQ below (Qi D J ad s.heap.size r (fun c' => c' = c0)) args s 0 0 (aA J ad s.heap.size)) (F0 m 9 ls []) := by
  have hx := hE.1
  have hb := hE.2.1
  intro n
  induction n with
  | zero =>
    intro x2 x3 H locs ls hW hl h
    have h2 : (none : Option Int32) = some r := h
    cases h2
  | succ n ih =>
    intro x2 x3 H locs ls hW hl h
    rw [fX9_holes_9] at h
    refine lv_iload_n hx hb dX9_holes_9 rfl (lv_at hl 3 rfl) ?_
    refine lv_aload_n hx hb dX9_holes_10 rfl (lv_at hl 0 rfl) ?_
    refine lv_iload_n hx hb dX9_holes_11 rfl (lv_at hl 1 rfl) ?_
    refine lv_sipush (v := (1271 : Int32)) hx hb dX9_holes_12 (by decide) ?_
    obtain ⟨r_2, hr_2, h⟩ := zb_e h
    refine k_callVi (rest := [.int x3]) hE hW hl.1 (mX9_at hB_st hr_2) hB_st.o hB_st.obj rfl q934 q936 qs87 q10 q937 hd_X9_at ⟨Nat.le_of_ble_eq_true rfl, Nat.le_of_ble_eq_true rfl⟩ ⟨rfl, rfl⟩ rfl (Nat.le_of_ble_eq_true rfl) dX9_holes_15 ⟨Nat.zero_le _, Nat.zero_le _⟩ (fun c1 H locs hP hW => ?_)
    rw [hP] at hW
    refine lv_icmp_ge (tgt := 40) hx hb dX9_holes_18 (by decide) (fun k_3 => ?_) (fun k_3 => ?_)
    · have h := it_t k_3 h
      refine lv_iload_n hx hb dX9_holes_40 rfl (lv_at hl 2 rfl) ?_
      obtain rfl := Option.some.inj h
      exact k_iret hE hr hlk hW rfl rfl dX9_holes_41
    · have h := it_f k_3 h
      refine lv_iload_n hx hb dX9_holes_21 rfl (lv_at hl 2 rfl) ?_
      refine lv_iconst (v := (1 : Int32)) hx hb dX9_holes_22 (by decide) ?_
      refine lv_aload_n hx hb dX9_holes_23 rfl (lv_at hl 0 rfl) ?_
      refine lv_iload_n hx hb dX9_holes_24 rfl (lv_at hl 1 rfl) ?_
      refine lv_iconst (v := (0 : Int32)) hx hb dX9_holes_25 (by decide) ?_
      refine lv_iload_n hx hb dX9_holes_26 rfl (lv_at hl 3 rfl) ?_
      refine lv_iadd hx hb dX9_holes_27 ?_
      obtain ⟨r_4, hr_4, h⟩ := zb_e h
      refine k_callVi (rest := [.int (1 : Int32), .int x2]) hE hW hl.1 (mX9_at hB_st hr_4) hB_st.o hB_st.obj rfl q934 q936 qs87 q10 q937 hd_X9_at ⟨Nat.le_of_ble_eq_true rfl, Nat.le_of_ble_eq_true rfl⟩ ⟨rfl, rfl⟩ rfl (Nat.le_of_ble_eq_true rfl) dX9_holes_28 ⟨Nat.zero_le _, Nat.zero_le _⟩ (fun c1 H locs hP hW => ?_)
      rw [hP] at hW
      refine lv_isub hx hb dX9_holes_31 ?_
      refine lv_iadd hx hb dX9_holes_32 ?_
      refine lv_topi (fun x_5 ex_5 => ?_)
      have h := zl_n h ex_5
      refine lv_istore_n (lv' := [(2, .int x_5), (0, .ref (ad b)), (1, .int x1), (3, .int x3)]) hx hb dX9_holes_33 rfl hl (by decide) rfl (fun ls hl => ?_)
      refine lv_iinc (v := (x3 + (1 : Int32))) (lv' := [(3, .int (x3 + (1 : Int32))), (2, .int x_5), (0, .ref (ad b)), (1, .int x1)]) hx hb dX9_holes_34 hl (k := 3) rfl rfl (by decide) rfl (fun ls hl => ?_)
      refine lv_goto (tgt := 9) hx hb dX9_holes_37 (by decide) ?_
      exact ih _ _ _ _ _ hW (lv_sub hl [2, 3, 1, 0] rfl) h
set_option maxHeartbeats 4000000 in
set_option maxRecDepth 100000 in
theorem mX9_holes {l : Launch} {D : va_G} {ct : Nat → ClassId} {J : List Nat} {ad : Nat → Nat} {c0 : CF} {a1 : Int32} {b : Nat} {st : MS} (hB_st : MoB ct J ad c0 b st) {r : Int32} (h : fX9_holes  a1 st = some r) : Mi l D ct J ad yX9_holes cX9_holes 4 (some .int) (rr 2 44) [.ref (ad b), .int a1] c0 r (fun c' => c' = c0) := by
  refine Mi_of (own := RX9) (by decide) rfl (Nat.le_of_ble_eq_true rfl) (fun p e s m below meth cd hE hr hlk hW ls hl => ?_)
  have hx := hE.1
  have hb := hE.2.1
  have hl : lv_has ls 4 [(0, .ref (ad b)), (1, .int a1)] := hl
  rw [fX9_holes] at h
  refine lv_iconst (v := (0 : Int32)) hx hb dX9_holes_0 (by decide) ?_
  refine lv_istore_n (lv' := [(2, .int (0 : Int32)), (0, .ref (ad b)), (1, .int a1)]) hx hb dX9_holes_1 rfl hl (by decide) rfl (fun ls hl => ?_)
  refine lv_aload_n hx hb dX9_holes_2 rfl (lv_at hl 1 rfl) ?_
  refine lv_iload_n hx hb dX9_holes_3 rfl (lv_at hl 2 rfl) ?_
  refine lv_iconst (v := (0 : Int32)) hx hb dX9_holes_4 (by decide) ?_
  obtain ⟨r_1, hr_1, h⟩ := zb_e h
  refine k_callVi (rest := []) hE hW hl.1 (mX9_base hB_st hr_1) hB_st.o hB_st.obj rfl q959 q961 qs90 q10 q962 hd_X9_base ⟨Nat.le_of_ble_eq_true rfl, Nat.le_of_ble_eq_true rfl⟩ ⟨rfl, rfl⟩ rfl (Nat.le_of_ble_eq_true rfl) dX9_holes_5 ⟨Nat.zero_le _, Nat.zero_le _⟩ (fun c1 H locs hP hW => ?_)
  rw [hP] at hW
  refine lv_istore_n (lv' := [(3, .int r_1), (2, .int (0 : Int32)), (0, .ref (ad b)), (1, .int a1)]) hx hb dX9_holes_8 rfl hl (by decide) rfl (fun ls hl => ?_)
  exact wX9_holes_9 hE hr hlk hB_st _ _ _ _ _ _ hW (lv_sub hl [2, 3, 1, 0] rfl) h
set_option maxHeartbeats 4000000 in
set_option maxRecDepth 100000 in
theorem wX9_from_36 {p : Program} {l : Launch} {e : Env} {s : State} {m : MethodId} {args : Array Value} {below : List Frame} {meth : Method} {cd : Code} {D : va_G} {ct : Nat → ClassId} {J : List Nat} {ad : Nat → Nat} {c0 : CF} {b : Nat} (hE : ME p s m cd args D ct cX9_from RX9 6) (hr : meth.sig.returnType = (some .int)) (hlk : meth.locks = false) {x1 : Int32} {x3 : Int32} {st : MS} (hB_st : MoB ct J ad c0 b st) {r : Int32} : ∀ (n : Nat) (x4 : Int64) (H : Heap) (locs : List Loc) (ls : Array Slot), HW D J ad c0 (aA J ad s.heap.size) s.heap H locs → lv_has ls 6 [(0, .ref (ad b)), (1, .int x1), (3, .int x3), (4, .long x4)] → fX9_from_36 x1 x3 st n x4 = some r → W p l e (rr 2 44) s m args below meth cd H locs 0 0 (MQ below (Qi D J ad s.heap.size r (fun c' => c' = c0)) args s 0 0 (aA J ad s.heap.size)) (F0 m 36 ls []) := by
  have hx := hE.1
  have hb := hE.2.1
  intro n
  induction n with
  | zero =>
    intro x4 H locs ls hW hl h
    have h2 : (none : Option Int32) = some r := h
    cases h2
  | succ n ih =>
    intro x4 H locs ls hW hl h
    rw [fX9_from_36] at h
    refine lv_lload hx hb dX9_from_36 (lv_at hl 3 rfl) ?_
    refine lv_lconst (v := (0 : Int64)) hx hb dX9_from_38 (by decide) ?_
    refine W.lcmp hx hb dX9_from_39 ?_
    refine lv_if_lt (tgt := 77) hx hb dX9_from_40 (by decide) (fun k_3 => ?_) (fun k_3 => ?_)
    · have h := it_t k_3 h
      refine lv_bipush (v := (-5 : Int32)) hx hb dX9_from_77 (by decide) ?_
      obtain rfl := Option.some.inj h
      exact k_iret hE hr hlk hW rfl rfl dX9_from_79
    · have h := it_f k_3 h
      refine lv_lload hx hb dX9_from_43 (lv_at hl 3 rfl) ?_
      refine lv_ldc2 (v := (201 : Int64)) hx hb hE.2.2.2.1 (hE.2.2.2.2.1 _ q1069) dX9_from_45 ?_
      refine W.lcmp hx hb dX9_from_48 ?_
      refine lv_if_ge (tgt := 77) hx hb dX9_from_49 (by decide) (fun k_4 => ?_) (fun k_4 => ?_)
      · have h := it_t k_4 h
        refine lv_bipush (v := (-5 : Int32)) hx hb dX9_from_77 (by decide) ?_
        obtain rfl := Option.some.inj h
        exact k_iret hE hr hlk hW rfl rfl dX9_from_79
      · have h := it_f k_4 h
        refine lv_aload_n hx hb dX9_from_52 rfl (lv_at hl 0 rfl) ?_
        refine lv_iload_n hx hb dX9_from_53 rfl (lv_at hl 1 rfl) ?_
        refine lv_lload hx hb dX9_from_54 (lv_at hl 3 rfl) ?_
        refine lv_l2i (v := x4.toInt32) hx hb dX9_from_56 rfl ?_
        obtain ⟨r_5, hr_5, h⟩ := zb_e h
        refine k_callVi (rest := []) hE hW hl.1 (mX9_isThere hB_st hr_5) hB_st.o hB_st.obj rfl q1070 q1072 qs109 q10 q1073 hd_X9_isThere ⟨Nat.le_of_ble_eq_true rfl, Nat.le_of_ble_eq_true rfl⟩ ⟨rfl, rfl⟩ rfl (Nat.le_of_ble_eq_true rfl) dX9_from_57 ⟨Nat.zero_le _, Nat.zero_le _⟩ (fun c1 H locs hP hW => ?_)
        rw [hP] at hW
        refine lv_if_eq (tgt := 67) hx hb dX9_from_60 (by decide) (fun k_6 => ?_) (fun k_6 => ?_)
        · have h := it_t k_6 h
          refine lv_lload hx hb dX9_from_67 (lv_at hl 3 rfl) ?_
          refine lv_iload_n hx hb dX9_from_69 rfl (lv_at hl 2 rfl) ?_
          refine lv_i2l (v := x3.toInt64) hx hb dX9_from_70 rfl ?_
          refine lv_ladd hx hb dX9_from_71 ?_
          refine lv_lstore (lv' := [(4, .long (x4 + x3.toInt64)), (0, .ref (ad b)), (1, .int x1), (3, .int x3)]) hx hb dX9_from_72 hl (by decide) rfl (fun ls hl => ?_)
          refine lv_goto (tgt := 36) hx hb dX9_from_74 (by decide) ?_
          exact ih _ _ _ _ hW (lv_sub hl [1, 2, 3, 0] rfl) h
        · have h := it_f k_6 h
          refine lv_lload hx hb dX9_from_63 (lv_at hl 3 rfl) ?_
          refine lv_l2i (v := x4.toInt32) hx hb dX9_from_65 rfl ?_
          obtain rfl := Option.some.inj h
          exact k_iret hE hr hlk hW rfl rfl dX9_from_66
set_option maxHeartbeats 4000000 in
set_option maxRecDepth 100000 in
theorem wX9_from_18 {p : Program} {l : Launch} {e : Env} {s : State} {m : MethodId} {args : Array Value} {below : List Frame} {meth : Method} {cd : Code} {D : va_G} {ct : Nat → ClassId} {J : List Nat} {ad : Nat → Nat} {c0 : CF} {b : Nat} (hE : ME p s m cd args D ct cX9_from RX9 6) (hr : meth.sig.returnType = (some .int)) (hlk : meth.locks = false) {st : MS} (hB_st : MoB ct J ad c0 b st) {r : Int32} : ∀ (x1 : Int32) (x3 : Int32) (x4 : Int64) (H : Heap) (locs : List Loc) (ls : Array Slot), HW D J ad c0 (aA J ad s.heap.size) s.heap H locs → lv_has ls 6 [(0, .ref (ad b)), (1, .int x1), (3, .int x3), (4, .long x4)] → fX9_from_18 st x1 x3 x4 = some r → W p l e (rr 2 44) s m args below meth cd H locs 0 0 (MQ below (Qi D J ad s.heap.size r (fun c' => c' = c0)) args s 0 0 (aA J ad s.heap.size)) (F0 m 18 ls []) := by
  have hx := hE.1
  have hb := hE.2.1
  intro x1 x3 x4 H locs ls hW hl h
  rw [fX9_from_18] at h
  refine lv_iload_n hx hb dX9_from_18 rfl (lv_at hl 2 rfl) ?_
  refine lv_if_ge (tgt := 36) hx hb dX9_from_19 (by decide) (fun k_2 => ?_) (fun k_2 => ?_)
  · have h := it_t k_2 h
    exact wX9_from_36 hE hr hlk hB_st _ _ _ _ _ hW (lv_sub hl [0, 1, 2, 3] rfl) h
  · have h := it_f k_2 h
    refine lv_lload hx hb dX9_from_22 (lv_at hl 3 rfl) ?_
    refine lv_ldc2 (v := (200 : Int64)) hx hb hE.2.2.2.1 (hE.2.2.2.2.1 _ q1068) dX9_from_24 ?_
    refine W.lcmp hx hb dX9_from_27 ?_
    refine lv_if_le (tgt := 36) hx hb dX9_from_28 (by decide) (fun k_7 => ?_) (fun k_7 => ?_)
    · have h := it_t k_7 h
      exact wX9_from_36 hE hr hlk hB_st _ _ _ _ _ hW (lv_sub hl [0, 1, 2, 3] rfl) h
    · have h := it_f k_7 h
      refine lv_ldc2 (v := (200 : Int64)) hx hb hE.2.2.2.1 (hE.2.2.2.2.1 _ q1068) dX9_from_31 ?_
      refine lv_lstore (lv' := [(4, .long (200 : Int64)), (0, .ref (ad b)), (1, .int x1), (3, .int x3)]) hx hb dX9_from_34 hl (by decide) rfl (fun ls hl => ?_)
      exact wX9_from_36 hE hr hlk hB_st _ _ _ _ _ hW (lv_sub hl [1, 2, 3, 0] rfl) h
set_option maxHeartbeats 4000000 in
set_option maxRecDepth 100000 in
theorem mX9_from {l : Launch} {D : va_G} {ct : Nat → ClassId} {J : List Nat} {ad : Nat → Nat} {c0 : CF} {a1 : Int32} {a2 : Int32} {a3 : Int32} {b : Nat} {st : MS} (hB_st : MoB ct J ad c0 b st) {r : Int32} (h : fX9_from  a1 a2 a3 st = some r) : Mi l D ct J ad yX9_from cX9_from 6 (some .int) (rr 2 44) [.ref (ad b), .int a1, .int a2, .int a3] c0 r (fun c' => c' = c0) := by
  refine Mi_of (own := RX9) (by decide) rfl (Nat.le_of_ble_eq_true rfl) (fun p e s m below meth cd hE hr hlk hW ls hl => ?_)
  have hx := hE.1
  have hb := hE.2.1
  have hl : lv_has ls 6 [(0, .ref (ad b)), (1, .int a1), (2, .int a2), (3, .int a3)] := hl
  rw [fX9_from] at h
  refine lv_iload_n hx hb dX9_from_0 rfl (lv_at hl 2 rfl) ?_
  refine lv_i2l (v := a2.toInt64) hx hb dX9_from_1 rfl ?_
  refine lv_lstore (lv' := [(4, .long a2.toInt64), (0, .ref (ad b)), (1, .int a1), (2, .int a2), (3, .int a3)]) hx hb dX9_from_2 hl (by decide) rfl (fun ls hl => ?_)
  refine lv_iload_n hx hb dX9_from_4 rfl (lv_at hl 4 rfl) ?_
  refine lv_if_le (tgt := 18) hx hb dX9_from_5 (by decide) (fun k_1 => ?_) (fun k_1 => ?_)
  · have h := it_t k_1 h
    exact wX9_from_18 hE hr hlk hB_st _ _ _ _ _ _ hW (lv_sub hl [1, 2, 4, 0] rfl) h
  · have h := it_f k_1 h
    refine lv_lload hx hb dX9_from_8 (lv_at hl 0 rfl) ?_
    refine lv_lconst (v := (0 : Int64)) hx hb dX9_from_10 (by decide) ?_
    refine W.lcmp hx hb dX9_from_11 ?_
    refine lv_if_ge (tgt := 18) hx hb dX9_from_12 (by decide) (fun k_8 => ?_) (fun k_8 => ?_)
    · have h := it_t k_8 h
      exact wX9_from_18 hE hr hlk hB_st _ _ _ _ _ _ hW (lv_sub hl [1, 2, 4, 0] rfl) h
    · have h := it_f k_8 h
      refine lv_lconst (v := (0 : Int64)) hx hb dX9_from_15 (by decide) ?_
      refine lv_lstore (lv' := [(4, .long (0 : Int64)), (0, .ref (ad b)), (1, .int a1), (2, .int a2), (3, .int a3)]) hx hb dX9_from_16 hl (by decide) rfl (fun ls hl => ?_)
      exact wX9_from_18 hE hr hlk hB_st _ _ _ _ _ _ hW (lv_sub hl [1, 2, 4, 0] rfl) h
set_option maxHeartbeats 4000000 in
set_option maxRecDepth 100000 in
theorem mX9_of {l : Launch} {D : va_G} {ct : Nat → ClassId} {J : List Nat} {ad : Nat → Nat} {c0 : CF} {a1 : Int32} {a2 : Int32} {b : Nat} {st : MS} (hB_st : MoB ct J ad c0 b st) {r : Int32} {st9 : MS} (h : fX9_of  a1 a2 st = some (r, st9)) : Mi l D ct J ad yX9_of cX9_of 3 (some .int) (rr 3 69) [.ref (ad b), .int a1, .int a2] c0 r (fun c' => MoB ct J ad c' b st9 ∧ Fr c0 c' b 19) := by
  refine Mi_of (own := RX9) (by decide) rfl (Nat.le_of_ble_eq_true rfl) (fun p e s m below meth cd hE hr hlk hW ls hl => ?_)
  have hx := hE.1
  have hb := hE.2.1
  have hl : lv_has ls 3 [(0, .ref (ad b)), (1, .int a1), (2, .int a2)] := hl
  rw [fX9_of] at h
  obtain ⟨c, hB_st, hF, hW⟩ : ∃ c', MoB ct J ad c' b st ∧ Fr c0 c' b 19 ∧ HW D J ad c' (aA J ad s.heap.size) s.heap s.heap [] := ⟨c0, hB_st, Fr.rf, hW⟩
  refine lv_iload_n hx hb dX9_of_0 rfl (lv_at hl 1 rfl) ?_
  obtain ⟨r_1, hr_1, h⟩ := zb_e h
  refine k_callSi (rest := []) hE hW hl.1 (mX9_isLog hr_1) q928 q929 q10 q930 hd_X9_isLog.2 ⟨Nat.le_of_ble_eq_true rfl, Nat.le_of_ble_eq_true rfl⟩ ⟨rfl, rfl⟩ rfl (Nat.le_of_ble_eq_true rfl) dX9_of_1 ⟨Nat.zero_le _, Nat.zero_le _⟩ (fun c1 H locs hP hW => ?_)
  rw [hP] at hW
  refine lv_if_eq (tgt := 17) hx hb dX9_of_4 (by decide) (fun k_2 => ?_) (fun k_2 => ?_)
  · have h := it_t k_2 h
    refine lv_iconst (v := (-1 : Int32)) hx hb dX9_of_17 (by decide) ?_
    obtain ⟨rfl, rfl⟩ := Prod.mk.inj (Option.some.inj h)
    exact k_iret hE hr hlk hW ⟨hB_st, hF⟩ rfl dX9_of_18
  · have h := it_f k_2 h
    refine lv_iload_n hx hb dX9_of_7 rfl (lv_at hl 2 rfl) ?_
    refine lv_iconst (v := (0 : Int32)) hx hb dX9_of_8 (by decide) ?_
    refine lv_bipush (v := (10 : Int32)) hx hb dX9_of_9 (by decide) ?_
    obtain ⟨r_3, hr_3, h⟩ := zb_e h
    refine k_callSi (rest := []) hE hW hl.1 (mX9_in hr_3) q931 q932 q10 q933 hd_X9_in.2 ⟨Nat.le_of_ble_eq_true rfl, Nat.le_of_ble_eq_true rfl⟩ ⟨rfl, rfl⟩ rfl (Nat.le_of_ble_eq_true rfl) dX9_of_11 ⟨Nat.zero_le _, Nat.zero_le _⟩ (fun c1 H locs hP hW => ?_)
    rw [hP] at hW
    refine lv_if_ne (tgt := 19) hx hb dX9_of_14 (by decide) (fun k_4 => ?_) (fun k_4 => ?_)
    · have h := it_f k_4 h
      refine lv_iload_n hx hb dX9_of_19 rfl (lv_at hl 2 rfl) ?_
      rcases Classical.em (a2 = (0 : Int32)) with k_5 | k_5
      · have h := it_t k_5 h
        refine lv_tableIn (tgt := 76) hx hb dX9_of_20 (by rw [k_5]; decide) (by rw [k_5]; decide) (by rw [k_5]; rfl) (by decide) ?_
        refine lv_aload_n hx hb dX9_of_76 rfl (lv_at hl 0 rfl) ?_
        refine lv_iload_n hx hb dX9_of_77 rfl (lv_at hl 1 rfl) ?_
        obtain ⟨r_6, hr_6, h⟩ := zb_e h
        refine k_callVi (rest := []) hE hW hl.1 (mX9_all hB_st hr_6) hB_st.o hB_st.obj rfl q1044 q1046 qs103 q10 q1047 hd_X9_all ⟨Nat.le_of_ble_eq_true rfl, Nat.le_of_ble_eq_true rfl⟩ ⟨rfl, rfl⟩ rfl (Nat.le_of_ble_eq_true rfl) dX9_of_78 ⟨Nat.zero_le _, Nat.zero_le _⟩ (fun c1 H locs hP hW => ?_)
        rw [hP] at hW
        obtain ⟨rfl, rfl⟩ := Prod.mk.inj (Option.some.inj h)
        exact k_iret hE hr hlk hW ⟨hB_st, hF⟩ rfl dX9_of_81
      have h := it_f k_5 h
      rcases Classical.em (a2 = (1 : Int32)) with k_7 | k_7
      · have h := it_t k_7 h
        refine lv_tableIn (tgt := 82) hx hb dX9_of_20 (by rw [k_7]; decide) (by rw [k_7]; decide) (by rw [k_7]; rfl) (by decide) ?_
        refine lv_aload_n hx hb dX9_of_82 rfl (lv_at hl 0 rfl) ?_
        refine lv_iload_n hx hb dX9_of_83 rfl (lv_at hl 1 rfl) ?_
        refine lv_iconst (v := (0 : Int32)) hx hb dX9_of_84 (by decide) ?_
        obtain ⟨r_8, hr_8, h⟩ := zb_e h
        refine k_callVi (rest := []) hE hW hl.1 (mX9_base hB_st hr_8) hB_st.o hB_st.obj rfl q959 q961 qs90 q10 q962 hd_X9_base ⟨Nat.le_of_ble_eq_true rfl, Nat.le_of_ble_eq_true rfl⟩ ⟨rfl, rfl⟩ rfl (Nat.le_of_ble_eq_true rfl) dX9_of_85 ⟨Nat.zero_le _, Nat.zero_le _⟩ (fun c1 H locs hP hW => ?_)
        rw [hP] at hW
        obtain ⟨rfl, rfl⟩ := Prod.mk.inj (Option.some.inj h)
        exact k_iret hE hr hlk hW ⟨hB_st, hF⟩ rfl dX9_of_88
      have h := it_f k_7 h
      rcases Classical.em (a2 = (2 : Int32)) with k_9 | k_9
      · have h := it_t k_9 h
        refine lv_tableIn (tgt := 89) hx hb dX9_of_20 (by rw [k_9]; decide) (by rw [k_9]; decide) (by rw [k_9]; rfl) (by decide) ?_
        refine lv_aload_n hx hb dX9_of_89 rfl (lv_at hl 0 rfl) ?_
        refine lv_iload_n hx hb dX9_of_90 rfl (lv_at hl 1 rfl) ?_
        refine lv_sipush (v := (1271 : Int32)) hx hb dX9_of_91 (by decide) ?_
        obtain ⟨r_10, hr_10, h⟩ := zb_e h
        refine k_callVi (rest := []) hE hW hl.1 (mX9_at hB_st hr_10) hB_st.o hB_st.obj rfl q934 q936 qs87 q10 q937 hd_X9_at ⟨Nat.le_of_ble_eq_true rfl, Nat.le_of_ble_eq_true rfl⟩ ⟨rfl, rfl⟩ rfl (Nat.le_of_ble_eq_true rfl) dX9_of_94 ⟨Nat.zero_le _, Nat.zero_le _⟩ (fun c1 H locs hP hW => ?_)
        rw [hP] at hW
        obtain ⟨rfl, rfl⟩ := Prod.mk.inj (Option.some.inj h)
        exact k_iret hE hr hlk hW ⟨hB_st, hF⟩ rfl dX9_of_97
      have h := it_f k_9 h
      rcases Classical.em (a2 = (3 : Int32)) with k_11 | k_11
      · have h := it_t k_11 h
        refine lv_tableIn (tgt := 98) hx hb dX9_of_20 (by rw [k_11]; decide) (by rw [k_11]; decide) (by rw [k_11]; rfl) (by decide) ?_
        refine lv_aload_n hx hb dX9_of_98 rfl (lv_at hl 0 rfl) ?_
        refine lv_iload_n hx hb dX9_of_99 rfl (lv_at hl 1 rfl) ?_
        refine lv_sipush (v := (1270 : Int32)) hx hb dX9_of_100 (by decide) ?_
        obtain ⟨r_12, hr_12, h⟩ := zb_e h
        refine k_callVi (rest := []) hE hW hl.1 (mX9_at hB_st hr_12) hB_st.o hB_st.obj rfl q934 q936 qs87 q10 q937 hd_X9_at ⟨Nat.le_of_ble_eq_true rfl, Nat.le_of_ble_eq_true rfl⟩ ⟨rfl, rfl⟩ rfl (Nat.le_of_ble_eq_true rfl) dX9_of_103 ⟨Nat.zero_le _, Nat.zero_le _⟩ (fun c1 H locs hP hW => ?_)
        rw [hP] at hW
        obtain ⟨rfl, rfl⟩ := Prod.mk.inj (Option.some.inj h)
        exact k_iret hE hr hlk hW ⟨hB_st, hF⟩ rfl dX9_of_106
      have h := it_f k_11 h
      rcases Classical.em (a2 = (4 : Int32)) with k_13 | k_13
      · have h := it_t k_13 h
        refine lv_tableIn (tgt := 107) hx hb dX9_of_20 (by rw [k_13]; decide) (by rw [k_13]; decide) (by rw [k_13]; rfl) (by decide) ?_
        refine lv_aload_n hx hb dX9_of_107 rfl (lv_at hl 0 rfl) ?_
        refine lv_iload_n hx hb dX9_of_108 rfl (lv_at hl 1 rfl) ?_
        refine lv_iconst (v := (0 : Int32)) hx hb dX9_of_109 (by decide) ?_
        refine lv_sipush (v := (200 : Int32)) hx hb dX9_of_110 (by decide) ?_
        obtain ⟨r_14, hr_14, h⟩ := zb_e h
        refine k_callVi (rest := []) hE hW hl.1 (mX9_weighs hB_st hr_14) hB_st.o hB_st.obj rfl q971 q973 qs93 q10 q974 hd_X9_weighs ⟨Nat.le_of_ble_eq_true rfl, Nat.le_of_ble_eq_true rfl⟩ ⟨rfl, rfl⟩ rfl (Nat.le_of_ble_eq_true rfl) dX9_of_113 ⟨Nat.zero_le _, Nat.zero_le _⟩ (fun c1 H locs hP hW => ?_)
        rw [hP] at hW
        obtain ⟨rfl, rfl⟩ := Prod.mk.inj (Option.some.inj h)
        exact k_iret hE hr hlk hW ⟨hB_st, hF⟩ rfl dX9_of_116
      have h := it_f k_13 h
      rcases Classical.em (a2 = (5 : Int32)) with k_15 | k_15
      · have h := it_t k_15 h
        refine lv_tableIn (tgt := 117) hx hb dX9_of_20 (by rw [k_15]; decide) (by rw [k_15]; decide) (by rw [k_15]; rfl) (by decide) ?_
        refine lv_aload_n hx hb dX9_of_117 rfl (lv_at hl 0 rfl) ?_
        refine lv_iload_n hx hb dX9_of_118 rfl (lv_at hl 1 rfl) ?_
        obtain ⟨r_16, hr_16, h⟩ := zb_e h
        refine k_callVi (rest := []) hE hW hl.1 (mX9_holes hB_st hr_16) hB_st.o hB_st.obj rfl q1048 q1050 qs104 q10 q1051 hd_X9_holes ⟨Nat.le_of_ble_eq_true rfl, Nat.le_of_ble_eq_true rfl⟩ ⟨rfl, rfl⟩ rfl (Nat.le_of_ble_eq_true rfl) dX9_of_119 ⟨Nat.zero_le _, Nat.zero_le _⟩ (fun c1 H locs hP hW => ?_)
        rw [hP] at hW
        obtain ⟨rfl, rfl⟩ := Prod.mk.inj (Option.some.inj h)
        exact k_iret hE hr hlk hW ⟨hB_st, hF⟩ rfl dX9_of_122
      have h := it_f k_15 h
      rcases Classical.em (a2 = (6 : Int32)) with k_17 | k_17
      · have h := it_t k_17 h
        refine lv_tableIn (tgt := 123) hx hb dX9_of_20 (by rw [k_17]; decide) (by rw [k_17]; decide) (by rw [k_17]; rfl) (by decide) ?_
        refine lv_aload_n hx hb dX9_of_123 rfl (lv_at hl 0 rfl) ?_
        refine lv_iload_n hx hb dX9_of_124 rfl (lv_at hl 1 rfl) ?_
        refine lv_sipush (v := (200 : Int32)) hx hb dX9_of_125 (by decide) ?_
        obtain ⟨st_18, hst_18, h⟩ := zb_e h
        refine k_callVv (rest := []) hE hW hl.1 (mX9_replays hB_st hst_18) hB_st.o hB_st.obj rfl q1052 q1054 qs105 q10 q1055 hd_X9_replays ⟨Nat.le_of_ble_eq_true rfl, Nat.le_of_ble_eq_true rfl⟩ ⟨rfl, rfl⟩ rfl (Nat.le_of_ble_eq_true rfl) dX9_of_128 ⟨Nat.zero_le _, Nat.zero_le _⟩ (fun c1 H locs hP hW => ?_)
        obtain ⟨c, hB_st, hF, hW⟩ : ∃ c', MoB ct J ad c' b st_18 ∧ Fr c0 c' b 19 ∧ HW D J ad c' (aA J ad s.heap.size) s.heap H locs := ⟨c1, hP.1, hF.trans hP.2, hW⟩
        refine lv_aload_n hx hb dX9_of_131 rfl (lv_at hl 0 rfl) ?_
        refine lv_iload_n hx hb dX9_of_132 rfl (lv_at hl 1 rfl) ?_
        obtain ⟨r_19, hr_19, h⟩ := zb_e h
        refine k_callVi (rest := []) hE hW hl.1 (mX9_mapped hB_st hr_19) hB_st.o hB_st.obj rfl q1056 q1058 qs106 q10 q1059 hd_X9_mapped ⟨Nat.le_of_ble_eq_true rfl, Nat.le_of_ble_eq_true rfl⟩ ⟨rfl, rfl⟩ rfl (Nat.le_of_ble_eq_true rfl) dX9_of_133 ⟨Nat.zero_le _, Nat.zero_le _⟩ (fun c1 H locs hP hW => ?_)
        rw [hP] at hW
        obtain ⟨rfl, rfl⟩ := Prod.mk.inj (Option.some.inj h)
        exact k_iret hE hr hlk hW ⟨hB_st, hF⟩ rfl dX9_of_136
      have h := it_f k_17 h
      rcases Classical.em (a2 = (7 : Int32)) with k_20 | k_20
      · have h := it_t k_20 h
        refine lv_tableIn (tgt := 137) hx hb dX9_of_20 (by rw [k_20]; decide) (by rw [k_20]; decide) (by rw [k_20]; rfl) (by decide) ?_
        refine lv_aload_n hx hb dX9_of_137 rfl (lv_at hl 0 rfl) ?_
        refine lv_iload_n hx hb dX9_of_138 rfl (lv_at hl 1 rfl) ?_
        refine lv_sipush (v := (1272 : Int32)) hx hb dX9_of_139 (by decide) ?_
        obtain ⟨r_21, hr_21, h⟩ := zb_e h
        refine k_callVi (rest := []) hE hW hl.1 (mX9_at hB_st hr_21) hB_st.o hB_st.obj rfl q934 q936 qs87 q10 q937 hd_X9_at ⟨Nat.le_of_ble_eq_true rfl, Nat.le_of_ble_eq_true rfl⟩ ⟨rfl, rfl⟩ rfl (Nat.le_of_ble_eq_true rfl) dX9_of_142 ⟨Nat.zero_le _, Nat.zero_le _⟩ (fun c1 H locs hP hW => ?_)
        rw [hP] at hW
        refine lv_if_ge (tgt := 153) hx hb dX9_of_145 (by decide) (fun k_22 => ?_) (fun k_22 => ?_)
        · have h := it_t k_22 h
          refine lv_aload_n hx hb dX9_of_153 rfl (lv_at hl 0 rfl) ?_
          refine lv_iload_n hx hb dX9_of_154 rfl (lv_at hl 1 rfl) ?_
          refine lv_sipush (v := (1272 : Int32)) hx hb dX9_of_155 (by decide) ?_
          obtain ⟨r_23, hr_23, h⟩ := zb_e h
          refine k_callVi (rest := []) hE hW hl.1 (mX9_at hB_st hr_23) hB_st.o hB_st.obj rfl q934 q936 qs87 q10 q937 hd_X9_at ⟨Nat.le_of_ble_eq_true rfl, Nat.le_of_ble_eq_true rfl⟩ ⟨rfl, rfl⟩ rfl (Nat.le_of_ble_eq_true rfl) dX9_of_158 ⟨Nat.zero_le _, Nat.zero_le _⟩ (fun c1 H locs hP hW => ?_)
          rw [hP] at hW
          obtain ⟨rfl, rfl⟩ := Prod.mk.inj (Option.some.inj h)
          exact k_iret hE hr hlk hW ⟨hB_st, hF⟩ rfl dX9_of_161
        · have h := it_f k_22 h
          refine lv_bipush (v := (-5 : Int32)) hx hb dX9_of_148 (by decide) ?_
          refine lv_goto (tgt := 161) hx hb dX9_of_150 (by decide) ?_
          obtain ⟨rfl, rfl⟩ := Prod.mk.inj (Option.some.inj h)
          exact k_iret hE hr hlk hW ⟨hB_st, hF⟩ rfl dX9_of_161
      have h := it_f k_20 h
      rcases Classical.em (a2 = (8 : Int32)) with k_24 | k_24
      · have h := it_t k_24 h
        refine lv_tableIn (tgt := 162) hx hb dX9_of_20 (by rw [k_24]; decide) (by rw [k_24]; decide) (by rw [k_24]; rfl) (by decide) ?_
        refine lv_aload_n hx hb dX9_of_162 rfl (lv_at hl 0 rfl) ?_
        refine lv_iload_n hx hb dX9_of_163 rfl (lv_at hl 1 rfl) ?_
        refine lv_sipush (v := (1273 : Int32)) hx hb dX9_of_164 (by decide) ?_
        obtain ⟨r_25, hr_25, h⟩ := zb_e h
        refine k_callVi (rest := []) hE hW hl.1 (mX9_at hB_st hr_25) hB_st.o hB_st.obj rfl q934 q936 qs87 q10 q937 hd_X9_at ⟨Nat.le_of_ble_eq_true rfl, Nat.le_of_ble_eq_true rfl⟩ ⟨rfl, rfl⟩ rfl (Nat.le_of_ble_eq_true rfl) dX9_of_167 ⟨Nat.zero_le _, Nat.zero_le _⟩ (fun c1 H locs hP hW => ?_)
        rw [hP] at hW
        obtain ⟨rfl, rfl⟩ := Prod.mk.inj (Option.some.inj h)
        exact k_iret hE hr hlk hW ⟨hB_st, hF⟩ rfl dX9_of_170
      have h := it_f k_24 h
      rcases Classical.em (a2 = (9 : Int32)) with k_26 | k_26
      · have h := it_t k_26 h
        refine lv_tableIn (tgt := 171) hx hb dX9_of_20 (by rw [k_26]; decide) (by rw [k_26]; decide) (by rw [k_26]; rfl) (by decide) ?_
        refine lv_aload_n hx hb dX9_of_171 rfl (lv_at hl 0 rfl) ?_
        refine lv_iload_n hx hb dX9_of_172 rfl (lv_at hl 1 rfl) ?_
        refine lv_iconst (v := (0 : Int32)) hx hb dX9_of_173 (by decide) ?_
        refine lv_iconst (v := (1 : Int32)) hx hb dX9_of_174 (by decide) ?_
        obtain ⟨r_27, hr_27, h⟩ := zb_e h
        refine k_callVi (rest := []) hE hW hl.1 (mX9_from hB_st hr_27) hB_st.o hB_st.obj rfl q1064 q1066 qs108 q10 q1067 hd_X9_from ⟨Nat.le_of_ble_eq_true rfl, Nat.le_of_ble_eq_true rfl⟩ ⟨rfl, rfl⟩ rfl (Nat.le_of_ble_eq_true rfl) dX9_of_175 ⟨Nat.zero_le _, Nat.zero_le _⟩ (fun c1 H locs hP hW => ?_)
        rw [hP] at hW
        obtain ⟨rfl, rfl⟩ := Prod.mk.inj (Option.some.inj h)
        exact k_iret hE hr hlk hW ⟨hB_st, hF⟩ rfl dX9_of_178
      have h := it_f k_26 h
      refine lv_tableOut (tgt := 179) hx hb dX9_of_20 (tb_out10 k_5 k_7 k_9 k_11 k_13 k_15 k_17 k_20 k_24 k_26) (by decide) ?_
      refine lv_aload_n hx hb dX9_of_179 rfl (lv_at hl 0 rfl) ?_
      refine lv_iload_n hx hb dX9_of_180 rfl (lv_at hl 1 rfl) ?_
      refine lv_sipush (v := (200 : Int32)) hx hb dX9_of_181 (by decide) ?_
      refine lv_iconst (v := (-1 : Int32)) hx hb dX9_of_184 (by decide) ?_
      obtain ⟨r_28, hr_28, h⟩ := zb_e h
      refine k_callVi (rest := []) hE hW hl.1 (mX9_from hB_st hr_28) hB_st.o hB_st.obj rfl q1064 q1066 qs108 q10 q1067 hd_X9_from ⟨Nat.le_of_ble_eq_true rfl, Nat.le_of_ble_eq_true rfl⟩ ⟨rfl, rfl⟩ rfl (Nat.le_of_ble_eq_true rfl) dX9_of_185 ⟨Nat.zero_le _, Nat.zero_le _⟩ (fun c1 H locs hP hW => ?_)
      rw [hP] at hW
      obtain ⟨rfl, rfl⟩ := Prod.mk.inj (Option.some.inj h)
      exact k_iret hE hr hlk hW ⟨hB_st, hF⟩ rfl dX9_of_188
    · have h := it_t k_4 h
      refine lv_iconst (v := (-1 : Int32)) hx hb dX9_of_17 (by decide) ?_
      obtain ⟨rfl, rfl⟩ := Prod.mk.inj (Option.some.inj h)
      exact k_iret hE hr hlk hW ⟨hB_st, hF⟩ rfl dX9_of_18
set_option maxHeartbeats 4000000 in
set_option maxRecDepth 100000 in
theorem wX9_record_48 {p : Program} {l : Launch} {e : Env} {s : State} {m : MethodId} {args : Array Value} {below : List Frame} {meth : Method} {cd : Code} {D : va_G} {ct : Nat → ClassId} {J : List Nat} {ad : Nat → Nat} {c0 : CF} {b : Nat} (hE : ME p s m cd args D ct cX9_record RX9 5) (hr : meth.sig.returnType = (some .long)) (hlk : meth.locks = false) {st : MS} (hB_st : MoB ct J ad c0 b st) {r : Int64} : ∀ (x1 : Int32) (x2 : Int32) (x3 : Int32) (y0 : Int32) (H : Heap) (locs : List Loc) (ls : Array Slot), HW D J ad c0 (aA J ad s.heap.size) s.heap H locs → lv_has ls 5 [(0, .ref (ad b)), (1, .int x1), (2, .int x2), (3, .int x3)] → fX9_record_48 st x1 x2 x3 y0 = some r → W p l e (rr 3 67) s m args below meth cd H locs 0 0 (MQ below (Ql D J ad s.heap.size r (fun c' => c' = c0)) args s 0 0 (aA J ad s.heap.size)) (F0 m 48 ls [.int y0]) := by
  have hx := hE.1
  have hb := hE.2.1
  intro x1 x2 x3 y0 H locs ls hW hl h
  rw [fX9_record_48] at h
  refine lv_istore (lv' := [(4, .int y0), (0, .ref (ad b)), (1, .int x1), (2, .int x2), (3, .int x3)]) hx hb dX9_record_48 hl (by decide) rfl (fun ls hl => ?_)
  refine lv_iload_n hx hb dX9_record_50 rfl (lv_at hl 4 rfl) ?_
  rcases Classical.em (x3 = (0 : Int32)) with k_9 | k_9
  · have h := it_t k_9 h
    refine lv_tableIn (tgt := 84) hx hb dX9_record_51 (by rw [k_9]; decide) (by rw [k_9]; decide) (by rw [k_9]; rfl) (by decide) ?_
    refine lv_aload_n hx hb dX9_record_84 rfl (lv_at hl 1 rfl) ?_
    refine lv_iload_n hx hb dX9_record_85 rfl (lv_at hl 2 rfl) ?_
    refine lv_sipush (v := (200 : Int32)) hx hb dX9_record_86 (by decide) ?_
    refine lv_iload_n hx hb dX9_record_89 rfl (lv_at hl 3 rfl) ?_
    refine lv_iadd hx hb dX9_record_90 ?_
    obtain ⟨r_10, hr_10, h⟩ := zb_e h
    refine k_callVi (rest := []) hE hW hl.1 (mX9_at hB_st hr_10) hB_st.o hB_st.obj rfl q934 q936 qs87 q10 q937 hd_X9_at ⟨Nat.le_of_ble_eq_true rfl, Nat.le_of_ble_eq_true rfl⟩ ⟨rfl, rfl⟩ rfl (Nat.le_of_ble_eq_true rfl) dX9_record_91 ⟨Nat.zero_le _, Nat.zero_le _⟩ (fun c1 H locs hP hW => ?_)
    rw [hP] at hW
    refine lv_i2l (v := r_10.toInt64) hx hb dX9_record_94 rfl ?_
    obtain rfl := Option.some.inj h
    exact k_lret hE hr hlk hW rfl rfl dX9_record_95
  have h := it_f k_9 h
  rcases Classical.em (x3 = (1 : Int32)) with k_11 | k_11
  · have h := it_t k_11 h
    refine lv_tableIn (tgt := 96) hx hb dX9_record_51 (by rw [k_11]; decide) (by rw [k_11]; decide) (by rw [k_11]; rfl) (by decide) ?_
    refine lv_aload_n hx hb dX9_record_96 rfl (lv_at hl 1 rfl) ?_
    refine lv_iload_n hx hb dX9_record_97 rfl (lv_at hl 2 rfl) ?_
    refine lv_sipush (v := (400 : Int32)) hx hb dX9_record_98 (by decide) ?_
    refine lv_iload_n hx hb dX9_record_101 rfl (lv_at hl 3 rfl) ?_
    refine lv_iadd hx hb dX9_record_102 ?_
    obtain ⟨r_12, hr_12, h⟩ := zb_e h
    refine k_callVi (rest := []) hE hW hl.1 (mX9_at hB_st hr_12) hB_st.o hB_st.obj rfl q934 q936 qs87 q10 q937 hd_X9_at ⟨Nat.le_of_ble_eq_true rfl, Nat.le_of_ble_eq_true rfl⟩ ⟨rfl, rfl⟩ rfl (Nat.le_of_ble_eq_true rfl) dX9_record_103 ⟨Nat.zero_le _, Nat.zero_le _⟩ (fun c1 H locs hP hW => ?_)
    rw [hP] at hW
    refine lv_i2l (v := r_12.toInt64) hx hb dX9_record_106 rfl ?_
    obtain rfl := Option.some.inj h
    exact k_lret hE hr hlk hW rfl rfl dX9_record_107
  have h := it_f k_11 h
  rcases Classical.em (x3 = (2 : Int32)) with k_13 | k_13
  · have h := it_t k_13 h
    refine lv_tableIn (tgt := 108) hx hb dX9_record_51 (by rw [k_13]; decide) (by rw [k_13]; decide) (by rw [k_13]; rfl) (by decide) ?_
    refine lv_aload_n hx hb dX9_record_108 rfl (lv_at hl 1 rfl) ?_
    refine lv_iload_n hx hb dX9_record_109 rfl (lv_at hl 2 rfl) ?_
    refine lv_sipush (v := (600 : Int32)) hx hb dX9_record_110 (by decide) ?_
    refine lv_iload_n hx hb dX9_record_113 rfl (lv_at hl 3 rfl) ?_
    refine lv_iadd hx hb dX9_record_114 ?_
    obtain ⟨r_14, hr_14, h⟩ := zb_e h
    refine k_callVi (rest := []) hE hW hl.1 (mX9_at hB_st hr_14) hB_st.o hB_st.obj rfl q934 q936 qs87 q10 q937 hd_X9_at ⟨Nat.le_of_ble_eq_true rfl, Nat.le_of_ble_eq_true rfl⟩ ⟨rfl, rfl⟩ rfl (Nat.le_of_ble_eq_true rfl) dX9_record_115 ⟨Nat.zero_le _, Nat.zero_le _⟩ (fun c1 H locs hP hW => ?_)
    rw [hP] at hW
    refine lv_i2l (v := r_14.toInt64) hx hb dX9_record_118 rfl ?_
    obtain rfl := Option.some.inj h
    exact k_lret hE hr hlk hW rfl rfl dX9_record_119
  have h := it_f k_13 h
  rcases Classical.em (x3 = (3 : Int32)) with k_15 | k_15
  · have h := it_t k_15 h
    refine lv_tableIn (tgt := 120) hx hb dX9_record_51 (by rw [k_15]; decide) (by rw [k_15]; decide) (by rw [k_15]; rfl) (by decide) ?_
    refine lv_iload hx hb dX9_record_120 (lv_at hl 0 rfl) ?_
    refine lv_if_eq (tgt := 129) hx hb dX9_record_122 (by decide) (fun k_16 => ?_) (fun k_16 => ?_)
    · have h := it_t k_16 h
      refine lv_lconst (v := (0 : Int64)) hx hb dX9_record_129 (by decide) ?_
      obtain rfl := Option.some.inj h
      exact k_lret hE hr hlk hW rfl rfl dX9_record_130
    · have h := it_f k_16 h
      refine lv_lconst (v := (1 : Int64)) hx hb dX9_record_125 (by decide) ?_
      refine lv_goto (tgt := 130) hx hb dX9_record_126 (by decide) ?_
      obtain rfl := Option.some.inj h
      exact k_lret hE hr hlk hW rfl rfl dX9_record_130
  have h := it_f k_15 h
  rcases Classical.em (x3 = (4 : Int32)) with k_17 | k_17
  · have h := it_t k_17 h
    refine lv_tableIn (tgt := 131) hx hb dX9_record_51 (by rw [k_17]; decide) (by rw [k_17]; decide) (by rw [k_17]; rfl) (by decide) ?_
    refine lv_iload hx hb dX9_record_131 (lv_at hl 0 rfl) ?_
    refine lv_if_eq (tgt := 142) hx hb dX9_record_133 (by decide) (fun k_18 => ?_) (fun k_18 => ?_)
    · have h := it_t k_18 h
      refine lv_aload_n hx hb dX9_record_142 rfl (lv_at hl 1 rfl) ?_
      refine lv_iload_n hx hb dX9_record_143 rfl (lv_at hl 2 rfl) ?_
      refine lv_sipush (v := (1000 : Int32)) hx hb dX9_record_144 (by decide) ?_
      refine lv_iload_n hx hb dX9_record_147 rfl (lv_at hl 3 rfl) ?_
      refine lv_iadd hx hb dX9_record_148 ?_
      obtain ⟨r_19, hr_19, h⟩ := zb_e h
      refine k_callVi (rest := []) hE hW hl.1 (mX9_at hB_st hr_19) hB_st.o hB_st.obj rfl q934 q936 qs87 q10 q937 hd_X9_at ⟨Nat.le_of_ble_eq_true rfl, Nat.le_of_ble_eq_true rfl⟩ ⟨rfl, rfl⟩ rfl (Nat.le_of_ble_eq_true rfl) dX9_record_149 ⟨Nat.zero_le _, Nat.zero_le _⟩ (fun c1 H locs hP hW => ?_)
      rw [hP] at hW
      refine lv_i2l (v := r_19.toInt64) hx hb dX9_record_152 rfl ?_
      obtain rfl := Option.some.inj h
      exact k_lret hE hr hlk hW rfl rfl dX9_record_153
    · have h := it_f k_18 h
      refine lv_ldc2 (v := (-9223372036854775808 : Int64)) hx hb hE.2.2.2.1 (hE.2.2.2.2.1 _ q1078) dX9_record_136 ?_
      refine lv_goto (tgt := 153) hx hb dX9_record_139 (by decide) ?_
      obtain rfl := Option.some.inj h
      exact k_lret hE hr hlk hW rfl rfl dX9_record_153
  have h := it_f k_17 h
  refine lv_tableOut (tgt := 154) hx hb dX9_record_51 (tb_out5 k_9 k_11 k_13 k_15 k_17) (by decide) ?_
  refine lv_aload_n hx hb dX9_record_154 rfl (lv_at hl 1 rfl) ?_
  refine lv_iload_n hx hb dX9_record_155 rfl (lv_at hl 2 rfl) ?_
  refine lv_iload_n hx hb dX9_record_156 rfl (lv_at hl 3 rfl) ?_
  obtain ⟨r_20, hr_20, h⟩ := zb_e h
  refine k_callVi (rest := []) hE hW hl.1 (mX9_segmentOf hB_st hr_20) hB_st.o hB_st.obj rfl q1079 q1081 qs110 q10 q1082 hd_X9_segmentOf ⟨Nat.le_of_ble_eq_true rfl, Nat.le_of_ble_eq_true rfl⟩ ⟨rfl, rfl⟩ rfl (Nat.le_of_ble_eq_true rfl) dX9_record_157 ⟨Nat.zero_le _, Nat.zero_le _⟩ (fun c1 H locs hP hW => ?_)
  rw [hP] at hW
  refine lv_i2l (v := r_20.toInt64) hx hb dX9_record_160 rfl ?_
  obtain rfl := Option.some.inj h
  exact k_lret hE hr hlk hW rfl rfl dX9_record_161
set_option maxHeartbeats 4000000 in
set_option maxRecDepth 100000 in
theorem mX9_record {l : Launch} {D : va_G} {ct : Nat → ClassId} {J : List Nat} {ad : Nat → Nat} {c0 : CF} {a1 : Int32} {a2 : Int32} {a3 : Int32} {b : Nat} {st : MS} (hB_st : MoB ct J ad c0 b st) {r : Int64} (h : fX9_record  a1 a2 a3 st = some r) : Ml l D ct J ad yX9_record cX9_record 5 (some .long) (rr 3 67) [.ref (ad b), .int a1, .int a2, .int a3] c0 r (fun c' => c' = c0) := by
  refine Ml_of (own := RX9) (by decide) rfl (Nat.le_of_ble_eq_true rfl) (fun p e s m below meth cd hE hr hlk hW ls hl => ?_)
  have hx := hE.1
  have hb := hE.2.1
  have hl : lv_has ls 5 [(0, .ref (ad b)), (1, .int a1), (2, .int a2), (3, .int a3)] := hl
  rw [fX9_record] at h
  refine lv_iload_n hx hb dX9_record_0 rfl (lv_at hl 1 rfl) ?_
  obtain ⟨r_1, hr_1, h⟩ := zb_e h
  refine k_callSi (rest := []) hE hW hl.1 (mX9_isLog hr_1) q928 q929 q10 q930 hd_X9_isLog.2 ⟨Nat.le_of_ble_eq_true rfl, Nat.le_of_ble_eq_true rfl⟩ ⟨rfl, rfl⟩ rfl (Nat.le_of_ble_eq_true rfl) dX9_record_1 ⟨Nat.zero_le _, Nat.zero_le _⟩ (fun c1 H locs hP hW => ?_)
  rw [hP] at hW
  refine lv_if_eq (tgt := 25) hx hb dX9_record_4 (by decide) (fun k_2 => ?_) (fun k_2 => ?_)
  · have h := it_t k_2 h
    refine lv_ldc2 (v := (-9223372036854775808 : Int64)) hx hb hE.2.2.2.1 (hE.2.2.2.2.1 _ q1078) dX9_record_25 ?_
    obtain rfl := Option.some.inj h
    exact k_lret hE hr hlk hW rfl rfl dX9_record_28
  · have h := it_f k_2 h
    refine lv_aload_n hx hb dX9_record_7 rfl (lv_at hl 0 rfl) ?_
    refine lv_iload_n hx hb dX9_record_8 rfl (lv_at hl 1 rfl) ?_
    refine lv_iload_n hx hb dX9_record_9 rfl (lv_at hl 2 rfl) ?_
    obtain ⟨r_3, hr_3, h⟩ := zb_e h
    refine k_callVi (rest := []) hE hW hl.1 (mX9_isThere hB_st hr_3) hB_st.o hB_st.obj rfl q1070 q1072 qs109 q10 q1073 hd_X9_isThere ⟨Nat.le_of_ble_eq_true rfl, Nat.le_of_ble_eq_true rfl⟩ ⟨rfl, rfl⟩ rfl (Nat.le_of_ble_eq_true rfl) dX9_record_10 ⟨Nat.zero_le _, Nat.zero_le _⟩ (fun c1 H locs hP hW => ?_)
    rw [hP] at hW
    refine lv_if_eq (tgt := 25) hx hb dX9_record_13 (by decide) (fun k_4 => ?_) (fun k_4 => ?_)
    · have h := it_t k_4 h
      refine lv_ldc2 (v := (-9223372036854775808 : Int64)) hx hb hE.2.2.2.1 (hE.2.2.2.2.1 _ q1078) dX9_record_25 ?_
      obtain rfl := Option.some.inj h
      exact k_lret hE hr hlk hW rfl rfl dX9_record_28
    · have h := it_f k_4 h
      refine lv_iload_n hx hb dX9_record_16 rfl (lv_at hl 3 rfl) ?_
      refine lv_iconst (v := (0 : Int32)) hx hb dX9_record_17 (by decide) ?_
      refine lv_iconst (v := (5 : Int32)) hx hb dX9_record_18 (by decide) ?_
      obtain ⟨r_5, hr_5, h⟩ := zb_e h
      refine k_callSi (rest := []) hE hW hl.1 (mX9_in hr_5) q931 q932 q10 q933 hd_X9_in.2 ⟨Nat.le_of_ble_eq_true rfl, Nat.le_of_ble_eq_true rfl⟩ ⟨rfl, rfl⟩ rfl (Nat.le_of_ble_eq_true rfl) dX9_record_19 ⟨Nat.zero_le _, Nat.zero_le _⟩ (fun c1 H locs hP hW => ?_)
      rw [hP] at hW
      refine lv_if_ne (tgt := 29) hx hb dX9_record_22 (by decide) (fun k_6 => ?_) (fun k_6 => ?_)
      · have h := it_f k_6 h
        refine lv_aload_n hx hb dX9_record_29 rfl (lv_at hl 0 rfl) ?_
        refine lv_iload_n hx hb dX9_record_30 rfl (lv_at hl 1 rfl) ?_
        refine lv_sipush (v := (800 : Int32)) hx hb dX9_record_31 (by decide) ?_
        refine lv_iload_n hx hb dX9_record_34 rfl (lv_at hl 2 rfl) ?_
        refine lv_iadd hx hb dX9_record_35 ?_
        obtain ⟨r_7, hr_7, h⟩ := zb_e h
        refine k_callVi (rest := []) hE hW hl.1 (mX9_at hB_st hr_7) hB_st.o hB_st.obj rfl q934 q936 qs87 q10 q937 hd_X9_at ⟨Nat.le_of_ble_eq_true rfl, Nat.le_of_ble_eq_true rfl⟩ ⟨rfl, rfl⟩ rfl (Nat.le_of_ble_eq_true rfl) dX9_record_36 ⟨Nat.zero_le _, Nat.zero_le _⟩ (fun c1 H locs hP hW => ?_)
        rw [hP] at hW
        refine lv_iconst (v := (1 : Int32)) hx hb dX9_record_39 (by decide) ?_
        refine lv_icmp_ne (tgt := 47) hx hb dX9_record_40 (by decide) (fun k_8 => ?_) (fun k_8 => ?_)
        · have h := it_f k_8 h
          refine lv_iconst (v := (0 : Int32)) hx hb dX9_record_47 (by decide) ?_
          exact wX9_record_48 hE hr hlk hB_st _ _ _ _ _ _ _ hW (lv_sub hl [0, 1, 2, 3] rfl) h
        · have h := it_t k_8 h
          refine lv_iconst (v := (1 : Int32)) hx hb dX9_record_43 (by decide) ?_
          refine lv_goto (tgt := 48) hx hb dX9_record_44 (by decide) ?_
          exact wX9_record_48 hE hr hlk hB_st _ _ _ _ _ _ _ hW (lv_sub hl [0, 1, 2, 3] rfl) h
      · have h := it_t k_6 h
        refine lv_ldc2 (v := (-9223372036854775808 : Int64)) hx hb hE.2.2.2.1 (hE.2.2.2.2.1 _ q1078) dX9_record_25 ?_
        obtain rfl := Option.some.inj h
        exact k_lret hE hr hlk hW rfl rfl dX9_record_28
set_option maxHeartbeats 4000000 in
set_option maxRecDepth 100000 in
theorem mX9_segment {l : Launch} {D : va_G} {ct : Nat → ClassId} {J : List Nat} {ad : Nat → Nat} {c0 : CF} {a1 : Int32} {a2 : Int32} {a3 : Int32} {b : Nat} {st : MS} (hB_st : MoB ct J ad c0 b st) {r : Int32} (h : fX9_segment  a1 a2 a3 st = some r) : Mi l D ct J ad yX9_segment cX9_segment 4 (some .int) (rr 4 90) [.ref (ad b), .int a1, .int a2, .int a3] c0 r (fun c' => c' = c0) := by
  refine Mi_of (own := RX9) (by decide) rfl (Nat.le_of_ble_eq_true rfl) (fun p e s m below meth cd hE hr hlk hW ls hl => ?_)
  have hx := hE.1
  have hb := hE.2.1
  have hl : lv_has ls 4 [(0, .ref (ad b)), (1, .int a1), (2, .int a2), (3, .int a3)] := hl
  rw [fX9_segment] at h
  refine lv_iload_n hx hb dX9_segment_0 rfl (lv_at hl 1 rfl) ?_
  obtain ⟨r_1, hr_1, h⟩ := zb_e h
  refine k_callSi (rest := []) hE hW hl.1 (mX9_isLog hr_1) q928 q929 q10 q930 hd_X9_isLog.2 ⟨Nat.le_of_ble_eq_true rfl, Nat.le_of_ble_eq_true rfl⟩ ⟨rfl, rfl⟩ rfl (Nat.le_of_ble_eq_true rfl) dX9_segment_1 ⟨Nat.zero_le _, Nat.zero_le _⟩ (fun c1 H locs hP hW => ?_)
  rw [hP] at hW
  refine lv_if_eq (tgt := 34) hx hb dX9_segment_4 (by decide) (fun k_2 => ?_) (fun k_2 => ?_)
  · have h := it_t k_2 h
    refine lv_iconst (v := (-1 : Int32)) hx hb dX9_segment_34 (by decide) ?_
    obtain rfl := Option.some.inj h
    exact k_iret hE hr hlk hW rfl rfl dX9_segment_35
  · have h := it_f k_2 h
    refine lv_iload_n hx hb dX9_segment_7 rfl (lv_at hl 2 rfl) ?_
    refine lv_iconst (v := (0 : Int32)) hx hb dX9_segment_8 (by decide) ?_
    refine lv_aload_n hx hb dX9_segment_9 rfl (lv_at hl 0 rfl) ?_
    refine lv_iload_n hx hb dX9_segment_10 rfl (lv_at hl 1 rfl) ?_
    refine lv_sipush (v := (1270 : Int32)) hx hb dX9_segment_11 (by decide) ?_
    obtain ⟨r_3, hr_3, h⟩ := zb_e h
    refine k_callVi (rest := [.int (0 : Int32), .int a2]) hE hW hl.1 (mX9_at hB_st hr_3) hB_st.o hB_st.obj rfl q934 q936 qs87 q10 q937 hd_X9_at ⟨Nat.le_of_ble_eq_true rfl, Nat.le_of_ble_eq_true rfl⟩ ⟨rfl, rfl⟩ rfl (Nat.le_of_ble_eq_true rfl) dX9_segment_14 ⟨Nat.zero_le _, Nat.zero_le _⟩ (fun c1 H locs hP hW => ?_)
    rw [hP] at hW
    refine lv_iconst (v := (1 : Int32)) hx hb dX9_segment_17 (by decide) ?_
    refine lv_isub hx hb dX9_segment_18 ?_
    obtain ⟨r_4, hr_4, h⟩ := zb_e h
    refine k_callSi (rest := []) hE hW hl.1 (mX9_in hr_4) q931 q932 q10 q933 hd_X9_in.2 ⟨Nat.le_of_ble_eq_true rfl, Nat.le_of_ble_eq_true rfl⟩ ⟨rfl, rfl⟩ rfl (Nat.le_of_ble_eq_true rfl) dX9_segment_19 ⟨Nat.zero_le _, Nat.zero_le _⟩ (fun c1 H locs hP hW => ?_)
    rw [hP] at hW
    refine lv_if_eq (tgt := 34) hx hb dX9_segment_22 (by decide) (fun k_5 => ?_) (fun k_5 => ?_)
    · have h := it_t k_5 h
      refine lv_iconst (v := (-1 : Int32)) hx hb dX9_segment_34 (by decide) ?_
      obtain rfl := Option.some.inj h
      exact k_iret hE hr hlk hW rfl rfl dX9_segment_35
    · have h := it_f k_5 h
      refine lv_iload_n hx hb dX9_segment_25 rfl (lv_at hl 3 rfl) ?_
      refine lv_iconst (v := (0 : Int32)) hx hb dX9_segment_26 (by decide) ?_
      refine lv_iconst (v := (3 : Int32)) hx hb dX9_segment_27 (by decide) ?_
      obtain ⟨r_6, hr_6, h⟩ := zb_e h
      refine k_callSi (rest := []) hE hW hl.1 (mX9_in hr_6) q931 q932 q10 q933 hd_X9_in.2 ⟨Nat.le_of_ble_eq_true rfl, Nat.le_of_ble_eq_true rfl⟩ ⟨rfl, rfl⟩ rfl (Nat.le_of_ble_eq_true rfl) dX9_segment_28 ⟨Nat.zero_le _, Nat.zero_le _⟩ (fun c1 H locs hP hW => ?_)
      rw [hP] at hW
      refine lv_if_ne (tgt := 36) hx hb dX9_segment_31 (by decide) (fun k_7 => ?_) (fun k_7 => ?_)
      · have h := it_f k_7 h
        refine lv_iload_n hx hb dX9_segment_36 rfl (lv_at hl 3 rfl) ?_
        refine lv_if_ne (tgt := 49) hx hb dX9_segment_37 (by decide) (fun k_8 => ?_) (fun k_8 => ?_)
        · have h := it_f k_8 h
          refine lv_iload_n hx hb dX9_segment_49 rfl (lv_at hl 3 rfl) ?_
          refine lv_iconst (v := (1 : Int32)) hx hb dX9_segment_50 (by decide) ?_
          refine lv_icmp_ne (tgt := 63) hx hb dX9_segment_51 (by decide) (fun k_9 => ?_) (fun k_9 => ?_)
          · have h := it_f k_9 h
            refine lv_iload_n hx hb dX9_segment_63 rfl (lv_at hl 3 rfl) ?_
            refine lv_iconst (v := (2 : Int32)) hx hb dX9_segment_64 (by decide) ?_
            refine lv_icmp_ne (tgt := 77) hx hb dX9_segment_65 (by decide) (fun k_10 => ?_) (fun k_10 => ?_)
            · have h := it_f k_10 h
              refine lv_iload_n hx hb dX9_segment_77 rfl (lv_at hl 2 rfl) ?_
              refine lv_iconst (v := (1 : Int32)) hx hb dX9_segment_78 (by decide) ?_
              refine lv_iadd hx hb dX9_segment_79 ?_
              refine lv_aload_n hx hb dX9_segment_80 rfl (lv_at hl 0 rfl) ?_
              refine lv_iload_n hx hb dX9_segment_81 rfl (lv_at hl 1 rfl) ?_
              refine lv_sipush (v := (1270 : Int32)) hx hb dX9_segment_82 (by decide) ?_
              obtain ⟨r_11, hr_11, h⟩ := zb_e h
              refine k_callVi (rest := [.int (a2 + (1 : Int32))]) hE hW hl.1 (mX9_at hB_st hr_11) hB_st.o hB_st.obj rfl q934 q936 qs87 q10 q937 hd_X9_at ⟨Nat.le_of_ble_eq_true rfl, Nat.le_of_ble_eq_true rfl⟩ ⟨rfl, rfl⟩ rfl (Nat.le_of_ble_eq_true rfl) dX9_segment_85 ⟨Nat.zero_le _, Nat.zero_le _⟩ (fun c1 H locs hP hW => ?_)
              rw [hP] at hW
              refine lv_icmp_ge (tgt := 95) hx hb dX9_segment_88 (by decide) (fun k_12 => ?_) (fun k_12 => ?_)
              · have h := it_t k_12 h
                refine lv_iconst (v := (0 : Int32)) hx hb dX9_segment_95 (by decide) ?_
                obtain rfl := Option.some.inj h
                exact k_iret hE hr hlk hW rfl rfl dX9_segment_96
              · have h := it_f k_12 h
                refine lv_iconst (v := (1 : Int32)) hx hb dX9_segment_91 (by decide) ?_
                refine lv_goto (tgt := 96) hx hb dX9_segment_92 (by decide) ?_
                obtain rfl := Option.some.inj h
                exact k_iret hE hr hlk hW rfl rfl dX9_segment_96
            · have h := it_t k_10 h
              refine lv_aload_n hx hb dX9_segment_68 rfl (lv_at hl 0 rfl) ?_
              refine lv_iload_n hx hb dX9_segment_69 rfl (lv_at hl 1 rfl) ?_
              refine lv_iload_n hx hb dX9_segment_70 rfl (lv_at hl 2 rfl) ?_
              obtain ⟨r_13, hr_13, h⟩ := zb_e h
              refine k_callVi (rest := []) hE hW hl.1 (mX9_weightIn hB_st hr_13) hB_st.o hB_st.obj rfl q967 q969 qs92 q10 q970 hd_X9_weightIn ⟨Nat.le_of_ble_eq_true rfl, Nat.le_of_ble_eq_true rfl⟩ ⟨rfl, rfl⟩ rfl (Nat.le_of_ble_eq_true rfl) dX9_segment_71 ⟨Nat.zero_le _, Nat.zero_le _⟩ (fun c1 H locs hP hW => ?_)
              rw [hP] at hW
              refine lv_goto (tgt := 96) hx hb dX9_segment_74 (by decide) ?_
              obtain rfl := Option.some.inj h
              exact k_iret hE hr hlk hW rfl rfl dX9_segment_96
          · have h := it_t k_9 h
            refine lv_aload_n hx hb dX9_segment_54 rfl (lv_at hl 0 rfl) ?_
            refine lv_iload_n hx hb dX9_segment_55 rfl (lv_at hl 1 rfl) ?_
            refine lv_iload_n hx hb dX9_segment_56 rfl (lv_at hl 2 rfl) ?_
            obtain ⟨r_14, hr_14, h⟩ := zb_e h
            refine k_callVi (rest := []) hE hW hl.1 (mX9_manyIn hB_st hr_14) hB_st.o hB_st.obj rfl q955 q957 qs89 q10 q958 hd_X9_manyIn ⟨Nat.le_of_ble_eq_true rfl, Nat.le_of_ble_eq_true rfl⟩ ⟨rfl, rfl⟩ rfl (Nat.le_of_ble_eq_true rfl) dX9_segment_57 ⟨Nat.zero_le _, Nat.zero_le _⟩ (fun c1 H locs hP hW => ?_)
            rw [hP] at hW
            refine lv_goto (tgt := 96) hx hb dX9_segment_60 (by decide) ?_
            obtain rfl := Option.some.inj h
            exact k_iret hE hr hlk hW rfl rfl dX9_segment_96
        · have h := it_t k_8 h
          refine lv_aload_n hx hb dX9_segment_40 rfl (lv_at hl 0 rfl) ?_
          refine lv_iload_n hx hb dX9_segment_41 rfl (lv_at hl 1 rfl) ?_
          refine lv_iload_n hx hb dX9_segment_42 rfl (lv_at hl 2 rfl) ?_
          obtain ⟨r_15, hr_15, h⟩ := zb_e h
          refine k_callVi (rest := []) hE hW hl.1 (mX9_base hB_st hr_15) hB_st.o hB_st.obj rfl q959 q961 qs90 q10 q962 hd_X9_base ⟨Nat.le_of_ble_eq_true rfl, Nat.le_of_ble_eq_true rfl⟩ ⟨rfl, rfl⟩ rfl (Nat.le_of_ble_eq_true rfl) dX9_segment_43 ⟨Nat.zero_le _, Nat.zero_le _⟩ (fun c1 H locs hP hW => ?_)
          rw [hP] at hW
          refine lv_goto (tgt := 96) hx hb dX9_segment_46 (by decide) ?_
          obtain rfl := Option.some.inj h
          exact k_iret hE hr hlk hW rfl rfl dX9_segment_96
      · have h := it_t k_7 h
        refine lv_iconst (v := (-1 : Int32)) hx hb dX9_segment_34 (by decide) ?_
        obtain rfl := Option.some.inj h
        exact k_iret hE hr hlk hW rfl rfl dX9_segment_35
set_option maxHeartbeats 4000000 in
set_option maxRecDepth 100000 in
theorem mX9_valueIn {l : Launch} {D : va_G} {ct : Nat → ClassId} {J : List Nat} {ad : Nat → Nat} {c0 : CF} {a1 : Int32} {a2 : Int32} {a3 : Int32} {b : Nat} {st : MS} (hB_st : MoB ct J ad c0 b st) {r : Int64} {st9 : MS} (h : fX9_valueIn  a1 a2 a3 st = some (r, st9)) : Ml l D ct J ad yX9_valueIn cX9_valueIn 4 (some .long) (rr 2 45) [.ref (ad b), .int a1, .int a2, .int a3] c0 r (fun c' => MoB ct J ad c' b st9 ∧ Fr c0 c' b 19) := by
  refine Ml_of (own := RX9) (by decide) rfl (Nat.le_of_ble_eq_true rfl) (fun p e s m below meth cd hE hr hlk hW ls hl => ?_)
  have hx := hE.1
  have hb := hE.2.1
  have hl : lv_has ls 4 [(0, .ref (ad b)), (1, .int a1), (2, .int a2), (3, .int a3)] := hl
  rw [fX9_valueIn] at h
  obtain ⟨c, hB_st, hF, hW⟩ : ∃ c', MoB ct J ad c' b st ∧ Fr c0 c' b 19 ∧ HW D J ad c' (aA J ad s.heap.size) s.heap s.heap [] := ⟨c0, hB_st, Fr.rf, hW⟩
  refine lv_aload_n hx hb dX9_valueIn_0 rfl (lv_at hl 0 rfl) ?_
  refine lv_iload_n hx hb dX9_valueIn_1 rfl (lv_at hl 1 rfl) ?_
  refine lv_iload_n hx hb dX9_valueIn_2 rfl (lv_at hl 2 rfl) ?_
  obtain ⟨st_1, hst_1, h⟩ := zb_e h
  refine k_callVv (rest := []) hE hW hl.1 (mX9_replays hB_st hst_1) hB_st.o hB_st.obj rfl q1052 q1054 qs105 q10 q1055 hd_X9_replays ⟨Nat.le_of_ble_eq_true rfl, Nat.le_of_ble_eq_true rfl⟩ ⟨rfl, rfl⟩ rfl (Nat.le_of_ble_eq_true rfl) dX9_valueIn_3 ⟨Nat.zero_le _, Nat.zero_le _⟩ (fun c1 H locs hP hW => ?_)
  obtain ⟨c, hB_st, hF, hW⟩ : ∃ c', MoB ct J ad c' b st_1 ∧ Fr c0 c' b 19 ∧ HW D J ad c' (aA J ad s.heap.size) s.heap H locs := ⟨c1, hP.1, hF.trans hP.2, hW⟩
  refine lv_aload_n hx hb dX9_valueIn_6 rfl (lv_at hl 0 rfl) ?_
  refine lv_iload_n hx hb dX9_valueIn_7 rfl (lv_at hl 1 rfl) ?_
  refine lv_iload_n hx hb dX9_valueIn_8 rfl (lv_at hl 3 rfl) ?_
  obtain ⟨r_2, hr_2, h⟩ := zb_e h
  refine k_callVi (rest := []) hE hW hl.1 (mX9_isMapped hB_st hr_2) hB_st.o hB_st.obj rfl q1060 q1062 qs107 q10 q1063 hd_X9_isMapped ⟨Nat.le_of_ble_eq_true rfl, Nat.le_of_ble_eq_true rfl⟩ ⟨rfl, rfl⟩ rfl (Nat.le_of_ble_eq_true rfl) dX9_valueIn_9 ⟨Nat.zero_le _, Nat.zero_le _⟩ (fun c1 H locs hP hW => ?_)
  rw [hP] at hW
  refine lv_if_eq (tgt := 34) hx hb dX9_valueIn_12 (by decide) (fun k_3 => ?_) (fun k_3 => ?_)
  · have h := it_t k_3 h
    refine lv_ldc2 (v := (-9223372036854775808 : Int64)) hx hb hE.2.2.2.1 (hE.2.2.2.2.1 _ q1078) dX9_valueIn_34 ?_
    obtain ⟨rfl, rfl⟩ := Prod.mk.inj (Option.some.inj h)
    exact k_lret hE hr hlk hW ⟨hB_st, hF⟩ rfl dX9_valueIn_37
  · have h := it_f k_3 h
    refine lv_aload_n hx hb dX9_valueIn_15 rfl (lv_at hl 0 rfl) ?_
    refine lv_iload_n hx hb dX9_valueIn_16 rfl (lv_at hl 1 rfl) ?_
    refine lv_sipush (v := (1000 : Int32)) hx hb dX9_valueIn_17 (by decide) ?_
    refine lv_aload_n hx hb dX9_valueIn_20 rfl (lv_at hl 0 rfl) ?_
    refine k_get (v := .ref (ad (b + 1 + 5))) hE hW hB_st.o hB_st.obj rfl inX9 7 (by decide) q875 rfl dX9_valueIn_21 ?_
    refine lv_iload_n hx hb dX9_valueIn_24 rfl (lv_at hl 3 rfl) ?_
    obtain ⟨g_4, h⟩ := zi_e h
    refine k_iald hE hW (hB_st.memA 5 (Nat.le_of_ble_eq_true rfl)) (hB_st.arr 5 rfl) g_4 dX9_valueIn_25 ?_
    refine lv_iadd hx hb dX9_valueIn_26 ?_
    obtain ⟨r_5, hr_5, h⟩ := zb_e h
    refine k_callVi (rest := []) hE hW hl.1 (mX9_at hB_st hr_5) hB_st.o hB_st.obj rfl q934 q936 qs87 q10 q937 hd_X9_at ⟨Nat.le_of_ble_eq_true rfl, Nat.le_of_ble_eq_true rfl⟩ ⟨rfl, rfl⟩ rfl (Nat.le_of_ble_eq_true rfl) dX9_valueIn_27 ⟨Nat.zero_le _, Nat.zero_le _⟩ (fun c1 H locs hP hW => ?_)
    rw [hP] at hW
    refine lv_i2l (v := r_5.toInt64) hx hb dX9_valueIn_30 rfl ?_
    refine lv_goto (tgt := 37) hx hb dX9_valueIn_31 (by decide) ?_
    obtain ⟨rfl, rfl⟩ := Prod.mk.inj (Option.some.inj h)
    exact k_lret hE hr hlk hW ⟨hB_st, hF⟩ rfl dX9_valueIn_37
set_option maxHeartbeats 4000000 in
set_option maxRecDepth 100000 in
theorem mX9_value {l : Launch} {D : va_G} {ct : Nat → ClassId} {J : List Nat} {ad : Nat → Nat} {c0 : CF} {a1 : Int32} {a2 : Int32} {b : Nat} {st : MS} (hB_st : MoB ct J ad c0 b st) {r : Int64} {st9 : MS} (h : fX9_value  a1 a2 st = some (r, st9)) : Ml l D ct J ad yX9_value cX9_value 3 (some .long) (rr 3 68) [.ref (ad b), .int a1, .int a2] c0 r (fun c' => MoB ct J ad c' b st9 ∧ Fr c0 c' b 19) := by
  refine Ml_of (own := RX9) (by decide) rfl (Nat.le_of_ble_eq_true rfl) (fun p e s m below meth cd hE hr hlk hW ls hl => ?_)
  have hx := hE.1
  have hb := hE.2.1
  have hl : lv_has ls 3 [(0, .ref (ad b)), (1, .int a1), (2, .int a2)] := hl
  rw [fX9_value] at h
  obtain ⟨c, hB_st, hF, hW⟩ : ∃ c', MoB ct J ad c' b st ∧ Fr c0 c' b 19 ∧ HW D J ad c' (aA J ad s.heap.size) s.heap s.heap [] := ⟨c0, hB_st, Fr.rf, hW⟩
  refine lv_iload_n hx hb dX9_value_0 rfl (lv_at hl 1 rfl) ?_
  obtain ⟨r_1, hr_1, h⟩ := zb_e h
  refine k_callSi (rest := []) hE hW hl.1 (mX9_isLog hr_1) q928 q929 q10 q930 hd_X9_isLog.2 ⟨Nat.le_of_ble_eq_true rfl, Nat.le_of_ble_eq_true rfl⟩ ⟨rfl, rfl⟩ rfl (Nat.le_of_ble_eq_true rfl) dX9_value_1 ⟨Nat.zero_le _, Nat.zero_le _⟩ (fun c1 H locs hP hW => ?_)
  rw [hP] at hW
  refine lv_if_eq (tgt := 29) hx hb dX9_value_4 (by decide) (fun k_2 => ?_) (fun k_2 => ?_)
  · have h := it_t k_2 h
    refine lv_ldc2 (v := (-9223372036854775808 : Int64)) hx hb hE.2.2.2.1 (hE.2.2.2.2.1 _ q1078) dX9_value_29 ?_
    obtain ⟨rfl, rfl⟩ := Prod.mk.inj (Option.some.inj h)
    exact k_lret hE hr hlk hW ⟨hB_st, hF⟩ rfl dX9_value_32
  · have h := it_f k_2 h
    refine lv_iload_n hx hb dX9_value_7 rfl (lv_at hl 2 rfl) ?_
    refine lv_iconst (v := (0 : Int32)) hx hb dX9_value_8 (by decide) ?_
    refine lv_bipush (v := (25 : Int32)) hx hb dX9_value_9 (by decide) ?_
    obtain ⟨r_3, hr_3, h⟩ := zb_e h
    refine k_callSi (rest := []) hE hW hl.1 (mX9_in hr_3) q931 q932 q10 q933 hd_X9_in.2 ⟨Nat.le_of_ble_eq_true rfl, Nat.le_of_ble_eq_true rfl⟩ ⟨rfl, rfl⟩ rfl (Nat.le_of_ble_eq_true rfl) dX9_value_11 ⟨Nat.zero_le _, Nat.zero_le _⟩ (fun c1 H locs hP hW => ?_)
    rw [hP] at hW
    refine lv_if_eq (tgt := 29) hx hb dX9_value_14 (by decide) (fun k_4 => ?_) (fun k_4 => ?_)
    · have h := it_t k_4 h
      refine lv_ldc2 (v := (-9223372036854775808 : Int64)) hx hb hE.2.2.2.1 (hE.2.2.2.2.1 _ q1078) dX9_value_29 ?_
      obtain ⟨rfl, rfl⟩ := Prod.mk.inj (Option.some.inj h)
      exact k_lret hE hr hlk hW ⟨hB_st, hF⟩ rfl dX9_value_32
    · have h := it_f k_4 h
      refine lv_aload_n hx hb dX9_value_17 rfl (lv_at hl 0 rfl) ?_
      refine lv_iload_n hx hb dX9_value_18 rfl (lv_at hl 1 rfl) ?_
      refine lv_sipush (v := (200 : Int32)) hx hb dX9_value_19 (by decide) ?_
      refine lv_iload_n hx hb dX9_value_22 rfl (lv_at hl 2 rfl) ?_
      obtain ⟨r_5, st_6, hr_5, h⟩ := zb2_e h
      refine k_callVl (rest := []) hE hW hl.1 (mX9_valueIn hB_st hr_5) hB_st.o hB_st.obj rfl q1091 q1093 qs111 q10 q1094 hd_X9_valueIn ⟨Nat.le_of_ble_eq_true rfl, Nat.le_of_ble_eq_true rfl⟩ ⟨rfl, rfl⟩ rfl (Nat.le_of_ble_eq_true rfl) dX9_value_23 ⟨Nat.zero_le _, Nat.zero_le _⟩ (fun c1 H locs hP hW => ?_)
      obtain ⟨c, hB_st, hF, hW⟩ : ∃ c', MoB ct J ad c' b st_6 ∧ Fr c0 c' b 19 ∧ HW D J ad c' (aA J ad s.heap.size) s.heap H locs := ⟨c1, hP.1, hF.trans hP.2, hW⟩
      refine lv_goto (tgt := 32) hx hb dX9_value_26 (by decide) ?_
      obtain ⟨rfl, rfl⟩ := Prod.mk.inj (Option.some.inj h)
      exact k_lret hE hr hlk hW ⟨hB_st, hF⟩ rfl dX9_value_32
set_option maxHeartbeats 4000000 in
set_option maxRecDepth 100000 in
theorem mX9_replay {l : Launch} {D : va_G} {ct : Nat → ClassId} {J : List Nat} {ad : Nat → Nat} {c0 : CF} {a1 : Int32} {a2 : Int32} {a3 : Int32} {b : Nat} {st : MS} (hB_st : MoB ct J ad c0 b st) {r : Int64} {st9 : MS} (h : fX9_replay  a1 a2 a3 st = some (r, st9)) : Ml l D ct J ad yX9_replay cX9_replay 4 (some .long) (rr 3 68) [.ref (ad b), .int a1, .int a2, .int a3] c0 r (fun c' => MoB ct J ad c' b st9 ∧ Fr c0 c' b 19) := by
  refine Ml_of (own := RX9) (by decide) rfl (Nat.le_of_ble_eq_true rfl) (fun p e s m below meth cd hE hr hlk hW ls hl => ?_)
  have hx := hE.1
  have hb := hE.2.1
  have hl : lv_has ls 4 [(0, .ref (ad b)), (1, .int a1), (2, .int a2), (3, .int a3)] := hl
  rw [fX9_replay] at h
  obtain ⟨c, hB_st, hF, hW⟩ : ∃ c', MoB ct J ad c' b st ∧ Fr c0 c' b 19 ∧ HW D J ad c' (aA J ad s.heap.size) s.heap s.heap [] := ⟨c0, hB_st, Fr.rf, hW⟩
  refine lv_iload_n hx hb dX9_replay_0 rfl (lv_at hl 1 rfl) ?_
  obtain ⟨r_1, hr_1, h⟩ := zb_e h
  refine k_callSi (rest := []) hE hW hl.1 (mX9_isLog hr_1) q928 q929 q10 q930 hd_X9_isLog.2 ⟨Nat.le_of_ble_eq_true rfl, Nat.le_of_ble_eq_true rfl⟩ ⟨rfl, rfl⟩ rfl (Nat.le_of_ble_eq_true rfl) dX9_replay_1 ⟨Nat.zero_le _, Nat.zero_le _⟩ (fun c1 H locs hP hW => ?_)
  rw [hP] at hW
  refine lv_if_eq (tgt := 21) hx hb dX9_replay_4 (by decide) (fun k_2 => ?_) (fun k_2 => ?_)
  · have h := it_t k_2 h
    refine lv_ldc2 (v := (-9223372036854775808 : Int64)) hx hb hE.2.2.2.1 (hE.2.2.2.2.1 _ q1078) dX9_replay_21 ?_
    obtain ⟨rfl, rfl⟩ := Prod.mk.inj (Option.some.inj h)
    exact k_lret hE hr hlk hW ⟨hB_st, hF⟩ rfl dX9_replay_24
  · have h := it_f k_2 h
    refine lv_iload_n hx hb dX9_replay_7 rfl (lv_at hl 3 rfl) ?_
    refine lv_iconst (v := (-1 : Int32)) hx hb dX9_replay_8 (by decide) ?_
    refine lv_bipush (v := (25 : Int32)) hx hb dX9_replay_9 (by decide) ?_
    obtain ⟨r_3, hr_3, h⟩ := zb_e h
    refine k_callSi (rest := []) hE hW hl.1 (mX9_in hr_3) q931 q932 q10 q933 hd_X9_in.2 ⟨Nat.le_of_ble_eq_true rfl, Nat.le_of_ble_eq_true rfl⟩ ⟨rfl, rfl⟩ rfl (Nat.le_of_ble_eq_true rfl) dX9_replay_11 ⟨Nat.zero_le _, Nat.zero_le _⟩ (fun c1 H locs hP hW => ?_)
    rw [hP] at hW
    refine lv_if_eq (tgt := 21) hx hb dX9_replay_14 (by decide) (fun k_4 => ?_) (fun k_4 => ?_)
    · have h := it_t k_4 h
      refine lv_ldc2 (v := (-9223372036854775808 : Int64)) hx hb hE.2.2.2.1 (hE.2.2.2.2.1 _ q1078) dX9_replay_21 ?_
      obtain ⟨rfl, rfl⟩ := Prod.mk.inj (Option.some.inj h)
      exact k_lret hE hr hlk hW ⟨hB_st, hF⟩ rfl dX9_replay_24
    · have h := it_f k_4 h
      refine lv_iload_n hx hb dX9_replay_17 rfl (lv_at hl 2 rfl) ?_
      refine lv_if_ge (tgt := 25) hx hb dX9_replay_18 (by decide) (fun k_5 => ?_) (fun k_5 => ?_)
      · have h := it_t k_5 h
        refine lv_iload_n hx hb dX9_replay_25 rfl (lv_at hl 3 rfl) ?_
        refine lv_if_lt (tgt := 37) hx hb dX9_replay_26 (by decide) (fun k_6 => ?_) (fun k_6 => ?_)
        · have h := it_t k_6 h
          refine lv_aload_n hx hb dX9_replay_37 rfl (lv_at hl 0 rfl) ?_
          refine lv_iload_n hx hb dX9_replay_38 rfl (lv_at hl 1 rfl) ?_
          refine lv_iload_n hx hb dX9_replay_39 rfl (lv_at hl 2 rfl) ?_
          obtain ⟨st_7, hst_7, h⟩ := zb_e h
          refine k_callVv (rest := []) hE hW hl.1 (mX9_replays hB_st hst_7) hB_st.o hB_st.obj rfl q1052 q1054 qs105 q10 q1055 hd_X9_replays ⟨Nat.le_of_ble_eq_true rfl, Nat.le_of_ble_eq_true rfl⟩ ⟨rfl, rfl⟩ rfl (Nat.le_of_ble_eq_true rfl) dX9_replay_40 ⟨Nat.zero_le _, Nat.zero_le _⟩ (fun c1 H locs hP hW => ?_)
          obtain ⟨c, hB_st, hF, hW⟩ : ∃ c', MoB ct J ad c' b st_7 ∧ Fr c0 c' b 19 ∧ HW D J ad c' (aA J ad s.heap.size) s.heap H locs := ⟨c1, hP.1, hF.trans hP.2, hW⟩
          refine lv_aload_n hx hb dX9_replay_43 rfl (lv_at hl 0 rfl) ?_
          refine lv_iload_n hx hb dX9_replay_44 rfl (lv_at hl 1 rfl) ?_
          obtain ⟨r_8, hr_8, h⟩ := zb_e h
          refine k_callVi (rest := []) hE hW hl.1 (mX9_mapped hB_st hr_8) hB_st.o hB_st.obj rfl q1056 q1058 qs106 q10 q1059 hd_X9_mapped ⟨Nat.le_of_ble_eq_true rfl, Nat.le_of_ble_eq_true rfl⟩ ⟨rfl, rfl⟩ rfl (Nat.le_of_ble_eq_true rfl) dX9_replay_45 ⟨Nat.zero_le _, Nat.zero_le _⟩ (fun c1 H locs hP hW => ?_)
          rw [hP] at hW
          refine lv_i2l (v := r_8.toInt64) hx hb dX9_replay_48 rfl ?_
          obtain ⟨rfl, rfl⟩ := Prod.mk.inj (Option.some.inj h)
          exact k_lret hE hr hlk hW ⟨hB_st, hF⟩ rfl dX9_replay_49
        · have h := it_f k_6 h
          refine lv_aload_n hx hb dX9_replay_29 rfl (lv_at hl 0 rfl) ?_
          refine lv_iload_n hx hb dX9_replay_30 rfl (lv_at hl 1 rfl) ?_
          refine lv_iload_n hx hb dX9_replay_31 rfl (lv_at hl 2 rfl) ?_
          refine lv_iload_n hx hb dX9_replay_32 rfl (lv_at hl 3 rfl) ?_
          obtain ⟨r_9, st_10, hr_9, h⟩ := zb2_e h
          refine k_callVl (rest := []) hE hW hl.1 (mX9_valueIn hB_st hr_9) hB_st.o hB_st.obj rfl q1091 q1093 qs111 q10 q1094 hd_X9_valueIn ⟨Nat.le_of_ble_eq_true rfl, Nat.le_of_ble_eq_true rfl⟩ ⟨rfl, rfl⟩ rfl (Nat.le_of_ble_eq_true rfl) dX9_replay_33 ⟨Nat.zero_le _, Nat.zero_le _⟩ (fun c1 H locs hP hW => ?_)
          obtain ⟨c, hB_st, hF, hW⟩ : ∃ c', MoB ct J ad c' b st_10 ∧ Fr c0 c' b 19 ∧ HW D J ad c' (aA J ad s.heap.size) s.heap H locs := ⟨c1, hP.1, hF.trans hP.2, hW⟩
          obtain ⟨rfl, rfl⟩ := Prod.mk.inj (Option.some.inj h)
          exact k_lret hE hr hlk hW ⟨hB_st, hF⟩ rfl dX9_replay_36
      · have h := it_f k_5 h
        refine lv_ldc2 (v := (-9223372036854775808 : Int64)) hx hb hE.2.2.2.1 (hE.2.2.2.2.1 _ q1078) dX9_replay_21 ?_
        obtain ⟨rfl, rfl⟩ := Prod.mk.inj (Option.some.inj h)
        exact k_lret hE hr hlk hW ⟨hB_st, hF⟩ rfl dX9_replay_24
set_option maxHeartbeats 4000000 in
set_option maxRecDepth 100000 in
theorem wX9_near_28 {p : Program} {l : Launch} {e : Env} {s : State} {m : MethodId} {args : Array Value} {below : List Frame} {meth : Method} {cd : Code} {D : va_G} {ct : Nat → ClassId} {J : List Nat} {ad : Nat → Nat} {c0 : CF} {b : Nat} (hE : ME p s m cd args D ct cX9_near RX9 4) (hr : meth.sig.returnType = (some .int)) (hlk : meth.locks = false) {st : MS} (hB_st : MoB ct J ad c0 b st) {r : Int32} : ∀ (y0 : Int32) (y1 : Int32) (y2 : Int32) (H : Heap) (locs : List Loc) (ls : Array Slot), HW D J ad c0 (aA J ad s.heap.size) s.heap H locs → lv_has ls 4 [] → fX9_near_28 st y0 y1 y2 = some r → W p l e (rr 3 69) s m args below meth cd H locs 0 0 (MQ below (Qi D J ad s.heap.size r (fun c' => c' = c0)) args s 0 0 (aA J ad s.heap.size)) (F0 m 28 ls [.int y0, .int y1, .int y2, .ref (ad b)]) := by
  have hx := hE.1
  have hb := hE.2.1
  intro y0 y1 y2 H locs ls hW hl h
  rw [fX9_near_28] at h
  obtain ⟨r_6, hr_6, h⟩ := zb_e h
  refine k_callVi (rest := []) hE hW hl.1 (mX9_from hB_st hr_6) hB_st.o hB_st.obj rfl q1064 q1066 qs108 q10 q1067 hd_X9_from ⟨Nat.le_of_ble_eq_true rfl, Nat.le_of_ble_eq_true rfl⟩ ⟨rfl, rfl⟩ rfl (Nat.le_of_ble_eq_true rfl) dX9_near_28 ⟨Nat.zero_le _, Nat.zero_le _⟩ (fun c1 H locs hP hW => ?_)
  rw [hP] at hW
  refine lv_goto (tgt := 35) hx hb dX9_near_31 (by decide) ?_
  obtain rfl := Option.some.inj h
  exact k_iret hE hr hlk hW rfl rfl dX9_near_35
set_option maxHeartbeats 4000000 in
set_option maxRecDepth 100000 in
theorem mX9_near {l : Launch} {D : va_G} {ct : Nat → ClassId} {J : List Nat} {ad : Nat → Nat} {c0 : CF} {a1 : Int32} {a2 : Int32} {a3 : Int32} {b : Nat} {st : MS} (hB_st : MoB ct J ad c0 b st) {r : Int32} (h : fX9_near  a1 a2 a3 st = some r) : Mi l D ct J ad yX9_near cX9_near 4 (some .int) (rr 3 69) [.ref (ad b), .int a1, .int a2, .int a3] c0 r (fun c' => c' = c0) := by
  refine Mi_of (own := RX9) (by decide) rfl (Nat.le_of_ble_eq_true rfl) (fun p e s m below meth cd hE hr hlk hW ls hl => ?_)
  have hx := hE.1
  have hb := hE.2.1
  have hl : lv_has ls 4 [(0, .ref (ad b)), (1, .int a1), (2, .int a2), (3, .int a3)] := hl
  rw [fX9_near] at h
  refine lv_iload_n hx hb dX9_near_0 rfl (lv_at hl 1 rfl) ?_
  obtain ⟨r_1, hr_1, h⟩ := zb_e h
  refine k_callSi (rest := []) hE hW hl.1 (mX9_isLog hr_1) q928 q929 q10 q930 hd_X9_isLog.2 ⟨Nat.le_of_ble_eq_true rfl, Nat.le_of_ble_eq_true rfl⟩ ⟨rfl, rfl⟩ rfl (Nat.le_of_ble_eq_true rfl) dX9_near_1 ⟨Nat.zero_le _, Nat.zero_le _⟩ (fun c1 H locs hP hW => ?_)
  rw [hP] at hW
  refine lv_if_eq (tgt := 34) hx hb dX9_near_4 (by decide) (fun k_2 => ?_) (fun k_2 => ?_)
  · have h := it_t k_2 h
    refine lv_iconst (v := (-1 : Int32)) hx hb dX9_near_34 (by decide) ?_
    obtain rfl := Option.some.inj h
    exact k_iret hE hr hlk hW rfl rfl dX9_near_35
  · have h := it_f k_2 h
    refine lv_iload_n hx hb dX9_near_7 rfl (lv_at hl 3 rfl) ?_
    refine lv_iconst (v := (0 : Int32)) hx hb dX9_near_8 (by decide) ?_
    refine lv_iconst (v := (1 : Int32)) hx hb dX9_near_9 (by decide) ?_
    obtain ⟨r_3, hr_3, h⟩ := zb_e h
    refine k_callSi (rest := []) hE hW hl.1 (mX9_in hr_3) q931 q932 q10 q933 hd_X9_in.2 ⟨Nat.le_of_ble_eq_true rfl, Nat.le_of_ble_eq_true rfl⟩ ⟨rfl, rfl⟩ rfl (Nat.le_of_ble_eq_true rfl) dX9_near_10 ⟨Nat.zero_le _, Nat.zero_le _⟩ (fun c1 H locs hP hW => ?_)
    rw [hP] at hW
    refine lv_if_eq (tgt := 34) hx hb dX9_near_13 (by decide) (fun k_4 => ?_) (fun k_4 => ?_)
    · have h := it_t k_4 h
      refine lv_iconst (v := (-1 : Int32)) hx hb dX9_near_34 (by decide) ?_
      obtain rfl := Option.some.inj h
      exact k_iret hE hr hlk hW rfl rfl dX9_near_35
    · have h := it_f k_4 h
      refine lv_aload_n hx hb dX9_near_16 rfl (lv_at hl 0 rfl) ?_
      refine lv_iload_n hx hb dX9_near_17 rfl (lv_at hl 1 rfl) ?_
      refine lv_iload_n hx hb dX9_near_18 rfl (lv_at hl 2 rfl) ?_
      refine lv_iload_n hx hb dX9_near_19 rfl (lv_at hl 3 rfl) ?_
      refine lv_if_ne (tgt := 27) hx hb dX9_near_20 (by decide) (fun k_5 => ?_) (fun k_5 => ?_)
      · have h := it_f k_5 h
        refine lv_iconst (v := (1 : Int32)) hx hb dX9_near_27 (by decide) ?_
        exact wX9_near_28 hE hr hlk hB_st _ _ _ _ _ _ hW (lv_sub hl [] rfl) h
      · have h := it_t k_5 h
        refine lv_iconst (v := (-1 : Int32)) hx hb dX9_near_23 (by decide) ?_
        refine lv_goto (tgt := 28) hx hb dX9_near_24 (by decide) ?_
        exact wX9_near_28 hE hr hlk hB_st _ _ _ _ _ _ hW (lv_sub hl [] rfl) h
set_option maxHeartbeats 4000000 in
set_option maxRecDepth 100000 in
theorem mX9_isAhead {l : Launch} {D : va_G} {ct : Nat → ClassId} {J : List Nat} {ad : Nat → Nat} {c0 : CF} {a1 : Int32} {a2 : Int32} {a3 : Int32} {b : Nat} {st : MS} (hB_st : MoB ct J ad c0 b st) {r : Int32} (h : fX9_isAhead  a1 a2 a3 st = some r) : Mi l D ct J ad yX9_isAhead cX9_isAhead 6 (some .boolean) (rr 1 22) [.ref (ad b), .int a1, .int a2, .int a3] c0 r (fun c' => c' = c0) := by
  refine Mi_of (own := RX9) (by decide) rfl (Nat.le_of_ble_eq_true rfl) (fun p e s m below meth cd hE hr hlk hW ls hl => ?_)
  have hx := hE.1
  have hb := hE.2.1
  have hl : lv_has ls 6 [(0, .ref (ad b)), (1, .int a1), (2, .int a2), (3, .int a3)] := hl
  rw [fX9_isAhead] at h
  refine lv_aload_n hx hb dX9_isAhead_0 rfl (lv_at hl 0 rfl) ?_
  refine lv_iload_n hx hb dX9_isAhead_1 rfl (lv_at hl 1 rfl) ?_
  refine lv_sipush (v := (400 : Int32)) hx hb dX9_isAhead_2 (by decide) ?_
  refine lv_iload_n hx hb dX9_isAhead_5 rfl (lv_at hl 2 rfl) ?_
  refine lv_iadd hx hb dX9_isAhead_6 ?_
  obtain ⟨r_1, hr_1, h⟩ := zb_e h
  refine k_callVi (rest := []) hE hW hl.1 (mX9_at hB_st hr_1) hB_st.o hB_st.obj rfl q934 q936 qs87 q10 q937 hd_X9_at ⟨Nat.le_of_ble_eq_true rfl, Nat.le_of_ble_eq_true rfl⟩ ⟨rfl, rfl⟩ rfl (Nat.le_of_ble_eq_true rfl) dX9_isAhead_7 ⟨Nat.zero_le _, Nat.zero_le _⟩ (fun c1 H locs hP hW => ?_)
  rw [hP] at hW
  refine lv_aload_n hx hb dX9_isAhead_10 rfl (lv_at hl 0 rfl) ?_
  refine lv_iload_n hx hb dX9_isAhead_11 rfl (lv_at hl 1 rfl) ?_
  refine lv_sipush (v := (400 : Int32)) hx hb dX9_isAhead_12 (by decide) ?_
  refine lv_iload_n hx hb dX9_isAhead_15 rfl (lv_at hl 3 rfl) ?_
  refine lv_iadd hx hb dX9_isAhead_16 ?_
  obtain ⟨r_2, hr_2, h⟩ := zb_e h
  refine k_callVi (rest := [.int r_1]) hE hW hl.1 (mX9_at hB_st hr_2) hB_st.o hB_st.obj rfl q934 q936 qs87 q10 q937 hd_X9_at ⟨Nat.le_of_ble_eq_true rfl, Nat.le_of_ble_eq_true rfl⟩ ⟨rfl, rfl⟩ rfl (Nat.le_of_ble_eq_true rfl) dX9_isAhead_17 ⟨Nat.zero_le _, Nat.zero_le _⟩ (fun c1 H locs hP hW => ?_)
  rw [hP] at hW
  refine lv_isub hx hb dX9_isAhead_20 ?_
  refine lv_istore (lv' := [(4, .int (r_1 - r_2)), (0, .ref (ad b)), (1, .int a1), (2, .int a2), (3, .int a3)]) hx hb dX9_isAhead_21 hl (by decide) rfl (fun ls hl => ?_)
  refine lv_aload_n hx hb dX9_isAhead_23 rfl (lv_at hl 1 rfl) ?_
  refine lv_iload_n hx hb dX9_isAhead_24 rfl (lv_at hl 2 rfl) ?_
  refine lv_sipush (v := (600 : Int32)) hx hb dX9_isAhead_25 (by decide) ?_
  refine lv_iload_n hx hb dX9_isAhead_28 rfl (lv_at hl 4 rfl) ?_
  refine lv_iadd hx hb dX9_isAhead_29 ?_
  obtain ⟨r_3, hr_3, h⟩ := zb_e h
  refine k_callVi (rest := []) hE hW hl.1 (mX9_at hB_st hr_3) hB_st.o hB_st.obj rfl q934 q936 qs87 q10 q937 hd_X9_at ⟨Nat.le_of_ble_eq_true rfl, Nat.le_of_ble_eq_true rfl⟩ ⟨rfl, rfl⟩ rfl (Nat.le_of_ble_eq_true rfl) dX9_isAhead_30 ⟨Nat.zero_le _, Nat.zero_le _⟩ (fun c1 H locs hP hW => ?_)
  rw [hP] at hW
  refine lv_aload_n hx hb dX9_isAhead_33 rfl (lv_at hl 1 rfl) ?_
  refine lv_iload_n hx hb dX9_isAhead_34 rfl (lv_at hl 2 rfl) ?_
  refine lv_sipush (v := (600 : Int32)) hx hb dX9_isAhead_35 (by decide) ?_
  refine lv_iload_n hx hb dX9_isAhead_38 rfl (lv_at hl 3 rfl) ?_
  refine lv_iadd hx hb dX9_isAhead_39 ?_
  obtain ⟨r_4, hr_4, h⟩ := zb_e h
  refine k_callVi (rest := [.int r_3]) hE hW hl.1 (mX9_at hB_st hr_4) hB_st.o hB_st.obj rfl q934 q936 qs87 q10 q937 hd_X9_at ⟨Nat.le_of_ble_eq_true rfl, Nat.le_of_ble_eq_true rfl⟩ ⟨rfl, rfl⟩ rfl (Nat.le_of_ble_eq_true rfl) dX9_isAhead_40 ⟨Nat.zero_le _, Nat.zero_le _⟩ (fun c1 H locs hP hW => ?_)
  rw [hP] at hW
  refine lv_isub hx hb dX9_isAhead_43 ?_
  refine lv_istore (lv' := [(5, .int (r_3 - r_4)), (4, .int (r_1 - r_2)), (0, .ref (ad b)), (1, .int a1), (2, .int a2), (3, .int a3)]) hx hb dX9_isAhead_44 hl (by decide) rfl (fun ls hl => ?_)
  refine lv_iload hx hb dX9_isAhead_46 (lv_at hl 1 rfl) ?_
  refine lv_if_eq (tgt := 64) hx hb dX9_isAhead_48 (by decide) (fun k_5 => ?_) (fun k_5 => ?_)
  · have h := it_t k_5 h
    refine lv_iload hx hb dX9_isAhead_64 (lv_at hl 0 rfl) ?_
    refine lv_if_eq (tgt := 82) hx hb dX9_isAhead_66 (by decide) (fun k_6 => ?_) (fun k_6 => ?_)
    · have h := it_t k_6 h
      refine lv_iload_n hx hb dX9_isAhead_82 rfl (lv_at hl 4 rfl) ?_
      refine lv_iload_n hx hb dX9_isAhead_83 rfl (lv_at hl 5 rfl) ?_
      refine lv_icmp_ge (tgt := 91) hx hb dX9_isAhead_84 (by decide) (fun k_7 => ?_) (fun k_7 => ?_)
      · have h := it_t k_7 h
        refine lv_iconst (v := (0 : Int32)) hx hb dX9_isAhead_91 (by decide) ?_
        obtain rfl := Option.some.inj h
        exact k_zret hE hr hlk hW rfl rfl rfl dX9_isAhead_92
      · have h := it_f k_7 h
        refine lv_iconst (v := (1 : Int32)) hx hb dX9_isAhead_87 (by decide) ?_
        refine lv_goto (tgt := 92) hx hb dX9_isAhead_88 (by decide) ?_
        obtain rfl := Option.some.inj h
        exact k_zret hE hr hlk hW rfl rfl rfl dX9_isAhead_92
    · have h := it_f k_6 h
      refine lv_iload hx hb dX9_isAhead_69 (lv_at hl 0 rfl) ?_
      refine lv_if_ge (tgt := 78) hx hb dX9_isAhead_71 (by decide) (fun k_8 => ?_) (fun k_8 => ?_)
      · have h := it_t k_8 h
        refine lv_iconst (v := (0 : Int32)) hx hb dX9_isAhead_78 (by decide) ?_
        refine lv_goto (tgt := 92) hx hb dX9_isAhead_79 (by decide) ?_
        obtain rfl := Option.some.inj h
        exact k_zret hE hr hlk hW rfl rfl rfl dX9_isAhead_92
      · have h := it_f k_8 h
        refine lv_iconst (v := (1 : Int32)) hx hb dX9_isAhead_74 (by decide) ?_
        refine lv_goto (tgt := 92) hx hb dX9_isAhead_75 (by decide) ?_
        obtain rfl := Option.some.inj h
        exact k_zret hE hr hlk hW rfl rfl rfl dX9_isAhead_92
  · have h := it_f k_5 h
    refine lv_iload hx hb dX9_isAhead_51 (lv_at hl 1 rfl) ?_
    refine lv_if_ge (tgt := 60) hx hb dX9_isAhead_53 (by decide) (fun k_9 => ?_) (fun k_9 => ?_)
    · have h := it_t k_9 h
      refine lv_iconst (v := (0 : Int32)) hx hb dX9_isAhead_60 (by decide) ?_
      refine lv_goto (tgt := 92) hx hb dX9_isAhead_61 (by decide) ?_
      obtain rfl := Option.some.inj h
      exact k_zret hE hr hlk hW rfl rfl rfl dX9_isAhead_92
    · have h := it_f k_9 h
      refine lv_iconst (v := (1 : Int32)) hx hb dX9_isAhead_56 (by decide) ?_
      refine lv_goto (tgt := 92) hx hb dX9_isAhead_57 (by decide) ?_
      obtain rfl := Option.some.inj h
      exact k_zret hE hr hlk hW rfl rfl rfl dX9_isAhead_92
set_option maxHeartbeats 4000000 in
set_option maxRecDepth 100000 in
theorem wX9_oldest_82 {p : Program} {l : Launch} {e : Env} {s : State} {m : MethodId} {args : Array Value} {below : List Frame} {meth : Method} {cd : Code} {D : va_G} {ct : Nat → ClassId} {J : List Nat} {ad : Nat → Nat} {c0 : CF} {b : Nat} (hE : ME p s m cd args D ct cX9_oldest RX9 6) (hr : meth.sig.returnType = (some .int)) (hlk : meth.locks = false) {x1 : Int32} {x2 : Int32} {st : MS} (hB_st : MoB ct J ad c0 b st) {r : Int32} {K15 : Int32 → Option Int32} (hK15 : ∀ (x3 : Int32) (H : Heap) (locs : List Loc) (ls : Array Slot), HW D J ad c0 (aA J ad s.heap.size) s.heap H locs → lv_has ls 6 [(0, .ref (ad b)), (1, .int x1), (2, .int x2), (3, .int x3)] → K15 x3 = some r → W p l e (rr 2 47) s m args below meth cd H locs 0 0 (MQ below (Qi D J ad s.heap.size r (fun c' => c' = c0)) args s 0 0 (aA J ad s.heap.size)) (F0 m 15 ls [])) : ∀ (x3 : Int32) (x4 : Int32) (H : Heap) (locs : List Loc) (ls : Array Slot), HW D J ad c0 (aA J ad s.heap.size) s.heap H locs → lv_has ls 6 [(0, .ref (ad b)), (1, .int x1), (2, .int x2), (3, .int x3), (4, .int x4)] → fX9_oldest_82 x1 x2 st K15 x3 x4 = some r → W p l e (rr 2 47) s m args below meth cd H locs 0 0 (MQ below (Qi D J ad s.heap.size r (fun c' => c' = c0)) args s 0 0 (aA J ad s.heap.size)) (F0 m 82 ls []) := by
  have hx := hE.1
  have hb := hE.2.1
  intro x3 x4 H locs ls hW hl h
  rw [fX9_oldest_82] at h
  refine lv_aload_n hx hb dX9_oldest_82 rfl (lv_at hl 0 rfl) ?_
  refine lv_iload_n hx hb dX9_oldest_83 rfl (lv_at hl 1 rfl) ?_
  refine lv_iload_n hx hb dX9_oldest_84 rfl (lv_at hl 3 rfl) ?_
  obtain ⟨r_6, hr_6, h⟩ := zb_e h
  refine k_callVi (rest := []) hE hW hl.1 (mX9_isThere hB_st hr_6) hB_st.o hB_st.obj rfl q1070 q1072 qs109 q10 q1073 hd_X9_isThere ⟨Nat.le_of_ble_eq_true rfl, Nat.le_of_ble_eq_true rfl⟩ ⟨rfl, rfl⟩ rfl (Nat.le_of_ble_eq_true rfl) dX9_oldest_85 ⟨Nat.zero_le _, Nat.zero_le _⟩ (fun c1 H locs hP hW => ?_)
  rw [hP] at hW
  refine lv_if_eq (tgt := 99) hx hb dX9_oldest_88 (by decide) (fun k_7 => ?_) (fun k_7 => ?_)
  · have h := it_t k_7 h
    refine lv_iinc (v := (x3 + (1 : Int32))) (lv' := [(3, .int (x3 + (1 : Int32))), (0, .ref (ad b)), (1, .int x1), (2, .int x2), (4, .int x4)]) hx hb dX9_oldest_99 hl (k := 3) rfl rfl (by decide) rfl (fun ls hl => ?_)
    refine lv_goto (tgt := 15) hx hb dX9_oldest_102 (by decide) ?_
    exact hK15 _ _ _ _ hW (lv_sub hl [1, 2, 3, 0] rfl) h
  · have h := it_f k_7 h
    refine lv_iload hx hb dX9_oldest_91 (lv_at hl 4 rfl) ?_
    refine lv_iload_n hx hb dX9_oldest_93 rfl (lv_at hl 2 rfl) ?_
    refine lv_icmp_ne (tgt := 99) hx hb dX9_oldest_94 (by decide) (fun k_8 => ?_) (fun k_8 => ?_)
    · have h := it_f k_8 h
      refine lv_iinc (v := (x3 + (1 : Int32))) (lv' := [(3, .int (x3 + (1 : Int32))), (0, .ref (ad b)), (1, .int x1), (2, .int x2), (4, .int x4)]) hx hb dX9_oldest_99 hl (k := 3) rfl rfl (by decide) rfl (fun ls hl => ?_)
      refine lv_goto (tgt := 15) hx hb dX9_oldest_102 (by decide) ?_
      exact hK15 _ _ _ _ hW (lv_sub hl [1, 2, 3, 0] rfl) h
    · have h := it_t k_8 h
      refine lv_iload_n hx hb dX9_oldest_97 rfl (lv_at hl 3 rfl) ?_
      obtain rfl := Option.some.inj h
      exact k_iret hE hr hlk hW rfl rfl dX9_oldest_98
set_option maxHeartbeats 4000000 in
set_option maxRecDepth 100000 in
theorem wX9_oldest_28 {p : Program} {l : Launch} {e : Env} {s : State} {m : MethodId} {args : Array Value} {below : List Frame} {meth : Method} {cd : Code} {D : va_G} {ct : Nat → ClassId} {J : List Nat} {ad : Nat → Nat} {c0 : CF} {b : Nat} (hE : ME p s m cd args D ct cX9_oldest RX9 6) (hr : meth.sig.returnType = (some .int)) (hlk : meth.locks = false) {x1 : Int32} {x2 : Int32} {x3 : Int32} {st : MS} (hB_st : MoB ct J ad c0 b st) {r : Int32} {K15 : Int32 → Option Int32} (hK15 : ∀ (x3 : Int32) (H : Heap) (locs : List Loc) (ls : Array Slot), HW D J ad c0 (aA J ad s.heap.size) s.heap H locs → lv_has ls 6 [(0, .ref (ad b)), (1, .int x1), (2, .int x2), (3, .int x3)] → K15 x3 = some r → W p l e (rr 2 47) s m args below meth cd H locs 0 0 (MQ below (Qi D J ad s.heap.size r (fun c' => c' = c0)) args s 0 0 (aA J ad s.heap.size)) (F0 m 15 ls [])) : ∀ (n : Nat) (x4 : Int32) (x5 : Int32) (H : Heap) (locs : List Loc) (ls : Array Slot), HW D J ad c0 (aA J ad s.heap.size) s.heap H locs → lv_has ls 6 [(0, .ref (ad b)), (1, .int x1), (2, .int x2), (3, .int x3), (4, .int x4), (5, .int x5)] → fX9_oldest_28 x1 x2 x3 st K15 n x4 x5 = some r → W p l e (rr 2 47) s m args below meth cd H locs 0 0 (MQ below (Qi D J ad s.heap.size r (fun c' => c' = c0)) args s 0 0 (aA J ad s.heap.size)) (F0 m 28 ls []) := by
  have hx := hE.1
  have hb := hE.2.1
  intro n
  induction n with
  | zero =>
    intro x4 x5 H locs ls hW hl h
    have h2 : (none : Option Int32) = some r := h
    cases h2
  | succ n ih =>
    intro x4 x5 H locs ls hW hl h
    rw [fX9_oldest_28] at h
    refine lv_iload hx hb dX9_oldest_28 (lv_at hl 5 rfl) ?_
    refine lv_sipush (v := (200 : Int32)) hx hb dX9_oldest_30 (by decide) ?_
    refine lv_icmp_ge (tgt := 82) hx hb dX9_oldest_33 (by decide) (fun k_5 => ?_) (fun k_5 => ?_)
    · have h := it_t k_5 h
      exact wX9_oldest_82 hE hr hlk hB_st hK15 _ _ _ _ _ hW (lv_sub hl [0, 1, 2, 3, 4] rfl) h
    · have h := it_f k_5 h
      refine lv_aload_n hx hb dX9_oldest_36 rfl (lv_at hl 0 rfl) ?_
      refine lv_iload_n hx hb dX9_oldest_37 rfl (lv_at hl 1 rfl) ?_
      refine lv_iload_n hx hb dX9_oldest_38 rfl (lv_at hl 3 rfl) ?_
      obtain ⟨r_9, hr_9, h⟩ := zb_e h
      refine k_callVi (rest := []) hE hW hl.1 (mX9_isThere hB_st hr_9) hB_st.o hB_st.obj rfl q1070 q1072 qs109 q10 q1073 hd_X9_isThere ⟨Nat.le_of_ble_eq_true rfl, Nat.le_of_ble_eq_true rfl⟩ ⟨rfl, rfl⟩ rfl (Nat.le_of_ble_eq_true rfl) dX9_oldest_39 ⟨Nat.zero_le _, Nat.zero_le _⟩ (fun c1 H locs hP hW => ?_)
      rw [hP] at hW
      refine lv_if_eq (tgt := 82) hx hb dX9_oldest_42 (by decide) (fun k_10 => ?_) (fun k_10 => ?_)
      · have h := it_t k_10 h
        exact wX9_oldest_82 hE hr hlk hB_st hK15 _ _ _ _ _ hW (lv_sub hl [0, 1, 2, 3, 4] rfl) h
      · have h := it_f k_10 h
        refine lv_iload hx hb dX9_oldest_45 (lv_at hl 4 rfl) ?_
        refine lv_aload_n hx hb dX9_oldest_47 rfl (lv_at hl 0 rfl) ?_
        refine lv_iload_n hx hb dX9_oldest_48 rfl (lv_at hl 1 rfl) ?_
        refine lv_iload hx hb dX9_oldest_49 (lv_at hl 5 rfl) ?_
        obtain ⟨r_11, hr_11, h⟩ := zb_e h
        refine k_callVi (rest := [.int x4]) hE hW hl.1 (mX9_isThere hB_st hr_11) hB_st.o hB_st.obj rfl q1070 q1072 qs109 q10 q1073 hd_X9_isThere ⟨Nat.le_of_ble_eq_true rfl, Nat.le_of_ble_eq_true rfl⟩ ⟨rfl, rfl⟩ rfl (Nat.le_of_ble_eq_true rfl) dX9_oldest_51 ⟨Nat.zero_le _, Nat.zero_le _⟩ (fun c1 H locs hP hW => ?_)
        rw [hP] at hW
        refine lv_if_eq (tgt := 72) hx hb dX9_oldest_54 (by decide) (fun k_12 => ?_) (fun k_12 => ?_)
        · have h := it_t k_12 h
          refine lv_iconst (v := (0 : Int32)) hx hb dX9_oldest_72 (by decide) ?_
          refine lv_iadd hx hb dX9_oldest_73 ?_
          refine lv_istore (lv' := [(4, .int (x4 + (0 : Int32))), (0, .ref (ad b)), (1, .int x1), (2, .int x2), (3, .int x3), (5, .int x5)]) hx hb dX9_oldest_74 hl (by decide) rfl (fun ls hl => ?_)
          refine lv_iinc (v := (x5 + (1 : Int32))) (lv' := [(5, .int (x5 + (1 : Int32))), (4, .int (x4 + (0 : Int32))), (0, .ref (ad b)), (1, .int x1), (2, .int x2), (3, .int x3)]) hx hb dX9_oldest_76 hl (k := 5) rfl rfl (by decide) rfl (fun ls hl => ?_)
          refine lv_goto (tgt := 28) hx hb dX9_oldest_79 (by decide) ?_
          exact ih _ _ _ _ _ hW (lv_sub hl [2, 3, 4, 5, 1, 0] rfl) h
        · have h := it_f k_12 h
          refine lv_aload_n hx hb dX9_oldest_57 rfl (lv_at hl 0 rfl) ?_
          refine lv_iload_n hx hb dX9_oldest_58 rfl (lv_at hl 1 rfl) ?_
          refine lv_iload hx hb dX9_oldest_59 (lv_at hl 5 rfl) ?_
          refine lv_iload_n hx hb dX9_oldest_61 rfl (lv_at hl 3 rfl) ?_
          obtain ⟨r_13, hr_13, h⟩ := zb_e h
          refine k_callVi (rest := [.int x4]) hE hW hl.1 (mX9_isAhead hB_st hr_13) hB_st.o hB_st.obj rfl q1132 q1134 qs113 q10 q1135 hd_X9_isAhead ⟨Nat.le_of_ble_eq_true rfl, Nat.le_of_ble_eq_true rfl⟩ ⟨rfl, rfl⟩ rfl (Nat.le_of_ble_eq_true rfl) dX9_oldest_62 ⟨Nat.zero_le _, Nat.zero_le _⟩ (fun c1 H locs hP hW => ?_)
          rw [hP] at hW
          refine lv_if_eq (tgt := 72) hx hb dX9_oldest_65 (by decide) (fun k_14 => ?_) (fun k_14 => ?_)
          · have h := it_t k_14 h
            refine lv_iconst (v := (0 : Int32)) hx hb dX9_oldest_72 (by decide) ?_
            refine lv_iadd hx hb dX9_oldest_73 ?_
            refine lv_istore (lv' := [(4, .int (x4 + (0 : Int32))), (0, .ref (ad b)), (1, .int x1), (2, .int x2), (3, .int x3), (5, .int x5)]) hx hb dX9_oldest_74 hl (by decide) rfl (fun ls hl => ?_)
            refine lv_iinc (v := (x5 + (1 : Int32))) (lv' := [(5, .int (x5 + (1 : Int32))), (4, .int (x4 + (0 : Int32))), (0, .ref (ad b)), (1, .int x1), (2, .int x2), (3, .int x3)]) hx hb dX9_oldest_76 hl (k := 5) rfl rfl (by decide) rfl (fun ls hl => ?_)
            refine lv_goto (tgt := 28) hx hb dX9_oldest_79 (by decide) ?_
            exact ih _ _ _ _ _ hW (lv_sub hl [2, 3, 4, 5, 1, 0] rfl) h
          · have h := it_f k_14 h
            refine lv_iconst (v := (1 : Int32)) hx hb dX9_oldest_68 (by decide) ?_
            refine lv_goto (tgt := 73) hx hb dX9_oldest_69 (by decide) ?_
            refine lv_iadd hx hb dX9_oldest_73 ?_
            refine lv_istore (lv' := [(4, .int (x4 + (1 : Int32))), (0, .ref (ad b)), (1, .int x1), (2, .int x2), (3, .int x3), (5, .int x5)]) hx hb dX9_oldest_74 hl (by decide) rfl (fun ls hl => ?_)
            refine lv_iinc (v := (x5 + (1 : Int32))) (lv' := [(5, .int (x5 + (1 : Int32))), (4, .int (x4 + (1 : Int32))), (0, .ref (ad b)), (1, .int x1), (2, .int x2), (3, .int x3)]) hx hb dX9_oldest_76 hl (k := 5) rfl rfl (by decide) rfl (fun ls hl => ?_)
            refine lv_goto (tgt := 28) hx hb dX9_oldest_79 (by decide) ?_
            exact ih _ _ _ _ _ hW (lv_sub hl [2, 3, 4, 5, 1, 0] rfl) h
set_option maxHeartbeats 4000000 in
set_option maxRecDepth 100000 in
theorem wX9_oldest_15 {p : Program} {l : Launch} {e : Env} {s : State} {m : MethodId} {args : Array Value} {below : List Frame} {meth : Method} {cd : Code} {D : va_G} {ct : Nat → ClassId} {J : List Nat} {ad : Nat → Nat} {c0 : CF} {b : Nat} (hE : ME p s m cd args D ct cX9_oldest RX9 6) (hr : meth.sig.returnType = (some .int)) (hlk : meth.locks = false) {x1 : Int32} {x2 : Int32} {st : MS} (hB_st : MoB ct J ad c0 b st) {r : Int32} : ∀ (n : Nat) (x3 : Int32) (H : Heap) (locs : List Loc) (ls : Array Slot), HW D J ad c0 (aA J ad s.heap.size) s.heap H locs → lv_has ls 6 [(0, .ref (ad b)), (1, .int x1), (2, .int x2), (3, .int x3)] → fX9_oldest_15 x1 x2 st n x3 = some r → W p l e (rr 2 47) s m args below meth cd H locs 0 0 (MQ below (Qi D J ad s.heap.size r (fun c' => c' = c0)) args s 0 0 (aA J ad s.heap.size)) (F0 m 15 ls []) := by
  have hx := hE.1
  have hb := hE.2.1
  intro n
  induction n with
  | zero =>
    intro x3 H locs ls hW hl h
    have h2 : (none : Option Int32) = some r := h
    cases h2
  | succ n ih =>
    intro x3 H locs ls hW hl h
    rw [fX9_oldest_15] at h
    refine lv_iload_n hx hb dX9_oldest_15 rfl (lv_at hl 3 rfl) ?_
    refine lv_sipush (v := (200 : Int32)) hx hb dX9_oldest_16 (by decide) ?_
    refine lv_icmp_ge (tgt := 105) hx hb dX9_oldest_19 (by decide) (fun k_4 => ?_) (fun k_4 => ?_)
    · have h := it_t k_4 h
      refine lv_bipush (v := (-5 : Int32)) hx hb dX9_oldest_105 (by decide) ?_
      obtain rfl := Option.some.inj h
      exact k_iret hE hr hlk hW rfl rfl dX9_oldest_107
    · have h := it_f k_4 h
      refine lv_iconst (v := (0 : Int32)) hx hb dX9_oldest_22 (by decide) ?_
      refine lv_istore (lv' := [(4, .int (0 : Int32)), (0, .ref (ad b)), (1, .int x1), (2, .int x2), (3, .int x3)]) hx hb dX9_oldest_23 hl (by decide) rfl (fun ls hl => ?_)
      refine lv_iconst (v := (0 : Int32)) hx hb dX9_oldest_25 (by decide) ?_
      refine lv_istore (lv' := [(5, .int (0 : Int32)), (4, .int (0 : Int32)), (0, .ref (ad b)), (1, .int x1), (2, .int x2), (3, .int x3)]) hx hb dX9_oldest_26 hl (by decide) rfl (fun ls hl => ?_)
      exact wX9_oldest_28 hE hr hlk hB_st ih _ _ _ _ _ _ hW (lv_sub hl [2, 3, 4, 5, 1, 0] rfl) h
set_option maxHeartbeats 4000000 in
set_option maxRecDepth 100000 in
theorem mX9_oldest {l : Launch} {D : va_G} {ct : Nat → ClassId} {J : List Nat} {ad : Nat → Nat} {c0 : CF} {a1 : Int32} {a2 : Int32} {b : Nat} {st : MS} (hB_st : MoB ct J ad c0 b st) {r : Int32} (h : fX9_oldest  a1 a2 st = some r) : Mi l D ct J ad yX9_oldest cX9_oldest 6 (some .int) (rr 2 47) [.ref (ad b), .int a1, .int a2] c0 r (fun c' => c' = c0) := by
  refine Mi_of (own := RX9) (by decide) rfl (Nat.le_of_ble_eq_true rfl) (fun p e s m below meth cd hE hr hlk hW ls hl => ?_)
  have hx := hE.1
  have hb := hE.2.1
  have hl : lv_has ls 6 [(0, .ref (ad b)), (1, .int a1), (2, .int a2)] := hl
  rw [fX9_oldest] at h
  refine lv_iload_n hx hb dX9_oldest_0 rfl (lv_at hl 1 rfl) ?_
  obtain ⟨r_1, hr_1, h⟩ := zb_e h
  refine k_callSi (rest := []) hE hW hl.1 (mX9_isLog hr_1) q928 q929 q10 q930 hd_X9_isLog.2 ⟨Nat.le_of_ble_eq_true rfl, Nat.le_of_ble_eq_true rfl⟩ ⟨rfl, rfl⟩ rfl (Nat.le_of_ble_eq_true rfl) dX9_oldest_1 ⟨Nat.zero_le _, Nat.zero_le _⟩ (fun c1 H locs hP hW => ?_)
  rw [hP] at hW
  refine lv_if_eq (tgt := 11) hx hb dX9_oldest_4 (by decide) (fun k_2 => ?_) (fun k_2 => ?_)
  · have h := it_t k_2 h
    refine lv_iconst (v := (-1 : Int32)) hx hb dX9_oldest_11 (by decide) ?_
    obtain rfl := Option.some.inj h
    exact k_iret hE hr hlk hW rfl rfl dX9_oldest_12
  · have h := it_f k_2 h
    refine lv_iload_n hx hb dX9_oldest_7 rfl (lv_at hl 2 rfl) ?_
    refine lv_if_ge (tgt := 13) hx hb dX9_oldest_8 (by decide) (fun k_3 => ?_) (fun k_3 => ?_)
    · have h := it_t k_3 h
      refine lv_iconst (v := (0 : Int32)) hx hb dX9_oldest_13 (by decide) ?_
      refine lv_istore_n (lv' := [(3, .int (0 : Int32)), (0, .ref (ad b)), (1, .int a1), (2, .int a2)]) hx hb dX9_oldest_14 rfl hl (by decide) rfl (fun ls hl => ?_)
      exact wX9_oldest_15 hE hr hlk hB_st _ _ _ _ _ hW (lv_sub hl [1, 2, 3, 0] rfl) h
    · have h := it_f k_3 h
      refine lv_iconst (v := (-1 : Int32)) hx hb dX9_oldest_11 (by decide) ?_
      obtain rfl := Option.some.inj h
      exact k_iret hE hr hlk hW rfl rfl dX9_oldest_12
set_option maxHeartbeats 4000000 in
set_option maxRecDepth 100000 in
theorem wX9_would_46 {p : Program} {l : Launch} {e : Env} {s : State} {m : MethodId} {args : Array Value} {below : List Frame} {meth : Method} {cd : Code} {D : va_G} {ct : Nat → ClassId} {J : List Nat} {ad : Nat → Nat} {c0 : CF} {b : Nat} (hE : ME p s m cd args D ct cX9_would RX9 4) (hr : meth.sig.returnType = (some .int)) (hlk : meth.locks = false) {r : Int32} {st9 : MS} : ∀ (y0 : Int32) (st : MS) (c : CF) (H : Heap) (locs : List Loc) (ls : Array Slot), HW D J ad c (aA J ad s.heap.size) s.heap H locs → MoB ct J ad c b st → Fr c0 c b 19 → lv_has ls 4 [(0, .ref (ad b))] → fX9_would_46 y0 st = some (r, st9) → W p l e (rr 5 115) s m args below meth cd H locs 0 0 (MQ below (Qi D J ad s.heap.size r (fun c' => MoB ct J ad c' b st9 ∧ Fr c0 c' b 19)) args s 0 0 (aA J ad s.heap.size)) (F0 m 46 ls [.int y0]) := by
  have hx := hE.1
  have hb := hE.2.1
  intro y0 st c H locs ls hW hB_st hF hl h
  rw [fX9_would_46] at h
  refine lv_istore_n (lv' := [(3, .int y0), (0, .ref (ad b))]) hx hb dX9_would_46 rfl hl (by decide) rfl (fun ls hl => ?_)
  refine lv_aload_n hx hb dX9_would_47 rfl (lv_at hl 1 rfl) ?_
  refine k_get (v := .ref (ad (b + 1 + 1))) hE hW hB_st.o hB_st.obj rfl inX9 1 (by decide) q869 rfl dX9_would_48 ?_
  refine lv_aload_n hx hb dX9_would_51 rfl (lv_at hl 1 rfl) ?_
  refine k_get (v := .ref (ad (b + 1 + 0))) hE hW hB_st.o hB_st.obj rfl inX9 0 (by decide) q868 rfl dX9_would_52 ?_
  obtain ⟨st_9, hst_9, h⟩ := zb_e h
  refine k_callSv (rest := []) hE hW hl.1 (mX9_copy (k1 := 1) (k2 := 0) rfl rfl (Nat.le_of_ble_eq_true rfl) (Nat.le_of_ble_eq_true rfl) hB_st hst_9) q1140 q1141 q10 q1142 hd_X9_copy.2 ⟨Nat.le_of_ble_eq_true rfl, Nat.le_of_ble_eq_true rfl⟩ ⟨rfl, rfl⟩ rfl (Nat.le_of_ble_eq_true rfl) dX9_would_55 ⟨Nat.zero_le _, Nat.zero_le _⟩ (fun c1 H locs hP hW => ?_)
  obtain ⟨c, hB_st, hF, hW⟩ : ∃ c', MoB ct J ad c' b st_9 ∧ Fr c0 c' b 19 ∧ HW D J ad c' (aA J ad s.heap.size) s.heap H locs := ⟨c1, hP.1, hF.trans hP.2, hW⟩
  refine lv_iload_n hx hb dX9_would_58 rfl (lv_at hl 0 rfl) ?_
  obtain ⟨rfl, rfl⟩ := Prod.mk.inj (Option.some.inj h)
  exact k_iret hE hr hlk hW ⟨hB_st, hF⟩ rfl dX9_would_59
set_option maxHeartbeats 4000000 in
set_option maxRecDepth 100000 in
theorem mX9_would {l : Launch} {D : va_G} {ct : Nat → ClassId} {J : List Nat} {ad : Nat → Nat} {c0 : CF} {a1 : Int32} {a2 : Int32} {b : Nat} {st : MS} (hB_st : MoB ct J ad c0 b st) {r : Int32} {st9 : MS} (h : fX9_would  a1 a2 st = some (r, st9)) : Mi l D ct J ad yX9_would cX9_would 4 (some .int) (rr 5 115) [.ref (ad b), .int a1, .int a2] c0 r (fun c' => MoB ct J ad c' b st9 ∧ Fr c0 c' b 19) := by
  refine Mi_of (own := RX9) (by decide) rfl (Nat.le_of_ble_eq_true rfl) (fun p e s m below meth cd hE hr hlk hW ls hl => ?_)
  have hx := hE.1
  have hb := hE.2.1
  have hl : lv_has ls 4 [(0, .ref (ad b)), (1, .int a1), (2, .int a2)] := hl
  rw [fX9_would] at h
  obtain ⟨c, hB_st, hF, hW⟩ : ∃ c', MoB ct J ad c' b st ∧ Fr c0 c' b 19 ∧ HW D J ad c' (aA J ad s.heap.size) s.heap s.heap [] := ⟨c0, hB_st, Fr.rf, hW⟩
  refine lv_iload_n hx hb dX9_would_0 rfl (lv_at hl 1 rfl) ?_
  obtain ⟨r_1, hr_1, h⟩ := zb_e h
  refine k_callSi (rest := []) hE hW hl.1 (mX9_isLog hr_1) q928 q929 q10 q930 hd_X9_isLog.2 ⟨Nat.le_of_ble_eq_true rfl, Nat.le_of_ble_eq_true rfl⟩ ⟨rfl, rfl⟩ rfl (Nat.le_of_ble_eq_true rfl) dX9_would_1 ⟨Nat.zero_le _, Nat.zero_le _⟩ (fun c1 H locs hP hW => ?_)
  rw [hP] at hW
  refine lv_if_eq (tgt := 16) hx hb dX9_would_4 (by decide) (fun k_2 => ?_) (fun k_2 => ?_)
  · have h := it_t k_2 h
    refine lv_iconst (v := (-1 : Int32)) hx hb dX9_would_16 (by decide) ?_
    obtain ⟨rfl, rfl⟩ := Prod.mk.inj (Option.some.inj h)
    exact k_iret hE hr hlk hW ⟨hB_st, hF⟩ rfl dX9_would_17
  · have h := it_f k_2 h
    refine lv_iload_n hx hb dX9_would_7 rfl (lv_at hl 2 rfl) ?_
    refine lv_iconst (v := (0 : Int32)) hx hb dX9_would_8 (by decide) ?_
    refine lv_iconst (v := (1 : Int32)) hx hb dX9_would_9 (by decide) ?_
    obtain ⟨r_3, hr_3, h⟩ := zb_e h
    refine k_callSi (rest := []) hE hW hl.1 (mX9_in hr_3) q931 q932 q10 q933 hd_X9_in.2 ⟨Nat.le_of_ble_eq_true rfl, Nat.le_of_ble_eq_true rfl⟩ ⟨rfl, rfl⟩ rfl (Nat.le_of_ble_eq_true rfl) dX9_would_10 ⟨Nat.zero_le _, Nat.zero_le _⟩ (fun c1 H locs hP hW => ?_)
    rw [hP] at hW
    refine lv_if_ne (tgt := 18) hx hb dX9_would_13 (by decide) (fun k_4 => ?_) (fun k_4 => ?_)
    · have h := it_f k_4 h
      refine lv_aload_n hx hb dX9_would_18 rfl (lv_at hl 0 rfl) ?_
      refine k_get (v := .ref (ad (b + 1 + 0))) hE hW hB_st.o hB_st.obj rfl inX9 0 (by decide) q868 rfl dX9_would_19 ?_
      refine lv_aload_n hx hb dX9_would_22 rfl (lv_at hl 0 rfl) ?_
      refine k_get (v := .ref (ad (b + 1 + 1))) hE hW hB_st.o hB_st.obj rfl inX9 1 (by decide) q869 rfl dX9_would_23 ?_
      obtain ⟨st_5, hst_5, h⟩ := zb_e h
      refine k_callSv (rest := []) hE hW hl.1 (mX9_copy (k1 := 0) (k2 := 1) rfl rfl (Nat.le_of_ble_eq_true rfl) (Nat.le_of_ble_eq_true rfl) hB_st hst_5) q1140 q1141 q10 q1142 hd_X9_copy.2 ⟨Nat.le_of_ble_eq_true rfl, Nat.le_of_ble_eq_true rfl⟩ ⟨rfl, rfl⟩ rfl (Nat.le_of_ble_eq_true rfl) dX9_would_26 ⟨Nat.zero_le _, Nat.zero_le _⟩ (fun c1 H locs hP hW => ?_)
      obtain ⟨c, hB_st, hF, hW⟩ : ∃ c', MoB ct J ad c' b st_5 ∧ Fr c0 c' b 19 ∧ HW D J ad c' (aA J ad s.heap.size) s.heap H locs := ⟨c1, hP.1, hF.trans hP.2, hW⟩
      refine lv_iload_n hx hb dX9_would_29 rfl (lv_at hl 2 rfl) ?_
      refine lv_if_ne (tgt := 41) hx hb dX9_would_30 (by decide) (fun k_6 => ?_) (fun k_6 => ?_)
      · have h := it_f k_6 h
        refine lv_aload_n hx hb dX9_would_41 rfl (lv_at hl 0 rfl) ?_
        refine lv_iload_n hx hb dX9_would_42 rfl (lv_at hl 1 rfl) ?_
        obtain ⟨r_7, st_8, hr_7, h⟩ := zb2_e h
        refine k_callVi (rest := []) hE hW hl.1 (mX9_retained hB_st hr_7) hB_st.o hB_st.obj rfl q1007 q1009 qs97 q10 q1010 hd_X9_retained ⟨Nat.le_of_ble_eq_true rfl, Nat.le_of_ble_eq_true rfl⟩ ⟨rfl, rfl⟩ rfl (Nat.le_of_ble_eq_true rfl) dX9_would_43 ⟨Nat.zero_le _, Nat.zero_le _⟩ (fun c1 H locs hP hW => ?_)
        obtain ⟨c, hB_st, hF, hW⟩ : ∃ c', MoB ct J ad c' b st_8 ∧ Fr c0 c' b 19 ∧ HW D J ad c' (aA J ad s.heap.size) s.heap H locs := ⟨c1, hP.1, hF.trans hP.2, hW⟩
        exact wX9_would_46 hE hr hlk _ _ _ _ _ _ hW hB_st hF (lv_sub hl [0] rfl) h
      · have h := it_t k_6 h
        refine lv_aload_n hx hb dX9_would_33 rfl (lv_at hl 0 rfl) ?_
        refine lv_iload_n hx hb dX9_would_34 rfl (lv_at hl 1 rfl) ?_
        obtain ⟨r_10, st_11, hr_10, h⟩ := zb2_e h
        refine k_callVi (rest := []) hE hW hl.1 (mX9_compacted hB_st hr_10) hB_st.o hB_st.obj rfl q991 q993 qs94 q10 q994 hd_X9_compacted ⟨Nat.le_of_ble_eq_true rfl, Nat.le_of_ble_eq_true rfl⟩ ⟨rfl, rfl⟩ rfl (Nat.le_of_ble_eq_true rfl) dX9_would_35 ⟨Nat.zero_le _, Nat.zero_le _⟩ (fun c1 H locs hP hW => ?_)
        obtain ⟨c, hB_st, hF, hW⟩ : ∃ c', MoB ct J ad c' b st_11 ∧ Fr c0 c' b 19 ∧ HW D J ad c' (aA J ad s.heap.size) s.heap H locs := ⟨c1, hP.1, hF.trans hP.2, hW⟩
        refine lv_goto (tgt := 46) hx hb dX9_would_38 (by decide) ?_
        exact wX9_would_46 hE hr hlk _ _ _ _ _ _ hW hB_st hF (lv_sub hl [0] rfl) h
    · have h := it_t k_4 h
      refine lv_iconst (v := (-1 : Int32)) hx hb dX9_would_16 (by decide) ?_
      obtain ⟨rfl, rfl⟩ := Prod.mk.inj (Option.some.inj h)
      exact k_iret hE hr hlk hW ⟨hB_st, hF⟩ rfl dX9_would_17
set_option maxHeartbeats 4000000 in
set_option maxRecDepth 100000 in
theorem wX9_need_84 {p : Program} {l : Launch} {e : Env} {s : State} {m : MethodId} {args : Array Value} {below : List Frame} {meth : Method} {cd : Code} {D : va_G} {ct : Nat → ClassId} {J : List Nat} {ad : Nat → Nat} {c0 : CF} {b : Nat} (hE : ME p s m cd args D ct cX9_need RX9 5) (hr : meth.sig.returnType = (some .int)) (hlk : meth.locks = false) {x1 : Int32} {x2 : Int32} {r : Int32} {st9 : MS} {K40 : Int32 → Int32 → MS → Option (Int32 × MS)} (hK40 : ∀ (x3 : Int32) (x4 : Int32) (st : MS) (c : CF) (H : Heap) (locs : List Loc) (ls : Array Slot), HW D J ad c (aA J ad s.heap.size) s.heap H locs → MoB ct J ad c b st → Fr c0 c b 19 → lv_has ls 5 [(0, .ref (ad b)), (1, .int x1), (2, .int x2), (3, .int x3), (4, .int x4)] → K40 x3 x4 st = some (r, st9) → W p l e (rr 5 113) s m args below meth cd H locs 0 0 (MQ below (Qi D J ad s.heap.size r (fun c' => MoB ct J ad c' b st9 ∧ Fr c0 c' b 19)) args s 0 0 (aA J ad s.heap.size)) (F0 m 40 ls [])) : ∀ (x4 : Int32) (y0 : Int32) (st : MS) (c : CF) (H : Heap) (locs : List Loc) (ls : Array Slot), HW D J ad c (aA J ad s.heap.size) s.heap H locs → MoB ct J ad c b st → Fr c0 c b 19 → lv_has ls 5 [(0, .ref (ad b)), (1, .int x1), (2, .int x2), (4, .int x4)] → fX9_need_84 x1 x2 K40 x4 y0 st = some (r, st9) → W p l e (rr 5 113) s m args below meth cd H locs 0 0 (MQ below (Qi D J ad s.heap.size r (fun c' => MoB ct J ad c' b st9 ∧ Fr c0 c' b 19)) args s 0 0 (aA J ad s.heap.size)) (F0 m 84 ls [.int y0]) := by
  have hx := hE.1
  have hb := hE.2.1
  intro x4 y0 st c H locs ls hW hB_st hF hl h
  rw [fX9_need_84] at h
  refine lv_istore_n (lv' := [(3, .int y0), (0, .ref (ad b)), (1, .int x1), (2, .int x2), (4, .int x4)]) hx hb dX9_need_84 rfl hl (by decide) rfl (fun ls hl => ?_)
  refine lv_aload_n hx hb dX9_need_85 rfl (lv_at hl 1 rfl) ?_
  refine k_get (v := .ref (ad (b + 1 + 1))) hE hW hB_st.o hB_st.obj rfl inX9 1 (by decide) q869 rfl dX9_need_86 ?_
  refine lv_aload_n hx hb dX9_need_89 rfl (lv_at hl 1 rfl) ?_
  refine k_get (v := .ref (ad (b + 1 + 0))) hE hW hB_st.o hB_st.obj rfl inX9 0 (by decide) q868 rfl dX9_need_90 ?_
  obtain ⟨st_14, hst_14, h⟩ := zb_e h
  refine k_callSv (rest := []) hE hW hl.1 (mX9_copy (k1 := 1) (k2 := 0) rfl rfl (Nat.le_of_ble_eq_true rfl) (Nat.le_of_ble_eq_true rfl) hB_st hst_14) q1140 q1141 q10 q1142 hd_X9_copy.2 ⟨Nat.le_of_ble_eq_true rfl, Nat.le_of_ble_eq_true rfl⟩ ⟨rfl, rfl⟩ rfl (Nat.le_of_ble_eq_true rfl) dX9_need_93 ⟨Nat.zero_le _, Nat.zero_le _⟩ (fun c1 H locs hP hW => ?_)
  obtain ⟨c, hB_st, hF, hW⟩ : ∃ c', MoB ct J ad c' b st_14 ∧ Fr c0 c' b 19 ∧ HW D J ad c' (aA J ad s.heap.size) s.heap H locs := ⟨c1, hP.1, hF.trans hP.2, hW⟩
  refine lv_iinc (v := (x4 + (1 : Int32))) (lv' := [(4, .int (x4 + (1 : Int32))), (3, .int y0), (0, .ref (ad b)), (1, .int x1), (2, .int x2)]) hx hb dX9_need_96 hl (k := 4) rfl rfl (by decide) rfl (fun ls hl => ?_)
  refine lv_goto (tgt := 40) hx hb dX9_need_99 (by decide) ?_
  exact hK40 _ _ _ _ _ _ _ hW hB_st hF (lv_sub hl [2, 3, 4, 1, 0] rfl) h
set_option maxHeartbeats 4000000 in
set_option maxRecDepth 100000 in
theorem wX9_need_40 {p : Program} {l : Launch} {e : Env} {s : State} {m : MethodId} {args : Array Value} {below : List Frame} {meth : Method} {cd : Code} {D : va_G} {ct : Nat → ClassId} {J : List Nat} {ad : Nat → Nat} {c0 : CF} {b : Nat} (hE : ME p s m cd args D ct cX9_need RX9 5) (hr : meth.sig.returnType = (some .int)) (hlk : meth.locks = false) {x1 : Int32} {x2 : Int32} {r : Int32} {st9 : MS} : ∀ (n : Nat) (x3 : Int32) (x4 : Int32) (st : MS) (c : CF) (H : Heap) (locs : List Loc) (ls : Array Slot), HW D J ad c (aA J ad s.heap.size) s.heap H locs → MoB ct J ad c b st → Fr c0 c b 19 → lv_has ls 5 [(0, .ref (ad b)), (1, .int x1), (2, .int x2), (3, .int x3), (4, .int x4)] → fX9_need_40 x1 x2 n x3 x4 st = some (r, st9) → W p l e (rr 5 113) s m args below meth cd H locs 0 0 (MQ below (Qi D J ad s.heap.size r (fun c' => MoB ct J ad c' b st9 ∧ Fr c0 c' b 19)) args s 0 0 (aA J ad s.heap.size)) (F0 m 40 ls []) := by
  have hx := hE.1
  have hb := hE.2.1
  intro n
  induction n with
  | zero =>
    intro x3 x4 st c H locs ls hW hB_st hF hl h
    have h2 : (none : Option (Int32 × MS)) = some (r, st9) := h
    cases h2
  | succ n ih =>
    intro x3 x4 st c H locs ls hW hB_st hF hl h
    rw [fX9_need_40] at h
    refine lv_iload hx hb dX9_need_40 (lv_at hl 4 rfl) ?_
    refine lv_sipush (v := (200 : Int32)) hx hb dX9_need_42 (by decide) ?_
    refine lv_icmp_gt (tgt := 102) hx hb dX9_need_45 (by decide) (fun k_6 => ?_) (fun k_6 => ?_)
    · have h := it_t k_6 h
      refine lv_iload_n hx hb dX9_need_102 rfl (lv_at hl 3 rfl) ?_
      obtain ⟨rfl, rfl⟩ := Prod.mk.inj (Option.some.inj h)
      exact k_iret hE hr hlk hW ⟨hB_st, hF⟩ rfl dX9_need_103
    · have h := it_f k_6 h
      refine lv_iload_n hx hb dX9_need_48 rfl (lv_at hl 3 rfl) ?_
      refine lv_if_ge (tgt := 102) hx hb dX9_need_49 (by decide) (fun k_7 => ?_) (fun k_7 => ?_)
      · have h := it_t k_7 h
        refine lv_iload_n hx hb dX9_need_102 rfl (lv_at hl 3 rfl) ?_
        obtain ⟨rfl, rfl⟩ := Prod.mk.inj (Option.some.inj h)
        exact k_iret hE hr hlk hW ⟨hB_st, hF⟩ rfl dX9_need_103
      · have h := it_f k_7 h
        refine lv_aload_n hx hb dX9_need_52 rfl (lv_at hl 0 rfl) ?_
        refine k_get (v := .ref (ad (b + 1 + 0))) hE hW hB_st.o hB_st.obj rfl inX9 0 (by decide) q868 rfl dX9_need_53 ?_
        refine lv_sipush (v := (5098 : Int32)) hx hb dX9_need_56 (by decide) ?_
        refine lv_iload hx hb dX9_need_59 (lv_at hl 4 rfl) ?_
        obtain ⟨g_8, h⟩ := zi_e h
        obtain ⟨st_9, est_9, h⟩ := zl_e h
        refine k_iast hE hW (hB_st.memA 0 (Nat.le_of_ble_eq_true rfl)) (hB_st.arr 0 rfl) g_8 dX9_need_61 (fun H locs hW => ?_)
        obtain ⟨c, hB_st, hF, hW⟩ : ∃ c', MoB ct J ad c' b st_9 ∧ Fr c0 c' b 19 ∧ HW D J ad c' (aA J ad s.heap.size) s.heap H locs := ⟨_, hB_st.wA (k := 0) rfl est_9, hF.up (by omega) (by omega), hW⟩
        refine lv_aload_n hx hb dX9_need_62 rfl (lv_at hl 0 rfl) ?_
        refine lv_iload_n hx hb dX9_need_63 rfl (lv_at hl 1 rfl) ?_
        obtain ⟨r_10, st_11, hr_10, h⟩ := zb2_e h
        refine k_callVi (rest := []) hE hW hl.1 (mX9_retained hB_st hr_10) hB_st.o hB_st.obj rfl q1007 q1009 qs97 q10 q1010 hd_X9_retained ⟨Nat.le_of_ble_eq_true rfl, Nat.le_of_ble_eq_true rfl⟩ ⟨rfl, rfl⟩ rfl (Nat.le_of_ble_eq_true rfl) dX9_need_64 ⟨Nat.zero_le _, Nat.zero_le _⟩ (fun c1 H locs hP hW => ?_)
        obtain ⟨c, hB_st, hF, hW⟩ : ∃ c', MoB ct J ad c' b st_11 ∧ Fr c0 c' b 19 ∧ HW D J ad c' (aA J ad s.heap.size) s.heap H locs := ⟨c1, hP.1, hF.trans hP.2, hW⟩
        refine lv_pop hx hb dX9_need_67 rfl ?_
        refine lv_aload_n hx hb dX9_need_68 rfl (lv_at hl 0 rfl) ?_
        refine lv_iload_n hx hb dX9_need_69 rfl (lv_at hl 1 rfl) ?_
        obtain ⟨r_12, hr_12, h⟩ := zb_e h
        refine k_callVi (rest := []) hE hW hl.1 (mX9_all hB_st hr_12) hB_st.o hB_st.obj rfl q1044 q1046 qs103 q10 q1047 hd_X9_all ⟨Nat.le_of_ble_eq_true rfl, Nat.le_of_ble_eq_true rfl⟩ ⟨rfl, rfl⟩ rfl (Nat.le_of_ble_eq_true rfl) dX9_need_70 ⟨Nat.zero_le _, Nat.zero_le _⟩ (fun c1 H locs hP hW => ?_)
        rw [hP] at hW
        refine lv_iload_n hx hb dX9_need_73 rfl (lv_at hl 2 rfl) ?_
        refine lv_icmp_lt (tgt := 82) hx hb dX9_need_74 (by decide) (fun k_13 => ?_) (fun k_13 => ?_)
        · have h := it_t k_13 h
          refine lv_bipush (v := (-5 : Int32)) hx hb dX9_need_82 (by decide) ?_
          exact wX9_need_84 hE hr hlk ih _ _ _ _ _ _ _ hW hB_st hF (lv_sub hl [0, 1, 2, 4] rfl) h
        · have h := it_f k_13 h
          refine lv_iload hx hb dX9_need_77 (lv_at hl 4 rfl) ?_
          refine lv_goto (tgt := 84) hx hb dX9_need_79 (by decide) ?_
          exact wX9_need_84 hE hr hlk ih _ _ _ _ _ _ _ hW hB_st hF (lv_sub hl [0, 1, 2, 4] rfl) h
set_option maxHeartbeats 4000000 in
set_option maxRecDepth 100000 in
theorem mX9_need {l : Launch} {D : va_G} {ct : Nat → ClassId} {J : List Nat} {ad : Nat → Nat} {c0 : CF} {a1 : Int32} {a2 : Int32} {b : Nat} {st : MS} (hB_st : MoB ct J ad c0 b st) {r : Int32} {st9 : MS} (h : fX9_need  a1 a2 st = some (r, st9)) : Mi l D ct J ad yX9_need cX9_need 5 (some .int) (rr 5 113) [.ref (ad b), .int a1, .int a2] c0 r (fun c' => MoB ct J ad c' b st9 ∧ Fr c0 c' b 19) := by
  refine Mi_of (own := RX9) (by decide) rfl (Nat.le_of_ble_eq_true rfl) (fun p e s m below meth cd hE hr hlk hW ls hl => ?_)
  have hx := hE.1
  have hb := hE.2.1
  have hl : lv_has ls 5 [(0, .ref (ad b)), (1, .int a1), (2, .int a2)] := hl
  rw [fX9_need] at h
  obtain ⟨c, hB_st, hF, hW⟩ : ∃ c', MoB ct J ad c' b st ∧ Fr c0 c' b 19 ∧ HW D J ad c' (aA J ad s.heap.size) s.heap s.heap [] := ⟨c0, hB_st, Fr.rf, hW⟩
  refine lv_iload_n hx hb dX9_need_0 rfl (lv_at hl 1 rfl) ?_
  obtain ⟨r_1, hr_1, h⟩ := zb_e h
  refine k_callSi (rest := []) hE hW hl.1 (mX9_isLog hr_1) q928 q929 q10 q930 hd_X9_isLog.2 ⟨Nat.le_of_ble_eq_true rfl, Nat.le_of_ble_eq_true rfl⟩ ⟨rfl, rfl⟩ rfl (Nat.le_of_ble_eq_true rfl) dX9_need_1 ⟨Nat.zero_le _, Nat.zero_le _⟩ (fun c1 H locs hP hW => ?_)
  rw [hP] at hW
  refine lv_if_ne (tgt := 9) hx hb dX9_need_4 (by decide) (fun k_2 => ?_) (fun k_2 => ?_)
  · have h := it_f k_2 h
    refine lv_iload_n hx hb dX9_need_9 rfl (lv_at hl 2 rfl) ?_
    refine lv_iconst (v := (0 : Int32)) hx hb dX9_need_10 (by decide) ?_
    refine lv_sipush (v := (200 : Int32)) hx hb dX9_need_11 (by decide) ?_
    obtain ⟨r_3, hr_3, h⟩ := zb_e h
    refine k_callSi (rest := []) hE hW hl.1 (mX9_in hr_3) q931 q932 q10 q933 hd_X9_in.2 ⟨Nat.le_of_ble_eq_true rfl, Nat.le_of_ble_eq_true rfl⟩ ⟨rfl, rfl⟩ rfl (Nat.le_of_ble_eq_true rfl) dX9_need_14 ⟨Nat.zero_le _, Nat.zero_le _⟩ (fun c1 H locs hP hW => ?_)
    rw [hP] at hW
    refine lv_if_ne (tgt := 23) hx hb dX9_need_17 (by decide) (fun k_4 => ?_) (fun k_4 => ?_)
    · have h := it_f k_4 h
      refine lv_aload_n hx hb dX9_need_23 rfl (lv_at hl 0 rfl) ?_
      refine k_get (v := .ref (ad (b + 1 + 0))) hE hW hB_st.o hB_st.obj rfl inX9 0 (by decide) q868 rfl dX9_need_24 ?_
      refine lv_aload_n hx hb dX9_need_27 rfl (lv_at hl 0 rfl) ?_
      refine k_get (v := .ref (ad (b + 1 + 1))) hE hW hB_st.o hB_st.obj rfl inX9 1 (by decide) q869 rfl dX9_need_28 ?_
      obtain ⟨st_5, hst_5, h⟩ := zb_e h
      refine k_callSv (rest := []) hE hW hl.1 (mX9_copy (k1 := 0) (k2 := 1) rfl rfl (Nat.le_of_ble_eq_true rfl) (Nat.le_of_ble_eq_true rfl) hB_st hst_5) q1140 q1141 q10 q1142 hd_X9_copy.2 ⟨Nat.le_of_ble_eq_true rfl, Nat.le_of_ble_eq_true rfl⟩ ⟨rfl, rfl⟩ rfl (Nat.le_of_ble_eq_true rfl) dX9_need_31 ⟨Nat.zero_le _, Nat.zero_le _⟩ (fun c1 H locs hP hW => ?_)
      obtain ⟨c, hB_st, hF, hW⟩ : ∃ c', MoB ct J ad c' b st_5 ∧ Fr c0 c' b 19 ∧ HW D J ad c' (aA J ad s.heap.size) s.heap H locs := ⟨c1, hP.1, hF.trans hP.2, hW⟩
      refine lv_bipush (v := (-5 : Int32)) hx hb dX9_need_34 (by decide) ?_
      refine lv_istore_n (lv' := [(3, .int (-5 : Int32)), (0, .ref (ad b)), (1, .int a1), (2, .int a2)]) hx hb dX9_need_36 rfl hl (by decide) rfl (fun ls hl => ?_)
      refine lv_iconst (v := (0 : Int32)) hx hb dX9_need_37 (by decide) ?_
      refine lv_istore (lv' := [(4, .int (0 : Int32)), (3, .int (-5 : Int32)), (0, .ref (ad b)), (1, .int a1), (2, .int a2)]) hx hb dX9_need_38 hl (by decide) rfl (fun ls hl => ?_)
      exact wX9_need_40 hE hr hlk _ _ _ _ _ _ _ _ hW hB_st hF (lv_sub hl [2, 3, 4, 1, 0] rfl) h
    · have h := it_t k_4 h
      refine lv_bipush (v := (-2 : Int32)) hx hb dX9_need_20 (by decide) ?_
      obtain ⟨rfl, rfl⟩ := Prod.mk.inj (Option.some.inj h)
      exact k_iret hE hr hlk hW ⟨hB_st, hF⟩ rfl dX9_need_22
  · have h := it_t k_2 h
    refine lv_iconst (v := (-1 : Int32)) hx hb dX9_need_7 (by decide) ?_
    obtain ⟨rfl, rfl⟩ := Prod.mk.inj (Option.some.inj h)
    exact k_iret hE hr hlk hW ⟨hB_st, hF⟩ rfl dX9_need_8
set_option maxHeartbeats 4000000 in
set_option maxRecDepth 100000 in
theorem mX9_isIn {l : Launch} {D : va_G} {ct : Nat → ClassId} {J : List Nat} {ad : Nat → Nat} {c0 : CF} {a1 : Int32} {b : Nat} {st : MS} (hB_st : MoB ct J ad c0 b st) {r : Int32} (h : fX9_isIn  a1 st = some r) : Mi l D ct J ad yX9_isIn cX9_isIn 2 (some .boolean) (rr 0 0) [.ref (ad b), .int a1] c0 r (fun c' => c' = c0) := by
  refine Mi_of (own := RX9) (by decide) rfl (Nat.le_of_ble_eq_true rfl) (fun p e s m below meth cd hE hr hlk hW ls hl => ?_)
  have hx := hE.1
  have hb := hE.2.1
  have hl : lv_has ls 2 [(0, .ref (ad b)), (1, .int a1)] := hl
  rw [fX9_isIn] at h
  refine lv_aload_n hx hb dX9_isIn_0 rfl (lv_at hl 0 rfl) ?_
  refine k_get (v := .ref (ad (b + 1 + 0))) hE hW hB_st.o hB_st.obj rfl inX9 0 (by decide) q868 rfl dX9_isIn_1 ?_
  refine lv_sipush (v := (5101 : Int32)) hx hb dX9_isIn_4 (by decide) ?_
  obtain ⟨g_1, h⟩ := zi_e h
  refine k_iald hE hW (hB_st.memA 0 (Nat.le_of_ble_eq_true rfl)) (hB_st.arr 0 rfl) g_1 dX9_isIn_7 ?_
  refine lv_iload_n hx hb dX9_isIn_8 rfl (lv_at hl 1 rfl) ?_
  refine lv_ishr hx hb dX9_isIn_9 ?_
  refine lv_iconst (v := (1 : Int32)) hx hb dX9_isIn_10 (by decide) ?_
  refine lv_iand hx hb dX9_isIn_11 ?_
  refine lv_iconst (v := (1 : Int32)) hx hb dX9_isIn_12 (by decide) ?_
  refine lv_icmp_ne (tgt := 20) hx hb dX9_isIn_13 (by decide) (fun k_2 => ?_) (fun k_2 => ?_)
  · have h := it_f k_2 h
    refine lv_iconst (v := (0 : Int32)) hx hb dX9_isIn_20 (by decide) ?_
    obtain rfl := Option.some.inj h
    exact k_zret hE hr hlk hW rfl rfl rfl dX9_isIn_21
  · have h := it_t k_2 h
    refine lv_iconst (v := (1 : Int32)) hx hb dX9_isIn_16 (by decide) ?_
    refine lv_goto (tgt := 21) hx hb dX9_isIn_17 (by decide) ?_
    obtain rfl := Option.some.inj h
    exact k_zret hE hr hlk hW rfl rfl rfl dX9_isIn_21
set_option maxHeartbeats 4000000 in
set_option maxRecDepth 100000 in
theorem wX9_membersIn_4 {p : Program} {l : Launch} {e : Env} {s : State} {m : MethodId} {args : Array Value} {below : List Frame} {meth : Method} {cd : Code} {D : va_G} {ct : Nat → ClassId} {J : List Nat} {ad : Nat → Nat} {c0 : CF} {b : Nat} (hE : ME p s m cd args D ct cX9_membersIn RX9 3) (hr : meth.sig.returnType = (some .int)) (hlk : meth.locks = false) {st : MS} (hB_st : MoB ct J ad c0 b st) {r : Int32} : ∀ (n : Nat) (x1 : Int32) (x2 : Int32) (H : Heap) (locs : List Loc) (ls : Array Slot), HW D J ad c0 (aA J ad s.heap.size) s.heap H locs → lv_has ls 3 [(0, .ref (ad b)), (1, .int x1), (2, .int x2)] → fX9_membersIn_4 st n x1 x2 = some r → W p l e (rr 1 21) s m args below meth cd H locs 0 0 (MQ below (Qi D J ad s.heap.size r (fun c' => c' = c0)) args s 0 0 (aA J ad s.heap.size)) (F0 m 4 ls []) := by
  have hx := hE.1
  have hb := hE.2.1
  intro n
  induction n with
  | zero =>
    intro x1 x2 H locs ls hW hl h
    have h2 : (none : Option Int32) = some r := h
    cases h2
  | succ n ih =>
    intro x1 x2 H locs ls hW hl h
    rw [fX9_membersIn_4] at h
    refine lv_iload_n hx hb dX9_membersIn_4 rfl (lv_at hl 2 rfl) ?_
    refine lv_iconst (v := (4 : Int32)) hx hb dX9_membersIn_5 (by decide) ?_
    refine lv_icmp_ge (tgt := 31) hx hb dX9_membersIn_6 (by decide) (fun k_1 => ?_) (fun k_1 => ?_)
    · have h := it_t k_1 h
      refine lv_iload_n hx hb dX9_membersIn_31 rfl (lv_at hl 1 rfl) ?_
      obtain rfl := Option.some.inj h
      exact k_iret hE hr hlk hW rfl rfl dX9_membersIn_32
    · have h := it_f k_1 h
      refine lv_iload_n hx hb dX9_membersIn_9 rfl (lv_at hl 1 rfl) ?_
      refine lv_aload_n hx hb dX9_membersIn_10 rfl (lv_at hl 0 rfl) ?_
      refine lv_iload_n hx hb dX9_membersIn_11 rfl (lv_at hl 2 rfl) ?_
      obtain ⟨r_2, hr_2, h⟩ := zb_e h
      refine k_callVi (rest := [.int x1]) hE hW hl.1 (mX9_isIn hB_st hr_2) hB_st.o hB_st.obj rfl q1151 q1153 qs114 q10 q1154 hd_X9_isIn ⟨Nat.le_of_ble_eq_true rfl, Nat.le_of_ble_eq_true rfl⟩ ⟨rfl, rfl⟩ rfl (Nat.le_of_ble_eq_true rfl) dX9_membersIn_12 ⟨Nat.zero_le _, Nat.zero_le _⟩ (fun c1 H locs hP hW => ?_)
      rw [hP] at hW
      refine lv_if_eq (tgt := 22) hx hb dX9_membersIn_15 (by decide) (fun k_3 => ?_) (fun k_3 => ?_)
      · have h := it_t k_3 h
        refine lv_iconst (v := (0 : Int32)) hx hb dX9_membersIn_22 (by decide) ?_
        refine lv_iadd hx hb dX9_membersIn_23 ?_
        refine lv_istore_n (lv' := [(1, .int (x1 + (0 : Int32))), (0, .ref (ad b)), (2, .int x2)]) hx hb dX9_membersIn_24 rfl hl (by decide) rfl (fun ls hl => ?_)
        refine lv_iinc (v := (x2 + (1 : Int32))) (lv' := [(2, .int (x2 + (1 : Int32))), (1, .int (x1 + (0 : Int32))), (0, .ref (ad b))]) hx hb dX9_membersIn_25 hl (k := 2) rfl rfl (by decide) rfl (fun ls hl => ?_)
        refine lv_goto (tgt := 4) hx hb dX9_membersIn_28 (by decide) ?_
        exact ih _ _ _ _ _ hW (lv_sub hl [2, 1, 0] rfl) h
      · have h := it_f k_3 h
        refine lv_iconst (v := (1 : Int32)) hx hb dX9_membersIn_18 (by decide) ?_
        refine lv_goto (tgt := 23) hx hb dX9_membersIn_19 (by decide) ?_
        refine lv_iadd hx hb dX9_membersIn_23 ?_
        refine lv_istore_n (lv' := [(1, .int (x1 + (1 : Int32))), (0, .ref (ad b)), (2, .int x2)]) hx hb dX9_membersIn_24 rfl hl (by decide) rfl (fun ls hl => ?_)
        refine lv_iinc (v := (x2 + (1 : Int32))) (lv' := [(2, .int (x2 + (1 : Int32))), (1, .int (x1 + (1 : Int32))), (0, .ref (ad b))]) hx hb dX9_membersIn_25 hl (k := 2) rfl rfl (by decide) rfl (fun ls hl => ?_)
        refine lv_goto (tgt := 4) hx hb dX9_membersIn_28 (by decide) ?_
        exact ih _ _ _ _ _ hW (lv_sub hl [2, 1, 0] rfl) h
set_option maxHeartbeats 4000000 in
set_option maxRecDepth 100000 in
theorem mX9_membersIn {l : Launch} {D : va_G} {ct : Nat → ClassId} {J : List Nat} {ad : Nat → Nat} {c0 : CF} {b : Nat} {st : MS} (hB_st : MoB ct J ad c0 b st) {r : Int32} (h : fX9_membersIn   st = some r) : Mi l D ct J ad yX9_membersIn cX9_membersIn 3 (some .int) (rr 1 21) [.ref (ad b)] c0 r (fun c' => c' = c0) := by
  refine Mi_of (own := RX9) (by decide) rfl (Nat.le_of_ble_eq_true rfl) (fun p e s m below meth cd hE hr hlk hW ls hl => ?_)
  have hx := hE.1
  have hb := hE.2.1
  have hl : lv_has ls 3 [(0, .ref (ad b))] := hl
  rw [fX9_membersIn] at h
  refine lv_iconst (v := (0 : Int32)) hx hb dX9_membersIn_0 (by decide) ?_
  refine lv_istore_n (lv' := [(1, .int (0 : Int32)), (0, .ref (ad b))]) hx hb dX9_membersIn_1 rfl hl (by decide) rfl (fun ls hl => ?_)
  refine lv_iconst (v := (0 : Int32)) hx hb dX9_membersIn_2 (by decide) ?_
  refine lv_istore_n (lv' := [(2, .int (0 : Int32)), (1, .int (0 : Int32)), (0, .ref (ad b))]) hx hb dX9_membersIn_3 rfl hl (by decide) rfl (fun ls hl => ?_)
  exact wX9_membersIn_4 hE hr hlk hB_st _ _ _ _ _ _ hW (lv_sub hl [2, 1, 0] rfl) h
set_option maxHeartbeats 4000000 in
set_option maxRecDepth 100000 in
theorem wX9_logsOf_4 {p : Program} {l : Launch} {e : Env} {s : State} {m : MethodId} {args : Array Value} {below : List Frame} {meth : Method} {cd : Code} {D : va_G} {ct : Nat → ClassId} {J : List Nat} {ad : Nat → Nat} {c0 : CF} {b : Nat} (hE : ME p s m cd args D ct cX9_logsOf RX9 4) (hr : meth.sig.returnType = (some .int)) (hlk : meth.locks = false) {x1 : Int32} {st : MS} (hB_st : MoB ct J ad c0 b st) {r : Int32} : ∀ (n : Nat) (x2 : Int32) (x3 : Int32) (H : Heap) (locs : List Loc) (ls : Array Slot), HW D J ad c0 (aA J ad s.heap.size) s.heap H locs → lv_has ls 4 [(0, .ref (ad b)), (1, .int x1), (2, .int x2), (3, .int x3)] → fX9_logsOf_4 x1 st n x2 x3 = some r → W p l e (rr 1 22) s m args below meth cd H locs 0 0 (MQ below (Qi D J ad s.heap.size r (fun c' => c' = c0)) args s 0 0 (aA J ad s.heap.size)) (F0 m 4 ls []) := by
  have hx := hE.1
  have hb := hE.2.1
  intro n
  induction n with
  | zero =>
    intro x2 x3 H locs ls hW hl h
    have h2 : (none : Option Int32) = some r := h
    cases h2
  | succ n ih =>
    intro x2 x3 H locs ls hW hl h
    rw [fX9_logsOf_4] at h
    refine lv_iload_n hx hb dX9_logsOf_4 rfl (lv_at hl 3 rfl) ?_
    refine lv_iconst (v := (4 : Int32)) hx hb dX9_logsOf_5 (by decide) ?_
    refine lv_icmp_ge (tgt := 37) hx hb dX9_logsOf_6 (by decide) (fun k_1 => ?_) (fun k_1 => ?_)
    · have h := it_t k_1 h
      refine lv_iload_n hx hb dX9_logsOf_37 rfl (lv_at hl 2 rfl) ?_
      obtain rfl := Option.some.inj h
      exact k_iret hE hr hlk hW rfl rfl dX9_logsOf_38
    · have h := it_f k_1 h
      refine lv_iload_n hx hb dX9_logsOf_9 rfl (lv_at hl 2 rfl) ?_
      refine lv_aload_n hx hb dX9_logsOf_10 rfl (lv_at hl 0 rfl) ?_
      refine lv_iload_n hx hb dX9_logsOf_11 rfl (lv_at hl 3 rfl) ?_
      refine lv_sipush (v := (1272 : Int32)) hx hb dX9_logsOf_12 (by decide) ?_
      obtain ⟨r_2, hr_2, h⟩ := zb_e h
      refine k_callVi (rest := [.int x2]) hE hW hl.1 (mX9_at hB_st hr_2) hB_st.o hB_st.obj rfl q934 q936 qs87 q10 q937 hd_X9_at ⟨Nat.le_of_ble_eq_true rfl, Nat.le_of_ble_eq_true rfl⟩ ⟨rfl, rfl⟩ rfl (Nat.le_of_ble_eq_true rfl) dX9_logsOf_15 ⟨Nat.zero_le _, Nat.zero_le _⟩ (fun c1 H locs hP hW => ?_)
      rw [hP] at hW
      refine lv_iload_n hx hb dX9_logsOf_18 rfl (lv_at hl 1 rfl) ?_
      refine lv_icmp_ne (tgt := 28) hx hb dX9_logsOf_19 (by decide) (fun k_3 => ?_) (fun k_3 => ?_)
      · have h := it_f k_3 h
        refine lv_iconst (v := (0 : Int32)) hx hb dX9_logsOf_28 (by decide) ?_
        refine lv_ior hx hb dX9_logsOf_29 ?_
        refine lv_istore_n (lv' := [(2, .int (x2 ||| (0 : Int32))), (0, .ref (ad b)), (1, .int x1), (3, .int x3)]) hx hb dX9_logsOf_30 rfl hl (by decide) rfl (fun ls hl => ?_)
        refine lv_iinc (v := (x3 + (1 : Int32))) (lv' := [(3, .int (x3 + (1 : Int32))), (2, .int (x2 ||| (0 : Int32))), (0, .ref (ad b)), (1, .int x1)]) hx hb dX9_logsOf_31 hl (k := 3) rfl rfl (by decide) rfl (fun ls hl => ?_)
        refine lv_goto (tgt := 4) hx hb dX9_logsOf_34 (by decide) ?_
        exact ih _ _ _ _ _ hW (lv_sub hl [2, 3, 1, 0] rfl) h
      · have h := it_t k_3 h
        refine lv_iconst (v := (1 : Int32)) hx hb dX9_logsOf_22 (by decide) ?_
        refine lv_iload_n hx hb dX9_logsOf_23 rfl (lv_at hl 3 rfl) ?_
        refine lv_ishl hx hb dX9_logsOf_24 ?_
        refine lv_goto (tgt := 29) hx hb dX9_logsOf_25 (by decide) ?_
        refine lv_ior hx hb dX9_logsOf_29 ?_
        refine lv_topi (fun x_4 ex_4 => ?_)
        have h := zl_n h ex_4
        refine lv_istore_n (lv' := [(2, .int x_4), (0, .ref (ad b)), (1, .int x1), (3, .int x3)]) hx hb dX9_logsOf_30 rfl hl (by decide) rfl (fun ls hl => ?_)
        refine lv_iinc (v := (x3 + (1 : Int32))) (lv' := [(3, .int (x3 + (1 : Int32))), (2, .int x_4), (0, .ref (ad b)), (1, .int x1)]) hx hb dX9_logsOf_31 hl (k := 3) rfl rfl (by decide) rfl (fun ls hl => ?_)
        refine lv_goto (tgt := 4) hx hb dX9_logsOf_34 (by decide) ?_
        exact ih _ _ _ _ _ hW (lv_sub hl [2, 3, 1, 0] rfl) h
set_option maxHeartbeats 4000000 in
set_option maxRecDepth 100000 in
theorem mX9_logsOf {l : Launch} {D : va_G} {ct : Nat → ClassId} {J : List Nat} {ad : Nat → Nat} {c0 : CF} {a1 : Int32} {b : Nat} {st : MS} (hB_st : MoB ct J ad c0 b st) {r : Int32} (h : fX9_logsOf  a1 st = some r) : Mi l D ct J ad yX9_logsOf cX9_logsOf 4 (some .int) (rr 1 22) [.ref (ad b), .int a1] c0 r (fun c' => c' = c0) := by
  refine Mi_of (own := RX9) (by decide) rfl (Nat.le_of_ble_eq_true rfl) (fun p e s m below meth cd hE hr hlk hW ls hl => ?_)
  have hx := hE.1
  have hb := hE.2.1
  have hl : lv_has ls 4 [(0, .ref (ad b)), (1, .int a1)] := hl
  rw [fX9_logsOf] at h
  refine lv_iconst (v := (0 : Int32)) hx hb dX9_logsOf_0 (by decide) ?_
  refine lv_istore_n (lv' := [(2, .int (0 : Int32)), (0, .ref (ad b)), (1, .int a1)]) hx hb dX9_logsOf_1 rfl hl (by decide) rfl (fun ls hl => ?_)
  refine lv_iconst (v := (0 : Int32)) hx hb dX9_logsOf_2 (by decide) ?_
  refine lv_istore_n (lv' := [(3, .int (0 : Int32)), (2, .int (0 : Int32)), (0, .ref (ad b)), (1, .int a1)]) hx hb dX9_logsOf_3 rfl hl (by decide) rfl (fun ls hl => ?_)
  exact wX9_logsOf_4 hE hr hlk hB_st _ _ _ _ _ _ hW (lv_sub hl [2, 3, 1, 0] rfl) h
set_option maxHeartbeats 4000000 in
set_option maxRecDepth 100000 in
theorem wX9_bits_4 {p : Program} {l : Launch} {e : Env} {s : State} {m : MethodId} {args : Array Value} {below : List Frame} {meth : Method} {cd : Code} {D : va_G} {ct : Nat → ClassId} {J : List Nat} {ad : Nat → Nat} {c0 : CF} (hE : ME p s m cd args D ct cX9_bits RX9 3) (hr : meth.sig.returnType = (some .int)) (hlk : meth.locks = false) {r : Int32} : ∀ (n : Nat) (x1 : Int32) (x2 : Int32) (H : Heap) (locs : List Loc) (ls : Array Slot), HW D J ad c0 (aA J ad s.heap.size) s.heap H locs → lv_has ls 3 [(1, .int x1), (2, .int x2)] → fX9_bits_4 n x1 x2 = some r → W p l e (rr 0 0) s m args below meth cd H locs 0 0 (MQ below (Qi D J ad s.heap.size r (fun c' => c' = c0)) args s 0 0 (aA J ad s.heap.size)) (F0 m 4 ls []) := by
  have hx := hE.1
  have hb := hE.2.1
  intro n
  induction n with
  | zero =>
    intro x1 x2 H locs ls hW hl h
    have h2 : (none : Option Int32) = some r := h
    cases h2
  | succ n ih =>
    intro x1 x2 H locs ls hW hl h
    rw [fX9_bits_4] at h
    refine lv_iload_n hx hb dX9_bits_4 rfl (lv_at hl 1 rfl) ?_
    refine lv_if_eq (tgt := 20) hx hb dX9_bits_5 (by decide) (fun k_1 => ?_) (fun k_1 => ?_)
    · have h := it_t k_1 h
      refine lv_iload_n hx hb dX9_bits_20 rfl (lv_at hl 0 rfl) ?_
      obtain rfl := Option.some.inj h
      exact k_iret hE hr hlk hW rfl rfl dX9_bits_21
    · have h := it_f k_1 h
      refine lv_iinc (v := (x1 + (1 : Int32))) (lv' := [(1, .int (x1 + (1 : Int32))), (2, .int x2)]) hx hb dX9_bits_8 hl (k := 0) rfl rfl (by decide) rfl (fun ls hl => ?_)
      refine lv_iload_n hx hb dX9_bits_11 rfl (lv_at hl 1 rfl) ?_
      refine lv_iload_n hx hb dX9_bits_12 rfl (lv_at hl 1 rfl) ?_
      refine lv_iconst (v := (1 : Int32)) hx hb dX9_bits_13 (by decide) ?_
      refine lv_isub hx hb dX9_bits_14 ?_
      refine lv_iand hx hb dX9_bits_15 ?_
      refine lv_topi (fun x_2 ex_2 => ?_)
      have h := zl_n h ex_2
      refine lv_istore_n (lv' := [(2, .int x_2), (1, .int (x1 + (1 : Int32)))]) hx hb dX9_bits_16 rfl hl (by decide) rfl (fun ls hl => ?_)
      refine lv_goto (tgt := 4) hx hb dX9_bits_17 (by decide) ?_
      exact ih _ _ _ _ _ hW (lv_sub hl [1, 0] rfl) h
set_option maxHeartbeats 4000000 in
set_option maxRecDepth 100000 in
theorem mX9_bits {l : Launch} {D : va_G} {ct : Nat → ClassId} {J : List Nat} {ad : Nat → Nat} {c0 : CF} {a1 : Int32} {r : Int32} (h : fX9_bits  a1 = some r) : Mi l D ct J ad yX9_bits cX9_bits 3 (some .int) (rr 0 0) [.int a1] c0 r (fun c' => c' = c0) := by
  refine Mi_of (own := RX9) (by decide) rfl (Nat.le_of_ble_eq_true rfl) (fun p e s m below meth cd hE hr hlk hW ls hl => ?_)
  have hx := hE.1
  have hb := hE.2.1
  have hl : lv_has ls 3 [(0, .int a1)] := hl
  rw [fX9_bits] at h
  refine lv_iconst (v := (0 : Int32)) hx hb dX9_bits_0 (by decide) ?_
  refine lv_istore_n (lv' := [(1, .int (0 : Int32)), (0, .int a1)]) hx hb dX9_bits_1 rfl hl (by decide) rfl (fun ls hl => ?_)
  refine lv_iload_n hx hb dX9_bits_2 rfl (lv_at hl 1 rfl) ?_
  refine lv_istore_n (lv' := [(2, .int a1), (1, .int (0 : Int32)), (0, .int a1)]) hx hb dX9_bits_3 rfl hl (by decide) rfl (fun ls hl => ?_)
  exact wX9_bits_4 hE hr hlk _ _ _ _ _ _ hW (lv_sub hl [1, 0] rfl) h
set_option maxHeartbeats 4000000 in
set_option maxRecDepth 100000 in
theorem wX9_lets_5 {p : Program} {l : Launch} {e : Env} {s : State} {m : MethodId} {args : Array Value} {below : List Frame} {meth : Method} {cd : Code} {D : va_G} {ct : Nat → ClassId} {J : List Nat} {ad : Nat → Nat} {c0 : CF} {b : Nat} (hE : ME p s m cd args D ct cX9_lets RX9 5) (hr : meth.sig.returnType = none) (hlk : meth.locks = false) {x1 : Int32} {st9 : MS} : ∀ (n : Nat) (x3 : Int32) (x4 : Int32) (st : MS) (c : CF) (H : Heap) (locs : List Loc) (ls : Array Slot), HW D J ad c (aA J ad s.heap.size) s.heap H locs → MoB ct J ad c b st → Fr c0 c b 19 → lv_has ls 5 [(0, .ref (ad b)), (1, .int x1), (3, .int x3), (4, .int x4)] → fX9_lets_5 x1 n x3 x4 st = some st9 → W p l e (rr 1 23) s m args below meth cd H locs 0 0 (MQ below (Qv D J ad s.heap.size (fun c' => MoB ct J ad c' b st9 ∧ Fr c0 c' b 19)) args s 0 0 (aA J ad s.heap.size)) (F0 m 5 ls []) := by
  have hx := hE.1
  have hb := hE.2.1
  intro n
  induction n with
  | zero =>
    intro x3 x4 st c H locs ls hW hB_st hF hl h
    have h2 : (none : Option MS) = some st9 := h
    cases h2
  | succ n ih =>
    intro x3 x4 st c H locs ls hW hB_st hF hl h
    rw [fX9_lets_5] at h
    refine lv_iload hx hb dX9_lets_5 (lv_at hl 3 rfl) ?_
    refine lv_iconst (v := (4 : Int32)) hx hb dX9_lets_7 (by decide) ?_
    refine lv_icmp_ge (tgt := 50) hx hb dX9_lets_8 (by decide) (fun k_1 => ?_) (fun k_1 => ?_)
    · have h := it_t k_1 h
      obtain rfl := Option.some.inj h
      exact k_vret hE hr hlk hW ⟨hB_st, hF⟩ dX9_lets_50
    · have h := it_f k_1 h
      refine lv_aload_n hx hb dX9_lets_11 rfl (lv_at hl 0 rfl) ?_
      refine lv_iload hx hb dX9_lets_12 (lv_at hl 3 rfl) ?_
      refine lv_sipush (v := (1272 : Int32)) hx hb dX9_lets_14 (by decide) ?_
      obtain ⟨r_2, hr_2, h⟩ := zb_e h
      refine k_callVi (rest := []) hE hW hl.1 (mX9_at hB_st hr_2) hB_st.o hB_st.obj rfl q934 q936 qs87 q10 q937 hd_X9_at ⟨Nat.le_of_ble_eq_true rfl, Nat.le_of_ble_eq_true rfl⟩ ⟨rfl, rfl⟩ rfl (Nat.le_of_ble_eq_true rfl) dX9_lets_17 ⟨Nat.zero_le _, Nat.zero_le _⟩ (fun c1 H locs hP hW => ?_)
      rw [hP] at hW
      refine lv_iload_n hx hb dX9_lets_20 rfl (lv_at hl 1 rfl) ?_
      refine lv_icmp_ne (tgt := 44) hx hb dX9_lets_21 (by decide) (fun k_3 => ?_) (fun k_3 => ?_)
      · have h := it_f k_3 h
        refine lv_iinc (v := (x4 + (1 : Int32))) (lv' := [(4, .int (x4 + (1 : Int32))), (0, .ref (ad b)), (1, .int x1), (3, .int x3)]) hx hb dX9_lets_44 hl (k := 3) rfl rfl (by decide) rfl (fun ls hl => ?_)
        refine lv_goto (tgt := 5) hx hb dX9_lets_47 (by decide) ?_
        exact ih _ _ _ _ _ _ _ hW hB_st hF (lv_sub hl [1, 2, 3, 0] rfl) h
      · have h := it_t k_3 h
        refine lv_iload_n hx hb dX9_lets_24 rfl (lv_at hl 2 rfl) ?_
        refine lv_if_ne (tgt := 41) hx hb dX9_lets_25 (by decide) (fun k_4 => ?_) (fun k_4 => ?_)
        · have h := it_f k_4 h
          refine lv_iinc (v := (x3 + (-1 : Int32))) (lv' := [(3, .int (x3 + (-1 : Int32))), (0, .ref (ad b)), (1, .int x1), (4, .int x4)]) hx hb dX9_lets_41 hl (k := 2) rfl rfl (by decide) rfl (fun ls hl => ?_)
          refine lv_iinc (v := (x4 + (1 : Int32))) (lv' := [(4, .int (x4 + (1 : Int32))), (3, .int (x3 + (-1 : Int32))), (0, .ref (ad b)), (1, .int x1)]) hx hb dX9_lets_44 hl (k := 3) rfl rfl (by decide) rfl (fun ls hl => ?_)
          refine lv_goto (tgt := 5) hx hb dX9_lets_47 (by decide) ?_
          exact ih _ _ _ _ _ _ _ hW hB_st hF (lv_sub hl [2, 3, 1, 0] rfl) h
        · have h := it_t k_4 h
          refine lv_aload_n hx hb dX9_lets_28 rfl (lv_at hl 0 rfl) ?_
          refine lv_iload hx hb dX9_lets_29 (lv_at hl 3 rfl) ?_
          refine lv_sipush (v := (1272 : Int32)) hx hb dX9_lets_31 (by decide) ?_
          refine lv_iconst (v := (-1 : Int32)) hx hb dX9_lets_34 (by decide) ?_
          obtain ⟨st_5, hst_5, h⟩ := zb_e h
          refine k_callVv (rest := []) hE hW hl.1 (mX9_sets hB_st hst_5) hB_st.o hB_st.obj rfl q864 q866 qs85 q10 q867 hd_X9_sets ⟨Nat.le_of_ble_eq_true rfl, Nat.le_of_ble_eq_true rfl⟩ ⟨rfl, rfl⟩ rfl (Nat.le_of_ble_eq_true rfl) dX9_lets_35 ⟨Nat.zero_le _, Nat.zero_le _⟩ (fun c1 H locs hP hW => ?_)
          obtain ⟨c, hB_st, hF, hW⟩ : ∃ c', MoB ct J ad c' b st_5 ∧ Fr c0 c' b 19 ∧ HW D J ad c' (aA J ad s.heap.size) s.heap H locs := ⟨c1, hP.1, hF.trans hP.2, hW⟩
          refine lv_goto (tgt := 44) hx hb dX9_lets_38 (by decide) ?_
          refine lv_iinc (v := (x4 + (1 : Int32))) (lv' := [(4, .int (x4 + (1 : Int32))), (0, .ref (ad b)), (1, .int x1), (3, .int x3)]) hx hb dX9_lets_44 hl (k := 3) rfl rfl (by decide) rfl (fun ls hl => ?_)
          refine lv_goto (tgt := 5) hx hb dX9_lets_47 (by decide) ?_
          exact ih _ _ _ _ _ _ _ hW hB_st hF (lv_sub hl [1, 2, 3, 0] rfl) h
set_option maxHeartbeats 4000000 in
set_option maxRecDepth 100000 in
theorem mX9_lets {l : Launch} {D : va_G} {ct : Nat → ClassId} {J : List Nat} {ad : Nat → Nat} {c0 : CF} {a1 : Int32} {a2 : Int32} {b : Nat} {st : MS} (hB_st : MoB ct J ad c0 b st) {st9 : MS} (h : fX9_lets  a1 a2 st = some st9) : Mv l D ct J ad yX9_lets cX9_lets 5 none (rr 1 23) [.ref (ad b), .int a1, .int a2] c0 (fun c' => MoB ct J ad c' b st9 ∧ Fr c0 c' b 19) := by
  refine Mv_of (own := RX9) (by decide) rfl (Nat.le_of_ble_eq_true rfl) (fun p e s m below meth cd hE hr hlk hW ls hl => ?_)
  have hx := hE.1
  have hb := hE.2.1
  have hl : lv_has ls 5 [(0, .ref (ad b)), (1, .int a1), (2, .int a2)] := hl
  rw [fX9_lets] at h
  obtain ⟨c, hB_st, hF, hW⟩ : ∃ c', MoB ct J ad c' b st ∧ Fr c0 c' b 19 ∧ HW D J ad c' (aA J ad s.heap.size) s.heap s.heap [] := ⟨c0, hB_st, Fr.rf, hW⟩
  refine lv_iload_n hx hb dX9_lets_0 rfl (lv_at hl 2 rfl) ?_
  refine lv_istore_n (lv' := [(3, .int a2), (0, .ref (ad b)), (1, .int a1), (2, .int a2)]) hx hb dX9_lets_1 rfl hl (by decide) rfl (fun ls hl => ?_)
  refine lv_iconst (v := (0 : Int32)) hx hb dX9_lets_2 (by decide) ?_
  refine lv_istore (lv' := [(4, .int (0 : Int32)), (3, .int a2), (0, .ref (ad b)), (1, .int a1), (2, .int a2)]) hx hb dX9_lets_3 hl (by decide) rfl (fun ls hl => ?_)
  exact wX9_lets_5 hE hr hlk _ _ _ _ _ _ _ _ hW hB_st hF (lv_sub hl [2, 3, 1, 0] rfl) h
set_option maxHeartbeats 4000000 in
set_option maxRecDepth 100000 in
theorem wX9_least_4 {p : Program} {l : Launch} {e : Env} {s : State} {m : MethodId} {args : Array Value} {below : List Frame} {meth : Method} {cd : Code} {D : va_G} {ct : Nat → ClassId} {J : List Nat} {ad : Nat → Nat} {c0 : CF} {b : Nat} (hE : ME p s m cd args D ct cX9_least RX9 3) (hr : meth.sig.returnType = (some .int)) (hlk : meth.locks = false) {st : MS} (hB_st : MoB ct J ad c0 b st) {r : Int32} : ∀ (n : Nat) (x1 : Int32) (x2 : Int32) (H : Heap) (locs : List Loc) (ls : Array Slot), HW D J ad c0 (aA J ad s.heap.size) s.heap H locs → lv_has ls 3 [(0, .ref (ad b)), (1, .int x1), (2, .int x2)] → fX9_least_4 st n x1 x2 = some r → W p l e (rr 2 45) s m args below meth cd H locs 0 0 (MQ below (Qi D J ad s.heap.size r (fun c' => c' = c0)) args s 0 0 (aA J ad s.heap.size)) (F0 m 4 ls []) := by
  have hx := hE.1
  have hb := hE.2.1
  intro n
  induction n with
  | zero =>
    intro x1 x2 H locs ls hW hl h
    have h2 : (none : Option Int32) = some r := h
    cases h2
  | succ n ih =>
    intro x1 x2 H locs ls hW hl h
    rw [fX9_least_4] at h
    refine lv_iload_n hx hb dX9_least_4 rfl (lv_at hl 2 rfl) ?_
    refine lv_iconst (v := (4 : Int32)) hx hb dX9_least_5 (by decide) ?_
    refine lv_icmp_ge (tgt := 52) hx hb dX9_least_6 (by decide) (fun k_1 => ?_) (fun k_1 => ?_)
    · have h := it_t k_1 h
      refine lv_iload_n hx hb dX9_least_52 rfl (lv_at hl 1 rfl) ?_
      obtain rfl := Option.some.inj h
      exact k_iret hE hr hlk hW rfl rfl dX9_least_53
    · have h := it_f k_1 h
      refine lv_aload_n hx hb dX9_least_9 rfl (lv_at hl 0 rfl) ?_
      refine lv_iload_n hx hb dX9_least_10 rfl (lv_at hl 2 rfl) ?_
      obtain ⟨r_2, hr_2, h⟩ := zb_e h
      refine k_callVi (rest := []) hE hW hl.1 (mX9_isIn hB_st hr_2) hB_st.o hB_st.obj rfl q1151 q1153 qs114 q10 q1154 hd_X9_isIn ⟨Nat.le_of_ble_eq_true rfl, Nat.le_of_ble_eq_true rfl⟩ ⟨rfl, rfl⟩ rfl (Nat.le_of_ble_eq_true rfl) dX9_least_11 ⟨Nat.zero_le _, Nat.zero_le _⟩ (fun c1 H locs hP hW => ?_)
      rw [hP] at hW
      refine lv_if_eq (tgt := 44) hx hb dX9_least_14 (by decide) (fun k_3 => ?_) (fun k_3 => ?_)
      · have h := it_t k_3 h
        refine lv_iload_n hx hb dX9_least_44 rfl (lv_at hl 1 rfl) ?_
        refine lv_istore_n (lv' := [(1, .int x1), (0, .ref (ad b)), (2, .int x2)]) hx hb dX9_least_45 rfl hl (by decide) rfl (fun ls hl => ?_)
        refine lv_iinc (v := (x2 + (1 : Int32))) (lv' := [(2, .int (x2 + (1 : Int32))), (1, .int x1), (0, .ref (ad b))]) hx hb dX9_least_46 hl (k := 2) rfl rfl (by decide) rfl (fun ls hl => ?_)
        refine lv_goto (tgt := 4) hx hb dX9_least_49 (by decide) ?_
        exact ih _ _ _ _ _ hW (lv_sub hl [2, 1, 0] rfl) h
      · have h := it_f k_3 h
        refine lv_iload_n hx hb dX9_least_17 rfl (lv_at hl 1 rfl) ?_
        refine lv_if_lt (tgt := 40) hx hb dX9_least_18 (by decide) (fun k_4 => ?_) (fun k_4 => ?_)
        · have h := it_t k_4 h
          refine lv_iload_n hx hb dX9_least_40 rfl (lv_at hl 2 rfl) ?_
          refine lv_goto (tgt := 45) hx hb dX9_least_41 (by decide) ?_
          refine lv_istore_n (lv' := [(1, .int x2), (0, .ref (ad b)), (2, .int x2)]) hx hb dX9_least_45 rfl hl (by decide) rfl (fun ls hl => ?_)
          refine lv_iinc (v := (x2 + (1 : Int32))) (lv' := [(2, .int (x2 + (1 : Int32))), (1, .int x2), (0, .ref (ad b))]) hx hb dX9_least_46 hl (k := 2) rfl rfl (by decide) rfl (fun ls hl => ?_)
          refine lv_goto (tgt := 4) hx hb dX9_least_49 (by decide) ?_
          exact ih _ _ _ _ _ hW (lv_sub hl [2, 1, 0] rfl) h
        · have h := it_f k_4 h
          refine lv_aload_n hx hb dX9_least_21 rfl (lv_at hl 0 rfl) ?_
          refine lv_iload_n hx hb dX9_least_22 rfl (lv_at hl 2 rfl) ?_
          obtain ⟨r_5, hr_5, h⟩ := zb_e h
          refine k_callVi (rest := []) hE hW hl.1 (mX9_logsOf hB_st hr_5) hB_st.o hB_st.obj rfl q1163 q1165 qs117 q10 q1166 hd_X9_logsOf ⟨Nat.le_of_ble_eq_true rfl, Nat.le_of_ble_eq_true rfl⟩ ⟨rfl, rfl⟩ rfl (Nat.le_of_ble_eq_true rfl) dX9_least_23 ⟨Nat.zero_le _, Nat.zero_le _⟩ (fun c1 H locs hP hW => ?_)
          rw [hP] at hW
          obtain ⟨r_6, hr_6, h⟩ := zb_e h
          refine k_callSi (rest := []) hE hW hl.1 (mX9_bits hr_6) q1167 q1168 q10 q1169 hd_X9_bits.2 ⟨Nat.le_of_ble_eq_true rfl, Nat.le_of_ble_eq_true rfl⟩ ⟨rfl, rfl⟩ rfl (Nat.le_of_ble_eq_true rfl) dX9_least_26 ⟨Nat.zero_le _, Nat.zero_le _⟩ (fun c1 H locs hP hW => ?_)
          rw [hP] at hW
          refine lv_aload_n hx hb dX9_least_29 rfl (lv_at hl 0 rfl) ?_
          refine lv_iload_n hx hb dX9_least_30 rfl (lv_at hl 1 rfl) ?_
          obtain ⟨r_7, hr_7, h⟩ := zb_e h
          refine k_callVi (rest := [.int r_6]) hE hW hl.1 (mX9_logsOf hB_st hr_7) hB_st.o hB_st.obj rfl q1163 q1165 qs117 q10 q1166 hd_X9_logsOf ⟨Nat.le_of_ble_eq_true rfl, Nat.le_of_ble_eq_true rfl⟩ ⟨rfl, rfl⟩ rfl (Nat.le_of_ble_eq_true rfl) dX9_least_31 ⟨Nat.zero_le _, Nat.zero_le _⟩ (fun c1 H locs hP hW => ?_)
          rw [hP] at hW
          obtain ⟨r_8, hr_8, h⟩ := zb_e h
          refine k_callSi (rest := [.int r_6]) hE hW hl.1 (mX9_bits hr_8) q1167 q1168 q10 q1169 hd_X9_bits.2 ⟨Nat.le_of_ble_eq_true rfl, Nat.le_of_ble_eq_true rfl⟩ ⟨rfl, rfl⟩ rfl (Nat.le_of_ble_eq_true rfl) dX9_least_34 ⟨Nat.zero_le _, Nat.zero_le _⟩ (fun c1 H locs hP hW => ?_)
          rw [hP] at hW
          refine lv_icmp_ge (tgt := 44) hx hb dX9_least_37 (by decide) (fun k_9 => ?_) (fun k_9 => ?_)
          · have h := it_t k_9 h
            refine lv_iload_n hx hb dX9_least_44 rfl (lv_at hl 1 rfl) ?_
            refine lv_istore_n (lv' := [(1, .int x1), (0, .ref (ad b)), (2, .int x2)]) hx hb dX9_least_45 rfl hl (by decide) rfl (fun ls hl => ?_)
            refine lv_iinc (v := (x2 + (1 : Int32))) (lv' := [(2, .int (x2 + (1 : Int32))), (1, .int x1), (0, .ref (ad b))]) hx hb dX9_least_46 hl (k := 2) rfl rfl (by decide) rfl (fun ls hl => ?_)
            refine lv_goto (tgt := 4) hx hb dX9_least_49 (by decide) ?_
            exact ih _ _ _ _ _ hW (lv_sub hl [2, 1, 0] rfl) h
          · have h := it_f k_9 h
            refine lv_iload_n hx hb dX9_least_40 rfl (lv_at hl 2 rfl) ?_
            refine lv_goto (tgt := 45) hx hb dX9_least_41 (by decide) ?_
            refine lv_istore_n (lv' := [(1, .int x2), (0, .ref (ad b)), (2, .int x2)]) hx hb dX9_least_45 rfl hl (by decide) rfl (fun ls hl => ?_)
            refine lv_iinc (v := (x2 + (1 : Int32))) (lv' := [(2, .int (x2 + (1 : Int32))), (1, .int x2), (0, .ref (ad b))]) hx hb dX9_least_46 hl (k := 2) rfl rfl (by decide) rfl (fun ls hl => ?_)
            refine lv_goto (tgt := 4) hx hb dX9_least_49 (by decide) ?_
            exact ih _ _ _ _ _ hW (lv_sub hl [2, 1, 0] rfl) h
set_option maxHeartbeats 4000000 in
set_option maxRecDepth 100000 in
theorem mX9_least {l : Launch} {D : va_G} {ct : Nat → ClassId} {J : List Nat} {ad : Nat → Nat} {c0 : CF} {b : Nat} {st : MS} (hB_st : MoB ct J ad c0 b st) {r : Int32} (h : fX9_least   st = some r) : Mi l D ct J ad yX9_least cX9_least 3 (some .int) (rr 2 45) [.ref (ad b)] c0 r (fun c' => c' = c0) := by
  refine Mi_of (own := RX9) (by decide) rfl (Nat.le_of_ble_eq_true rfl) (fun p e s m below meth cd hE hr hlk hW ls hl => ?_)
  have hx := hE.1
  have hb := hE.2.1
  have hl : lv_has ls 3 [(0, .ref (ad b))] := hl
  rw [fX9_least] at h
  refine lv_iconst (v := (-1 : Int32)) hx hb dX9_least_0 (by decide) ?_
  refine lv_istore_n (lv' := [(1, .int (-1 : Int32)), (0, .ref (ad b))]) hx hb dX9_least_1 rfl hl (by decide) rfl (fun ls hl => ?_)
  refine lv_iconst (v := (0 : Int32)) hx hb dX9_least_2 (by decide) ?_
  refine lv_istore_n (lv' := [(2, .int (0 : Int32)), (1, .int (-1 : Int32)), (0, .ref (ad b))]) hx hb dX9_least_3 rfl hl (by decide) rfl (fun ls hl => ?_)
  exact wX9_least_4 hE hr hlk hB_st _ _ _ _ _ _ hW (lv_sub hl [2, 1, 0] rfl) h
set_option maxHeartbeats 4000000 in
set_option maxRecDepth 100000 in
theorem wX9_shares_188 {p : Program} {l : Launch} {e : Env} {s : State} {m : MethodId} {args : Array Value} {below : List Frame} {meth : Method} {cd : Code} {D : va_G} {ct : Nat → ClassId} {J : List Nat} {ad : Nat → Nat} {c0 : CF} {b : Nat} (hE : ME p s m cd args D ct cX9_shares RX9 6) (hr : meth.sig.returnType = (some .int)) (hlk : meth.locks = false) {r : Int32} {st9 : MS} : ∀ (n : Nat) (x4 : Int32) (x5 : Int32) (st : MS) (c : CF) (H : Heap) (locs : List Loc) (ls : Array Slot), HW D J ad c (aA J ad s.heap.size) s.heap H locs → MoB ct J ad c b st → Fr c0 c b 19 → lv_has ls 6 [(0, .ref (ad b)), (4, .int x4), (5, .int x5)] → fX9_shares_188 n x4 x5 st = some (r, st9) → W p l e (rr 3 67) s m args below meth cd H locs 0 0 (MQ below (Qi D J ad s.heap.size r (fun c' => MoB ct J ad c' b st9 ∧ Fr c0 c' b 19)) args s 0 0 (aA J ad s.heap.size)) (F0 m 188 ls []) := by
  have hx := hE.1
  have hb := hE.2.1
  intro n
  induction n with
  | zero =>
    intro x4 x5 st c H locs ls hW hB_st hF hl h
    have h2 : (none : Option (Int32 × MS)) = some (r, st9) := h
    cases h2
  | succ n ih =>
    intro x4 x5 st c H locs ls hW hB_st hF hl h
    rw [fX9_shares_188] at h
    refine lv_iload hx hb dX9_shares_188 (lv_at hl 2 rfl) ?_
    refine lv_iconst (v := (4 : Int32)) hx hb dX9_shares_190 (by decide) ?_
    refine lv_icmp_ge (tgt := 229) hx hb dX9_shares_191 (by decide) (fun k_8 => ?_) (fun k_8 => ?_)
    · have h := it_t k_8 h
      refine lv_iload hx hb dX9_shares_229 (lv_at hl 1 rfl) ?_
      obtain ⟨rfl, rfl⟩ := Prod.mk.inj (Option.some.inj h)
      exact k_iret hE hr hlk hW ⟨hB_st, hF⟩ rfl dX9_shares_231
    · have h := it_f k_8 h
      refine lv_iload hx hb dX9_shares_194 (lv_at hl 1 rfl) ?_
      refine lv_aload_n hx hb dX9_shares_196 rfl (lv_at hl 0 rfl) ?_
      refine lv_iload hx hb dX9_shares_197 (lv_at hl 2 rfl) ?_
      refine lv_sipush (v := (1272 : Int32)) hx hb dX9_shares_199 (by decide) ?_
      obtain ⟨r_9, hr_9, h⟩ := zb_e h
      refine k_callVi (rest := [.int x4]) hE hW hl.1 (mX9_at hB_st hr_9) hB_st.o hB_st.obj rfl q934 q936 qs87 q10 q937 hd_X9_at ⟨Nat.le_of_ble_eq_true rfl, Nat.le_of_ble_eq_true rfl⟩ ⟨rfl, rfl⟩ rfl (Nat.le_of_ble_eq_true rfl) dX9_shares_202 ⟨Nat.zero_le _, Nat.zero_le _⟩ (fun c1 H locs hP hW => ?_)
      rw [hP] at hW
      refine lv_aload_n hx hb dX9_shares_205 rfl (lv_at hl 0 rfl) ?_
      refine k_get (v := .ref (ad (b + 1 + 6))) hE hW hB_st.o hB_st.obj rfl inX9 8 (by decide) q876 rfl dX9_shares_206 ?_
      refine lv_iload hx hb dX9_shares_209 (lv_at hl 2 rfl) ?_
      obtain ⟨g_10, h⟩ := zi_e h
      refine k_iald hE hW (hB_st.memA 6 (Nat.le_of_ble_eq_true rfl)) (hB_st.arr 6 rfl) g_10 dX9_shares_211 ?_
      refine lv_icmp_eq (tgt := 219) hx hb dX9_shares_212 (by decide) (fun k_11 => ?_) (fun k_11 => ?_)
      · have h := it_t k_11 h
        refine lv_iconst (v := (0 : Int32)) hx hb dX9_shares_219 (by decide) ?_
        refine lv_iadd hx hb dX9_shares_220 ?_
        refine lv_istore (lv' := [(4, .int (x4 + (0 : Int32))), (0, .ref (ad b)), (5, .int x5)]) hx hb dX9_shares_221 hl (by decide) rfl (fun ls hl => ?_)
        refine lv_iinc (v := (x5 + (1 : Int32))) (lv' := [(5, .int (x5 + (1 : Int32))), (4, .int (x4 + (0 : Int32))), (0, .ref (ad b))]) hx hb dX9_shares_223 hl (k := 2) rfl rfl (by decide) rfl (fun ls hl => ?_)
        refine lv_goto (tgt := 188) hx hb dX9_shares_226 (by decide) ?_
        exact ih _ _ _ _ _ _ _ hW hB_st hF (lv_sub hl [2, 1, 0] rfl) h
      · have h := it_f k_11 h
        refine lv_iconst (v := (1 : Int32)) hx hb dX9_shares_215 (by decide) ?_
        refine lv_goto (tgt := 220) hx hb dX9_shares_216 (by decide) ?_
        refine lv_iadd hx hb dX9_shares_220 ?_
        refine lv_istore (lv' := [(4, .int (x4 + (1 : Int32))), (0, .ref (ad b)), (5, .int x5)]) hx hb dX9_shares_221 hl (by decide) rfl (fun ls hl => ?_)
        refine lv_iinc (v := (x5 + (1 : Int32))) (lv' := [(5, .int (x5 + (1 : Int32))), (4, .int (x4 + (1 : Int32))), (0, .ref (ad b))]) hx hb dX9_shares_223 hl (k := 2) rfl rfl (by decide) rfl (fun ls hl => ?_)
        refine lv_goto (tgt := 188) hx hb dX9_shares_226 (by decide) ?_
        exact ih _ _ _ _ _ _ _ hW hB_st hF (lv_sub hl [2, 1, 0] rfl) h
set_option maxHeartbeats 4000000 in
set_option maxRecDepth 100000 in
theorem wX9_shares_148 {p : Program} {l : Launch} {e : Env} {s : State} {m : MethodId} {args : Array Value} {below : List Frame} {meth : Method} {cd : Code} {D : va_G} {ct : Nat → ClassId} {J : List Nat} {ad : Nat → Nat} {c0 : CF} {b : Nat} (hE : ME p s m cd args D ct cX9_shares RX9 6) (hr : meth.sig.returnType = (some .int)) (hlk : meth.locks = false) {x4 : Int32} {r : Int32} {st9 : MS} : ∀ (n : Nat) (x5 : Int32) (st : MS) (c : CF) (H : Heap) (locs : List Loc) (ls : Array Slot), HW D J ad c (aA J ad s.heap.size) s.heap H locs → MoB ct J ad c b st → Fr c0 c b 19 → lv_has ls 6 [(0, .ref (ad b)), (4, .int x4), (5, .int x5)] → fX9_shares_148 x4 n x5 st = some (r, st9) → W p l e (rr 3 67) s m args below meth cd H locs 0 0 (MQ below (Qi D J ad s.heap.size r (fun c' => MoB ct J ad c' b st9 ∧ Fr c0 c' b 19)) args s 0 0 (aA J ad s.heap.size)) (F0 m 148 ls []) := by
  have hx := hE.1
  have hb := hE.2.1
  intro n
  induction n with
  | zero =>
    intro x5 st c H locs ls hW hB_st hF hl h
    have h2 : (none : Option (Int32 × MS)) = some (r, st9) := h
    cases h2
  | succ n ih =>
    intro x5 st c H locs ls hW hB_st hF hl h
    rw [fX9_shares_148] at h
    refine lv_iload hx hb dX9_shares_148 (lv_at hl 2 rfl) ?_
    refine lv_iconst (v := (4 : Int32)) hx hb dX9_shares_150 (by decide) ?_
    refine lv_icmp_ge (tgt := 185) hx hb dX9_shares_151 (by decide) (fun k_7 => ?_) (fun k_7 => ?_)
    · have h := it_t k_7 h
      refine lv_iconst (v := (0 : Int32)) hx hb dX9_shares_185 (by decide) ?_
      refine lv_istore (lv' := [(5, .int (0 : Int32)), (0, .ref (ad b)), (4, .int x4)]) hx hb dX9_shares_186 hl (by decide) rfl (fun ls hl => ?_)
      exact wX9_shares_188 hE hr hlk _ _ _ _ _ _ _ _ hW hB_st hF (lv_sub hl [1, 2, 0] rfl) h
    · have h := it_f k_7 h
      refine lv_aload_n hx hb dX9_shares_154 rfl (lv_at hl 0 rfl) ?_
      refine lv_iload hx hb dX9_shares_155 (lv_at hl 2 rfl) ?_
      refine lv_sipush (v := (1272 : Int32)) hx hb dX9_shares_157 (by decide) ?_
      obtain ⟨r_12, hr_12, h⟩ := zb_e h
      refine k_callVi (rest := []) hE hW hl.1 (mX9_at hB_st hr_12) hB_st.o hB_st.obj rfl q934 q936 qs87 q10 q937 hd_X9_at ⟨Nat.le_of_ble_eq_true rfl, Nat.le_of_ble_eq_true rfl⟩ ⟨rfl, rfl⟩ rfl (Nat.le_of_ble_eq_true rfl) dX9_shares_160 ⟨Nat.zero_le _, Nat.zero_le _⟩ (fun c1 H locs hP hW => ?_)
      rw [hP] at hW
      refine lv_if_ge (tgt := 179) hx hb dX9_shares_163 (by decide) (fun k_13 => ?_) (fun k_13 => ?_)
      · have h := it_t k_13 h
        refine lv_iinc (v := (x5 + (1 : Int32))) (lv' := [(5, .int (x5 + (1 : Int32))), (0, .ref (ad b)), (4, .int x4)]) hx hb dX9_shares_179 hl (k := 2) rfl rfl (by decide) rfl (fun ls hl => ?_)
        refine lv_goto (tgt := 148) hx hb dX9_shares_182 (by decide) ?_
        exact ih _ _ _ _ _ _ hW hB_st hF (lv_sub hl [1, 2, 0] rfl) h
      · have h := it_f k_13 h
        refine lv_aload_n hx hb dX9_shares_166 rfl (lv_at hl 0 rfl) ?_
        refine lv_iload hx hb dX9_shares_167 (lv_at hl 2 rfl) ?_
        refine lv_sipush (v := (1272 : Int32)) hx hb dX9_shares_169 (by decide) ?_
        refine lv_aload_n hx hb dX9_shares_172 rfl (lv_at hl 0 rfl) ?_
        obtain ⟨r_14, hr_14, h⟩ := zb_e h
        refine k_callVi (rest := [.int (1272 : Int32), .int x5, .ref (ad b)]) hE hW hl.1 (mX9_least hB_st hr_14) hB_st.o hB_st.obj rfl q1174 q1176 qs119 q10 q1177 hd_X9_least ⟨Nat.le_of_ble_eq_true rfl, Nat.le_of_ble_eq_true rfl⟩ ⟨rfl, rfl⟩ rfl (Nat.le_of_ble_eq_true rfl) dX9_shares_173 ⟨Nat.zero_le _, Nat.zero_le _⟩ (fun c1 H locs hP hW => ?_)
        rw [hP] at hW
        obtain ⟨st_15, hst_15, h⟩ := zb_e h
        refine k_callVv (rest := []) hE hW hl.1 (mX9_sets hB_st hst_15) hB_st.o hB_st.obj rfl q864 q866 qs85 q10 q867 hd_X9_sets ⟨Nat.le_of_ble_eq_true rfl, Nat.le_of_ble_eq_true rfl⟩ ⟨rfl, rfl⟩ rfl (Nat.le_of_ble_eq_true rfl) dX9_shares_176 ⟨Nat.zero_le _, Nat.zero_le _⟩ (fun c1 H locs hP hW => ?_)
        obtain ⟨c, hB_st, hF, hW⟩ : ∃ c', MoB ct J ad c' b st_15 ∧ Fr c0 c' b 19 ∧ HW D J ad c' (aA J ad s.heap.size) s.heap H locs := ⟨c1, hP.1, hF.trans hP.2, hW⟩
        refine lv_iinc (v := (x5 + (1 : Int32))) (lv' := [(5, .int (x5 + (1 : Int32))), (0, .ref (ad b)), (4, .int x4)]) hx hb dX9_shares_179 hl (k := 2) rfl rfl (by decide) rfl (fun ls hl => ?_)
        refine lv_goto (tgt := 148) hx hb dX9_shares_182 (by decide) ?_
        exact ih _ _ _ _ _ _ hW hB_st hF (lv_sub hl [1, 2, 0] rfl) h
set_option maxHeartbeats 4000000 in
set_option maxRecDepth 100000 in
theorem wX9_shares_121 {p : Program} {l : Launch} {e : Env} {s : State} {m : MethodId} {args : Array Value} {below : List Frame} {meth : Method} {cd : Code} {D : va_G} {ct : Nat → ClassId} {J : List Nat} {ad : Nat → Nat} {c0 : CF} {b : Nat} (hE : ME p s m cd args D ct cX9_shares RX9 6) (hr : meth.sig.returnType = (some .int)) (hlk : meth.locks = false) {x1 : Int32} {x2 : Int32} {r : Int32} {st9 : MS} {K84 : Int32 → Int32 → MS → Option (Int32 × MS)} (hK84 : ∀ (x3 : Int32) (x4 : Int32) (st : MS) (c : CF) (H : Heap) (locs : List Loc) (ls : Array Slot), HW D J ad c (aA J ad s.heap.size) s.heap H locs → MoB ct J ad c b st → Fr c0 c b 19 → lv_has ls 6 [(0, .ref (ad b)), (1, .int x1), (2, .int x2), (3, .int x3), (4, .int x4)] → K84 x3 x4 st = some (r, st9) → W p l e (rr 3 67) s m args below meth cd H locs 0 0 (MQ below (Qi D J ad s.heap.size r (fun c' => MoB ct J ad c' b st9 ∧ Fr c0 c' b 19)) args s 0 0 (aA J ad s.heap.size)) (F0 m 84 ls [])) : ∀ (x3 : Int32) (x4 : Int32) (y0 : Int32) (y1 : Int32) (st : MS) (c : CF) (H : Heap) (locs : List Loc) (ls : Array Slot), HW D J ad c (aA J ad s.heap.size) s.heap H locs → MoB ct J ad c b st → Fr c0 c b 19 → lv_has ls 6 [(0, .ref (ad b)), (1, .int x1), (2, .int x2), (3, .int x3), (4, .int x4)] → fX9_shares_121 x1 x2 K84 x3 x4 y0 y1 st = some (r, st9) → W p l e (rr 3 67) s m args below meth cd H locs 0 0 (MQ below (Qi D J ad s.heap.size r (fun c' => MoB ct J ad c' b st9 ∧ Fr c0 c' b 19)) args s 0 0 (aA J ad s.heap.size)) (F0 m 121 ls [.int y0, .int y1, .ref (ad b)]) := by
  have hx := hE.1
  have hb := hE.2.1
  intro x3 x4 y0 y1 st c H locs ls hW hB_st hF hl h
  rw [fX9_shares_121] at h
  obtain ⟨st_21, hst_21, h⟩ := zb_e h
  refine k_callVv (rest := []) hE hW hl.1 (mX9_lets hB_st hst_21) hB_st.o hB_st.obj rfl q1170 q1172 qs118 q10 q1173 hd_X9_lets ⟨Nat.le_of_ble_eq_true rfl, Nat.le_of_ble_eq_true rfl⟩ ⟨rfl, rfl⟩ rfl (Nat.le_of_ble_eq_true rfl) dX9_shares_121 ⟨Nat.zero_le _, Nat.zero_le _⟩ (fun c1 H locs hP hW => ?_)
  obtain ⟨c, hB_st, hF, hW⟩ : ∃ c', MoB ct J ad c' b st_21 ∧ Fr c0 c' b 19 ∧ HW D J ad c' (aA J ad s.heap.size) s.heap H locs := ⟨c1, hP.1, hF.trans hP.2, hW⟩
  refine lv_iload_n hx hb dX9_shares_124 rfl (lv_at hl 3 rfl) ?_
  refine lv_iload_n hx hb dX9_shares_125 rfl (lv_at hl 3 rfl) ?_
  refine lv_if_le (tgt := 133) hx hb dX9_shares_126 (by decide) (fun k_22 => ?_) (fun k_22 => ?_)
  · have h := it_t k_22 h
    refine lv_iconst (v := (0 : Int32)) hx hb dX9_shares_133 (by decide) ?_
    refine lv_isub hx hb dX9_shares_134 ?_
    refine lv_istore_n (lv' := [(3, .int (x3 - (0 : Int32))), (0, .ref (ad b)), (1, .int x1), (2, .int x2), (4, .int x4)]) hx hb dX9_shares_135 rfl hl (by decide) rfl (fun ls hl => ?_)
    refine lv_iinc (v := (x4 + (1 : Int32))) (lv' := [(4, .int (x4 + (1 : Int32))), (3, .int (x3 - (0 : Int32))), (0, .ref (ad b)), (1, .int x1), (2, .int x2)]) hx hb dX9_shares_136 hl (k := 4) rfl rfl (by decide) rfl (fun ls hl => ?_)
    refine lv_goto (tgt := 84) hx hb dX9_shares_139 (by decide) ?_
    exact hK84 _ _ _ _ _ _ _ hW hB_st hF (lv_sub hl [2, 3, 4, 1, 0] rfl) h
  · have h := it_f k_22 h
    refine lv_iconst (v := (1 : Int32)) hx hb dX9_shares_129 (by decide) ?_
    refine lv_goto (tgt := 134) hx hb dX9_shares_130 (by decide) ?_
    refine lv_isub hx hb dX9_shares_134 ?_
    refine lv_istore_n (lv' := [(3, .int (x3 - (1 : Int32))), (0, .ref (ad b)), (1, .int x1), (2, .int x2), (4, .int x4)]) hx hb dX9_shares_135 rfl hl (by decide) rfl (fun ls hl => ?_)
    refine lv_iinc (v := (x4 + (1 : Int32))) (lv' := [(4, .int (x4 + (1 : Int32))), (3, .int (x3 - (1 : Int32))), (0, .ref (ad b)), (1, .int x1), (2, .int x2)]) hx hb dX9_shares_136 hl (k := 4) rfl rfl (by decide) rfl (fun ls hl => ?_)
    refine lv_goto (tgt := 84) hx hb dX9_shares_139 (by decide) ?_
    exact hK84 _ _ _ _ _ _ _ hW hB_st hF (lv_sub hl [2, 3, 4, 1, 0] rfl) h
set_option maxHeartbeats 4000000 in
set_option maxRecDepth 100000 in
theorem wX9_shares_84 {p : Program} {l : Launch} {e : Env} {s : State} {m : MethodId} {args : Array Value} {below : List Frame} {meth : Method} {cd : Code} {D : va_G} {ct : Nat → ClassId} {J : List Nat} {ad : Nat → Nat} {c0 : CF} {b : Nat} (hE : ME p s m cd args D ct cX9_shares RX9 6) (hr : meth.sig.returnType = (some .int)) (hlk : meth.locks = false) {x1 : Int32} {x2 : Int32} {r : Int32} {st9 : MS} : ∀ (n : Nat) (x3 : Int32) (x4 : Int32) (st : MS) (c : CF) (H : Heap) (locs : List Loc) (ls : Array Slot), HW D J ad c (aA J ad s.heap.size) s.heap H locs → MoB ct J ad c b st → Fr c0 c b 19 → lv_has ls 6 [(0, .ref (ad b)), (1, .int x1), (2, .int x2), (3, .int x3), (4, .int x4)] → fX9_shares_84 x1 x2 n x3 x4 st = some (r, st9) → W p l e (rr 3 67) s m args below meth cd H locs 0 0 (MQ below (Qi D J ad s.heap.size r (fun c' => MoB ct J ad c' b st9 ∧ Fr c0 c' b 19)) args s 0 0 (aA J ad s.heap.size)) (F0 m 84 ls []) := by
  have hx := hE.1
  have hb := hE.2.1
  intro n
  induction n with
  | zero =>
    intro x3 x4 st c H locs ls hW hB_st hF hl h
    have h2 : (none : Option (Int32 × MS)) = some (r, st9) := h
    cases h2
  | succ n ih =>
    intro x3 x4 st c H locs ls hW hB_st hF hl h
    rw [fX9_shares_84] at h
    refine lv_iload hx hb dX9_shares_84 (lv_at hl 4 rfl) ?_
    refine lv_iconst (v := (4 : Int32)) hx hb dX9_shares_86 (by decide) ?_
    refine lv_icmp_ge (tgt := 142) hx hb dX9_shares_87 (by decide) (fun k_6 => ?_) (fun k_6 => ?_)
    · have h := it_t k_6 h
      refine lv_iconst (v := (0 : Int32)) hx hb dX9_shares_142 (by decide) ?_
      refine lv_istore (lv' := [(4, .int (0 : Int32)), (0, .ref (ad b)), (1, .int x1), (2, .int x2), (3, .int x3)]) hx hb dX9_shares_143 hl (by decide) rfl (fun ls hl => ?_)
      refine lv_iconst (v := (0 : Int32)) hx hb dX9_shares_145 (by decide) ?_
      refine lv_istore (lv' := [(5, .int (0 : Int32)), (4, .int (0 : Int32)), (0, .ref (ad b)), (1, .int x1), (2, .int x2), (3, .int x3)]) hx hb dX9_shares_146 hl (by decide) rfl (fun ls hl => ?_)
      exact wX9_shares_148 hE hr hlk _ _ _ _ _ _ _ hW hB_st hF (lv_sub hl [2, 1, 0] rfl) h
    · have h := it_f k_6 h
      refine lv_iload_n hx hb dX9_shares_90 rfl (lv_at hl 1 rfl) ?_
      refine lv_if_le (tgt := 142) hx hb dX9_shares_91 (by decide) (fun k_16 => ?_) (fun k_16 => ?_)
      · have h := it_t k_16 h
        refine lv_iconst (v := (0 : Int32)) hx hb dX9_shares_142 (by decide) ?_
        refine lv_istore (lv' := [(4, .int (0 : Int32)), (0, .ref (ad b)), (1, .int x1), (2, .int x2), (3, .int x3)]) hx hb dX9_shares_143 hl (by decide) rfl (fun ls hl => ?_)
        refine lv_iconst (v := (0 : Int32)) hx hb dX9_shares_145 (by decide) ?_
        refine lv_istore (lv' := [(5, .int (0 : Int32)), (4, .int (0 : Int32)), (0, .ref (ad b)), (1, .int x1), (2, .int x2), (3, .int x3)]) hx hb dX9_shares_146 hl (by decide) rfl (fun ls hl => ?_)
        exact wX9_shares_148 hE hr hlk _ _ _ _ _ _ _ hW hB_st hF (lv_sub hl [2, 1, 0] rfl) h
      · have h := it_f k_16 h
        refine lv_aload_n hx hb dX9_shares_94 rfl (lv_at hl 0 rfl) ?_
        refine lv_iload hx hb dX9_shares_95 (lv_at hl 4 rfl) ?_
        obtain ⟨r_17, hr_17, h⟩ := zb_e h
        refine k_callVi (rest := []) hE hW hl.1 (mX9_logsOf hB_st hr_17) hB_st.o hB_st.obj rfl q1163 q1165 qs117 q10 q1166 hd_X9_logsOf ⟨Nat.le_of_ble_eq_true rfl, Nat.le_of_ble_eq_true rfl⟩ ⟨rfl, rfl⟩ rfl (Nat.le_of_ble_eq_true rfl) dX9_shares_97 ⟨Nat.zero_le _, Nat.zero_le _⟩ (fun c1 H locs hP hW => ?_)
        rw [hP] at hW
        obtain ⟨r_18, hr_18, h⟩ := zb_e h
        refine k_callSi (rest := []) hE hW hl.1 (mX9_bits hr_18) q1167 q1168 q10 q1169 hd_X9_bits.2 ⟨Nat.le_of_ble_eq_true rfl, Nat.le_of_ble_eq_true rfl⟩ ⟨rfl, rfl⟩ rfl (Nat.le_of_ble_eq_true rfl) dX9_shares_100 ⟨Nat.zero_le _, Nat.zero_le _⟩ (fun c1 H locs hP hW => ?_)
        rw [hP] at hW
        refine lv_iload_n hx hb dX9_shares_103 rfl (lv_at hl 2 rfl) ?_
        refine lv_icmp_le (tgt := 136) hx hb dX9_shares_104 (by decide) (fun k_19 => ?_) (fun k_19 => ?_)
        · have h := it_t k_19 h
          refine lv_iinc (v := (x4 + (1 : Int32))) (lv' := [(4, .int (x4 + (1 : Int32))), (0, .ref (ad b)), (1, .int x1), (2, .int x2), (3, .int x3)]) hx hb dX9_shares_136 hl (k := 4) rfl rfl (by decide) rfl (fun ls hl => ?_)
          refine lv_goto (tgt := 84) hx hb dX9_shares_139 (by decide) ?_
          exact ih _ _ _ _ _ _ _ hW hB_st hF (lv_sub hl [1, 2, 3, 4, 0] rfl) h
        · have h := it_f k_19 h
          refine lv_aload_n hx hb dX9_shares_107 rfl (lv_at hl 0 rfl) ?_
          refine lv_iload hx hb dX9_shares_108 (lv_at hl 4 rfl) ?_
          refine lv_iload_n hx hb dX9_shares_110 rfl (lv_at hl 3 rfl) ?_
          refine lv_if_le (tgt := 120) hx hb dX9_shares_111 (by decide) (fun k_20 => ?_) (fun k_20 => ?_)
          · have h := it_t k_20 h
            refine lv_iload_n hx hb dX9_shares_120 rfl (lv_at hl 2 rfl) ?_
            exact wX9_shares_121 hE hr hlk ih _ _ _ _ _ _ _ _ _ hW hB_st hF (lv_sub hl [0, 1, 2, 3, 4] rfl) h
          · have h := it_f k_20 h
            refine lv_iload_n hx hb dX9_shares_114 rfl (lv_at hl 2 rfl) ?_
            refine lv_iconst (v := (1 : Int32)) hx hb dX9_shares_115 (by decide) ?_
            refine lv_iadd hx hb dX9_shares_116 ?_
            refine lv_goto (tgt := 121) hx hb dX9_shares_117 (by decide) ?_
            exact wX9_shares_121 hE hr hlk ih _ _ _ _ _ _ _ _ _ hW hB_st hF (lv_sub hl [0, 1, 2, 3, 4] rfl) h
set_option maxHeartbeats 4000000 in
set_option maxRecDepth 100000 in
theorem wX9_shares_74 {p : Program} {l : Launch} {e : Env} {s : State} {m : MethodId} {args : Array Value} {below : List Frame} {meth : Method} {cd : Code} {D : va_G} {ct : Nat → ClassId} {J : List Nat} {ad : Nat → Nat} {c0 : CF} {b : Nat} (hE : ME p s m cd args D ct cX9_shares RX9 6) (hr : meth.sig.returnType = (some .int)) (hlk : meth.locks = false) {r : Int32} {st9 : MS} : ∀ (x1 : Int32) (y0 : Int32) (st : MS) (c : CF) (H : Heap) (locs : List Loc) (ls : Array Slot), HW D J ad c (aA J ad s.heap.size) s.heap H locs → MoB ct J ad c b st → Fr c0 c b 19 → lv_has ls 6 [(0, .ref (ad b)), (1, .int x1)] → fX9_shares_74 x1 y0 st = some (r, st9) → W p l e (rr 3 67) s m args below meth cd H locs 0 0 (MQ below (Qi D J ad s.heap.size r (fun c' => MoB ct J ad c' b st9 ∧ Fr c0 c' b 19)) args s 0 0 (aA J ad s.heap.size)) (F0 m 74 ls [.int y0]) := by
  have hx := hE.1
  have hb := hE.2.1
  intro x1 y0 st c H locs ls hW hB_st hF hl h
  rw [fX9_shares_74] at h
  refine lv_istore_n (lv' := [(2, .int y0), (0, .ref (ad b)), (1, .int x1)]) hx hb dX9_shares_74 rfl hl (by decide) rfl (fun ls hl => ?_)
  refine lv_iconst (v := (4 : Int32)) hx hb dX9_shares_75 (by decide) ?_
  refine lv_iload_n hx hb dX9_shares_76 rfl (lv_at hl 0 rfl) ?_
  refine lv_iload_n hx hb dX9_shares_77 rfl (lv_at hl 2 rfl) ?_
  refine lv_imul hx hb dX9_shares_78 ?_
  refine lv_isub hx hb dX9_shares_79 ?_
  refine lv_topi (fun x_5 ex_5 => ?_)
  have h := zl_n h ex_5
  refine lv_istore_n (lv' := [(3, .int x_5), (2, .int y0), (0, .ref (ad b)), (1, .int x1)]) hx hb dX9_shares_80 rfl hl (by decide) rfl (fun ls hl => ?_)
  refine lv_iconst (v := (0 : Int32)) hx hb dX9_shares_81 (by decide) ?_
  refine lv_istore (lv' := [(4, .int (0 : Int32)), (3, .int x_5), (2, .int y0), (0, .ref (ad b)), (1, .int x1)]) hx hb dX9_shares_82 hl (by decide) rfl (fun ls hl => ?_)
  exact wX9_shares_84 hE hr hlk _ _ _ _ _ _ _ _ hW hB_st hF (lv_sub hl [3, 4, 2, 1, 0] rfl) h
set_option maxHeartbeats 4000000 in
set_option maxRecDepth 100000 in
theorem wX9_shares_2 {p : Program} {l : Launch} {e : Env} {s : State} {m : MethodId} {args : Array Value} {below : List Frame} {meth : Method} {cd : Code} {D : va_G} {ct : Nat → ClassId} {J : List Nat} {ad : Nat → Nat} {c0 : CF} {b : Nat} (hE : ME p s m cd args D ct cX9_shares RX9 6) (hr : meth.sig.returnType = (some .int)) (hlk : meth.locks = false) {r : Int32} {st9 : MS} : ∀ (n : Nat) (x1 : Int32) (st : MS) (c : CF) (H : Heap) (locs : List Loc) (ls : Array Slot), HW D J ad c (aA J ad s.heap.size) s.heap H locs → MoB ct J ad c b st → Fr c0 c b 19 → lv_has ls 6 [(0, .ref (ad b)), (1, .int x1)] → fX9_shares_2 n x1 st = some (r, st9) → W p l e (rr 3 67) s m args below meth cd H locs 0 0 (MQ below (Qi D J ad s.heap.size r (fun c' => MoB ct J ad c' b st9 ∧ Fr c0 c' b 19)) args s 0 0 (aA J ad s.heap.size)) (F0 m 2 ls []) := by
  have hx := hE.1
  have hb := hE.2.1
  intro n
  induction n with
  | zero =>
    intro x1 st c H locs ls hW hB_st hF hl h
    have h2 : (none : Option (Int32 × MS)) = some (r, st9) := h
    cases h2
  | succ n ih =>
    intro x1 st c H locs ls hW hB_st hF hl h
    rw [fX9_shares_2] at h
    refine lv_iload_n hx hb dX9_shares_2 rfl (lv_at hl 1 rfl) ?_
    refine lv_iconst (v := (4 : Int32)) hx hb dX9_shares_3 (by decide) ?_
    refine lv_icmp_ge (tgt := 58) hx hb dX9_shares_4 (by decide) (fun k_1 => ?_) (fun k_1 => ?_)
    · have h := it_t k_1 h
      refine lv_aload_n hx hb dX9_shares_58 rfl (lv_at hl 0 rfl) ?_
      obtain ⟨r_2, hr_2, h⟩ := zb_e h
      refine k_callVi (rest := []) hE hW hl.1 (mX9_membersIn hB_st hr_2) hB_st.o hB_st.obj rfl q1159 q1161 qs116 q10 q1162 hd_X9_membersIn ⟨Nat.le_of_ble_eq_true rfl, Nat.le_of_ble_eq_true rfl⟩ ⟨rfl, rfl⟩ rfl (Nat.le_of_ble_eq_true rfl) dX9_shares_59 ⟨Nat.zero_le _, Nat.zero_le _⟩ (fun c1 H locs hP hW => ?_)
      rw [hP] at hW
      refine lv_istore_n (lv' := [(1, .int r_2), (0, .ref (ad b))]) hx hb dX9_shares_62 rfl hl (by decide) rfl (fun ls hl => ?_)
      refine lv_iload_n hx hb dX9_shares_63 rfl (lv_at hl 0 rfl) ?_
      refine lv_if_ne (tgt := 71) hx hb dX9_shares_64 (by decide) (fun k_3 => ?_) (fun k_3 => ?_)
      · have h := it_f k_3 h
        refine lv_iconst (v := (4 : Int32)) hx hb dX9_shares_71 (by decide) ?_
        refine lv_iload_n hx hb dX9_shares_72 rfl (lv_at hl 0 rfl) ?_
        obtain ⟨g_4, h⟩ := zz_e h
        refine lv_idiv hx hb dX9_shares_73 g_4 ?_
        exact wX9_shares_74 hE hr hlk _ _ _ _ _ _ _ hW hB_st hF (lv_sub hl [1, 0] rfl) h
      · have h := it_t k_3 h
        refine lv_iconst (v := (0 : Int32)) hx hb dX9_shares_67 (by decide) ?_
        refine lv_goto (tgt := 74) hx hb dX9_shares_68 (by decide) ?_
        exact wX9_shares_74 hE hr hlk _ _ _ _ _ _ _ hW hB_st hF (lv_sub hl [1, 0] rfl) h
    · have h := it_f k_1 h
      refine lv_aload_n hx hb dX9_shares_7 rfl (lv_at hl 0 rfl) ?_
      refine k_get (v := .ref (ad (b + 1 + 6))) hE hW hB_st.o hB_st.obj rfl inX9 8 (by decide) q876 rfl dX9_shares_8 ?_
      refine lv_iload_n hx hb dX9_shares_11 rfl (lv_at hl 1 rfl) ?_
      refine lv_aload_n hx hb dX9_shares_12 rfl (lv_at hl 0 rfl) ?_
      refine lv_iload_n hx hb dX9_shares_13 rfl (lv_at hl 1 rfl) ?_
      refine lv_sipush (v := (1272 : Int32)) hx hb dX9_shares_14 (by decide) ?_
      obtain ⟨r_23, hr_23, h⟩ := zb_e h
      refine k_callVi (rest := [.int x1, .ref (ad (b + 1 + 6))]) hE hW hl.1 (mX9_at hB_st hr_23) hB_st.o hB_st.obj rfl q934 q936 qs87 q10 q937 hd_X9_at ⟨Nat.le_of_ble_eq_true rfl, Nat.le_of_ble_eq_true rfl⟩ ⟨rfl, rfl⟩ rfl (Nat.le_of_ble_eq_true rfl) dX9_shares_17 ⟨Nat.zero_le _, Nat.zero_le _⟩ (fun c1 H locs hP hW => ?_)
      rw [hP] at hW
      obtain ⟨g_24, h⟩ := zi_e h
      obtain ⟨st_25, est_25, h⟩ := zl_e h
      refine k_iast hE hW (hB_st.memA 6 (Nat.le_of_ble_eq_true rfl)) (hB_st.arr 6 rfl) g_24 dX9_shares_20 (fun H locs hW => ?_)
      obtain ⟨c, hB_st, hF, hW⟩ : ∃ c', MoB ct J ad c' b st_25 ∧ Fr c0 c' b 19 ∧ HW D J ad c' (aA J ad s.heap.size) s.heap H locs := ⟨_, hB_st.wA (k := 6) rfl est_25, hF.up (by omega) (by omega), hW⟩
      refine lv_aload_n hx hb dX9_shares_21 rfl (lv_at hl 0 rfl) ?_
      refine k_get (v := .ref (ad (b + 1 + 6))) hE hW hB_st.o hB_st.obj rfl inX9 8 (by decide) q876 rfl dX9_shares_22 ?_
      refine lv_iload_n hx hb dX9_shares_25 rfl (lv_at hl 1 rfl) ?_
      obtain ⟨g_26, h⟩ := zi_e h
      refine k_iald hE hW (hB_st.memA 6 (Nat.le_of_ble_eq_true rfl)) (hB_st.arr 6 rfl) g_26 dX9_shares_26 ?_
      refine lv_if_lt (tgt := 52) hx hb dX9_shares_27 (by decide) (fun k_27 => ?_) (fun k_27 => ?_)
      · have h := it_t k_27 h
        refine lv_iinc (v := (x1 + (1 : Int32))) (lv' := [(1, .int (x1 + (1 : Int32))), (0, .ref (ad b))]) hx hb dX9_shares_52 hl (k := 1) rfl rfl (by decide) rfl (fun ls hl => ?_)
        refine lv_goto (tgt := 2) hx hb dX9_shares_55 (by decide) ?_
        exact ih _ _ _ _ _ _ hW hB_st hF (lv_sub hl [1, 0] rfl) h
      · have h := it_f k_27 h
        refine lv_aload_n hx hb dX9_shares_30 rfl (lv_at hl 0 rfl) ?_
        refine lv_aload_n hx hb dX9_shares_31 rfl (lv_at hl 0 rfl) ?_
        refine k_get (v := .ref (ad (b + 1 + 6))) hE hW hB_st.o hB_st.obj rfl inX9 8 (by decide) q876 rfl dX9_shares_32 ?_
        refine lv_iload_n hx hb dX9_shares_35 rfl (lv_at hl 1 rfl) ?_
        obtain ⟨g_28, h⟩ := zi_e h
        refine k_iald hE hW (hB_st.memA 6 (Nat.le_of_ble_eq_true rfl)) (hB_st.arr 6 rfl) g_28 dX9_shares_36 ?_
        obtain ⟨r_29, hr_29, h⟩ := zb_e h
        refine k_callVi (rest := []) hE hW hl.1 (mX9_isIn hB_st hr_29) hB_st.o hB_st.obj rfl q1151 q1153 qs114 q10 q1154 hd_X9_isIn ⟨Nat.le_of_ble_eq_true rfl, Nat.le_of_ble_eq_true rfl⟩ ⟨rfl, rfl⟩ rfl (Nat.le_of_ble_eq_true rfl) dX9_shares_37 ⟨Nat.zero_le _, Nat.zero_le _⟩ (fun c1 H locs hP hW => ?_)
        rw [hP] at hW
        refine lv_if_ne (tgt := 52) hx hb dX9_shares_40 (by decide) (fun k_30 => ?_) (fun k_30 => ?_)
        · have h := it_f k_30 h
          refine lv_iinc (v := (x1 + (1 : Int32))) (lv' := [(1, .int (x1 + (1 : Int32))), (0, .ref (ad b))]) hx hb dX9_shares_52 hl (k := 1) rfl rfl (by decide) rfl (fun ls hl => ?_)
          refine lv_goto (tgt := 2) hx hb dX9_shares_55 (by decide) ?_
          exact ih _ _ _ _ _ _ hW hB_st hF (lv_sub hl [1, 0] rfl) h
        · have h := it_t k_30 h
          refine lv_aload_n hx hb dX9_shares_43 rfl (lv_at hl 0 rfl) ?_
          refine lv_iload_n hx hb dX9_shares_44 rfl (lv_at hl 1 rfl) ?_
          refine lv_sipush (v := (1272 : Int32)) hx hb dX9_shares_45 (by decide) ?_
          refine lv_iconst (v := (-1 : Int32)) hx hb dX9_shares_48 (by decide) ?_
          obtain ⟨st_31, hst_31, h⟩ := zb_e h
          refine k_callVv (rest := []) hE hW hl.1 (mX9_sets hB_st hst_31) hB_st.o hB_st.obj rfl q864 q866 qs85 q10 q867 hd_X9_sets ⟨Nat.le_of_ble_eq_true rfl, Nat.le_of_ble_eq_true rfl⟩ ⟨rfl, rfl⟩ rfl (Nat.le_of_ble_eq_true rfl) dX9_shares_49 ⟨Nat.zero_le _, Nat.zero_le _⟩ (fun c1 H locs hP hW => ?_)
          obtain ⟨c, hB_st, hF, hW⟩ : ∃ c', MoB ct J ad c' b st_31 ∧ Fr c0 c' b 19 ∧ HW D J ad c' (aA J ad s.heap.size) s.heap H locs := ⟨c1, hP.1, hF.trans hP.2, hW⟩
          refine lv_iinc (v := (x1 + (1 : Int32))) (lv' := [(1, .int (x1 + (1 : Int32))), (0, .ref (ad b))]) hx hb dX9_shares_52 hl (k := 1) rfl rfl (by decide) rfl (fun ls hl => ?_)
          refine lv_goto (tgt := 2) hx hb dX9_shares_55 (by decide) ?_
          exact ih _ _ _ _ _ _ hW hB_st hF (lv_sub hl [1, 0] rfl) h
set_option maxHeartbeats 4000000 in
set_option maxRecDepth 100000 in
theorem mX9_shares {l : Launch} {D : va_G} {ct : Nat → ClassId} {J : List Nat} {ad : Nat → Nat} {c0 : CF} {b : Nat} {st : MS} (hB_st : MoB ct J ad c0 b st) {r : Int32} {st9 : MS} (h : fX9_shares   st = some (r, st9)) : Mi l D ct J ad yX9_shares cX9_shares 6 (some .int) (rr 3 67) [.ref (ad b)] c0 r (fun c' => MoB ct J ad c' b st9 ∧ Fr c0 c' b 19) := by
  refine Mi_of (own := RX9) (by decide) rfl (Nat.le_of_ble_eq_true rfl) (fun p e s m below meth cd hE hr hlk hW ls hl => ?_)
  have hx := hE.1
  have hb := hE.2.1
  have hl : lv_has ls 6 [(0, .ref (ad b))] := hl
  rw [fX9_shares] at h
  obtain ⟨c, hB_st, hF, hW⟩ : ∃ c', MoB ct J ad c' b st ∧ Fr c0 c' b 19 ∧ HW D J ad c' (aA J ad s.heap.size) s.heap s.heap [] := ⟨c0, hB_st, Fr.rf, hW⟩
  refine lv_iconst (v := (0 : Int32)) hx hb dX9_shares_0 (by decide) ?_
  refine lv_istore_n (lv' := [(1, .int (0 : Int32)), (0, .ref (ad b))]) hx hb dX9_shares_1 rfl hl (by decide) rfl (fun ls hl => ?_)
  exact wX9_shares_2 hE hr hlk _ _ _ _ _ _ _ hW hB_st hF (lv_sub hl [1, 0] rfl) h
set_option maxHeartbeats 4000000 in
set_option maxRecDepth 100000 in
theorem mX9_join {l : Launch} {D : va_G} {ct : Nat → ClassId} {J : List Nat} {ad : Nat → Nat} {c0 : CF} {a1 : Int32} {b : Nat} {st : MS} (hB_st : MoB ct J ad c0 b st) {r : Int32} {st9 : MS} (h : fX9_join  a1 st = some (r, st9)) : Mi l D ct J ad yX9_join cX9_join 2 (some .int) (rr 4 92) [.ref (ad b), .int a1] c0 r (fun c' => MoB ct J ad c' b st9 ∧ Fr c0 c' b 19) := by
  refine Mi_of (own := RX9) (by decide) rfl (Nat.le_of_ble_eq_true rfl) (fun p e s m below meth cd hE hr hlk hW ls hl => ?_)
  have hx := hE.1
  have hb := hE.2.1
  have hl : lv_has ls 2 [(0, .ref (ad b)), (1, .int a1)] := hl
  rw [fX9_join] at h
  obtain ⟨c, hB_st, hF, hW⟩ : ∃ c', MoB ct J ad c' b st ∧ Fr c0 c' b 19 ∧ HW D J ad c' (aA J ad s.heap.size) s.heap s.heap [] := ⟨c0, hB_st, Fr.rf, hW⟩
  refine lv_iload_n hx hb dX9_join_0 rfl (lv_at hl 1 rfl) ?_
  obtain ⟨r_1, hr_1, h⟩ := zb_e h
  refine k_callSi (rest := []) hE hW hl.1 (mX9_isLog hr_1) q928 q929 q10 q930 hd_X9_isLog.2 ⟨Nat.le_of_ble_eq_true rfl, Nat.le_of_ble_eq_true rfl⟩ ⟨rfl, rfl⟩ rfl (Nat.le_of_ble_eq_true rfl) dX9_join_1 ⟨Nat.zero_le _, Nat.zero_le _⟩ (fun c1 H locs hP hW => ?_)
  rw [hP] at hW
  refine lv_if_ne (tgt := 9) hx hb dX9_join_4 (by decide) (fun k_2 => ?_) (fun k_2 => ?_)
  · have h := it_f k_2 h
    refine lv_aload_n hx hb dX9_join_9 rfl (lv_at hl 0 rfl) ?_
    refine lv_iload_n hx hb dX9_join_10 rfl (lv_at hl 1 rfl) ?_
    obtain ⟨r_3, hr_3, h⟩ := zb_e h
    refine k_callVi (rest := []) hE hW hl.1 (mX9_isIn hB_st hr_3) hB_st.o hB_st.obj rfl q1151 q1153 qs114 q10 q1154 hd_X9_isIn ⟨Nat.le_of_ble_eq_true rfl, Nat.le_of_ble_eq_true rfl⟩ ⟨rfl, rfl⟩ rfl (Nat.le_of_ble_eq_true rfl) dX9_join_11 ⟨Nat.zero_le _, Nat.zero_le _⟩ (fun c1 H locs hP hW => ?_)
    rw [hP] at hW
    refine lv_if_eq (tgt := 20) hx hb dX9_join_14 (by decide) (fun k_4 => ?_) (fun k_4 => ?_)
    · have h := it_t k_4 h
      refine lv_aload_n hx hb dX9_join_20 rfl (lv_at hl 0 rfl) ?_
      refine k_get (v := .ref (ad (b + 1 + 0))) hE hW hB_st.o hB_st.obj rfl inX9 0 (by decide) q868 rfl dX9_join_21 ?_
      refine lv_sipush (v := (5101 : Int32)) hx hb dX9_join_24 (by decide) ?_
      refine lv_dup2_11 hx hb dX9_join_27 rfl rfl ?_
      obtain ⟨g_5, h⟩ := zi_e h
      refine k_iald hE hW (hB_st.memA 0 (Nat.le_of_ble_eq_true rfl)) (hB_st.arr 0 rfl) g_5 dX9_join_28 ?_
      refine lv_iconst (v := (1 : Int32)) hx hb dX9_join_29 (by decide) ?_
      refine lv_iload_n hx hb dX9_join_30 rfl (lv_at hl 1 rfl) ?_
      refine lv_ishl hx hb dX9_join_31 ?_
      refine lv_ior hx hb dX9_join_32 ?_
      obtain ⟨g_6, h⟩ := zi_e h
      obtain ⟨st_7, est_7, h⟩ := zl_e h
      refine k_iast hE hW (hB_st.memA 0 (Nat.le_of_ble_eq_true rfl)) (hB_st.arr 0 rfl) g_6 dX9_join_33 (fun H locs hW => ?_)
      obtain ⟨c, hB_st, hF, hW⟩ : ∃ c', MoB ct J ad c' b st_7 ∧ Fr c0 c' b 19 ∧ HW D J ad c' (aA J ad s.heap.size) s.heap H locs := ⟨_, hB_st.wA (k := 0) rfl est_7, hF.up (by omega) (by omega), hW⟩
      refine lv_aload_n hx hb dX9_join_34 rfl (lv_at hl 0 rfl) ?_
      obtain ⟨r_8, st_9, hr_8, h⟩ := zb2_e h
      refine k_callVi (rest := []) hE hW hl.1 (mX9_shares hB_st hr_8) hB_st.o hB_st.obj rfl q1155 q1157 qs115 q10 q1158 hd_X9_shares ⟨Nat.le_of_ble_eq_true rfl, Nat.le_of_ble_eq_true rfl⟩ ⟨rfl, rfl⟩ rfl (Nat.le_of_ble_eq_true rfl) dX9_join_35 ⟨Nat.zero_le _, Nat.zero_le _⟩ (fun c1 H locs hP hW => ?_)
      obtain ⟨c, hB_st, hF, hW⟩ : ∃ c', MoB ct J ad c' b st_9 ∧ Fr c0 c' b 19 ∧ HW D J ad c' (aA J ad s.heap.size) s.heap H locs := ⟨c1, hP.1, hF.trans hP.2, hW⟩
      obtain ⟨rfl, rfl⟩ := Prod.mk.inj (Option.some.inj h)
      exact k_iret hE hr hlk hW ⟨hB_st, hF⟩ rfl dX9_join_38
    · have h := it_f k_4 h
      refine lv_bipush (v := (-3 : Int32)) hx hb dX9_join_17 (by decide) ?_
      obtain ⟨rfl, rfl⟩ := Prod.mk.inj (Option.some.inj h)
      exact k_iret hE hr hlk hW ⟨hB_st, hF⟩ rfl dX9_join_19
  · have h := it_t k_2 h
    refine lv_iconst (v := (-1 : Int32)) hx hb dX9_join_7 (by decide) ?_
    obtain ⟨rfl, rfl⟩ := Prod.mk.inj (Option.some.inj h)
    exact k_iret hE hr hlk hW ⟨hB_st, hF⟩ rfl dX9_join_8
set_option maxHeartbeats 4000000 in
set_option maxRecDepth 100000 in
theorem mX9_leave {l : Launch} {D : va_G} {ct : Nat → ClassId} {J : List Nat} {ad : Nat → Nat} {c0 : CF} {a1 : Int32} {b : Nat} {st : MS} (hB_st : MoB ct J ad c0 b st) {r : Int32} {st9 : MS} (h : fX9_leave  a1 st = some (r, st9)) : Mi l D ct J ad yX9_leave cX9_leave 2 (some .int) (rr 4 92) [.ref (ad b), .int a1] c0 r (fun c' => MoB ct J ad c' b st9 ∧ Fr c0 c' b 19) := by
  refine Mi_of (own := RX9) (by decide) rfl (Nat.le_of_ble_eq_true rfl) (fun p e s m below meth cd hE hr hlk hW ls hl => ?_)
  have hx := hE.1
  have hb := hE.2.1
  have hl : lv_has ls 2 [(0, .ref (ad b)), (1, .int a1)] := hl
  rw [fX9_leave] at h
  obtain ⟨c, hB_st, hF, hW⟩ : ∃ c', MoB ct J ad c' b st ∧ Fr c0 c' b 19 ∧ HW D J ad c' (aA J ad s.heap.size) s.heap s.heap [] := ⟨c0, hB_st, Fr.rf, hW⟩
  refine lv_iload_n hx hb dX9_leave_0 rfl (lv_at hl 1 rfl) ?_
  obtain ⟨r_1, hr_1, h⟩ := zb_e h
  refine k_callSi (rest := []) hE hW hl.1 (mX9_isLog hr_1) q928 q929 q10 q930 hd_X9_isLog.2 ⟨Nat.le_of_ble_eq_true rfl, Nat.le_of_ble_eq_true rfl⟩ ⟨rfl, rfl⟩ rfl (Nat.le_of_ble_eq_true rfl) dX9_leave_1 ⟨Nat.zero_le _, Nat.zero_le _⟩ (fun c1 H locs hP hW => ?_)
  rw [hP] at hW
  refine lv_if_ne (tgt := 9) hx hb dX9_leave_4 (by decide) (fun k_2 => ?_) (fun k_2 => ?_)
  · have h := it_f k_2 h
    refine lv_aload_n hx hb dX9_leave_9 rfl (lv_at hl 0 rfl) ?_
    refine lv_iload_n hx hb dX9_leave_10 rfl (lv_at hl 1 rfl) ?_
    obtain ⟨r_3, hr_3, h⟩ := zb_e h
    refine k_callVi (rest := []) hE hW hl.1 (mX9_isIn hB_st hr_3) hB_st.o hB_st.obj rfl q1151 q1153 qs114 q10 q1154 hd_X9_isIn ⟨Nat.le_of_ble_eq_true rfl, Nat.le_of_ble_eq_true rfl⟩ ⟨rfl, rfl⟩ rfl (Nat.le_of_ble_eq_true rfl) dX9_leave_11 ⟨Nat.zero_le _, Nat.zero_le _⟩ (fun c1 H locs hP hW => ?_)
    rw [hP] at hW
    refine lv_if_ne (tgt := 20) hx hb dX9_leave_14 (by decide) (fun k_4 => ?_) (fun k_4 => ?_)
    · have h := it_f k_4 h
      refine lv_aload_n hx hb dX9_leave_20 rfl (lv_at hl 0 rfl) ?_
      refine k_get (v := .ref (ad (b + 1 + 0))) hE hW hB_st.o hB_st.obj rfl inX9 0 (by decide) q868 rfl dX9_leave_21 ?_
      refine lv_sipush (v := (5101 : Int32)) hx hb dX9_leave_24 (by decide) ?_
      refine lv_dup2_11 hx hb dX9_leave_27 rfl rfl ?_
      obtain ⟨g_5, h⟩ := zi_e h
      refine k_iald hE hW (hB_st.memA 0 (Nat.le_of_ble_eq_true rfl)) (hB_st.arr 0 rfl) g_5 dX9_leave_28 ?_
      refine lv_iconst (v := (1 : Int32)) hx hb dX9_leave_29 (by decide) ?_
      refine lv_iload_n hx hb dX9_leave_30 rfl (lv_at hl 1 rfl) ?_
      refine lv_ishl hx hb dX9_leave_31 ?_
      refine lv_iconst (v := (-1 : Int32)) hx hb dX9_leave_32 (by decide) ?_
      refine lv_ixor hx hb dX9_leave_33 ?_
      refine lv_iand hx hb dX9_leave_34 ?_
      obtain ⟨g_6, h⟩ := zi_e h
      obtain ⟨st_7, est_7, h⟩ := zl_e h
      refine k_iast hE hW (hB_st.memA 0 (Nat.le_of_ble_eq_true rfl)) (hB_st.arr 0 rfl) g_6 dX9_leave_35 (fun H locs hW => ?_)
      obtain ⟨c, hB_st, hF, hW⟩ : ∃ c', MoB ct J ad c' b st_7 ∧ Fr c0 c' b 19 ∧ HW D J ad c' (aA J ad s.heap.size) s.heap H locs := ⟨_, hB_st.wA (k := 0) rfl est_7, hF.up (by omega) (by omega), hW⟩
      refine lv_aload_n hx hb dX9_leave_36 rfl (lv_at hl 0 rfl) ?_
      obtain ⟨r_8, st_9, hr_8, h⟩ := zb2_e h
      refine k_callVi (rest := []) hE hW hl.1 (mX9_shares hB_st hr_8) hB_st.o hB_st.obj rfl q1155 q1157 qs115 q10 q1158 hd_X9_shares ⟨Nat.le_of_ble_eq_true rfl, Nat.le_of_ble_eq_true rfl⟩ ⟨rfl, rfl⟩ rfl (Nat.le_of_ble_eq_true rfl) dX9_leave_37 ⟨Nat.zero_le _, Nat.zero_le _⟩ (fun c1 H locs hP hW => ?_)
      obtain ⟨c, hB_st, hF, hW⟩ : ∃ c', MoB ct J ad c' b st_9 ∧ Fr c0 c' b 19 ∧ HW D J ad c' (aA J ad s.heap.size) s.heap H locs := ⟨c1, hP.1, hF.trans hP.2, hW⟩
      obtain ⟨rfl, rfl⟩ := Prod.mk.inj (Option.some.inj h)
      exact k_iret hE hr hlk hW ⟨hB_st, hF⟩ rfl dX9_leave_40
    · have h := it_t k_4 h
      refine lv_bipush (v := (-3 : Int32)) hx hb dX9_leave_17 (by decide) ?_
      obtain ⟨rfl, rfl⟩ := Prod.mk.inj (Option.some.inj h)
      exact k_iret hE hr hlk hW ⟨hB_st, hF⟩ rfl dX9_leave_19
  · have h := it_t k_2 h
    refine lv_iconst (v := (-1 : Int32)) hx hb dX9_leave_7 (by decide) ?_
    obtain ⟨rfl, rfl⟩ := Prod.mk.inj (Option.some.inj h)
    exact k_iret hE hr hlk hW ⟨hB_st, hF⟩ rfl dX9_leave_8
set_option maxHeartbeats 4000000 in
set_option maxRecDepth 100000 in
theorem wX9_polled_38 {p : Program} {l : Launch} {e : Env} {s : State} {m : MethodId} {args : Array Value} {below : List Frame} {meth : Method} {cd : Code} {D : va_G} {ct : Nat → ClassId} {J : List Nat} {ad : Nat → Nat} {c0 : CF} {b : Nat} (hE : ME p s m cd args D ct cX9_polled RX9 4) (hr : meth.sig.returnType = (some .int)) (hlk : meth.locks = false) {x1 : Int32} {r : Int32} {st9 : MS} {K2 : Int32 → MS → Option (Int32 × MS)} (hK2 : ∀ (x2 : Int32) (st : MS) (c : CF) (H : Heap) (locs : List Loc) (ls : Array Slot), HW D J ad c (aA J ad s.heap.size) s.heap H locs → MoB ct J ad c b st → Fr c0 c b 19 → lv_has ls 4 [(0, .ref (ad b)), (1, .int x1), (2, .int x2)] → K2 x2 st = some (r, st9) → W p l e (rr 3 69) s m args below meth cd H locs 0 0 (MQ below (Qi D J ad s.heap.size r (fun c' => MoB ct J ad c' b st9 ∧ Fr c0 c' b 19)) args s 0 0 (aA J ad s.heap.size)) (F0 m 2 ls [])) : ∀ (x2 : Int32) (y0 : Int32) (st : MS) (c : CF) (H : Heap) (locs : List Loc) (ls : Array Slot), HW D J ad c (aA J ad s.heap.size) s.heap H locs → MoB ct J ad c b st → Fr c0 c b 19 → lv_has ls 4 [(0, .ref (ad b)), (1, .int x1), (2, .int x2)] → fX9_polled_38 x1 K2 x2 y0 st = some (r, st9) → W p l e (rr 3 69) s m args below meth cd H locs 0 0 (MQ below (Qi D J ad s.heap.size r (fun c' => MoB ct J ad c' b st9 ∧ Fr c0 c' b 19)) args s 0 0 (aA J ad s.heap.size)) (F0 m 38 ls [.int y0]) := by
  have hx := hE.1
  have hb := hE.2.1
  intro x2 y0 st c H locs ls hW hB_st hF hl h
  rw [fX9_polled_38] at h
  refine lv_istore_n (lv' := [(3, .int y0), (0, .ref (ad b)), (1, .int x1), (2, .int x2)]) hx hb dX9_polled_38 rfl hl (by decide) rfl (fun ls hl => ?_)
  refine lv_iload_n hx hb dX9_polled_39 rfl (lv_at hl 0 rfl) ?_
  refine lv_if_lt (tgt := 74) hx hb dX9_polled_40 (by decide) (fun k_4 => ?_) (fun k_4 => ?_)
  · have h := it_t k_4 h
    refine lv_iinc (v := (x2 + (1 : Int32))) (lv' := [(2, .int (x2 + (1 : Int32))), (3, .int y0), (0, .ref (ad b)), (1, .int x1)]) hx hb dX9_polled_74 hl (k := 3) rfl rfl (by decide) rfl (fun ls hl => ?_)
    refine lv_goto (tgt := 2) hx hb dX9_polled_77 (by decide) ?_
    exact hK2 _ _ _ _ _ _ hW hB_st hF (lv_sub hl [2, 3, 0] rfl) h
  · have h := it_f k_4 h
    refine lv_aload_n hx hb dX9_polled_43 rfl (lv_at hl 1 rfl) ?_
    refine lv_iload_n hx hb dX9_polled_44 rfl (lv_at hl 3 rfl) ?_
    refine lv_sipush (v := (1273 : Int32)) hx hb dX9_polled_45 (by decide) ?_
    refine lv_iload_n hx hb dX9_polled_48 rfl (lv_at hl 0 rfl) ?_
    refine lv_iconst (v := (1 : Int32)) hx hb dX9_polled_49 (by decide) ?_
    refine lv_iadd hx hb dX9_polled_50 ?_
    obtain ⟨st_5, hst_5, h⟩ := zb_e h
    refine k_callVv (rest := []) hE hW hl.1 (mX9_sets hB_st hst_5) hB_st.o hB_st.obj rfl q864 q866 qs85 q10 q867 hd_X9_sets ⟨Nat.le_of_ble_eq_true rfl, Nat.le_of_ble_eq_true rfl⟩ ⟨rfl, rfl⟩ rfl (Nat.le_of_ble_eq_true rfl) dX9_polled_51 ⟨Nat.zero_le _, Nat.zero_le _⟩ (fun c1 H locs hP hW => ?_)
    obtain ⟨c, hB_st, hF, hW⟩ : ∃ c', MoB ct J ad c' b st_5 ∧ Fr c0 c' b 19 ∧ HW D J ad c' (aA J ad s.heap.size) s.heap H locs := ⟨c1, hP.1, hF.trans hP.2, hW⟩
    refine lv_aload_n hx hb dX9_polled_54 rfl (lv_at hl 1 rfl) ?_
    refine k_get (v := .ref (ad (b + 1 + 0))) hE hW hB_st.o hB_st.obj rfl inX9 0 (by decide) q868 rfl dX9_polled_55 ?_
    refine lv_sipush (v := (5100 : Int32)) hx hb dX9_polled_58 (by decide) ?_
    refine lv_dup2_11 hx hb dX9_polled_61 rfl rfl ?_
    obtain ⟨g_6, h⟩ := zi_e h
    refine k_iald hE hW (hB_st.memA 0 (Nat.le_of_ble_eq_true rfl)) (hB_st.arr 0 rfl) g_6 dX9_polled_62 ?_
    refine lv_iconst (v := (1 : Int32)) hx hb dX9_polled_63 (by decide) ?_
    refine lv_iadd hx hb dX9_polled_64 ?_
    obtain ⟨g_7, h⟩ := zi_e h
    obtain ⟨st_8, est_8, h⟩ := zl_e h
    refine k_iast hE hW (hB_st.memA 0 (Nat.le_of_ble_eq_true rfl)) (hB_st.arr 0 rfl) g_7 dX9_polled_65 (fun H locs hW => ?_)
    obtain ⟨c, hB_st, hF, hW⟩ : ∃ c', MoB ct J ad c' b st_8 ∧ Fr c0 c' b 19 ∧ HW D J ad c' (aA J ad s.heap.size) s.heap H locs := ⟨_, hB_st.wA (k := 0) rfl est_8, hF.up (by omega) (by omega), hW⟩
    refine lv_sipush (v := (1000 : Int32)) hx hb dX9_polled_66 (by decide) ?_
    refine lv_iload_n hx hb dX9_polled_69 rfl (lv_at hl 3 rfl) ?_
    refine lv_imul hx hb dX9_polled_70 ?_
    refine lv_iload_n hx hb dX9_polled_71 rfl (lv_at hl 0 rfl) ?_
    refine lv_iadd hx hb dX9_polled_72 ?_
    obtain ⟨rfl, rfl⟩ := Prod.mk.inj (Option.some.inj h)
    exact k_iret hE hr hlk hW ⟨hB_st, hF⟩ rfl dX9_polled_73
set_option maxHeartbeats 4000000 in
set_option maxRecDepth 100000 in
theorem wX9_polled_2 {p : Program} {l : Launch} {e : Env} {s : State} {m : MethodId} {args : Array Value} {below : List Frame} {meth : Method} {cd : Code} {D : va_G} {ct : Nat → ClassId} {J : List Nat} {ad : Nat → Nat} {c0 : CF} {b : Nat} (hE : ME p s m cd args D ct cX9_polled RX9 4) (hr : meth.sig.returnType = (some .int)) (hlk : meth.locks = false) {x1 : Int32} {r : Int32} {st9 : MS} : ∀ (n : Nat) (x2 : Int32) (st : MS) (c : CF) (H : Heap) (locs : List Loc) (ls : Array Slot), HW D J ad c (aA J ad s.heap.size) s.heap H locs → MoB ct J ad c b st → Fr c0 c b 19 → lv_has ls 4 [(0, .ref (ad b)), (1, .int x1), (2, .int x2)] → fX9_polled_2 x1 n x2 st = some (r, st9) → W p l e (rr 3 69) s m args below meth cd H locs 0 0 (MQ below (Qi D J ad s.heap.size r (fun c' => MoB ct J ad c' b st9 ∧ Fr c0 c' b 19)) args s 0 0 (aA J ad s.heap.size)) (F0 m 2 ls []) := by
  have hx := hE.1
  have hb := hE.2.1
  intro n
  induction n with
  | zero =>
    intro x2 st c H locs ls hW hB_st hF hl h
    have h2 : (none : Option (Int32 × MS)) = some (r, st9) := h
    cases h2
  | succ n ih =>
    intro x2 st c H locs ls hW hB_st hF hl h
    rw [fX9_polled_2] at h
    refine lv_iload_n hx hb dX9_polled_2 rfl (lv_at hl 2 rfl) ?_
    refine lv_iconst (v := (4 : Int32)) hx hb dX9_polled_3 (by decide) ?_
    refine lv_icmp_ge (tgt := 80) hx hb dX9_polled_4 (by decide) (fun k_1 => ?_) (fun k_1 => ?_)
    · have h := it_t k_1 h
      refine lv_bipush (v := (-5 : Int32)) hx hb dX9_polled_80 (by decide) ?_
      obtain ⟨rfl, rfl⟩ := Prod.mk.inj (Option.some.inj h)
      exact k_iret hE hr hlk hW ⟨hB_st, hF⟩ rfl dX9_polled_82
    · have h := it_f k_1 h
      refine lv_aload_n hx hb dX9_polled_7 rfl (lv_at hl 0 rfl) ?_
      refine lv_iload_n hx hb dX9_polled_8 rfl (lv_at hl 2 rfl) ?_
      refine lv_sipush (v := (1272 : Int32)) hx hb dX9_polled_9 (by decide) ?_
      obtain ⟨r_2, hr_2, h⟩ := zb_e h
      refine k_callVi (rest := []) hE hW hl.1 (mX9_at hB_st hr_2) hB_st.o hB_st.obj rfl q934 q936 qs87 q10 q937 hd_X9_at ⟨Nat.le_of_ble_eq_true rfl, Nat.le_of_ble_eq_true rfl⟩ ⟨rfl, rfl⟩ rfl (Nat.le_of_ble_eq_true rfl) dX9_polled_12 ⟨Nat.zero_le _, Nat.zero_le _⟩ (fun c1 H locs hP hW => ?_)
      rw [hP] at hW
      refine lv_iload_n hx hb dX9_polled_15 rfl (lv_at hl 1 rfl) ?_
      refine lv_icmp_ne (tgt := 36) hx hb dX9_polled_16 (by decide) (fun k_3 => ?_) (fun k_3 => ?_)
      · have h := it_f k_3 h
        refine lv_bipush (v := (-5 : Int32)) hx hb dX9_polled_36 (by decide) ?_
        exact wX9_polled_38 hE hr hlk ih _ _ _ _ _ _ _ hW hB_st hF (lv_sub hl [0, 1, 2] rfl) h
      · have h := it_t k_3 h
        refine lv_aload_n hx hb dX9_polled_19 rfl (lv_at hl 0 rfl) ?_
        refine lv_iload_n hx hb dX9_polled_20 rfl (lv_at hl 2 rfl) ?_
        refine lv_aload_n hx hb dX9_polled_21 rfl (lv_at hl 0 rfl) ?_
        refine lv_iload_n hx hb dX9_polled_22 rfl (lv_at hl 2 rfl) ?_
        refine lv_sipush (v := (1273 : Int32)) hx hb dX9_polled_23 (by decide) ?_
        obtain ⟨r_9, hr_9, h⟩ := zb_e h
        refine k_callVi (rest := [.int x2, .ref (ad b)]) hE hW hl.1 (mX9_at hB_st hr_9) hB_st.o hB_st.obj rfl q934 q936 qs87 q10 q937 hd_X9_at ⟨Nat.le_of_ble_eq_true rfl, Nat.le_of_ble_eq_true rfl⟩ ⟨rfl, rfl⟩ rfl (Nat.le_of_ble_eq_true rfl) dX9_polled_26 ⟨Nat.zero_le _, Nat.zero_le _⟩ (fun c1 H locs hP hW => ?_)
        rw [hP] at hW
        refine lv_iconst (v := (1 : Int32)) hx hb dX9_polled_29 (by decide) ?_
        obtain ⟨r_10, hr_10, h⟩ := zb_e h
        refine k_callVi (rest := []) hE hW hl.1 (mX9_from hB_st hr_10) hB_st.o hB_st.obj rfl q1064 q1066 qs108 q10 q1067 hd_X9_from ⟨Nat.le_of_ble_eq_true rfl, Nat.le_of_ble_eq_true rfl⟩ ⟨rfl, rfl⟩ rfl (Nat.le_of_ble_eq_true rfl) dX9_polled_30 ⟨Nat.zero_le _, Nat.zero_le _⟩ (fun c1 H locs hP hW => ?_)
        rw [hP] at hW
        refine lv_goto (tgt := 38) hx hb dX9_polled_33 (by decide) ?_
        exact wX9_polled_38 hE hr hlk ih _ _ _ _ _ _ _ hW hB_st hF (lv_sub hl [0, 1, 2] rfl) h
set_option maxHeartbeats 4000000 in
set_option maxRecDepth 100000 in
theorem mX9_polled {l : Launch} {D : va_G} {ct : Nat → ClassId} {J : List Nat} {ad : Nat → Nat} {c0 : CF} {a1 : Int32} {b : Nat} {st : MS} (hB_st : MoB ct J ad c0 b st) {r : Int32} {st9 : MS} (h : fX9_polled  a1 st = some (r, st9)) : Mi l D ct J ad yX9_polled cX9_polled 4 (some .int) (rr 3 69) [.ref (ad b), .int a1] c0 r (fun c' => MoB ct J ad c' b st9 ∧ Fr c0 c' b 19) := by
  refine Mi_of (own := RX9) (by decide) rfl (Nat.le_of_ble_eq_true rfl) (fun p e s m below meth cd hE hr hlk hW ls hl => ?_)
  have hx := hE.1
  have hb := hE.2.1
  have hl : lv_has ls 4 [(0, .ref (ad b)), (1, .int a1)] := hl
  rw [fX9_polled] at h
  obtain ⟨c, hB_st, hF, hW⟩ : ∃ c', MoB ct J ad c' b st ∧ Fr c0 c' b 19 ∧ HW D J ad c' (aA J ad s.heap.size) s.heap s.heap [] := ⟨c0, hB_st, Fr.rf, hW⟩
  refine lv_iconst (v := (0 : Int32)) hx hb dX9_polled_0 (by decide) ?_
  refine lv_istore_n (lv' := [(2, .int (0 : Int32)), (0, .ref (ad b)), (1, .int a1)]) hx hb dX9_polled_1 rfl hl (by decide) rfl (fun ls hl => ?_)
  exact wX9_polled_2 hE hr hlk _ _ _ _ _ _ _ hW hB_st hF (lv_sub hl [1, 2, 0] rfl) h
set_option maxHeartbeats 4000000 in
set_option maxRecDepth 100000 in
theorem mX9_poll {l : Launch} {D : va_G} {ct : Nat → ClassId} {J : List Nat} {ad : Nat → Nat} {c0 : CF} {a1 : Int32} {b : Nat} {st : MS} (hB_st : MoB ct J ad c0 b st) {r : Int32} {st9 : MS} (h : fX9_poll  a1 st = some (r, st9)) : Mi l D ct J ad yX9_poll cX9_poll 2 (some .int) (rr 4 92) [.ref (ad b), .int a1] c0 r (fun c' => MoB ct J ad c' b st9 ∧ Fr c0 c' b 19) := by
  refine Mi_of (own := RX9) (by decide) rfl (Nat.le_of_ble_eq_true rfl) (fun p e s m below meth cd hE hr hlk hW ls hl => ?_)
  have hx := hE.1
  have hb := hE.2.1
  have hl : lv_has ls 2 [(0, .ref (ad b)), (1, .int a1)] := hl
  rw [fX9_poll] at h
  obtain ⟨c, hB_st, hF, hW⟩ : ∃ c', MoB ct J ad c' b st ∧ Fr c0 c' b 19 ∧ HW D J ad c' (aA J ad s.heap.size) s.heap s.heap [] := ⟨c0, hB_st, Fr.rf, hW⟩
  refine lv_iload_n hx hb dX9_poll_0 rfl (lv_at hl 1 rfl) ?_
  obtain ⟨r_1, hr_1, h⟩ := zb_e h
  refine k_callSi (rest := []) hE hW hl.1 (mX9_isLog hr_1) q928 q929 q10 q930 hd_X9_isLog.2 ⟨Nat.le_of_ble_eq_true rfl, Nat.le_of_ble_eq_true rfl⟩ ⟨rfl, rfl⟩ rfl (Nat.le_of_ble_eq_true rfl) dX9_poll_1 ⟨Nat.zero_le _, Nat.zero_le _⟩ (fun c1 H locs hP hW => ?_)
  rw [hP] at hW
  refine lv_if_ne (tgt := 9) hx hb dX9_poll_4 (by decide) (fun k_2 => ?_) (fun k_2 => ?_)
  · have h := it_f k_2 h
    refine lv_aload_n hx hb dX9_poll_9 rfl (lv_at hl 0 rfl) ?_
    refine lv_iload_n hx hb dX9_poll_10 rfl (lv_at hl 1 rfl) ?_
    obtain ⟨r_3, hr_3, h⟩ := zb_e h
    refine k_callVi (rest := []) hE hW hl.1 (mX9_isIn hB_st hr_3) hB_st.o hB_st.obj rfl q1151 q1153 qs114 q10 q1154 hd_X9_isIn ⟨Nat.le_of_ble_eq_true rfl, Nat.le_of_ble_eq_true rfl⟩ ⟨rfl, rfl⟩ rfl (Nat.le_of_ble_eq_true rfl) dX9_poll_11 ⟨Nat.zero_le _, Nat.zero_le _⟩ (fun c1 H locs hP hW => ?_)
    rw [hP] at hW
    refine lv_if_eq (tgt := 25) hx hb dX9_poll_14 (by decide) (fun k_4 => ?_) (fun k_4 => ?_)
    · have h := it_t k_4 h
      refine lv_bipush (v := (-3 : Int32)) hx hb dX9_poll_25 (by decide) ?_
      obtain ⟨rfl, rfl⟩ := Prod.mk.inj (Option.some.inj h)
      exact k_iret hE hr hlk hW ⟨hB_st, hF⟩ rfl dX9_poll_27
    · have h := it_f k_4 h
      refine lv_aload_n hx hb dX9_poll_17 rfl (lv_at hl 0 rfl) ?_
      refine lv_iload_n hx hb dX9_poll_18 rfl (lv_at hl 1 rfl) ?_
      obtain ⟨r_5, st_6, hr_5, h⟩ := zb2_e h
      refine k_callVi (rest := []) hE hW hl.1 (mX9_polled hB_st hr_5) hB_st.o hB_st.obj rfl q1186 q1188 qs120 q10 q1189 hd_X9_polled ⟨Nat.le_of_ble_eq_true rfl, Nat.le_of_ble_eq_true rfl⟩ ⟨rfl, rfl⟩ rfl (Nat.le_of_ble_eq_true rfl) dX9_poll_19 ⟨Nat.zero_le _, Nat.zero_le _⟩ (fun c1 H locs hP hW => ?_)
      obtain ⟨c, hB_st, hF, hW⟩ : ∃ c', MoB ct J ad c' b st_6 ∧ Fr c0 c' b 19 ∧ HW D J ad c' (aA J ad s.heap.size) s.heap H locs := ⟨c1, hP.1, hF.trans hP.2, hW⟩
      refine lv_goto (tgt := 27) hx hb dX9_poll_22 (by decide) ?_
      obtain ⟨rfl, rfl⟩ := Prod.mk.inj (Option.some.inj h)
      exact k_iret hE hr hlk hW ⟨hB_st, hF⟩ rfl dX9_poll_27
  · have h := it_t k_2 h
    refine lv_iconst (v := (-1 : Int32)) hx hb dX9_poll_7 (by decide) ?_
    obtain ⟨rfl, rfl⟩ := Prod.mk.inj (Option.some.inj h)
    exact k_iret hE hr hlk hW ⟨hB_st, hF⟩ rfl dX9_poll_8
set_option maxHeartbeats 4000000 in
set_option maxRecDepth 100000 in
theorem mX9_seek {l : Launch} {D : va_G} {ct : Nat → ClassId} {J : List Nat} {ad : Nat → Nat} {c0 : CF} {a1 : Int32} {a2 : Int32} {b : Nat} {st : MS} (hB_st : MoB ct J ad c0 b st) {r : Int32} {st9 : MS} (h : fX9_seek  a1 a2 st = some (r, st9)) : Mi l D ct J ad yX9_seek cX9_seek 4 (some .int) (rr 2 42) [.ref (ad b), .int a1, .int a2] c0 r (fun c' => MoB ct J ad c' b st9 ∧ Fr c0 c' b 19) := by
  refine Mi_of (own := RX9) (by decide) rfl (Nat.le_of_ble_eq_true rfl) (fun p e s m below meth cd hE hr hlk hW ls hl => ?_)
  have hx := hE.1
  have hb := hE.2.1
  have hl : lv_has ls 4 [(0, .ref (ad b)), (1, .int a1), (2, .int a2)] := hl
  rw [fX9_seek] at h
  obtain ⟨c, hB_st, hF, hW⟩ : ∃ c', MoB ct J ad c' b st ∧ Fr c0 c' b 19 ∧ HW D J ad c' (aA J ad s.heap.size) s.heap s.heap [] := ⟨c0, hB_st, Fr.rf, hW⟩
  refine lv_iload_n hx hb dX9_seek_0 rfl (lv_at hl 1 rfl) ?_
  obtain ⟨r_1, hr_1, h⟩ := zb_e h
  refine k_callSi (rest := []) hE hW hl.1 (mX9_isLog hr_1) q928 q929 q10 q930 hd_X9_isLog.2 ⟨Nat.le_of_ble_eq_true rfl, Nat.le_of_ble_eq_true rfl⟩ ⟨rfl, rfl⟩ rfl (Nat.le_of_ble_eq_true rfl) dX9_seek_1 ⟨Nat.zero_le _, Nat.zero_le _⟩ (fun c1 H locs hP hW => ?_)
  rw [hP] at hW
  refine lv_if_ne (tgt := 9) hx hb dX9_seek_4 (by decide) (fun k_2 => ?_) (fun k_2 => ?_)
  · have h := it_f k_2 h
    refine lv_iload_n hx hb dX9_seek_9 rfl (lv_at hl 2 rfl) ?_
    refine lv_iconst (v := (0 : Int32)) hx hb dX9_seek_10 (by decide) ?_
    refine lv_aload_n hx hb dX9_seek_11 rfl (lv_at hl 0 rfl) ?_
    refine lv_iload_n hx hb dX9_seek_12 rfl (lv_at hl 1 rfl) ?_
    refine lv_sipush (v := (1271 : Int32)) hx hb dX9_seek_13 (by decide) ?_
    obtain ⟨r_3, hr_3, h⟩ := zb_e h
    refine k_callVi (rest := [.int (0 : Int32), .int a2]) hE hW hl.1 (mX9_at hB_st hr_3) hB_st.o hB_st.obj rfl q934 q936 qs87 q10 q937 hd_X9_at ⟨Nat.le_of_ble_eq_true rfl, Nat.le_of_ble_eq_true rfl⟩ ⟨rfl, rfl⟩ rfl (Nat.le_of_ble_eq_true rfl) dX9_seek_16 ⟨Nat.zero_le _, Nat.zero_le _⟩ (fun c1 H locs hP hW => ?_)
    rw [hP] at hW
    obtain ⟨r_4, hr_4, h⟩ := zb_e h
    refine k_callSi (rest := []) hE hW hl.1 (mX9_in hr_4) q931 q932 q10 q933 hd_X9_in.2 ⟨Nat.le_of_ble_eq_true rfl, Nat.le_of_ble_eq_true rfl⟩ ⟨rfl, rfl⟩ rfl (Nat.le_of_ble_eq_true rfl) dX9_seek_19 ⟨Nat.zero_le _, Nat.zero_le _⟩ (fun c1 H locs hP hW => ?_)
    rw [hP] at hW
    refine lv_if_ne (tgt := 28) hx hb dX9_seek_22 (by decide) (fun k_5 => ?_) (fun k_5 => ?_)
    · have h := it_f k_5 h
      refine lv_aload_n hx hb dX9_seek_28 rfl (lv_at hl 0 rfl) ?_
      refine lv_iload_n hx hb dX9_seek_29 rfl (lv_at hl 1 rfl) ?_
      refine lv_sipush (v := (1273 : Int32)) hx hb dX9_seek_30 (by decide) ?_
      obtain ⟨r_6, hr_6, h⟩ := zb_e h
      refine k_callVi (rest := []) hE hW hl.1 (mX9_at hB_st hr_6) hB_st.o hB_st.obj rfl q934 q936 qs87 q10 q937 hd_X9_at ⟨Nat.le_of_ble_eq_true rfl, Nat.le_of_ble_eq_true rfl⟩ ⟨rfl, rfl⟩ rfl (Nat.le_of_ble_eq_true rfl) dX9_seek_33 ⟨Nat.zero_le _, Nat.zero_le _⟩ (fun c1 H locs hP hW => ?_)
      rw [hP] at hW
      refine lv_istore_n (lv' := [(3, .int r_6), (0, .ref (ad b)), (1, .int a1), (2, .int a2)]) hx hb dX9_seek_36 rfl hl (by decide) rfl (fun ls hl => ?_)
      refine lv_aload_n hx hb dX9_seek_37 rfl (lv_at hl 1 rfl) ?_
      refine lv_iload_n hx hb dX9_seek_38 rfl (lv_at hl 2 rfl) ?_
      refine lv_sipush (v := (1273 : Int32)) hx hb dX9_seek_39 (by decide) ?_
      refine lv_iload_n hx hb dX9_seek_42 rfl (lv_at hl 3 rfl) ?_
      obtain ⟨st_7, hst_7, h⟩ := zb_e h
      refine k_callVv (rest := []) hE hW hl.1 (mX9_sets hB_st hst_7) hB_st.o hB_st.obj rfl q864 q866 qs85 q10 q867 hd_X9_sets ⟨Nat.le_of_ble_eq_true rfl, Nat.le_of_ble_eq_true rfl⟩ ⟨rfl, rfl⟩ rfl (Nat.le_of_ble_eq_true rfl) dX9_seek_43 ⟨Nat.zero_le _, Nat.zero_le _⟩ (fun c1 H locs hP hW => ?_)
      obtain ⟨c, hB_st, hF, hW⟩ : ∃ c', MoB ct J ad c' b st_7 ∧ Fr c0 c' b 19 ∧ HW D J ad c' (aA J ad s.heap.size) s.heap H locs := ⟨c1, hP.1, hF.trans hP.2, hW⟩
      refine lv_iload_n hx hb dX9_seek_46 rfl (lv_at hl 0 rfl) ?_
      obtain ⟨rfl, rfl⟩ := Prod.mk.inj (Option.some.inj h)
      exact k_iret hE hr hlk hW ⟨hB_st, hF⟩ rfl dX9_seek_47
    · have h := it_t k_5 h
      refine lv_bipush (v := (-2 : Int32)) hx hb dX9_seek_25 (by decide) ?_
      obtain ⟨rfl, rfl⟩ := Prod.mk.inj (Option.some.inj h)
      exact k_iret hE hr hlk hW ⟨hB_st, hF⟩ rfl dX9_seek_27
  · have h := it_t k_2 h
    refine lv_iconst (v := (-1 : Int32)) hx hb dX9_seek_7 (by decide) ?_
    obtain ⟨rfl, rfl⟩ := Prod.mk.inj (Option.some.inj h)
    exact k_iret hE hr hlk hW ⟨hB_st, hF⟩ rfl dX9_seek_8
set_option maxHeartbeats 4000000 in
set_option maxRecDepth 100000 in
theorem wX9_lag_19 {p : Program} {l : Launch} {e : Env} {s : State} {m : MethodId} {args : Array Value} {below : List Frame} {meth : Method} {cd : Code} {D : va_G} {ct : Nat → ClassId} {J : List Nat} {ad : Nat → Nat} {c0 : CF} {b : Nat} (hE : ME p s m cd args D ct cX9_lag RX9 5) (hr : meth.sig.returnType = (some .int)) (hlk : meth.locks = false) {x1 : Int32} {x3 : Int32} {st : MS} (hB_st : MoB ct J ad c0 b st) {r : Int32} {K4 : Int32 → Int32 → Option Int32} (hK4 : ∀ (x2 : Int32) (x3 : Int32) (H : Heap) (locs : List Loc) (ls : Array Slot), HW D J ad c0 (aA J ad s.heap.size) s.heap H locs → lv_has ls 5 [(0, .ref (ad b)), (1, .int x1), (2, .int x2), (3, .int x3)] → K4 x2 x3 = some r → W p l e (rr 1 22) s m args below meth cd H locs 0 0 (MQ below (Qi D J ad s.heap.size r (fun c' => c' = c0)) args s 0 0 (aA J ad s.heap.size)) (F0 m 4 ls [])) : ∀ (n : Nat) (x2 : Int32) (x4 : Int32) (H : Heap) (locs : List Loc) (ls : Array Slot), HW D J ad c0 (aA J ad s.heap.size) s.heap H locs → lv_has ls 5 [(0, .ref (ad b)), (1, .int x1), (2, .int x2), (3, .int x3), (4, .int x4)] → fX9_lag_19 x1 x3 st K4 n x2 x4 = some r → W p l e (rr 1 22) s m args below meth cd H locs 0 0 (MQ below (Qi D J ad s.heap.size r (fun c' => c' = c0)) args s 0 0 (aA J ad s.heap.size)) (F0 m 19 ls []) := by
  have hx := hE.1
  have hb := hE.2.1
  intro n
  induction n with
  | zero =>
    intro x2 x4 H locs ls hW hl h
    have h2 : (none : Option Int32) = some r := h
    cases h2
  | succ n ih =>
    intro x2 x4 H locs ls hW hl h
    rw [fX9_lag_19] at h
    refine lv_iload hx hb dX9_lag_19 (lv_at hl 4 rfl) ?_
    refine lv_sipush (v := (200 : Int32)) hx hb dX9_lag_21 (by decide) ?_
    refine lv_icmp_ge (tgt := 57) hx hb dX9_lag_24 (by decide) (fun k_3 => ?_) (fun k_3 => ?_)
    · have h := it_t k_3 h
      refine lv_iinc (v := (x3 + (1 : Int32))) (lv' := [(3, .int (x3 + (1 : Int32))), (0, .ref (ad b)), (1, .int x1), (2, .int x2), (4, .int x4)]) hx hb dX9_lag_57 hl (k := 3) rfl rfl (by decide) rfl (fun ls hl => ?_)
      refine lv_goto (tgt := 4) hx hb dX9_lag_60 (by decide) ?_
      exact hK4 _ _ _ _ _ hW (lv_sub hl [1, 2, 3, 0] rfl) h
    · have h := it_f k_3 h
      refine lv_aload_n hx hb dX9_lag_27 rfl (lv_at hl 0 rfl) ?_
      refine lv_iload_n hx hb dX9_lag_28 rfl (lv_at hl 3 rfl) ?_
      refine lv_sipush (v := (1272 : Int32)) hx hb dX9_lag_29 (by decide) ?_
      obtain ⟨r_4, hr_4, h⟩ := zb_e h
      refine k_callVi (rest := []) hE hW hl.1 (mX9_at hB_st hr_4) hB_st.o hB_st.obj rfl q934 q936 qs87 q10 q937 hd_X9_at ⟨Nat.le_of_ble_eq_true rfl, Nat.le_of_ble_eq_true rfl⟩ ⟨rfl, rfl⟩ rfl (Nat.le_of_ble_eq_true rfl) dX9_lag_32 ⟨Nat.zero_le _, Nat.zero_le _⟩ (fun c1 H locs hP hW => ?_)
      rw [hP] at hW
      refine lv_iload_n hx hb dX9_lag_35 rfl (lv_at hl 1 rfl) ?_
      refine lv_icmp_ne (tgt := 57) hx hb dX9_lag_36 (by decide) (fun k_5 => ?_) (fun k_5 => ?_)
      · have h := it_f k_5 h
        refine lv_iinc (v := (x3 + (1 : Int32))) (lv' := [(3, .int (x3 + (1 : Int32))), (0, .ref (ad b)), (1, .int x1), (2, .int x2), (4, .int x4)]) hx hb dX9_lag_57 hl (k := 3) rfl rfl (by decide) rfl (fun ls hl => ?_)
        refine lv_goto (tgt := 4) hx hb dX9_lag_60 (by decide) ?_
        exact hK4 _ _ _ _ _ hW (lv_sub hl [1, 2, 3, 0] rfl) h
      · have h := it_t k_5 h
        refine lv_iload_n hx hb dX9_lag_39 rfl (lv_at hl 2 rfl) ?_
        refine lv_aload_n hx hb dX9_lag_40 rfl (lv_at hl 0 rfl) ?_
        refine lv_iload_n hx hb dX9_lag_41 rfl (lv_at hl 3 rfl) ?_
        refine lv_iconst (v := (0 : Int32)) hx hb dX9_lag_42 (by decide) ?_
        refine lv_iload hx hb dX9_lag_43 (lv_at hl 4 rfl) ?_
        refine lv_iadd hx hb dX9_lag_45 ?_
        obtain ⟨r_6, hr_6, h⟩ := zb_e h
        refine k_callVi (rest := [.int x2]) hE hW hl.1 (mX9_at hB_st hr_6) hB_st.o hB_st.obj rfl q934 q936 qs87 q10 q937 hd_X9_at ⟨Nat.le_of_ble_eq_true rfl, Nat.le_of_ble_eq_true rfl⟩ ⟨rfl, rfl⟩ rfl (Nat.le_of_ble_eq_true rfl) dX9_lag_46 ⟨Nat.zero_le _, Nat.zero_le _⟩ (fun c1 H locs hP hW => ?_)
        rw [hP] at hW
        refine lv_iadd hx hb dX9_lag_49 ?_
        refine lv_istore_n (lv' := [(2, .int (x2 + r_6)), (0, .ref (ad b)), (1, .int x1), (3, .int x3), (4, .int x4)]) hx hb dX9_lag_50 rfl hl (by decide) rfl (fun ls hl => ?_)
        refine lv_iinc (v := (x4 + (1 : Int32))) (lv' := [(4, .int (x4 + (1 : Int32))), (2, .int (x2 + r_6)), (0, .ref (ad b)), (1, .int x1), (3, .int x3)]) hx hb dX9_lag_51 hl (k := 4) rfl rfl (by decide) rfl (fun ls hl => ?_)
        refine lv_goto (tgt := 19) hx hb dX9_lag_54 (by decide) ?_
        exact ih _ _ _ _ _ hW (lv_sub hl [2, 3, 1, 4, 0] rfl) h
set_option maxHeartbeats 4000000 in
set_option maxRecDepth 100000 in
theorem wX9_lag_4 {p : Program} {l : Launch} {e : Env} {s : State} {m : MethodId} {args : Array Value} {below : List Frame} {meth : Method} {cd : Code} {D : va_G} {ct : Nat → ClassId} {J : List Nat} {ad : Nat → Nat} {c0 : CF} {b : Nat} (hE : ME p s m cd args D ct cX9_lag RX9 5) (hr : meth.sig.returnType = (some .int)) (hlk : meth.locks = false) {x1 : Int32} {st : MS} (hB_st : MoB ct J ad c0 b st) {r : Int32} : ∀ (n : Nat) (x2 : Int32) (x3 : Int32) (H : Heap) (locs : List Loc) (ls : Array Slot), HW D J ad c0 (aA J ad s.heap.size) s.heap H locs → lv_has ls 5 [(0, .ref (ad b)), (1, .int x1), (2, .int x2), (3, .int x3)] → fX9_lag_4 x1 st n x2 x3 = some r → W p l e (rr 1 22) s m args below meth cd H locs 0 0 (MQ below (Qi D J ad s.heap.size r (fun c' => c' = c0)) args s 0 0 (aA J ad s.heap.size)) (F0 m 4 ls []) := by
  have hx := hE.1
  have hb := hE.2.1
  intro n
  induction n with
  | zero =>
    intro x2 x3 H locs ls hW hl h
    have h2 : (none : Option Int32) = some r := h
    cases h2
  | succ n ih =>
    intro x2 x3 H locs ls hW hl h
    rw [fX9_lag_4] at h
    refine lv_iload_n hx hb dX9_lag_4 rfl (lv_at hl 3 rfl) ?_
    refine lv_iconst (v := (4 : Int32)) hx hb dX9_lag_5 (by decide) ?_
    refine lv_icmp_ge (tgt := 63) hx hb dX9_lag_6 (by decide) (fun k_1 => ?_) (fun k_1 => ?_)
    · have h := it_t k_1 h
      refine lv_iload_n hx hb dX9_lag_63 rfl (lv_at hl 2 rfl) ?_
      obtain rfl := Option.some.inj h
      exact k_iret hE hr hlk hW rfl rfl dX9_lag_64
    · have h := it_f k_1 h
      refine lv_aload_n hx hb dX9_lag_9 rfl (lv_at hl 0 rfl) ?_
      refine lv_iload_n hx hb dX9_lag_10 rfl (lv_at hl 3 rfl) ?_
      refine lv_sipush (v := (1273 : Int32)) hx hb dX9_lag_11 (by decide) ?_
      obtain ⟨r_2, hr_2, h⟩ := zb_e h
      refine k_callVi (rest := []) hE hW hl.1 (mX9_at hB_st hr_2) hB_st.o hB_st.obj rfl q934 q936 qs87 q10 q937 hd_X9_at ⟨Nat.le_of_ble_eq_true rfl, Nat.le_of_ble_eq_true rfl⟩ ⟨rfl, rfl⟩ rfl (Nat.le_of_ble_eq_true rfl) dX9_lag_14 ⟨Nat.zero_le _, Nat.zero_le _⟩ (fun c1 H locs hP hW => ?_)
      rw [hP] at hW
      refine lv_istore (lv' := [(4, .int r_2), (0, .ref (ad b)), (1, .int x1), (2, .int x2), (3, .int x3)]) hx hb dX9_lag_17 hl (by decide) rfl (fun ls hl => ?_)
      exact wX9_lag_19 hE hr hlk hB_st ih _ _ _ _ _ _ hW (lv_sub hl [1, 2, 3, 4, 0] rfl) h
set_option maxHeartbeats 4000000 in
set_option maxRecDepth 100000 in
theorem mX9_lag {l : Launch} {D : va_G} {ct : Nat → ClassId} {J : List Nat} {ad : Nat → Nat} {c0 : CF} {a1 : Int32} {b : Nat} {st : MS} (hB_st : MoB ct J ad c0 b st) {r : Int32} (h : fX9_lag  a1 st = some r) : Mi l D ct J ad yX9_lag cX9_lag 5 (some .int) (rr 1 22) [.ref (ad b), .int a1] c0 r (fun c' => c' = c0) := by
  refine Mi_of (own := RX9) (by decide) rfl (Nat.le_of_ble_eq_true rfl) (fun p e s m below meth cd hE hr hlk hW ls hl => ?_)
  have hx := hE.1
  have hb := hE.2.1
  have hl : lv_has ls 5 [(0, .ref (ad b)), (1, .int a1)] := hl
  rw [fX9_lag] at h
  refine lv_iconst (v := (0 : Int32)) hx hb dX9_lag_0 (by decide) ?_
  refine lv_istore_n (lv' := [(2, .int (0 : Int32)), (0, .ref (ad b)), (1, .int a1)]) hx hb dX9_lag_1 rfl hl (by decide) rfl (fun ls hl => ?_)
  refine lv_iconst (v := (0 : Int32)) hx hb dX9_lag_2 (by decide) ?_
  refine lv_istore_n (lv' := [(3, .int (0 : Int32)), (2, .int (0 : Int32)), (0, .ref (ad b)), (1, .int a1)]) hx hb dX9_lag_3 rfl hl (by decide) rfl (fun ls hl => ?_)
  exact wX9_lag_4 hE hr hlk hB_st _ _ _ _ _ _ hW (lv_sub hl [2, 3, 1, 0] rfl) h
set_option maxHeartbeats 4000000 in
set_option maxRecDepth 100000 in
theorem mX9_member {l : Launch} {D : va_G} {ct : Nat → ClassId} {J : List Nat} {ad : Nat → Nat} {c0 : CF} {a1 : Int32} {a2 : Int32} {b : Nat} {st : MS} (hB_st : MoB ct J ad c0 b st) {r : Int32} (h : fX9_member  a1 a2 st = some r) : Mi l D ct J ad yX9_member cX9_member 3 (some .int) (rr 2 46) [.ref (ad b), .int a1, .int a2] c0 r (fun c' => c' = c0) := by
  refine Mi_of (own := RX9) (by decide) rfl (Nat.le_of_ble_eq_true rfl) (fun p e s m below meth cd hE hr hlk hW ls hl => ?_)
  have hx := hE.1
  have hb := hE.2.1
  have hl : lv_has ls 3 [(0, .ref (ad b)), (1, .int a1), (2, .int a2)] := hl
  rw [fX9_member] at h
  refine lv_iload_n hx hb dX9_member_0 rfl (lv_at hl 1 rfl) ?_
  obtain ⟨r_1, hr_1, h⟩ := zb_e h
  refine k_callSi (rest := []) hE hW hl.1 (mX9_isLog hr_1) q928 q929 q10 q930 hd_X9_isLog.2 ⟨Nat.le_of_ble_eq_true rfl, Nat.le_of_ble_eq_true rfl⟩ ⟨rfl, rfl⟩ rfl (Nat.le_of_ble_eq_true rfl) dX9_member_1 ⟨Nat.zero_le _, Nat.zero_le _⟩ (fun c1 H locs hP hW => ?_)
  rw [hP] at hW
  refine lv_if_eq (tgt := 16) hx hb dX9_member_4 (by decide) (fun k_2 => ?_) (fun k_2 => ?_)
  · have h := it_t k_2 h
    refine lv_iconst (v := (-1 : Int32)) hx hb dX9_member_16 (by decide) ?_
    obtain rfl := Option.some.inj h
    exact k_iret hE hr hlk hW rfl rfl dX9_member_17
  · have h := it_f k_2 h
    refine lv_iload_n hx hb dX9_member_7 rfl (lv_at hl 2 rfl) ?_
    refine lv_iconst (v := (0 : Int32)) hx hb dX9_member_8 (by decide) ?_
    refine lv_iconst (v := (2 : Int32)) hx hb dX9_member_9 (by decide) ?_
    obtain ⟨r_3, hr_3, h⟩ := zb_e h
    refine k_callSi (rest := []) hE hW hl.1 (mX9_in hr_3) q931 q932 q10 q933 hd_X9_in.2 ⟨Nat.le_of_ble_eq_true rfl, Nat.le_of_ble_eq_true rfl⟩ ⟨rfl, rfl⟩ rfl (Nat.le_of_ble_eq_true rfl) dX9_member_10 ⟨Nat.zero_le _, Nat.zero_le _⟩ (fun c1 H locs hP hW => ?_)
    rw [hP] at hW
    refine lv_if_ne (tgt := 18) hx hb dX9_member_13 (by decide) (fun k_4 => ?_) (fun k_4 => ?_)
    · have h := it_f k_4 h
      refine lv_iload_n hx hb dX9_member_18 rfl (lv_at hl 2 rfl) ?_
      refine lv_if_ne (tgt := 38) hx hb dX9_member_19 (by decide) (fun k_5 => ?_) (fun k_5 => ?_)
      · have h := it_f k_5 h
        refine lv_iload_n hx hb dX9_member_38 rfl (lv_at hl 2 rfl) ?_
        refine lv_iconst (v := (1 : Int32)) hx hb dX9_member_39 (by decide) ?_
        refine lv_icmp_ne (tgt := 51) hx hb dX9_member_40 (by decide) (fun k_6 => ?_) (fun k_6 => ?_)
        · have h := it_f k_6 h
          refine lv_aload_n hx hb dX9_member_51 rfl (lv_at hl 0 rfl) ?_
          refine lv_iload_n hx hb dX9_member_52 rfl (lv_at hl 1 rfl) ?_
          obtain ⟨r_7, hr_7, h⟩ := zb_e h
          refine k_callVi (rest := []) hE hW hl.1 (mX9_lag hB_st hr_7) hB_st.o hB_st.obj rfl q1198 q1200 qs121 q10 q1201 hd_X9_lag ⟨Nat.le_of_ble_eq_true rfl, Nat.le_of_ble_eq_true rfl⟩ ⟨rfl, rfl⟩ rfl (Nat.le_of_ble_eq_true rfl) dX9_member_53 ⟨Nat.zero_le _, Nat.zero_le _⟩ (fun c1 H locs hP hW => ?_)
          rw [hP] at hW
          obtain rfl := Option.some.inj h
          exact k_iret hE hr hlk hW rfl rfl dX9_member_56
        · have h := it_t k_6 h
          refine lv_aload_n hx hb dX9_member_43 rfl (lv_at hl 0 rfl) ?_
          refine lv_iload_n hx hb dX9_member_44 rfl (lv_at hl 1 rfl) ?_
          obtain ⟨r_8, hr_8, h⟩ := zb_e h
          refine k_callVi (rest := []) hE hW hl.1 (mX9_logsOf hB_st hr_8) hB_st.o hB_st.obj rfl q1163 q1165 qs117 q10 q1166 hd_X9_logsOf ⟨Nat.le_of_ble_eq_true rfl, Nat.le_of_ble_eq_true rfl⟩ ⟨rfl, rfl⟩ rfl (Nat.le_of_ble_eq_true rfl) dX9_member_45 ⟨Nat.zero_le _, Nat.zero_le _⟩ (fun c1 H locs hP hW => ?_)
          rw [hP] at hW
          refine lv_goto (tgt := 56) hx hb dX9_member_48 (by decide) ?_
          obtain rfl := Option.some.inj h
          exact k_iret hE hr hlk hW rfl rfl dX9_member_56
      · have h := it_t k_5 h
        refine lv_aload_n hx hb dX9_member_22 rfl (lv_at hl 0 rfl) ?_
        refine lv_iload_n hx hb dX9_member_23 rfl (lv_at hl 1 rfl) ?_
        obtain ⟨r_9, hr_9, h⟩ := zb_e h
        refine k_callVi (rest := []) hE hW hl.1 (mX9_isIn hB_st hr_9) hB_st.o hB_st.obj rfl q1151 q1153 qs114 q10 q1154 hd_X9_isIn ⟨Nat.le_of_ble_eq_true rfl, Nat.le_of_ble_eq_true rfl⟩ ⟨rfl, rfl⟩ rfl (Nat.le_of_ble_eq_true rfl) dX9_member_24 ⟨Nat.zero_le _, Nat.zero_le _⟩ (fun c1 H locs hP hW => ?_)
        rw [hP] at hW
        refine lv_if_eq (tgt := 34) hx hb dX9_member_27 (by decide) (fun k_10 => ?_) (fun k_10 => ?_)
        · have h := it_t k_10 h
          refine lv_iconst (v := (0 : Int32)) hx hb dX9_member_34 (by decide) ?_
          refine lv_goto (tgt := 56) hx hb dX9_member_35 (by decide) ?_
          obtain rfl := Option.some.inj h
          exact k_iret hE hr hlk hW rfl rfl dX9_member_56
        · have h := it_f k_10 h
          refine lv_iconst (v := (1 : Int32)) hx hb dX9_member_30 (by decide) ?_
          refine lv_goto (tgt := 56) hx hb dX9_member_31 (by decide) ?_
          obtain rfl := Option.some.inj h
          exact k_iret hE hr hlk hW rfl rfl dX9_member_56
    · have h := it_t k_4 h
      refine lv_iconst (v := (-1 : Int32)) hx hb dX9_member_16 (by decide) ?_
      obtain rfl := Option.some.inj h
      exact k_iret hE hr hlk hW rfl rfl dX9_member_17
set_option maxHeartbeats 4000000 in
set_option maxRecDepth 100000 in
theorem mX9_told {l : Launch} {D : va_G} {ct : Nat → ClassId} {J : List Nat} {ad : Nat → Nat} {c0 : CF} {a1 : Int32} {b : Nat} {st : MS} (hB_st : MoB ct J ad c0 b st) {r : Int32} (h : fX9_told  a1 st = some r) : Mi l D ct J ad yX9_told cX9_told 2 (some .int) (rr 1 22) [.ref (ad b), .int a1] c0 r (fun c' => c' = c0) := by
  refine Mi_of (own := RX9) (by decide) rfl (Nat.le_of_ble_eq_true rfl) (fun p e s m below meth cd hE hr hlk hW ls hl => ?_)
  have hx := hE.1
  have hb := hE.2.1
  have hl : lv_has ls 2 [(0, .ref (ad b)), (1, .int a1)] := hl
  rw [fX9_told] at h
  refine lv_iload_n hx hb dX9_told_0 rfl (lv_at hl 1 rfl) ?_
  refine lv_iconst (v := (0 : Int32)) hx hb dX9_told_1 (by decide) ?_
  refine lv_iconst (v := (5 : Int32)) hx hb dX9_told_2 (by decide) ?_
  obtain ⟨r_1, hr_1, h⟩ := zb_e h
  refine k_callSi (rest := []) hE hW hl.1 (mX9_in hr_1) q931 q932 q10 q933 hd_X9_in.2 ⟨Nat.le_of_ble_eq_true rfl, Nat.le_of_ble_eq_true rfl⟩ ⟨rfl, rfl⟩ rfl (Nat.le_of_ble_eq_true rfl) dX9_told_3 ⟨Nat.zero_le _, Nat.zero_le _⟩ (fun c1 H locs hP hW => ?_)
  rw [hP] at hW
  refine lv_if_eq (tgt := 22) hx hb dX9_told_6 (by decide) (fun k_2 => ?_) (fun k_2 => ?_)
  · have h := it_t k_2 h
    refine lv_iconst (v := (-1 : Int32)) hx hb dX9_told_22 (by decide) ?_
    obtain rfl := Option.some.inj h
    exact k_iret hE hr hlk hW rfl rfl dX9_told_23
  · have h := it_f k_2 h
    refine lv_aload_n hx hb dX9_told_9 rfl (lv_at hl 0 rfl) ?_
    refine k_get (v := .ref (ad (b + 1 + 0))) hE hW hB_st.o hB_st.obj rfl inX9 0 (by decide) q868 rfl dX9_told_10 ?_
    refine lv_sipush (v := (5096 : Int32)) hx hb dX9_told_13 (by decide) ?_
    refine lv_iload_n hx hb dX9_told_16 rfl (lv_at hl 1 rfl) ?_
    refine lv_iadd hx hb dX9_told_17 ?_
    obtain ⟨g_3, h⟩ := zi_e h
    refine k_iald hE hW (hB_st.memA 0 (Nat.le_of_ble_eq_true rfl)) (hB_st.arr 0 rfl) g_3 dX9_told_18 ?_
    refine lv_goto (tgt := 23) hx hb dX9_told_19 (by decide) ?_
    obtain rfl := Option.some.inj h
    exact k_iret hE hr hlk hW rfl rfl dX9_told_23
set_option maxHeartbeats 4000000 in
set_option maxRecDepth 100000 in
theorem wX9_common_4 {p : Program} {l : Launch} {e : Env} {s : State} {m : MethodId} {args : Array Value} {below : List Frame} {meth : Method} {cd : Code} {D : va_G} {ct : Nat → ClassId} {J : List Nat} {ad : Nat → Nat} {c0 : CF} (hE : ME p s m cd args D ct cX9_common RX9 5) (hr : meth.sig.returnType = (some .int)) (hlk : meth.locks = false) {r : Int32} : ∀ (n : Nat) (x2 : Int32) (x3 : Int32) (H : Heap) (locs : List Loc) (ls : Array Slot), HW D J ad c0 (aA J ad s.heap.size) s.heap H locs → lv_has ls 5 [(2, .int x2), (3, .int x3)] → fX9_common_4 n x2 x3 = some r → W p l e (rr 0 0) s m args below meth cd H locs 0 0 (MQ below (Qi D J ad s.heap.size r (fun c' => c' = c0)) args s 0 0 (aA J ad s.heap.size)) (F0 m 4 ls []) := by
  have hx := hE.1
  have hb := hE.2.1
  intro n
  induction n with
  | zero =>
    intro x2 x3 H locs ls hW hl h
    have h2 : (none : Option Int32) = some r := h
    cases h2
  | succ n ih =>
    intro x2 x3 H locs ls hW hl h
    rw [fX9_common_4] at h
    refine lv_iload_n hx hb dX9_common_4 rfl (lv_at hl 1 rfl) ?_
    refine lv_if_eq (tgt := 21) hx hb dX9_common_5 (by decide) (fun k_1 => ?_) (fun k_1 => ?_)
    · have h := it_t k_1 h
      refine lv_iload_n hx hb dX9_common_21 rfl (lv_at hl 0 rfl) ?_
      obtain rfl := Option.some.inj h
      exact k_iret hE hr hlk hW rfl rfl dX9_common_22
    · have h := it_f k_1 h
      refine lv_iload_n hx hb dX9_common_8 rfl (lv_at hl 0 rfl) ?_
      refine lv_iload_n hx hb dX9_common_9 rfl (lv_at hl 1 rfl) ?_
      obtain ⟨g_2, h⟩ := zz_e h
      refine lv_irem hx hb dX9_common_10 g_2 ?_
      refine lv_istore (lv' := [(4, .int (x2 - x2 / x3 * x3)), (2, .int x2), (3, .int x3)]) hx hb dX9_common_11 hl (by decide) rfl (fun ls hl => ?_)
      refine lv_iload_n hx hb dX9_common_13 rfl (lv_at hl 2 rfl) ?_
      refine lv_istore_n (lv' := [(2, .int x3), (4, .int (x2 - x2 / x3 * x3)), (3, .int x3)]) hx hb dX9_common_14 rfl hl (by decide) rfl (fun ls hl => ?_)
      refine lv_iload hx hb dX9_common_15 (lv_at hl 1 rfl) ?_
      refine lv_istore_n (lv' := [(3, .int (x2 - x2 / x3 * x3)), (2, .int x3), (4, .int (x2 - x2 / x3 * x3))]) hx hb dX9_common_17 rfl hl (by decide) rfl (fun ls hl => ?_)
      refine lv_goto (tgt := 4) hx hb dX9_common_18 (by decide) ?_
      exact ih _ _ _ _ _ hW (lv_sub hl [1, 0] rfl) h
set_option maxHeartbeats 4000000 in
set_option maxRecDepth 100000 in
theorem mX9_common {l : Launch} {D : va_G} {ct : Nat → ClassId} {J : List Nat} {ad : Nat → Nat} {c0 : CF} {a1 : Int32} {a2 : Int32} {r : Int32} (h : fX9_common  a1 a2 = some r) : Mi l D ct J ad yX9_common cX9_common 5 (some .int) (rr 0 0) [.int a1, .int a2] c0 r (fun c' => c' = c0) := by
  refine Mi_of (own := RX9) (by decide) rfl (Nat.le_of_ble_eq_true rfl) (fun p e s m below meth cd hE hr hlk hW ls hl => ?_)
  have hx := hE.1
  have hb := hE.2.1
  have hl : lv_has ls 5 [(0, .int a1), (1, .int a2)] := hl
  rw [fX9_common] at h
  refine lv_iload_n hx hb dX9_common_0 rfl (lv_at hl 0 rfl) ?_
  refine lv_istore_n (lv' := [(2, .int a1), (0, .int a1), (1, .int a2)]) hx hb dX9_common_1 rfl hl (by decide) rfl (fun ls hl => ?_)
  refine lv_iload_n hx hb dX9_common_2 rfl (lv_at hl 2 rfl) ?_
  refine lv_istore_n (lv' := [(3, .int a2), (2, .int a1), (0, .int a1), (1, .int a2)]) hx hb dX9_common_3 rfl hl (by decide) rfl (fun ls hl => ?_)
  exact wX9_common_4 hE hr hlk _ _ _ _ _ _ hW (lv_sub hl [1, 0] rfl) h
set_option maxHeartbeats 4000000 in
set_option maxRecDepth 100000 in
theorem wX9_odds_67 {p : Program} {l : Launch} {e : Env} {s : State} {m : MethodId} {args : Array Value} {below : List Frame} {meth : Method} {cd : Code} {D : va_G} {ct : Nat → ClassId} {J : List Nat} {ad : Nat → Nat} {c0 : CF} {b : Nat} (hE : ME p s m cd args D ct cX9_odds RX9 5) (hr : meth.sig.returnType = (some .long)) (hlk : meth.locks = false) {x1 : Int32} {x2 : Int32} {r : Int64} {st9 : MS} {K36 : Int32 → Int32 → MS → Option (Int64 × MS)} (hK36 : ∀ (x3 : Int32) (x4 : Int32) (st : MS) (c : CF) (H : Heap) (locs : List Loc) (ls : Array Slot), HW D J ad c (aA J ad s.heap.size) s.heap H locs → MoB ct J ad c b st → Fr c0 c b 19 → lv_has ls 5 [(0, .ref (ad b)), (1, .int x1), (2, .int x2), (3, .int x3), (4, .int x4)] → K36 x3 x4 st = some (r, st9) → W p l e (rr 5 113) s m args below meth cd H locs 0 0 (MQ below (Ql D J ad s.heap.size r (fun c' => MoB ct J ad c' b st9 ∧ Fr c0 c' b 19)) args s 0 0 (aA J ad s.heap.size)) (F0 m 36 ls [])) : ∀ (x4 : Int32) (y0 : Int32) (y1 : Int32) (st : MS) (c : CF) (H : Heap) (locs : List Loc) (ls : Array Slot), HW D J ad c (aA J ad s.heap.size) s.heap H locs → MoB ct J ad c b st → Fr c0 c b 19 → lv_has ls 5 [(0, .ref (ad b)), (1, .int x1), (2, .int x2), (4, .int x4)] → fX9_odds_67 x1 x2 K36 x4 y0 y1 st = some (r, st9) → W p l e (rr 5 113) s m args below meth cd H locs 0 0 (MQ below (Ql D J ad s.heap.size r (fun c' => MoB ct J ad c' b st9 ∧ Fr c0 c' b 19)) args s 0 0 (aA J ad s.heap.size)) (F0 m 67 ls [.int y0, .int y1]) := by
  have hx := hE.1
  have hb := hE.2.1
  intro x4 y0 y1 st c H locs ls hW hB_st hF hl h
  rw [fX9_odds_67] at h
  refine lv_iadd hx hb dX9_odds_67 ?_
  refine lv_istore_n (lv' := [(3, .int (y1 + y0)), (0, .ref (ad b)), (1, .int x1), (2, .int x2), (4, .int x4)]) hx hb dX9_odds_68 rfl hl (by decide) rfl (fun ls hl => ?_)
  refine lv_aload_n hx hb dX9_odds_69 rfl (lv_at hl 1 rfl) ?_
  refine k_get (v := .ref (ad (b + 1 + 1))) hE hW hB_st.o hB_st.obj rfl inX9 1 (by decide) q869 rfl dX9_odds_70 ?_
  refine lv_aload_n hx hb dX9_odds_73 rfl (lv_at hl 1 rfl) ?_
  refine k_get (v := .ref (ad (b + 1 + 0))) hE hW hB_st.o hB_st.obj rfl inX9 0 (by decide) q868 rfl dX9_odds_74 ?_
  obtain ⟨st_16, hst_16, h⟩ := zb_e h
  refine k_callSv (rest := []) hE hW hl.1 (mX9_copy (k1 := 1) (k2 := 0) rfl rfl (Nat.le_of_ble_eq_true rfl) (Nat.le_of_ble_eq_true rfl) hB_st hst_16) q1140 q1141 q10 q1142 hd_X9_copy.2 ⟨Nat.le_of_ble_eq_true rfl, Nat.le_of_ble_eq_true rfl⟩ ⟨rfl, rfl⟩ rfl (Nat.le_of_ble_eq_true rfl) dX9_odds_77 ⟨Nat.zero_le _, Nat.zero_le _⟩ (fun c1 H locs hP hW => ?_)
  obtain ⟨c, hB_st, hF, hW⟩ : ∃ c', MoB ct J ad c' b st_16 ∧ Fr c0 c' b 19 ∧ HW D J ad c' (aA J ad s.heap.size) s.heap H locs := ⟨c1, hP.1, hF.trans hP.2, hW⟩
  refine lv_iinc (v := (x4 + (5 : Int32))) (lv' := [(4, .int (x4 + (5 : Int32))), (3, .int (y1 + y0)), (0, .ref (ad b)), (1, .int x1), (2, .int x2)]) hx hb dX9_odds_80 hl (k := 4) rfl rfl (by decide) rfl (fun ls hl => ?_)
  refine lv_goto (tgt := 36) hx hb dX9_odds_83 (by decide) ?_
  exact hK36 _ _ _ _ _ _ _ hW hB_st hF (lv_sub hl [2, 3, 4, 1, 0] rfl) h
set_option maxHeartbeats 4000000 in
set_option maxRecDepth 100000 in
theorem wX9_odds_36 {p : Program} {l : Launch} {e : Env} {s : State} {m : MethodId} {args : Array Value} {below : List Frame} {meth : Method} {cd : Code} {D : va_G} {ct : Nat → ClassId} {J : List Nat} {ad : Nat → Nat} {c0 : CF} {b : Nat} (hE : ME p s m cd args D ct cX9_odds RX9 5) (hr : meth.sig.returnType = (some .long)) (hlk : meth.locks = false) {x1 : Int32} {x2 : Int32} {r : Int64} {st9 : MS} : ∀ (n : Nat) (x3 : Int32) (x4 : Int32) (st : MS) (c : CF) (H : Heap) (locs : List Loc) (ls : Array Slot), HW D J ad c (aA J ad s.heap.size) s.heap H locs → MoB ct J ad c b st → Fr c0 c b 19 → lv_has ls 5 [(0, .ref (ad b)), (1, .int x1), (2, .int x2), (3, .int x3), (4, .int x4)] → fX9_odds_36 x1 x2 n x3 x4 st = some (r, st9) → W p l e (rr 5 113) s m args below meth cd H locs 0 0 (MQ below (Ql D J ad s.heap.size r (fun c' => MoB ct J ad c' b st9 ∧ Fr c0 c' b 19)) args s 0 0 (aA J ad s.heap.size)) (F0 m 36 ls []) := by
  have hx := hE.1
  have hb := hE.2.1
  intro n
  induction n with
  | zero =>
    intro x3 x4 st c H locs ls hW hB_st hF hl h
    have h2 : (none : Option (Int64 × MS)) = some (r, st9) := h
    cases h2
  | succ n ih =>
    intro x3 x4 st c H locs ls hW hB_st hF hl h
    rw [fX9_odds_36] at h
    refine lv_iload hx hb dX9_odds_36 (lv_at hl 4 rfl) ?_
    refine lv_bipush (v := (100 : Int32)) hx hb dX9_odds_38 (by decide) ?_
    refine lv_icmp_ge (tgt := 86) hx hb dX9_odds_40 (by decide) (fun k_6 => ?_) (fun k_6 => ?_)
    · have h := it_t k_6 h
      refine lv_iload_n hx hb dX9_odds_86 rfl (lv_at hl 3 rfl) ?_
      refine lv_bipush (v := (20 : Int32)) hx hb dX9_odds_87 (by decide) ?_
      obtain ⟨r_7, hr_7, h⟩ := zb_e h
      refine k_callSi (rest := []) hE hW hl.1 (mX9_common hr_7) q1210 q1211 q10 q1212 hd_X9_common.2 ⟨Nat.le_of_ble_eq_true rfl, Nat.le_of_ble_eq_true rfl⟩ ⟨rfl, rfl⟩ rfl (Nat.le_of_ble_eq_true rfl) dX9_odds_89 ⟨Nat.zero_le _, Nat.zero_le _⟩ (fun c1 H locs hP hW => ?_)
      rw [hP] at hW
      refine lv_istore (lv' := [(4, .int r_7), (0, .ref (ad b)), (1, .int x1), (2, .int x2), (3, .int x3)]) hx hb dX9_odds_92 hl (by decide) rfl (fun ls hl => ?_)
      refine lv_iload_n hx hb dX9_odds_94 rfl (lv_at hl 3 rfl) ?_
      refine lv_if_ne (tgt := 106) hx hb dX9_odds_95 (by decide) (fun k_8 => ?_) (fun k_8 => ?_)
      · have h := it_f k_8 h
        refine lv_bipush (v := (20 : Int32)) hx hb dX9_odds_106 (by decide) ?_
        refine lv_iload hx hb dX9_odds_108 (lv_at hl 0 rfl) ?_
        obtain ⟨g_9, h⟩ := zz_e h
        refine lv_idiv hx hb dX9_odds_110 g_9 ?_
        refine lv_i2l (v := ((20 : Int32) / r_7).toInt64) hx hb dX9_odds_111 rfl ?_
        obtain ⟨rfl, rfl⟩ := Prod.mk.inj (Option.some.inj h)
        exact k_lret hE hr hlk hW ⟨hB_st, hF⟩ rfl dX9_odds_112
      · have h := it_t k_8 h
        refine lv_iload_n hx hb dX9_odds_98 rfl (lv_at hl 4 rfl) ?_
        refine lv_iload hx hb dX9_odds_99 (lv_at hl 0 rfl) ?_
        obtain ⟨g_10, h⟩ := zz_e h
        refine lv_idiv hx hb dX9_odds_101 g_10 ?_
        refine lv_i2l (v := (x3 / r_7).toInt64) hx hb dX9_odds_102 rfl ?_
        refine lv_goto (tgt := 112) hx hb dX9_odds_103 (by decide) ?_
        obtain ⟨rfl, rfl⟩ := Prod.mk.inj (Option.some.inj h)
        exact k_lret hE hr hlk hW ⟨hB_st, hF⟩ rfl dX9_odds_112
    · have h := it_f k_6 h
      refine lv_aload_n hx hb dX9_odds_43 rfl (lv_at hl 0 rfl) ?_
      refine k_get (v := .ref (ad (b + 1 + 0))) hE hW hB_st.o hB_st.obj rfl inX9 0 (by decide) q868 rfl dX9_odds_44 ?_
      refine lv_sipush (v := (5098 : Int32)) hx hb dX9_odds_47 (by decide) ?_
      refine lv_iload hx hb dX9_odds_50 (lv_at hl 4 rfl) ?_
      obtain ⟨g_11, h⟩ := zi_e h
      obtain ⟨st_12, est_12, h⟩ := zl_e h
      refine k_iast hE hW (hB_st.memA 0 (Nat.le_of_ble_eq_true rfl)) (hB_st.arr 0 rfl) g_11 dX9_odds_52 (fun H locs hW => ?_)
      obtain ⟨c, hB_st, hF, hW⟩ : ∃ c', MoB ct J ad c' b st_12 ∧ Fr c0 c' b 19 ∧ HW D J ad c' (aA J ad s.heap.size) s.heap H locs := ⟨_, hB_st.wA (k := 0) rfl est_12, hF.up (by omega) (by omega), hW⟩
      refine lv_iload_n hx hb dX9_odds_53 rfl (lv_at hl 3 rfl) ?_
      refine lv_aload_n hx hb dX9_odds_54 rfl (lv_at hl 0 rfl) ?_
      refine lv_iload_n hx hb dX9_odds_55 rfl (lv_at hl 1 rfl) ?_
      obtain ⟨r_13, st_14, hr_13, h⟩ := zb2_e h
      refine k_callVi (rest := [.int x3]) hE hW hl.1 (mX9_retained hB_st hr_13) hB_st.o hB_st.obj rfl q1007 q1009 qs97 q10 q1010 hd_X9_retained ⟨Nat.le_of_ble_eq_true rfl, Nat.le_of_ble_eq_true rfl⟩ ⟨rfl, rfl⟩ rfl (Nat.le_of_ble_eq_true rfl) dX9_odds_56 ⟨Nat.zero_le _, Nat.zero_le _⟩ (fun c1 H locs hP hW => ?_)
      obtain ⟨c, hB_st, hF, hW⟩ : ∃ c', MoB ct J ad c' b st_14 ∧ Fr c0 c' b 19 ∧ HW D J ad c' (aA J ad s.heap.size) s.heap H locs := ⟨c1, hP.1, hF.trans hP.2, hW⟩
      refine lv_if_ne (tgt := 66) hx hb dX9_odds_59 (by decide) (fun k_15 => ?_) (fun k_15 => ?_)
      · have h := it_f k_15 h
        refine lv_iconst (v := (0 : Int32)) hx hb dX9_odds_66 (by decide) ?_
        exact wX9_odds_67 hE hr hlk ih _ _ _ _ _ _ _ _ hW hB_st hF (lv_sub hl [0, 1, 2, 4] rfl) h
      · have h := it_t k_15 h
        refine lv_iconst (v := (1 : Int32)) hx hb dX9_odds_62 (by decide) ?_
        refine lv_goto (tgt := 67) hx hb dX9_odds_63 (by decide) ?_
        exact wX9_odds_67 hE hr hlk ih _ _ _ _ _ _ _ _ hW hB_st hF (lv_sub hl [0, 1, 2, 4] rfl) h
set_option maxHeartbeats 4000000 in
set_option maxRecDepth 100000 in
theorem mX9_odds {l : Launch} {D : va_G} {ct : Nat → ClassId} {J : List Nat} {ad : Nat → Nat} {c0 : CF} {a1 : Int32} {a2 : Int32} {b : Nat} {st : MS} (hB_st : MoB ct J ad c0 b st) {r : Int64} {st9 : MS} (h : fX9_odds  a1 a2 st = some (r, st9)) : Ml l D ct J ad yX9_odds cX9_odds 5 (some .long) (rr 5 113) [.ref (ad b), .int a1, .int a2] c0 r (fun c' => MoB ct J ad c' b st9 ∧ Fr c0 c' b 19) := by
  refine Ml_of (own := RX9) (by decide) rfl (Nat.le_of_ble_eq_true rfl) (fun p e s m below meth cd hE hr hlk hW ls hl => ?_)
  have hx := hE.1
  have hb := hE.2.1
  have hl : lv_has ls 5 [(0, .ref (ad b)), (1, .int a1), (2, .int a2)] := hl
  rw [fX9_odds] at h
  obtain ⟨c, hB_st, hF, hW⟩ : ∃ c', MoB ct J ad c' b st ∧ Fr c0 c' b 19 ∧ HW D J ad c' (aA J ad s.heap.size) s.heap s.heap [] := ⟨c0, hB_st, Fr.rf, hW⟩
  refine lv_iload_n hx hb dX9_odds_0 rfl (lv_at hl 1 rfl) ?_
  obtain ⟨r_1, hr_1, h⟩ := zb_e h
  refine k_callSi (rest := []) hE hW hl.1 (mX9_isLog hr_1) q928 q929 q10 q930 hd_X9_isLog.2 ⟨Nat.le_of_ble_eq_true rfl, Nat.le_of_ble_eq_true rfl⟩ ⟨rfl, rfl⟩ rfl (Nat.le_of_ble_eq_true rfl) dX9_odds_1 ⟨Nat.zero_le _, Nat.zero_le _⟩ (fun c1 H locs hP hW => ?_)
  rw [hP] at hW
  refine lv_if_eq (tgt := 16) hx hb dX9_odds_4 (by decide) (fun k_2 => ?_) (fun k_2 => ?_)
  · have h := it_t k_2 h
    refine lv_ldc2 (v := (-9223372036854775808 : Int64)) hx hb hE.2.2.2.1 (hE.2.2.2.2.1 _ q1078) dX9_odds_16 ?_
    obtain ⟨rfl, rfl⟩ := Prod.mk.inj (Option.some.inj h)
    exact k_lret hE hr hlk hW ⟨hB_st, hF⟩ rfl dX9_odds_19
  · have h := it_f k_2 h
    refine lv_iload_n hx hb dX9_odds_7 rfl (lv_at hl 2 rfl) ?_
    refine lv_iconst (v := (0 : Int32)) hx hb dX9_odds_8 (by decide) ?_
    refine lv_iconst (v := (1 : Int32)) hx hb dX9_odds_9 (by decide) ?_
    obtain ⟨r_3, hr_3, h⟩ := zb_e h
    refine k_callSi (rest := []) hE hW hl.1 (mX9_in hr_3) q931 q932 q10 q933 hd_X9_in.2 ⟨Nat.le_of_ble_eq_true rfl, Nat.le_of_ble_eq_true rfl⟩ ⟨rfl, rfl⟩ rfl (Nat.le_of_ble_eq_true rfl) dX9_odds_10 ⟨Nat.zero_le _, Nat.zero_le _⟩ (fun c1 H locs hP hW => ?_)
    rw [hP] at hW
    refine lv_if_ne (tgt := 20) hx hb dX9_odds_13 (by decide) (fun k_4 => ?_) (fun k_4 => ?_)
    · have h := it_f k_4 h
      refine lv_aload_n hx hb dX9_odds_20 rfl (lv_at hl 0 rfl) ?_
      refine k_get (v := .ref (ad (b + 1 + 0))) hE hW hB_st.o hB_st.obj rfl inX9 0 (by decide) q868 rfl dX9_odds_21 ?_
      refine lv_aload_n hx hb dX9_odds_24 rfl (lv_at hl 0 rfl) ?_
      refine k_get (v := .ref (ad (b + 1 + 1))) hE hW hB_st.o hB_st.obj rfl inX9 1 (by decide) q869 rfl dX9_odds_25 ?_
      obtain ⟨st_5, hst_5, h⟩ := zb_e h
      refine k_callSv (rest := []) hE hW hl.1 (mX9_copy (k1 := 0) (k2 := 1) rfl rfl (Nat.le_of_ble_eq_true rfl) (Nat.le_of_ble_eq_true rfl) hB_st hst_5) q1140 q1141 q10 q1142 hd_X9_copy.2 ⟨Nat.le_of_ble_eq_true rfl, Nat.le_of_ble_eq_true rfl⟩ ⟨rfl, rfl⟩ rfl (Nat.le_of_ble_eq_true rfl) dX9_odds_28 ⟨Nat.zero_le _, Nat.zero_le _⟩ (fun c1 H locs hP hW => ?_)
      obtain ⟨c, hB_st, hF, hW⟩ : ∃ c', MoB ct J ad c' b st_5 ∧ Fr c0 c' b 19 ∧ HW D J ad c' (aA J ad s.heap.size) s.heap H locs := ⟨c1, hP.1, hF.trans hP.2, hW⟩
      refine lv_iconst (v := (0 : Int32)) hx hb dX9_odds_31 (by decide) ?_
      refine lv_istore_n (lv' := [(3, .int (0 : Int32)), (0, .ref (ad b)), (1, .int a1), (2, .int a2)]) hx hb dX9_odds_32 rfl hl (by decide) rfl (fun ls hl => ?_)
      refine lv_iconst (v := (0 : Int32)) hx hb dX9_odds_33 (by decide) ?_
      refine lv_istore (lv' := [(4, .int (0 : Int32)), (3, .int (0 : Int32)), (0, .ref (ad b)), (1, .int a1), (2, .int a2)]) hx hb dX9_odds_34 hl (by decide) rfl (fun ls hl => ?_)
      exact wX9_odds_36 hE hr hlk _ _ _ _ _ _ _ _ hW hB_st hF (lv_sub hl [2, 3, 4, 1, 0] rfl) h
    · have h := it_t k_4 h
      refine lv_ldc2 (v := (-9223372036854775808 : Int64)) hx hb hE.2.2.2.1 (hE.2.2.2.2.1 _ q1078) dX9_odds_16 ?_
      obtain ⟨rfl, rfl⟩ := Prod.mk.inj (Option.some.inj h)
      exact k_lret hE hr hlk hW ⟨hB_st, hF⟩ rfl dX9_odds_19
set_option maxHeartbeats 4000000 in
set_option maxRecDepth 100000 in
theorem wX9_plan_57 {p : Program} {l : Launch} {e : Env} {s : State} {m : MethodId} {args : Array Value} {below : List Frame} {meth : Method} {cd : Code} {D : va_G} {ct : Nat → ClassId} {J : List Nat} {ad : Nat → Nat} {c0 : CF} {b : Nat} (hE : ME p s m cd args D ct cX9_plan RX9 3) (hr : meth.sig.returnType = (some .int)) (hlk : meth.locks = false) {r : Int32} {st9 : MS} : ∀ (x1 : Int32) (x2 : Int32) (st : MS) (c : CF) (H : Heap) (locs : List Loc) (ls : Array Slot), HW D J ad c (aA J ad s.heap.size) s.heap H locs → MoB ct J ad c b st → Fr c0 c b 19 → lv_has ls 3 [(0, .ref (ad b)), (1, .int x1), (2, .int x2)] → fX9_plan_57 x1 x2 st = some (r, st9) → W p l e (rr 2 42) s m args below meth cd H locs 0 0 (MQ below (Qi D J ad s.heap.size r (fun c' => MoB ct J ad c' b st9 ∧ Fr c0 c' b 19)) args s 0 0 (aA J ad s.heap.size)) (F0 m 57 ls []) := by
  have hx := hE.1
  have hb := hE.2.1
  intro x1 x2 st c H locs ls hW hB_st hF hl h
  rw [fX9_plan_57] at h
  refine lv_aload_n hx hb dX9_plan_57 rfl (lv_at hl 0 rfl) ?_
  refine k_get (v := .ref (ad (b + 1 + 0))) hE hW hB_st.o hB_st.obj rfl inX9 0 (by decide) q868 rfl dX9_plan_58 ?_
  refine lv_sipush (v := (5102 : Int32)) hx hb dX9_plan_61 (by decide) ?_
  obtain ⟨g_6, h⟩ := zi_e h
  refine k_iald hE hW (hB_st.memA 0 (Nat.le_of_ble_eq_true rfl)) (hB_st.arr 0 rfl) g_6 dX9_plan_64 ?_
  refine lv_bipush (v := (10 : Int32)) hx hb dX9_plan_65 (by decide) ?_
  refine lv_icmp_ne (tgt := 73) hx hb dX9_plan_67 (by decide) (fun k_7 => ?_) (fun k_7 => ?_)
  · have h := it_f k_7 h
    refine lv_aload_n hx hb dX9_plan_73 rfl (lv_at hl 0 rfl) ?_
    refine k_get (v := .ref (ad (b + 1 + 0))) hE hW hB_st.o hB_st.obj rfl inX9 0 (by decide) q868 rfl dX9_plan_74 ?_
    refine lv_sipush (v := (5103 : Int32)) hx hb dX9_plan_77 (by decide) ?_
    refine lv_iconst (v := (2 : Int32)) hx hb dX9_plan_80 (by decide) ?_
    refine lv_aload_n hx hb dX9_plan_81 rfl (lv_at hl 0 rfl) ?_
    refine k_get (v := .ref (ad (b + 1 + 0))) hE hW hB_st.o hB_st.obj rfl inX9 0 (by decide) q868 rfl dX9_plan_82 ?_
    refine lv_sipush (v := (5102 : Int32)) hx hb dX9_plan_85 (by decide) ?_
    obtain ⟨g_8, h⟩ := zi_e h
    refine k_iald hE hW (hB_st.memA 0 (Nat.le_of_ble_eq_true rfl)) (hB_st.arr 0 rfl) g_8 dX9_plan_88 ?_
    refine lv_imul hx hb dX9_plan_89 ?_
    refine lv_iadd hx hb dX9_plan_90 ?_
    refine lv_iload_n hx hb dX9_plan_91 rfl (lv_at hl 1 rfl) ?_
    obtain ⟨g_9, h⟩ := zi_e h
    obtain ⟨st_10, est_10, h⟩ := zl_e h
    refine k_iast hE hW (hB_st.memA 0 (Nat.le_of_ble_eq_true rfl)) (hB_st.arr 0 rfl) g_9 dX9_plan_92 (fun H locs hW => ?_)
    obtain ⟨c, hB_st, hF, hW⟩ : ∃ c', MoB ct J ad c' b st_10 ∧ Fr c0 c' b 19 ∧ HW D J ad c' (aA J ad s.heap.size) s.heap H locs := ⟨_, hB_st.wA (k := 0) rfl est_10, hF.up (by omega) (by omega), hW⟩
    refine lv_aload_n hx hb dX9_plan_93 rfl (lv_at hl 0 rfl) ?_
    refine k_get (v := .ref (ad (b + 1 + 0))) hE hW hB_st.o hB_st.obj rfl inX9 0 (by decide) q868 rfl dX9_plan_94 ?_
    refine lv_sipush (v := (5103 : Int32)) hx hb dX9_plan_97 (by decide) ?_
    refine lv_iconst (v := (2 : Int32)) hx hb dX9_plan_100 (by decide) ?_
    refine lv_aload_n hx hb dX9_plan_101 rfl (lv_at hl 0 rfl) ?_
    refine k_get (v := .ref (ad (b + 1 + 0))) hE hW hB_st.o hB_st.obj rfl inX9 0 (by decide) q868 rfl dX9_plan_102 ?_
    refine lv_sipush (v := (5102 : Int32)) hx hb dX9_plan_105 (by decide) ?_
    obtain ⟨g_11, h⟩ := zi_e h
    refine k_iald hE hW (hB_st.memA 0 (Nat.le_of_ble_eq_true rfl)) (hB_st.arr 0 rfl) g_11 dX9_plan_108 ?_
    refine lv_imul hx hb dX9_plan_109 ?_
    refine lv_iadd hx hb dX9_plan_110 ?_
    refine lv_iconst (v := (1 : Int32)) hx hb dX9_plan_111 (by decide) ?_
    refine lv_iadd hx hb dX9_plan_112 ?_
    refine lv_iload_n hx hb dX9_plan_113 rfl (lv_at hl 2 rfl) ?_
    obtain ⟨g_12, h⟩ := zi_e h
    obtain ⟨st_13, est_13, h⟩ := zl_e h
    refine k_iast hE hW (hB_st.memA 0 (Nat.le_of_ble_eq_true rfl)) (hB_st.arr 0 rfl) g_12 dX9_plan_114 (fun H locs hW => ?_)
    obtain ⟨c, hB_st, hF, hW⟩ : ∃ c', MoB ct J ad c' b st_13 ∧ Fr c0 c' b 19 ∧ HW D J ad c' (aA J ad s.heap.size) s.heap H locs := ⟨_, hB_st.wA (k := 0) rfl est_13, hF.up (by omega) (by omega), hW⟩
    refine lv_aload_n hx hb dX9_plan_115 rfl (lv_at hl 0 rfl) ?_
    refine k_get (v := .ref (ad (b + 1 + 0))) hE hW hB_st.o hB_st.obj rfl inX9 0 (by decide) q868 rfl dX9_plan_116 ?_
    refine lv_sipush (v := (5102 : Int32)) hx hb dX9_plan_119 (by decide) ?_
    refine lv_dup2_11 hx hb dX9_plan_122 rfl rfl ?_
    obtain ⟨g_14, h⟩ := zi_e h
    refine k_iald hE hW (hB_st.memA 0 (Nat.le_of_ble_eq_true rfl)) (hB_st.arr 0 rfl) g_14 dX9_plan_123 ?_
    refine lv_iconst (v := (1 : Int32)) hx hb dX9_plan_124 (by decide) ?_
    refine lv_iadd hx hb dX9_plan_125 ?_
    obtain ⟨g_15, h⟩ := zi_e h
    obtain ⟨st_16, est_16, h⟩ := zl_e h
    refine k_iast hE hW (hB_st.memA 0 (Nat.le_of_ble_eq_true rfl)) (hB_st.arr 0 rfl) g_15 dX9_plan_126 (fun H locs hW => ?_)
    obtain ⟨c, hB_st, hF, hW⟩ : ∃ c', MoB ct J ad c' b st_16 ∧ Fr c0 c' b 19 ∧ HW D J ad c' (aA J ad s.heap.size) s.heap H locs := ⟨_, hB_st.wA (k := 0) rfl est_16, hF.up (by omega) (by omega), hW⟩
    refine lv_aload_n hx hb dX9_plan_127 rfl (lv_at hl 0 rfl) ?_
    refine k_get (v := .ref (ad (b + 1 + 0))) hE hW hB_st.o hB_st.obj rfl inX9 0 (by decide) q868 rfl dX9_plan_128 ?_
    refine lv_sipush (v := (5102 : Int32)) hx hb dX9_plan_131 (by decide) ?_
    obtain ⟨g_17, h⟩ := zi_e h
    refine k_iald hE hW (hB_st.memA 0 (Nat.le_of_ble_eq_true rfl)) (hB_st.arr 0 rfl) g_17 dX9_plan_134 ?_
    obtain ⟨rfl, rfl⟩ := Prod.mk.inj (Option.some.inj h)
    exact k_iret hE hr hlk hW ⟨hB_st, hF⟩ rfl dX9_plan_135
  · have h := it_t k_7 h
    refine lv_bipush (v := (-4 : Int32)) hx hb dX9_plan_70 (by decide) ?_
    obtain ⟨rfl, rfl⟩ := Prod.mk.inj (Option.some.inj h)
    exact k_iret hE hr hlk hW ⟨hB_st, hF⟩ rfl dX9_plan_72
set_option maxHeartbeats 4000000 in
set_option maxRecDepth 100000 in
theorem wX9_plan_39 {p : Program} {l : Launch} {e : Env} {s : State} {m : MethodId} {args : Array Value} {below : List Frame} {meth : Method} {cd : Code} {D : va_G} {ct : Nat → ClassId} {J : List Nat} {ad : Nat → Nat} {c0 : CF} {b : Nat} (hE : ME p s m cd args D ct cX9_plan RX9 3) (hr : meth.sig.returnType = (some .int)) (hlk : meth.locks = false) {r : Int32} {st9 : MS} : ∀ (x1 : Int32) (x2 : Int32) (st : MS) (c : CF) (H : Heap) (locs : List Loc) (ls : Array Slot), HW D J ad c (aA J ad s.heap.size) s.heap H locs → MoB ct J ad c b st → Fr c0 c b 19 → lv_has ls 3 [(0, .ref (ad b)), (1, .int x1), (2, .int x2)] → fX9_plan_39 x1 x2 st = some (r, st9) → W p l e (rr 2 42) s m args below meth cd H locs 0 0 (MQ below (Qi D J ad s.heap.size r (fun c' => MoB ct J ad c' b st9 ∧ Fr c0 c' b 19)) args s 0 0 (aA J ad s.heap.size)) (F0 m 39 ls []) := by
  have hx := hE.1
  have hb := hE.2.1
  intro x1 x2 st c H locs ls hW hB_st hF hl h
  rw [fX9_plan_39] at h
  refine lv_iload_n hx hb dX9_plan_39 rfl (lv_at hl 1 rfl) ?_
  refine lv_iconst (v := (3 : Int32)) hx hb dX9_plan_40 (by decide) ?_
  refine lv_icmp_ne (tgt := 57) hx hb dX9_plan_41 (by decide) (fun k_5 => ?_) (fun k_5 => ?_)
  · have h := it_f k_5 h
    exact wX9_plan_57 hE hr hlk _ _ _ _ _ _ _ hW hB_st hF (lv_sub hl [0, 1, 2] rfl) h
  · have h := it_t k_5 h
    refine lv_iload_n hx hb dX9_plan_44 rfl (lv_at hl 2 rfl) ?_
    refine lv_iconst (v := (0 : Int32)) hx hb dX9_plan_45 (by decide) ?_
    refine lv_bipush (v := (99 : Int32)) hx hb dX9_plan_46 (by decide) ?_
    obtain ⟨r_18, hr_18, h⟩ := zb_e h
    refine k_callSi (rest := []) hE hW hl.1 (mX9_in hr_18) q931 q932 q10 q933 hd_X9_in.2 ⟨Nat.le_of_ble_eq_true rfl, Nat.le_of_ble_eq_true rfl⟩ ⟨rfl, rfl⟩ rfl (Nat.le_of_ble_eq_true rfl) dX9_plan_48 ⟨Nat.zero_le _, Nat.zero_le _⟩ (fun c1 H locs hP hW => ?_)
    rw [hP] at hW
    refine lv_if_ne (tgt := 57) hx hb dX9_plan_51 (by decide) (fun k_19 => ?_) (fun k_19 => ?_)
    · have h := it_f k_19 h
      exact wX9_plan_57 hE hr hlk _ _ _ _ _ _ _ hW hB_st hF (lv_sub hl [0, 1, 2] rfl) h
    · have h := it_t k_19 h
      refine lv_bipush (v := (-2 : Int32)) hx hb dX9_plan_54 (by decide) ?_
      obtain ⟨rfl, rfl⟩ := Prod.mk.inj (Option.some.inj h)
      exact k_iret hE hr hlk hW ⟨hB_st, hF⟩ rfl dX9_plan_56
set_option maxHeartbeats 4000000 in
set_option maxRecDepth 100000 in
theorem mX9_plan {l : Launch} {D : va_G} {ct : Nat → ClassId} {J : List Nat} {ad : Nat → Nat} {c0 : CF} {a1 : Int32} {a2 : Int32} {b : Nat} {st : MS} (hB_st : MoB ct J ad c0 b st) {r : Int32} {st9 : MS} (h : fX9_plan  a1 a2 st = some (r, st9)) : Mi l D ct J ad yX9_plan cX9_plan 3 (some .int) (rr 2 42) [.ref (ad b), .int a1, .int a2] c0 r (fun c' => MoB ct J ad c' b st9 ∧ Fr c0 c' b 19) := by
  refine Mi_of (own := RX9) (by decide) rfl (Nat.le_of_ble_eq_true rfl) (fun p e s m below meth cd hE hr hlk hW ls hl => ?_)
  have hx := hE.1
  have hb := hE.2.1
  have hl : lv_has ls 3 [(0, .ref (ad b)), (1, .int a1), (2, .int a2)] := hl
  rw [fX9_plan] at h
  obtain ⟨c, hB_st, hF, hW⟩ : ∃ c', MoB ct J ad c' b st ∧ Fr c0 c' b 19 ∧ HW D J ad c' (aA J ad s.heap.size) s.heap s.heap [] := ⟨c0, hB_st, Fr.rf, hW⟩
  refine lv_iload_n hx hb dX9_plan_0 rfl (lv_at hl 1 rfl) ?_
  refine lv_iconst (v := (-1 : Int32)) hx hb dX9_plan_1 (by decide) ?_
  refine lv_icmp_ne (tgt := 16) hx hb dX9_plan_2 (by decide) (fun k_1 => ?_) (fun k_1 => ?_)
  · have h := it_f k_1 h
    refine lv_iload_n hx hb dX9_plan_16 rfl (lv_at hl 1 rfl) ?_
    refine lv_iconst (v := (0 : Int32)) hx hb dX9_plan_17 (by decide) ?_
    refine lv_iconst (v := (3 : Int32)) hx hb dX9_plan_18 (by decide) ?_
    obtain ⟨r_2, hr_2, h⟩ := zb_e h
    refine k_callSi (rest := []) hE hW hl.1 (mX9_in hr_2) q931 q932 q10 q933 hd_X9_in.2 ⟨Nat.le_of_ble_eq_true rfl, Nat.le_of_ble_eq_true rfl⟩ ⟨rfl, rfl⟩ rfl (Nat.le_of_ble_eq_true rfl) dX9_plan_19 ⟨Nat.zero_le _, Nat.zero_le _⟩ (fun c1 H locs hP hW => ?_)
    rw [hP] at hW
    refine lv_if_eq (tgt := 37) hx hb dX9_plan_22 (by decide) (fun k_3 => ?_) (fun k_3 => ?_)
    · have h := it_t k_3 h
      refine lv_iconst (v := (-1 : Int32)) hx hb dX9_plan_37 (by decide) ?_
      obtain ⟨rfl, rfl⟩ := Prod.mk.inj (Option.some.inj h)
      exact k_iret hE hr hlk hW ⟨hB_st, hF⟩ rfl dX9_plan_38
    · have h := it_f k_3 h
      refine lv_iload_n hx hb dX9_plan_25 rfl (lv_at hl 1 rfl) ?_
      refine lv_iconst (v := (3 : Int32)) hx hb dX9_plan_26 (by decide) ?_
      refine lv_icmp_ge (tgt := 39) hx hb dX9_plan_27 (by decide) (fun k_4 => ?_) (fun k_4 => ?_)
      · have h := it_t k_4 h
        exact wX9_plan_39 hE hr hlk _ _ _ _ _ _ _ hW hB_st hF (lv_sub hl [0, 1, 2] rfl) h
      · have h := it_f k_4 h
        refine lv_iload_n hx hb dX9_plan_30 rfl (lv_at hl 2 rfl) ?_
        obtain ⟨r_20, hr_20, h⟩ := zb_e h
        refine k_callSi (rest := []) hE hW hl.1 (mX9_isLog hr_20) q928 q929 q10 q930 hd_X9_isLog.2 ⟨Nat.le_of_ble_eq_true rfl, Nat.le_of_ble_eq_true rfl⟩ ⟨rfl, rfl⟩ rfl (Nat.le_of_ble_eq_true rfl) dX9_plan_31 ⟨Nat.zero_le _, Nat.zero_le _⟩ (fun c1 H locs hP hW => ?_)
        rw [hP] at hW
        refine lv_if_ne (tgt := 39) hx hb dX9_plan_34 (by decide) (fun k_21 => ?_) (fun k_21 => ?_)
        · have h := it_f k_21 h
          exact wX9_plan_39 hE hr hlk _ _ _ _ _ _ _ hW hB_st hF (lv_sub hl [0, 1, 2] rfl) h
        · have h := it_t k_21 h
          refine lv_iconst (v := (-1 : Int32)) hx hb dX9_plan_37 (by decide) ?_
          obtain ⟨rfl, rfl⟩ := Prod.mk.inj (Option.some.inj h)
          exact k_iret hE hr hlk hW ⟨hB_st, hF⟩ rfl dX9_plan_38
  · have h := it_t k_1 h
    refine lv_aload_n hx hb dX9_plan_5 rfl (lv_at hl 0 rfl) ?_
    refine k_get (v := .ref (ad (b + 1 + 0))) hE hW hB_st.o hB_st.obj rfl inX9 0 (by decide) q868 rfl dX9_plan_6 ?_
    refine lv_sipush (v := (5102 : Int32)) hx hb dX9_plan_9 (by decide) ?_
    refine lv_iconst (v := (0 : Int32)) hx hb dX9_plan_12 (by decide) ?_
    obtain ⟨g_22, h⟩ := zi_e h
    obtain ⟨st_23, est_23, h⟩ := zl_e h
    refine k_iast hE hW (hB_st.memA 0 (Nat.le_of_ble_eq_true rfl)) (hB_st.arr 0 rfl) g_22 dX9_plan_13 (fun H locs hW => ?_)
    obtain ⟨c, hB_st, hF, hW⟩ : ∃ c', MoB ct J ad c' b st_23 ∧ Fr c0 c' b 19 ∧ HW D J ad c' (aA J ad s.heap.size) s.heap H locs := ⟨_, hB_st.wA (k := 0) rfl est_23, hF.up (by omega) (by omega), hW⟩
    refine lv_iconst (v := (0 : Int32)) hx hb dX9_plan_14 (by decide) ?_
    obtain ⟨rfl, rfl⟩ := Prod.mk.inj (Option.some.inj h)
    exact k_iret hE hr hlk hW ⟨hB_st, hF⟩ rfl dX9_plan_15
set_option maxHeartbeats 4000000 in
set_option maxRecDepth 100000 in
theorem mX9_does {l : Launch} {D : va_G} {ct : Nat → ClassId} {J : List Nat} {ad : Nat → Nat} {c0 : CF} {a1 : Int32} {a2 : Int32} {b : Nat} {st : MS} (hB_st : MoB ct J ad c0 b st) {st9 : MS} (h : fX9_does  a1 a2 st = some st9) : Mv l D ct J ad yX9_does cX9_does 3 none (rr 5 115) [.ref (ad b), .int a1, .int a2] c0 (fun c' => MoB ct J ad c' b st9 ∧ Fr c0 c' b 19) := by
  refine Mv_of (own := RX9) (by decide) rfl (Nat.le_of_ble_eq_true rfl) (fun p e s m below meth cd hE hr hlk hW ls hl => ?_)
  have hx := hE.1
  have hb := hE.2.1
  have hl : lv_has ls 3 [(0, .ref (ad b)), (1, .int a1), (2, .int a2)] := hl
  rw [fX9_does] at h
  obtain ⟨c, hB_st, hF, hW⟩ : ∃ c', MoB ct J ad c' b st ∧ Fr c0 c' b 19 ∧ HW D J ad c' (aA J ad s.heap.size) s.heap s.heap [] := ⟨c0, hB_st, Fr.rf, hW⟩
  refine lv_iload_n hx hb dX9_does_0 rfl (lv_at hl 1 rfl) ?_
  refine lv_if_ne (tgt := 13) hx hb dX9_does_1 (by decide) (fun k_1 => ?_) (fun k_1 => ?_)
  · have h := it_f k_1 h
    refine lv_iload_n hx hb dX9_does_13 rfl (lv_at hl 1 rfl) ?_
    refine lv_iconst (v := (1 : Int32)) hx hb dX9_does_14 (by decide) ?_
    refine lv_icmp_ne (tgt := 27) hx hb dX9_does_15 (by decide) (fun k_2 => ?_) (fun k_2 => ?_)
    · have h := it_f k_2 h
      refine lv_iload_n hx hb dX9_does_27 rfl (lv_at hl 1 rfl) ?_
      refine lv_iconst (v := (3 : Int32)) hx hb dX9_does_28 (by decide) ?_
      refine lv_icmp_ne (tgt := 47) hx hb dX9_does_29 (by decide) (fun k_3 => ?_) (fun k_3 => ?_)
      · have h := it_f k_3 h
        refine lv_aload_n hx hb dX9_does_47 rfl (lv_at hl 0 rfl) ?_
        refine lv_iload_n hx hb dX9_does_48 rfl (lv_at hl 2 rfl) ?_
        obtain ⟨r_4, hr_4, h⟩ := zb_e h
        refine k_callVi (rest := []) hE hW hl.1 (mX9_isIn hB_st hr_4) hB_st.o hB_st.obj rfl q1151 q1153 qs114 q10 q1154 hd_X9_isIn ⟨Nat.le_of_ble_eq_true rfl, Nat.le_of_ble_eq_true rfl⟩ ⟨rfl, rfl⟩ rfl (Nat.le_of_ble_eq_true rfl) dX9_does_49 ⟨Nat.zero_le _, Nat.zero_le _⟩ (fun c1 H locs hP hW => ?_)
        rw [hP] at hW
        refine lv_if_eq (tgt := 61) hx hb dX9_does_52 (by decide) (fun k_5 => ?_) (fun k_5 => ?_)
        · have h := it_t k_5 h
          obtain rfl := Option.some.inj h
          exact k_vret hE hr hlk hW ⟨hB_st, hF⟩ dX9_does_61
        · have h := it_f k_5 h
          refine lv_aload_n hx hb dX9_does_55 rfl (lv_at hl 0 rfl) ?_
          refine lv_iload_n hx hb dX9_does_56 rfl (lv_at hl 2 rfl) ?_
          obtain ⟨r_6, st_7, hr_6, h⟩ := zb2_e h
          refine k_callVi (rest := []) hE hW hl.1 (mX9_polled hB_st hr_6) hB_st.o hB_st.obj rfl q1186 q1188 qs120 q10 q1189 hd_X9_polled ⟨Nat.le_of_ble_eq_true rfl, Nat.le_of_ble_eq_true rfl⟩ ⟨rfl, rfl⟩ rfl (Nat.le_of_ble_eq_true rfl) dX9_does_57 ⟨Nat.zero_le _, Nat.zero_le _⟩ (fun c1 H locs hP hW => ?_)
          obtain ⟨c, hB_st, hF, hW⟩ : ∃ c', MoB ct J ad c' b st_7 ∧ Fr c0 c' b 19 ∧ HW D J ad c' (aA J ad s.heap.size) s.heap H locs := ⟨c1, hP.1, hF.trans hP.2, hW⟩
          refine lv_pop hx hb dX9_does_60 rfl ?_
          obtain rfl := Option.some.inj h
          exact k_vret hE hr hlk hW ⟨hB_st, hF⟩ dX9_does_61
      · have h := it_t k_3 h
        refine lv_aload_n hx hb dX9_does_32 rfl (lv_at hl 0 rfl) ?_
        refine k_get (v := .ref (ad (b + 1 + 0))) hE hW hB_st.o hB_st.obj rfl inX9 0 (by decide) q868 rfl dX9_does_33 ?_
        refine lv_sipush (v := (5096 : Int32)) hx hb dX9_does_36 (by decide) ?_
        refine lv_dup2_11 hx hb dX9_does_39 rfl rfl ?_
        obtain ⟨g_8, h⟩ := zi_e h
        refine k_iald hE hW (hB_st.memA 0 (Nat.le_of_ble_eq_true rfl)) (hB_st.arr 0 rfl) g_8 dX9_does_40 ?_
        refine lv_iload_n hx hb dX9_does_41 rfl (lv_at hl 2 rfl) ?_
        refine lv_iadd hx hb dX9_does_42 ?_
        obtain ⟨g_9, h⟩ := zi_e h
        obtain ⟨st_10, est_10, h⟩ := zl_e h
        refine k_iast hE hW (hB_st.memA 0 (Nat.le_of_ble_eq_true rfl)) (hB_st.arr 0 rfl) g_9 dX9_does_43 (fun H locs hW => ?_)
        obtain ⟨c, hB_st, hF, hW⟩ : ∃ c', MoB ct J ad c' b st_10 ∧ Fr c0 c' b 19 ∧ HW D J ad c' (aA J ad s.heap.size) s.heap H locs := ⟨_, hB_st.wA (k := 0) rfl est_10, hF.up (by omega) (by omega), hW⟩
        refine lv_goto (tgt := 61) hx hb dX9_does_44 (by decide) ?_
        obtain rfl := Option.some.inj h
        exact k_vret hE hr hlk hW ⟨hB_st, hF⟩ dX9_does_61
    · have h := it_t k_2 h
      refine lv_aload_n hx hb dX9_does_18 rfl (lv_at hl 0 rfl) ?_
      refine lv_iload_n hx hb dX9_does_19 rfl (lv_at hl 2 rfl) ?_
      obtain ⟨r_11, st_12, hr_11, h⟩ := zb2_e h
      refine k_callVi (rest := []) hE hW hl.1 (mX9_retained hB_st hr_11) hB_st.o hB_st.obj rfl q1007 q1009 qs97 q10 q1010 hd_X9_retained ⟨Nat.le_of_ble_eq_true rfl, Nat.le_of_ble_eq_true rfl⟩ ⟨rfl, rfl⟩ rfl (Nat.le_of_ble_eq_true rfl) dX9_does_20 ⟨Nat.zero_le _, Nat.zero_le _⟩ (fun c1 H locs hP hW => ?_)
      obtain ⟨c, hB_st, hF, hW⟩ : ∃ c', MoB ct J ad c' b st_12 ∧ Fr c0 c' b 19 ∧ HW D J ad c' (aA J ad s.heap.size) s.heap H locs := ⟨c1, hP.1, hF.trans hP.2, hW⟩
      refine lv_pop hx hb dX9_does_23 rfl ?_
      refine lv_goto (tgt := 61) hx hb dX9_does_24 (by decide) ?_
      obtain rfl := Option.some.inj h
      exact k_vret hE hr hlk hW ⟨hB_st, hF⟩ dX9_does_61
  · have h := it_t k_1 h
    refine lv_aload_n hx hb dX9_does_4 rfl (lv_at hl 0 rfl) ?_
    refine lv_iload_n hx hb dX9_does_5 rfl (lv_at hl 2 rfl) ?_
    obtain ⟨r_13, st_14, hr_13, h⟩ := zb2_e h
    refine k_callVi (rest := []) hE hW hl.1 (mX9_compacted hB_st hr_13) hB_st.o hB_st.obj rfl q991 q993 qs94 q10 q994 hd_X9_compacted ⟨Nat.le_of_ble_eq_true rfl, Nat.le_of_ble_eq_true rfl⟩ ⟨rfl, rfl⟩ rfl (Nat.le_of_ble_eq_true rfl) dX9_does_6 ⟨Nat.zero_le _, Nat.zero_le _⟩ (fun c1 H locs hP hW => ?_)
    obtain ⟨c, hB_st, hF, hW⟩ : ∃ c', MoB ct J ad c' b st_14 ∧ Fr c0 c' b 19 ∧ HW D J ad c' (aA J ad s.heap.size) s.heap H locs := ⟨c1, hP.1, hF.trans hP.2, hW⟩
    refine lv_pop hx hb dX9_does_9 rfl ?_
    refine lv_goto (tgt := 61) hx hb dX9_does_10 (by decide) ?_
    obtain rfl := Option.some.inj h
    exact k_vret hE hr hlk hW ⟨hB_st, hF⟩ dX9_does_61
set_option maxHeartbeats 4000000 in
set_option maxRecDepth 100000 in
theorem wX9_ends_91 {p : Program} {l : Launch} {e : Env} {s : State} {m : MethodId} {args : Array Value} {below : List Frame} {meth : Method} {cd : Code} {D : va_G} {ct : Nat → ClassId} {J : List Nat} {ad : Nat → Nat} {c0 : CF} {b : Nat} (hE : ME p s m cd args D ct cX9_ends RX9 3) (hr : meth.sig.returnType = (some .int)) (hlk : meth.locks = false) {r : Int32} {st9 : MS} : ∀ (y0 : Int32) (st : MS) (c : CF) (H : Heap) (locs : List Loc) (ls : Array Slot), HW D J ad c (aA J ad s.heap.size) s.heap H locs → MoB ct J ad c b st → Fr c0 c b 19 → lv_has ls 3 [(0, .ref (ad b))] → fX9_ends_91 y0 st = some (r, st9) → W p l e (rr 6 137) s m args below meth cd H locs 0 0 (MQ below (Qi D J ad s.heap.size r (fun c' => MoB ct J ad c' b st9 ∧ Fr c0 c' b 19)) args s 0 0 (aA J ad s.heap.size)) (F0 m 91 ls [.int y0]) := by
  have hx := hE.1
  have hb := hE.2.1
  intro y0 st c H locs ls hW hB_st hF hl h
  rw [fX9_ends_91] at h
  refine lv_istore_n (lv' := [(2, .int y0), (0, .ref (ad b))]) hx hb dX9_ends_91 rfl hl (by decide) rfl (fun ls hl => ?_)
  refine lv_aload_n hx hb dX9_ends_92 rfl (lv_at hl 1 rfl) ?_
  refine k_get (v := .ref (ad (b + 1 + 1))) hE hW hB_st.o hB_st.obj rfl inX9 1 (by decide) q869 rfl dX9_ends_93 ?_
  refine lv_aload_n hx hb dX9_ends_96 rfl (lv_at hl 1 rfl) ?_
  refine k_get (v := .ref (ad (b + 1 + 0))) hE hW hB_st.o hB_st.obj rfl inX9 0 (by decide) q868 rfl dX9_ends_97 ?_
  obtain ⟨st_8, hst_8, h⟩ := zb_e h
  refine k_callSv (rest := []) hE hW hl.1 (mX9_copy (k1 := 1) (k2 := 0) rfl rfl (Nat.le_of_ble_eq_true rfl) (Nat.le_of_ble_eq_true rfl) hB_st hst_8) q1140 q1141 q10 q1142 hd_X9_copy.2 ⟨Nat.le_of_ble_eq_true rfl, Nat.le_of_ble_eq_true rfl⟩ ⟨rfl, rfl⟩ rfl (Nat.le_of_ble_eq_true rfl) dX9_ends_100 ⟨Nat.zero_le _, Nat.zero_le _⟩ (fun c1 H locs hP hW => ?_)
  obtain ⟨c, hB_st, hF, hW⟩ : ∃ c', MoB ct J ad c' b st_8 ∧ Fr c0 c' b 19 ∧ HW D J ad c' (aA J ad s.heap.size) s.heap H locs := ⟨c1, hP.1, hF.trans hP.2, hW⟩
  refine lv_iload_n hx hb dX9_ends_103 rfl (lv_at hl 0 rfl) ?_
  obtain ⟨rfl, rfl⟩ := Prod.mk.inj (Option.some.inj h)
  exact k_iret hE hr hlk hW ⟨hB_st, hF⟩ rfl dX9_ends_104
set_option maxHeartbeats 4000000 in
set_option maxRecDepth 100000 in
theorem wX9_ends_24 {p : Program} {l : Launch} {e : Env} {s : State} {m : MethodId} {args : Array Value} {below : List Frame} {meth : Method} {cd : Code} {D : va_G} {ct : Nat → ClassId} {J : List Nat} {ad : Nat → Nat} {c0 : CF} {b : Nat} (hE : ME p s m cd args D ct cX9_ends RX9 3) (hr : meth.sig.returnType = (some .int)) (hlk : meth.locks = false) {x1 : Int32} {r : Int32} {st9 : MS} : ∀ (n : Nat) (x2 : Int32) (st : MS) (c : CF) (H : Heap) (locs : List Loc) (ls : Array Slot), HW D J ad c (aA J ad s.heap.size) s.heap H locs → MoB ct J ad c b st → Fr c0 c b 19 → lv_has ls 3 [(0, .ref (ad b)), (1, .int x1), (2, .int x2)] → fX9_ends_24 x1 n x2 st = some (r, st9) → W p l e (rr 6 137) s m args below meth cd H locs 0 0 (MQ below (Qi D J ad s.heap.size r (fun c' => MoB ct J ad c' b st9 ∧ Fr c0 c' b 19)) args s 0 0 (aA J ad s.heap.size)) (F0 m 24 ls []) := by
  have hx := hE.1
  have hb := hE.2.1
  intro n
  induction n with
  | zero =>
    intro x2 st c H locs ls hW hB_st hF hl h
    have h2 : (none : Option (Int32 × MS)) = some (r, st9) := h
    cases h2
  | succ n ih =>
    intro x2 st c H locs ls hW hB_st hF hl h
    rw [fX9_ends_24] at h
    refine lv_iload_n hx hb dX9_ends_24 rfl (lv_at hl 2 rfl) ?_
    refine lv_aload_n hx hb dX9_ends_25 rfl (lv_at hl 0 rfl) ?_
    refine k_get (v := .ref (ad (b + 1 + 1))) hE hW hB_st.o hB_st.obj rfl inX9 1 (by decide) q869 rfl dX9_ends_26 ?_
    refine lv_sipush (v := (5102 : Int32)) hx hb dX9_ends_29 (by decide) ?_
    obtain ⟨g_4, h⟩ := zi_e h
    refine k_iald hE hW (hB_st.memA 1 (Nat.le_of_ble_eq_true rfl)) (hB_st.arr 1 rfl) g_4 dX9_ends_32 ?_
    refine lv_icmp_ge (tgt := 72) hx hb dX9_ends_33 (by decide) (fun k_5 => ?_) (fun k_5 => ?_)
    · have h := it_t k_5 h
      refine lv_iload_n hx hb dX9_ends_72 rfl (lv_at hl 1 rfl) ?_
      refine lv_if_ne (tgt := 83) hx hb dX9_ends_73 (by decide) (fun k_6 => ?_) (fun k_6 => ?_)
      · have h := it_f k_6 h
        refine lv_aload_n hx hb dX9_ends_83 rfl (lv_at hl 0 rfl) ?_
        refine k_get (v := .ref (ad (b + 1 + 0))) hE hW hB_st.o hB_st.obj rfl inX9 0 (by decide) q868 rfl dX9_ends_84 ?_
        refine lv_sipush (v := (5100 : Int32)) hx hb dX9_ends_87 (by decide) ?_
        obtain ⟨g_7, h⟩ := zi_e h
        refine k_iald hE hW (hB_st.memA 0 (Nat.le_of_ble_eq_true rfl)) (hB_st.arr 0 rfl) g_7 dX9_ends_90 ?_
        exact wX9_ends_91 hE hr hlk _ _ _ _ _ _ hW hB_st hF (lv_sub hl [0] rfl) h
      · have h := it_t k_6 h
        refine lv_aload_n hx hb dX9_ends_76 rfl (lv_at hl 0 rfl) ?_
        obtain ⟨r_9, hr_9, h⟩ := zb_e h
        refine k_callVi (rest := []) hE hW hl.1 (mX9_allLogs hB_st hr_9) hB_st.o hB_st.obj rfl q1225 q1227 qs123 q10 q1228 hd_X9_allLogs ⟨Nat.le_of_ble_eq_true rfl, Nat.le_of_ble_eq_true rfl⟩ ⟨rfl, rfl⟩ rfl (Nat.le_of_ble_eq_true rfl) dX9_ends_77 ⟨Nat.zero_le _, Nat.zero_le _⟩ (fun c1 H locs hP hW => ?_)
        rw [hP] at hW
        refine lv_goto (tgt := 91) hx hb dX9_ends_80 (by decide) ?_
        exact wX9_ends_91 hE hr hlk _ _ _ _ _ _ hW hB_st hF (lv_sub hl [0] rfl) h
    · have h := it_f k_5 h
      refine lv_aload_n hx hb dX9_ends_36 rfl (lv_at hl 0 rfl) ?_
      refine lv_aload_n hx hb dX9_ends_37 rfl (lv_at hl 0 rfl) ?_
      refine k_get (v := .ref (ad (b + 1 + 1))) hE hW hB_st.o hB_st.obj rfl inX9 1 (by decide) q869 rfl dX9_ends_38 ?_
      refine lv_sipush (v := (5103 : Int32)) hx hb dX9_ends_41 (by decide) ?_
      refine lv_iconst (v := (2 : Int32)) hx hb dX9_ends_44 (by decide) ?_
      refine lv_iload_n hx hb dX9_ends_45 rfl (lv_at hl 2 rfl) ?_
      refine lv_imul hx hb dX9_ends_46 ?_
      refine lv_iadd hx hb dX9_ends_47 ?_
      obtain ⟨g_10, h⟩ := zi_e h
      refine k_iald hE hW (hB_st.memA 1 (Nat.le_of_ble_eq_true rfl)) (hB_st.arr 1 rfl) g_10 dX9_ends_48 ?_
      refine lv_aload_n hx hb dX9_ends_49 rfl (lv_at hl 0 rfl) ?_
      refine k_get (v := .ref (ad (b + 1 + 1))) hE hW hB_st.o hB_st.obj rfl inX9 1 (by decide) q869 rfl dX9_ends_50 ?_
      refine lv_sipush (v := (5103 : Int32)) hx hb dX9_ends_53 (by decide) ?_
      refine lv_iconst (v := (2 : Int32)) hx hb dX9_ends_56 (by decide) ?_
      refine lv_iload_n hx hb dX9_ends_57 rfl (lv_at hl 2 rfl) ?_
      refine lv_imul hx hb dX9_ends_58 ?_
      refine lv_iadd hx hb dX9_ends_59 ?_
      refine lv_iconst (v := (1 : Int32)) hx hb dX9_ends_60 (by decide) ?_
      refine lv_iadd hx hb dX9_ends_61 ?_
      obtain ⟨g_11, h⟩ := zi_e h
      refine k_iald hE hW (hB_st.memA 1 (Nat.le_of_ble_eq_true rfl)) (hB_st.arr 1 rfl) g_11 dX9_ends_62 ?_
      obtain ⟨st_12, hst_12, h⟩ := zb_e h
      refine k_callVv (rest := []) hE hW hl.1 (mX9_does hB_st hst_12) hB_st.o hB_st.obj rfl q1221 q1223 qs122 q10 q1224 hd_X9_does ⟨Nat.le_of_ble_eq_true rfl, Nat.le_of_ble_eq_true rfl⟩ ⟨rfl, rfl⟩ rfl (Nat.le_of_ble_eq_true rfl) dX9_ends_63 ⟨Nat.zero_le _, Nat.zero_le _⟩ (fun c1 H locs hP hW => ?_)
      obtain ⟨c, hB_st, hF, hW⟩ : ∃ c', MoB ct J ad c' b st_12 ∧ Fr c0 c' b 19 ∧ HW D J ad c' (aA J ad s.heap.size) s.heap H locs := ⟨c1, hP.1, hF.trans hP.2, hW⟩
      refine lv_iinc (v := (x2 + (1 : Int32))) (lv' := [(2, .int (x2 + (1 : Int32))), (0, .ref (ad b)), (1, .int x1)]) hx hb dX9_ends_66 hl (k := 2) rfl rfl (by decide) rfl (fun ls hl => ?_)
      refine lv_goto (tgt := 24) hx hb dX9_ends_69 (by decide) ?_
      exact ih _ _ _ _ _ _ hW hB_st hF (lv_sub hl [1, 2, 0] rfl) h
set_option maxHeartbeats 4000000 in
set_option maxRecDepth 100000 in
theorem mX9_ends {l : Launch} {D : va_G} {ct : Nat → ClassId} {J : List Nat} {ad : Nat → Nat} {c0 : CF} {a1 : Int32} {b : Nat} {st : MS} (hB_st : MoB ct J ad c0 b st) {r : Int32} {st9 : MS} (h : fX9_ends  a1 st = some (r, st9)) : Mi l D ct J ad yX9_ends cX9_ends 3 (some .int) (rr 6 137) [.ref (ad b), .int a1] c0 r (fun c' => MoB ct J ad c' b st9 ∧ Fr c0 c' b 19) := by
  refine Mi_of (own := RX9) (by decide) rfl (Nat.le_of_ble_eq_true rfl) (fun p e s m below meth cd hE hr hlk hW ls hl => ?_)
  have hx := hE.1
  have hb := hE.2.1
  have hl : lv_has ls 3 [(0, .ref (ad b)), (1, .int a1)] := hl
  rw [fX9_ends] at h
  obtain ⟨c, hB_st, hF, hW⟩ : ∃ c', MoB ct J ad c' b st ∧ Fr c0 c' b 19 ∧ HW D J ad c' (aA J ad s.heap.size) s.heap s.heap [] := ⟨c0, hB_st, Fr.rf, hW⟩
  refine lv_iload_n hx hb dX9_ends_0 rfl (lv_at hl 1 rfl) ?_
  refine lv_iconst (v := (0 : Int32)) hx hb dX9_ends_1 (by decide) ?_
  refine lv_iconst (v := (1 : Int32)) hx hb dX9_ends_2 (by decide) ?_
  obtain ⟨r_1, hr_1, h⟩ := zb_e h
  refine k_callSi (rest := []) hE hW hl.1 (mX9_in hr_1) q931 q932 q10 q933 hd_X9_in.2 ⟨Nat.le_of_ble_eq_true rfl, Nat.le_of_ble_eq_true rfl⟩ ⟨rfl, rfl⟩ rfl (Nat.le_of_ble_eq_true rfl) dX9_ends_3 ⟨Nat.zero_le _, Nat.zero_le _⟩ (fun c1 H locs hP hW => ?_)
  rw [hP] at hW
  refine lv_if_ne (tgt := 11) hx hb dX9_ends_6 (by decide) (fun k_2 => ?_) (fun k_2 => ?_)
  · have h := it_f k_2 h
    refine lv_aload_n hx hb dX9_ends_11 rfl (lv_at hl 0 rfl) ?_
    refine k_get (v := .ref (ad (b + 1 + 0))) hE hW hB_st.o hB_st.obj rfl inX9 0 (by decide) q868 rfl dX9_ends_12 ?_
    refine lv_aload_n hx hb dX9_ends_15 rfl (lv_at hl 0 rfl) ?_
    refine k_get (v := .ref (ad (b + 1 + 1))) hE hW hB_st.o hB_st.obj rfl inX9 1 (by decide) q869 rfl dX9_ends_16 ?_
    obtain ⟨st_3, hst_3, h⟩ := zb_e h
    refine k_callSv (rest := []) hE hW hl.1 (mX9_copy (k1 := 0) (k2 := 1) rfl rfl (Nat.le_of_ble_eq_true rfl) (Nat.le_of_ble_eq_true rfl) hB_st hst_3) q1140 q1141 q10 q1142 hd_X9_copy.2 ⟨Nat.le_of_ble_eq_true rfl, Nat.le_of_ble_eq_true rfl⟩ ⟨rfl, rfl⟩ rfl (Nat.le_of_ble_eq_true rfl) dX9_ends_19 ⟨Nat.zero_le _, Nat.zero_le _⟩ (fun c1 H locs hP hW => ?_)
    obtain ⟨c, hB_st, hF, hW⟩ : ∃ c', MoB ct J ad c' b st_3 ∧ Fr c0 c' b 19 ∧ HW D J ad c' (aA J ad s.heap.size) s.heap H locs := ⟨c1, hP.1, hF.trans hP.2, hW⟩
    refine lv_iconst (v := (0 : Int32)) hx hb dX9_ends_22 (by decide) ?_
    refine lv_istore_n (lv' := [(2, .int (0 : Int32)), (0, .ref (ad b)), (1, .int a1)]) hx hb dX9_ends_23 rfl hl (by decide) rfl (fun ls hl => ?_)
    exact wX9_ends_24 hE hr hlk _ _ _ _ _ _ _ hW hB_st hF (lv_sub hl [1, 2, 0] rfl) h
  · have h := it_t k_2 h
    refine lv_iconst (v := (-1 : Int32)) hx hb dX9_ends_9 (by decide) ?_
    obtain ⟨rfl, rfl⟩ := Prod.mk.inj (Option.some.inj h)
    exact k_iret hE hr hlk hW ⟨hB_st, hF⟩ rfl dX9_ends_10
set_option maxHeartbeats 4000000 in
set_option maxRecDepth 100000 in
theorem mX9_book {l : Launch} {D : va_G} {ct : Nat → ClassId} {J : List Nat} {ad : Nat → Nat} {c0 : CF} {a1 : Int32} {a2 : Int32} {b : Nat} {st : MS} (hB_st : MoB ct J ad c0 b st) {r : Int32} {st9 : MS} (h : fX9_book  a1 a2 st = some (r, st9)) : Mi l D ct J ad yX9_book cX9_book 3 (some .int) (rr 2 42) [.ref (ad b), .int a1, .int a2] c0 r (fun c' => MoB ct J ad c' b st9 ∧ Fr c0 c' b 19) := by
  refine Mi_of (own := RX9) (by decide) rfl (Nat.le_of_ble_eq_true rfl) (fun p e s m below meth cd hE hr hlk hW ls hl => ?_)
  have hx := hE.1
  have hb := hE.2.1
  have hl : lv_has ls 3 [(0, .ref (ad b)), (1, .int a1), (2, .int a2)] := hl
  rw [fX9_book] at h
  obtain ⟨c, hB_st, hF, hW⟩ : ∃ c', MoB ct J ad c' b st ∧ Fr c0 c' b 19 ∧ HW D J ad c' (aA J ad s.heap.size) s.heap s.heap [] := ⟨c0, hB_st, Fr.rf, hW⟩
  refine lv_iload_n hx hb dX9_book_0 rfl (lv_at hl 1 rfl) ?_
  refine lv_iconst (v := (-1 : Int32)) hx hb dX9_book_1 (by decide) ?_
  refine lv_icmp_ne (tgt := 16) hx hb dX9_book_2 (by decide) (fun k_1 => ?_) (fun k_1 => ?_)
  · have h := it_f k_1 h
    refine lv_iload_n hx hb dX9_book_16 rfl (lv_at hl 1 rfl) ?_
    obtain ⟨r_2, hr_2, h⟩ := zb_e h
    refine k_callSi (rest := []) hE hW hl.1 (mX9_isLog hr_2) q928 q929 q10 q930 hd_X9_isLog.2 ⟨Nat.le_of_ble_eq_true rfl, Nat.le_of_ble_eq_true rfl⟩ ⟨rfl, rfl⟩ rfl (Nat.le_of_ble_eq_true rfl) dX9_book_17 ⟨Nat.zero_le _, Nat.zero_le _⟩ (fun c1 H locs hP hW => ?_)
    rw [hP] at hW
    refine lv_if_ne (tgt := 25) hx hb dX9_book_20 (by decide) (fun k_3 => ?_) (fun k_3 => ?_)
    · have h := it_f k_3 h
      refine lv_iload_n hx hb dX9_book_25 rfl (lv_at hl 2 rfl) ?_
      refine lv_iconst (v := (0 : Int32)) hx hb dX9_book_26 (by decide) ?_
      refine lv_sipush (v := (200 : Int32)) hx hb dX9_book_27 (by decide) ?_
      obtain ⟨r_4, hr_4, h⟩ := zb_e h
      refine k_callSi (rest := []) hE hW hl.1 (mX9_in hr_4) q931 q932 q10 q933 hd_X9_in.2 ⟨Nat.le_of_ble_eq_true rfl, Nat.le_of_ble_eq_true rfl⟩ ⟨rfl, rfl⟩ rfl (Nat.le_of_ble_eq_true rfl) dX9_book_30 ⟨Nat.zero_le _, Nat.zero_le _⟩ (fun c1 H locs hP hW => ?_)
      rw [hP] at hW
      refine lv_if_ne (tgt := 39) hx hb dX9_book_33 (by decide) (fun k_5 => ?_) (fun k_5 => ?_)
      · have h := it_f k_5 h
        refine lv_aload_n hx hb dX9_book_39 rfl (lv_at hl 0 rfl) ?_
        refine k_get (v := .ref (ad (b + 1 + 0))) hE hW hB_st.o hB_st.obj rfl inX9 0 (by decide) q868 rfl dX9_book_40 ?_
        refine lv_sipush (v := (5123 : Int32)) hx hb dX9_book_43 (by decide) ?_
        obtain ⟨g_6, h⟩ := zi_e h
        refine k_iald hE hW (hB_st.memA 0 (Nat.le_of_ble_eq_true rfl)) (hB_st.arr 0 rfl) g_6 dX9_book_46 ?_
        refine lv_bipush (v := (8 : Int32)) hx hb dX9_book_47 (by decide) ?_
        refine lv_icmp_ne (tgt := 55) hx hb dX9_book_49 (by decide) (fun k_7 => ?_) (fun k_7 => ?_)
        · have h := it_f k_7 h
          refine lv_aload_n hx hb dX9_book_55 rfl (lv_at hl 0 rfl) ?_
          refine k_get (v := .ref (ad (b + 1 + 0))) hE hW hB_st.o hB_st.obj rfl inX9 0 (by decide) q868 rfl dX9_book_56 ?_
          refine lv_sipush (v := (5124 : Int32)) hx hb dX9_book_59 (by decide) ?_
          refine lv_iconst (v := (2 : Int32)) hx hb dX9_book_62 (by decide) ?_
          refine lv_aload_n hx hb dX9_book_63 rfl (lv_at hl 0 rfl) ?_
          refine k_get (v := .ref (ad (b + 1 + 0))) hE hW hB_st.o hB_st.obj rfl inX9 0 (by decide) q868 rfl dX9_book_64 ?_
          refine lv_sipush (v := (5123 : Int32)) hx hb dX9_book_67 (by decide) ?_
          obtain ⟨g_8, h⟩ := zi_e h
          refine k_iald hE hW (hB_st.memA 0 (Nat.le_of_ble_eq_true rfl)) (hB_st.arr 0 rfl) g_8 dX9_book_70 ?_
          refine lv_imul hx hb dX9_book_71 ?_
          refine lv_iadd hx hb dX9_book_72 ?_
          refine lv_iload_n hx hb dX9_book_73 rfl (lv_at hl 1 rfl) ?_
          obtain ⟨g_9, h⟩ := zi_e h
          obtain ⟨st_10, est_10, h⟩ := zl_e h
          refine k_iast hE hW (hB_st.memA 0 (Nat.le_of_ble_eq_true rfl)) (hB_st.arr 0 rfl) g_9 dX9_book_74 (fun H locs hW => ?_)
          obtain ⟨c, hB_st, hF, hW⟩ : ∃ c', MoB ct J ad c' b st_10 ∧ Fr c0 c' b 19 ∧ HW D J ad c' (aA J ad s.heap.size) s.heap H locs := ⟨_, hB_st.wA (k := 0) rfl est_10, hF.up (by omega) (by omega), hW⟩
          refine lv_aload_n hx hb dX9_book_75 rfl (lv_at hl 0 rfl) ?_
          refine k_get (v := .ref (ad (b + 1 + 0))) hE hW hB_st.o hB_st.obj rfl inX9 0 (by decide) q868 rfl dX9_book_76 ?_
          refine lv_sipush (v := (5124 : Int32)) hx hb dX9_book_79 (by decide) ?_
          refine lv_iconst (v := (2 : Int32)) hx hb dX9_book_82 (by decide) ?_
          refine lv_aload_n hx hb dX9_book_83 rfl (lv_at hl 0 rfl) ?_
          refine k_get (v := .ref (ad (b + 1 + 0))) hE hW hB_st.o hB_st.obj rfl inX9 0 (by decide) q868 rfl dX9_book_84 ?_
          refine lv_sipush (v := (5123 : Int32)) hx hb dX9_book_87 (by decide) ?_
          obtain ⟨g_11, h⟩ := zi_e h
          refine k_iald hE hW (hB_st.memA 0 (Nat.le_of_ble_eq_true rfl)) (hB_st.arr 0 rfl) g_11 dX9_book_90 ?_
          refine lv_imul hx hb dX9_book_91 ?_
          refine lv_iadd hx hb dX9_book_92 ?_
          refine lv_iconst (v := (1 : Int32)) hx hb dX9_book_93 (by decide) ?_
          refine lv_iadd hx hb dX9_book_94 ?_
          refine lv_iload_n hx hb dX9_book_95 rfl (lv_at hl 2 rfl) ?_
          obtain ⟨g_12, h⟩ := zi_e h
          obtain ⟨st_13, est_13, h⟩ := zl_e h
          refine k_iast hE hW (hB_st.memA 0 (Nat.le_of_ble_eq_true rfl)) (hB_st.arr 0 rfl) g_12 dX9_book_96 (fun H locs hW => ?_)
          obtain ⟨c, hB_st, hF, hW⟩ : ∃ c', MoB ct J ad c' b st_13 ∧ Fr c0 c' b 19 ∧ HW D J ad c' (aA J ad s.heap.size) s.heap H locs := ⟨_, hB_st.wA (k := 0) rfl est_13, hF.up (by omega) (by omega), hW⟩
          refine lv_aload_n hx hb dX9_book_97 rfl (lv_at hl 0 rfl) ?_
          refine k_get (v := .ref (ad (b + 1 + 0))) hE hW hB_st.o hB_st.obj rfl inX9 0 (by decide) q868 rfl dX9_book_98 ?_
          refine lv_sipush (v := (5123 : Int32)) hx hb dX9_book_101 (by decide) ?_
          refine lv_dup2_11 hx hb dX9_book_104 rfl rfl ?_
          obtain ⟨g_14, h⟩ := zi_e h
          refine k_iald hE hW (hB_st.memA 0 (Nat.le_of_ble_eq_true rfl)) (hB_st.arr 0 rfl) g_14 dX9_book_105 ?_
          refine lv_iconst (v := (1 : Int32)) hx hb dX9_book_106 (by decide) ?_
          refine lv_iadd hx hb dX9_book_107 ?_
          obtain ⟨g_15, h⟩ := zi_e h
          obtain ⟨st_16, est_16, h⟩ := zl_e h
          refine k_iast hE hW (hB_st.memA 0 (Nat.le_of_ble_eq_true rfl)) (hB_st.arr 0 rfl) g_15 dX9_book_108 (fun H locs hW => ?_)
          obtain ⟨c, hB_st, hF, hW⟩ : ∃ c', MoB ct J ad c' b st_16 ∧ Fr c0 c' b 19 ∧ HW D J ad c' (aA J ad s.heap.size) s.heap H locs := ⟨_, hB_st.wA (k := 0) rfl est_16, hF.up (by omega) (by omega), hW⟩
          refine lv_aload_n hx hb dX9_book_109 rfl (lv_at hl 0 rfl) ?_
          refine k_get (v := .ref (ad (b + 1 + 0))) hE hW hB_st.o hB_st.obj rfl inX9 0 (by decide) q868 rfl dX9_book_110 ?_
          refine lv_sipush (v := (5123 : Int32)) hx hb dX9_book_113 (by decide) ?_
          obtain ⟨g_17, h⟩ := zi_e h
          refine k_iald hE hW (hB_st.memA 0 (Nat.le_of_ble_eq_true rfl)) (hB_st.arr 0 rfl) g_17 dX9_book_116 ?_
          obtain ⟨rfl, rfl⟩ := Prod.mk.inj (Option.some.inj h)
          exact k_iret hE hr hlk hW ⟨hB_st, hF⟩ rfl dX9_book_117
        · have h := it_t k_7 h
          refine lv_bipush (v := (-4 : Int32)) hx hb dX9_book_52 (by decide) ?_
          obtain ⟨rfl, rfl⟩ := Prod.mk.inj (Option.some.inj h)
          exact k_iret hE hr hlk hW ⟨hB_st, hF⟩ rfl dX9_book_54
      · have h := it_t k_5 h
        refine lv_bipush (v := (-2 : Int32)) hx hb dX9_book_36 (by decide) ?_
        obtain ⟨rfl, rfl⟩ := Prod.mk.inj (Option.some.inj h)
        exact k_iret hE hr hlk hW ⟨hB_st, hF⟩ rfl dX9_book_38
    · have h := it_t k_3 h
      refine lv_iconst (v := (-1 : Int32)) hx hb dX9_book_23 (by decide) ?_
      obtain ⟨rfl, rfl⟩ := Prod.mk.inj (Option.some.inj h)
      exact k_iret hE hr hlk hW ⟨hB_st, hF⟩ rfl dX9_book_24
  · have h := it_t k_1 h
    refine lv_aload_n hx hb dX9_book_5 rfl (lv_at hl 0 rfl) ?_
    refine k_get (v := .ref (ad (b + 1 + 0))) hE hW hB_st.o hB_st.obj rfl inX9 0 (by decide) q868 rfl dX9_book_6 ?_
    refine lv_sipush (v := (5123 : Int32)) hx hb dX9_book_9 (by decide) ?_
    refine lv_iconst (v := (0 : Int32)) hx hb dX9_book_12 (by decide) ?_
    obtain ⟨g_18, h⟩ := zi_e h
    obtain ⟨st_19, est_19, h⟩ := zl_e h
    refine k_iast hE hW (hB_st.memA 0 (Nat.le_of_ble_eq_true rfl)) (hB_st.arr 0 rfl) g_18 dX9_book_13 (fun H locs hW => ?_)
    obtain ⟨c, hB_st, hF, hW⟩ : ∃ c', MoB ct J ad c' b st_19 ∧ Fr c0 c' b 19 ∧ HW D J ad c' (aA J ad s.heap.size) s.heap H locs := ⟨_, hB_st.wA (k := 0) rfl est_19, hF.up (by omega) (by omega), hW⟩
    refine lv_iconst (v := (0 : Int32)) hx hb dX9_book_14 (by decide) ?_
    obtain ⟨rfl, rfl⟩ := Prod.mk.inj (Option.some.inj h)
    exact k_iret hE hr hlk hW ⟨hB_st, hF⟩ rfl dX9_book_15
set_option maxHeartbeats 4000000 in
set_option maxRecDepth 100000 in
theorem wX9_looked_2 {p : Program} {l : Launch} {e : Env} {s : State} {m : MethodId} {args : Array Value} {below : List Frame} {meth : Method} {cd : Code} {D : va_G} {ct : Nat → ClassId} {J : List Nat} {ad : Nat → Nat} {c0 : CF} {b : Nat} (hE : ME p s m cd args D ct cX9_looked RX9 2) (hr : meth.sig.returnType = (some .int)) (hlk : meth.locks = false) {st : MS} (hB_st : MoB ct J ad c0 b st) {r : Int32} : ∀ (n : Nat) (x1 : Int32) (H : Heap) (locs : List Loc) (ls : Array Slot), HW D J ad c0 (aA J ad s.heap.size) s.heap H locs → lv_has ls 2 [(0, .ref (ad b)), (1, .int x1)] → fX9_looked_2 st n x1 = some r → W p l e (rr 2 44) s m args below meth cd H locs 0 0 (MQ below (Qi D J ad s.heap.size r (fun c' => c' = c0)) args s 0 0 (aA J ad s.heap.size)) (F0 m 2 ls []) := by
  have hx := hE.1
  have hb := hE.2.1
  intro n
  induction n with
  | zero =>
    intro x1 H locs ls hW hl h
    have h2 : (none : Option Int32) = some r := h
    cases h2
  | succ n ih =>
    intro x1 H locs ls hW hl h
    rw [fX9_looked_2] at h
    refine lv_iload_n hx hb dX9_looked_2 rfl (lv_at hl 1 rfl) ?_
    refine lv_aload_n hx hb dX9_looked_3 rfl (lv_at hl 0 rfl) ?_
    refine k_get (v := .ref (ad (b + 1 + 0))) hE hW hB_st.o hB_st.obj rfl inX9 0 (by decide) q868 rfl dX9_looked_4 ?_
    refine lv_sipush (v := (5123 : Int32)) hx hb dX9_looked_7 (by decide) ?_
    obtain ⟨g_1, h⟩ := zi_e h
    refine k_iald hE hW (hB_st.memA 0 (Nat.le_of_ble_eq_true rfl)) (hB_st.arr 0 rfl) g_1 dX9_looked_10 ?_
    refine lv_icmp_ge (tgt := 56) hx hb dX9_looked_11 (by decide) (fun k_2 => ?_) (fun k_2 => ?_)
    · have h := it_t k_2 h
      refine lv_bipush (v := (-5 : Int32)) hx hb dX9_looked_56 (by decide) ?_
      obtain rfl := Option.some.inj h
      exact k_iret hE hr hlk hW rfl rfl dX9_looked_58
    · have h := it_f k_2 h
      refine lv_aload_n hx hb dX9_looked_14 rfl (lv_at hl 0 rfl) ?_
      refine lv_aload_n hx hb dX9_looked_15 rfl (lv_at hl 0 rfl) ?_
      refine k_get (v := .ref (ad (b + 1 + 0))) hE hW hB_st.o hB_st.obj rfl inX9 0 (by decide) q868 rfl dX9_looked_16 ?_
      refine lv_sipush (v := (5124 : Int32)) hx hb dX9_looked_19 (by decide) ?_
      refine lv_iconst (v := (2 : Int32)) hx hb dX9_looked_22 (by decide) ?_
      refine lv_iload_n hx hb dX9_looked_23 rfl (lv_at hl 1 rfl) ?_
      refine lv_imul hx hb dX9_looked_24 ?_
      refine lv_iadd hx hb dX9_looked_25 ?_
      obtain ⟨g_3, h⟩ := zi_e h
      refine k_iald hE hW (hB_st.memA 0 (Nat.le_of_ble_eq_true rfl)) (hB_st.arr 0 rfl) g_3 dX9_looked_26 ?_
      refine lv_iconst (v := (0 : Int32)) hx hb dX9_looked_27 (by decide) ?_
      obtain ⟨r_4, hr_4, h⟩ := zb_e h
      refine k_callVi (rest := []) hE hW hl.1 (mX9_base hB_st hr_4) hB_st.o hB_st.obj rfl q959 q961 qs90 q10 q962 hd_X9_base ⟨Nat.le_of_ble_eq_true rfl, Nat.le_of_ble_eq_true rfl⟩ ⟨rfl, rfl⟩ rfl (Nat.le_of_ble_eq_true rfl) dX9_looked_28 ⟨Nat.zero_le _, Nat.zero_le _⟩ (fun c1 H locs hP hW => ?_)
      rw [hP] at hW
      refine lv_aload_n hx hb dX9_looked_31 rfl (lv_at hl 0 rfl) ?_
      refine k_get (v := .ref (ad (b + 1 + 0))) hE hW hB_st.o hB_st.obj rfl inX9 0 (by decide) q868 rfl dX9_looked_32 ?_
      refine lv_sipush (v := (5124 : Int32)) hx hb dX9_looked_35 (by decide) ?_
      refine lv_iconst (v := (2 : Int32)) hx hb dX9_looked_38 (by decide) ?_
      refine lv_iload_n hx hb dX9_looked_39 rfl (lv_at hl 1 rfl) ?_
      refine lv_imul hx hb dX9_looked_40 ?_
      refine lv_iadd hx hb dX9_looked_41 ?_
      refine lv_iconst (v := (1 : Int32)) hx hb dX9_looked_42 (by decide) ?_
      refine lv_iadd hx hb dX9_looked_43 ?_
      obtain ⟨g_5, h⟩ := zi_e h
      refine k_iald hE hW (hB_st.memA 0 (Nat.le_of_ble_eq_true rfl)) (hB_st.arr 0 rfl) g_5 dX9_looked_44 ?_
      refine lv_icmp_eq (tgt := 50) hx hb dX9_looked_45 (by decide) (fun k_6 => ?_) (fun k_6 => ?_)
      · have h := it_t k_6 h
        refine lv_iinc (v := (x1 + (1 : Int32))) (lv' := [(1, .int (x1 + (1 : Int32))), (0, .ref (ad b))]) hx hb dX9_looked_50 hl (k := 1) rfl rfl (by decide) rfl (fun ls hl => ?_)
        refine lv_goto (tgt := 2) hx hb dX9_looked_53 (by decide) ?_
        exact ih _ _ _ _ hW (lv_sub hl [1, 0] rfl) h
      · have h := it_f k_6 h
        refine lv_iload_n hx hb dX9_looked_48 rfl (lv_at hl 1 rfl) ?_
        obtain rfl := Option.some.inj h
        exact k_iret hE hr hlk hW rfl rfl dX9_looked_49
set_option maxHeartbeats 4000000 in
set_option maxRecDepth 100000 in
theorem mX9_looked {l : Launch} {D : va_G} {ct : Nat → ClassId} {J : List Nat} {ad : Nat → Nat} {c0 : CF} {b : Nat} {st : MS} (hB_st : MoB ct J ad c0 b st) {r : Int32} (h : fX9_looked   st = some r) : Mi l D ct J ad yX9_looked cX9_looked 2 (some .int) (rr 2 44) [.ref (ad b)] c0 r (fun c' => c' = c0) := by
  refine Mi_of (own := RX9) (by decide) rfl (Nat.le_of_ble_eq_true rfl) (fun p e s m below meth cd hE hr hlk hW ls hl => ?_)
  have hx := hE.1
  have hb := hE.2.1
  have hl : lv_has ls 2 [(0, .ref (ad b))] := hl
  rw [fX9_looked] at h
  refine lv_iconst (v := (0 : Int32)) hx hb dX9_looked_0 (by decide) ?_
  refine lv_istore_n (lv' := [(1, .int (0 : Int32)), (0, .ref (ad b))]) hx hb dX9_looked_1 rfl hl (by decide) rfl (fun ls hl => ?_)
  exact wX9_looked_2 hE hr hlk hB_st _ _ _ _ _ hW (lv_sub hl [1, 0] rfl) h
set_option maxHeartbeats 4000000 in
set_option maxRecDepth 100000 in
theorem wX9_keep_97 {p : Program} {l : Launch} {e : Env} {s : State} {m : MethodId} {args : Array Value} {below : List Frame} {meth : Method} {cd : Code} {D : va_G} {ct : Nat → ClassId} {J : List Nat} {ad : Nat → Nat} {c0 : CF} {b : Nat} (hE : ME p s m cd args D ct cX9_keep RX9 5) (hr : meth.sig.returnType = (some .int)) (hlk : meth.locks = false) {x1 : Int32} {x2 : Int32} {x3 : Int32} {r : Int32} {st9 : MS} {K42 : Int32 → MS → Option (Int32 × MS)} (hK42 : ∀ (x4 : Int32) (st : MS) (c : CF) (H : Heap) (locs : List Loc) (ls : Array Slot), HW D J ad c (aA J ad s.heap.size) s.heap H locs → MoB ct J ad c b st → Fr c0 c b 19 → lv_has ls 5 [(0, .ref (ad b)), (1, .int x1), (2, .int x2), (3, .int x3), (4, .int x4)] → K42 x4 st = some (r, st9) → W p l e (rr 2 42) s m args below meth cd H locs 0 0 (MQ below (Qi D J ad s.heap.size r (fun c' => MoB ct J ad c' b st9 ∧ Fr c0 c' b 19)) args s 0 0 (aA J ad s.heap.size)) (F0 m 42 ls [])) : ∀ (x4 : Int32) (st : MS) (c : CF) (H : Heap) (locs : List Loc) (ls : Array Slot), HW D J ad c (aA J ad s.heap.size) s.heap H locs → MoB ct J ad c b st → Fr c0 c b 19 → lv_has ls 5 [(0, .ref (ad b)), (1, .int x1), (2, .int x2), (3, .int x3), (4, .int x4)] → fX9_keep_97 x1 x2 x3 K42 x4 st = some (r, st9) → W p l e (rr 2 42) s m args below meth cd H locs 0 0 (MQ below (Qi D J ad s.heap.size r (fun c' => MoB ct J ad c' b st9 ∧ Fr c0 c' b 19)) args s 0 0 (aA J ad s.heap.size)) (F0 m 97 ls []) := by
  have hx := hE.1
  have hb := hE.2.1
  intro x4 st c H locs ls hW hB_st hF hl h
  rw [fX9_keep_97] at h
  refine lv_aload_n hx hb dX9_keep_97 rfl (lv_at hl 0 rfl) ?_
  refine k_get (v := .ref (ad (b + 1 + 7))) hE hW hB_st.o hB_st.obj rfl inX9 10 (by decide) q878 rfl dX9_keep_98 ?_
  refine lv_iconst (v := (4 : Int32)) hx hb dX9_keep_101 (by decide) ?_
  refine lv_aload_n hx hb dX9_keep_102 rfl (lv_at hl 0 rfl) ?_
  refine k_get (v := .int (st.2.1 2)) hE hW hB_st.o hB_st.obj rfl inX9 9 (by decide) q877 rfl dX9_keep_103 ?_
  refine lv_imul hx hb dX9_keep_106 ?_
  refine lv_iload hx hb dX9_keep_107 (lv_at hl 4 rfl) ?_
  obtain ⟨g_13, h⟩ := zi_e h
  obtain ⟨st_14, est_14, h⟩ := zl_e h
  refine k_iast hE hW (hB_st.memA 7 (Nat.le_of_ble_eq_true rfl)) (hB_st.arr 7 rfl) g_13 dX9_keep_109 (fun H locs hW => ?_)
  obtain ⟨c, hB_st, hF, hW⟩ : ∃ c', MoB ct J ad c' b st_14 ∧ Fr c0 c' b 19 ∧ HW D J ad c' (aA J ad s.heap.size) s.heap H locs := ⟨_, hB_st.wA (k := 7) rfl est_14, hF.up (by omega) (by omega), hW⟩
  refine lv_aload_n hx hb dX9_keep_110 rfl (lv_at hl 0 rfl) ?_
  refine k_get (v := .ref (ad (b + 1 + 7))) hE hW hB_st.o hB_st.obj rfl inX9 10 (by decide) q878 rfl dX9_keep_111 ?_
  refine lv_iconst (v := (4 : Int32)) hx hb dX9_keep_114 (by decide) ?_
  refine lv_aload_n hx hb dX9_keep_115 rfl (lv_at hl 0 rfl) ?_
  refine k_get (v := .int (st_14.2.1 2)) hE hW hB_st.o hB_st.obj rfl inX9 9 (by decide) q877 rfl dX9_keep_116 ?_
  refine lv_imul hx hb dX9_keep_119 ?_
  refine lv_iconst (v := (1 : Int32)) hx hb dX9_keep_120 (by decide) ?_
  refine lv_iadd hx hb dX9_keep_121 ?_
  refine lv_aload_n hx hb dX9_keep_122 rfl (lv_at hl 0 rfl) ?_
  refine lv_iload_n hx hb dX9_keep_123 rfl (lv_at hl 1 rfl) ?_
  refine lv_sipush (v := (200 : Int32)) hx hb dX9_keep_124 (by decide) ?_
  refine lv_iload hx hb dX9_keep_127 (lv_at hl 4 rfl) ?_
  refine lv_iadd hx hb dX9_keep_129 ?_
  obtain ⟨r_15, hr_15, h⟩ := zb_e h
  refine k_callVi (rest := [.int (((4 : Int32) * (st_14.2.1 2)) + (1 : Int32)), .ref (ad (b + 1 + 7))]) hE hW hl.1 (mX9_at hB_st hr_15) hB_st.o hB_st.obj rfl q934 q936 qs87 q10 q937 hd_X9_at ⟨Nat.le_of_ble_eq_true rfl, Nat.le_of_ble_eq_true rfl⟩ ⟨rfl, rfl⟩ rfl (Nat.le_of_ble_eq_true rfl) dX9_keep_130 ⟨Nat.zero_le _, Nat.zero_le _⟩ (fun c1 H locs hP hW => ?_)
  rw [hP] at hW
  obtain ⟨g_16, h⟩ := zi_e h
  obtain ⟨st_17, est_17, h⟩ := zl_e h
  refine k_iast hE hW (hB_st.memA 7 (Nat.le_of_ble_eq_true rfl)) (hB_st.arr 7 rfl) g_16 dX9_keep_133 (fun H locs hW => ?_)
  obtain ⟨c, hB_st, hF, hW⟩ : ∃ c', MoB ct J ad c' b st_17 ∧ Fr c0 c' b 19 ∧ HW D J ad c' (aA J ad s.heap.size) s.heap H locs := ⟨_, hB_st.wA (k := 7) rfl est_17, hF.up (by omega) (by omega), hW⟩
  refine lv_aload_n hx hb dX9_keep_134 rfl (lv_at hl 0 rfl) ?_
  refine k_get (v := .ref (ad (b + 1 + 7))) hE hW hB_st.o hB_st.obj rfl inX9 10 (by decide) q878 rfl dX9_keep_135 ?_
  refine lv_iconst (v := (4 : Int32)) hx hb dX9_keep_138 (by decide) ?_
  refine lv_aload_n hx hb dX9_keep_139 rfl (lv_at hl 0 rfl) ?_
  refine k_get (v := .int (st_17.2.1 2)) hE hW hB_st.o hB_st.obj rfl inX9 9 (by decide) q877 rfl dX9_keep_140 ?_
  refine lv_imul hx hb dX9_keep_143 ?_
  refine lv_iconst (v := (2 : Int32)) hx hb dX9_keep_144 (by decide) ?_
  refine lv_iadd hx hb dX9_keep_145 ?_
  refine lv_aload_n hx hb dX9_keep_146 rfl (lv_at hl 0 rfl) ?_
  refine lv_iload_n hx hb dX9_keep_147 rfl (lv_at hl 1 rfl) ?_
  refine lv_sipush (v := (800 : Int32)) hx hb dX9_keep_148 (by decide) ?_
  refine lv_iload hx hb dX9_keep_151 (lv_at hl 4 rfl) ?_
  refine lv_iadd hx hb dX9_keep_153 ?_
  obtain ⟨r_18, hr_18, h⟩ := zb_e h
  refine k_callVi (rest := [.int (((4 : Int32) * (st_17.2.1 2)) + (2 : Int32)), .ref (ad (b + 1 + 7))]) hE hW hl.1 (mX9_at hB_st hr_18) hB_st.o hB_st.obj rfl q934 q936 qs87 q10 q937 hd_X9_at ⟨Nat.le_of_ble_eq_true rfl, Nat.le_of_ble_eq_true rfl⟩ ⟨rfl, rfl⟩ rfl (Nat.le_of_ble_eq_true rfl) dX9_keep_154 ⟨Nat.zero_le _, Nat.zero_le _⟩ (fun c1 H locs hP hW => ?_)
  rw [hP] at hW
  obtain ⟨g_19, h⟩ := zi_e h
  obtain ⟨st_20, est_20, h⟩ := zl_e h
  refine k_iast hE hW (hB_st.memA 7 (Nat.le_of_ble_eq_true rfl)) (hB_st.arr 7 rfl) g_19 dX9_keep_157 (fun H locs hW => ?_)
  obtain ⟨c, hB_st, hF, hW⟩ : ∃ c', MoB ct J ad c' b st_20 ∧ Fr c0 c' b 19 ∧ HW D J ad c' (aA J ad s.heap.size) s.heap H locs := ⟨_, hB_st.wA (k := 7) rfl est_20, hF.up (by omega) (by omega), hW⟩
  refine lv_aload_n hx hb dX9_keep_158 rfl (lv_at hl 0 rfl) ?_
  refine k_get (v := .ref (ad (b + 1 + 7))) hE hW hB_st.o hB_st.obj rfl inX9 10 (by decide) q878 rfl dX9_keep_159 ?_
  refine lv_iconst (v := (4 : Int32)) hx hb dX9_keep_162 (by decide) ?_
  refine lv_aload_n hx hb dX9_keep_163 rfl (lv_at hl 0 rfl) ?_
  refine k_get (v := .int (st_20.2.1 2)) hE hW hB_st.o hB_st.obj rfl inX9 9 (by decide) q877 rfl dX9_keep_164 ?_
  refine lv_imul hx hb dX9_keep_167 ?_
  refine lv_iconst (v := (3 : Int32)) hx hb dX9_keep_168 (by decide) ?_
  refine lv_iadd hx hb dX9_keep_169 ?_
  refine lv_aload_n hx hb dX9_keep_170 rfl (lv_at hl 0 rfl) ?_
  refine lv_iload_n hx hb dX9_keep_171 rfl (lv_at hl 1 rfl) ?_
  refine lv_sipush (v := (1000 : Int32)) hx hb dX9_keep_172 (by decide) ?_
  refine lv_iload hx hb dX9_keep_175 (lv_at hl 4 rfl) ?_
  refine lv_iadd hx hb dX9_keep_177 ?_
  obtain ⟨r_21, hr_21, h⟩ := zb_e h
  refine k_callVi (rest := [.int (((4 : Int32) * (st_20.2.1 2)) + (3 : Int32)), .ref (ad (b + 1 + 7))]) hE hW hl.1 (mX9_at hB_st hr_21) hB_st.o hB_st.obj rfl q934 q936 qs87 q10 q937 hd_X9_at ⟨Nat.le_of_ble_eq_true rfl, Nat.le_of_ble_eq_true rfl⟩ ⟨rfl, rfl⟩ rfl (Nat.le_of_ble_eq_true rfl) dX9_keep_178 ⟨Nat.zero_le _, Nat.zero_le _⟩ (fun c1 H locs hP hW => ?_)
  rw [hP] at hW
  obtain ⟨g_22, h⟩ := zi_e h
  obtain ⟨st_23, est_23, h⟩ := zl_e h
  refine k_iast hE hW (hB_st.memA 7 (Nat.le_of_ble_eq_true rfl)) (hB_st.arr 7 rfl) g_22 dX9_keep_181 (fun H locs hW => ?_)
  obtain ⟨c, hB_st, hF, hW⟩ : ∃ c', MoB ct J ad c' b st_23 ∧ Fr c0 c' b 19 ∧ HW D J ad c' (aA J ad s.heap.size) s.heap H locs := ⟨_, hB_st.wA (k := 7) rfl est_23, hF.up (by omega) (by omega), hW⟩
  refine lv_aload_n hx hb dX9_keep_182 rfl (lv_at hl 0 rfl) ?_
  refine lv_dup hx hb dX9_keep_183 rfl ?_
  refine k_get (v := .int (st_23.2.1 2)) hE hW hB_st.o hB_st.obj rfl inX9 9 (by decide) q877 rfl dX9_keep_184 ?_
  refine lv_iconst (v := (1 : Int32)) hx hb dX9_keep_187 (by decide) ?_
  refine lv_iadd hx hb dX9_keep_188 ?_
  obtain ⟨st_24, est_24, h⟩ := zl_e h
  refine k_put hE hW hB_st.o hB_st.obj rfl inX9 tyX9 tyX9_ok nmX9 9 (by decide) q877 rfl rfl rfl (Nat.le_of_ble_eq_true rfl) dX9_keep_189 (fun H locs hW => ?_)
  obtain ⟨c, hB_st, hF, hW⟩ : ∃ c', MoB ct J ad c' b st_24 ∧ Fr c0 c' b 19 ∧ HW D J ad c' (aA J ad s.heap.size) s.heap H locs := ⟨_, hB_st.wF (k := 9) (j := 2) rfl est_24, hF.up (by omega) (by omega), hW⟩
  refine lv_iinc (v := (x4 + (1 : Int32))) (lv' := [(4, .int (x4 + (1 : Int32))), (0, .ref (ad b)), (1, .int x1), (2, .int x2), (3, .int x3)]) hx hb dX9_keep_192 hl (k := 4) rfl rfl (by decide) rfl (fun ls hl => ?_)
  refine lv_goto (tgt := 42) hx hb dX9_keep_195 (by decide) ?_
  exact hK42 _ _ _ _ _ _ hW hB_st hF (lv_sub hl [1, 2, 3, 4, 0] rfl) h
set_option maxHeartbeats 4000000 in
set_option maxRecDepth 100000 in
theorem wX9_keep_42 {p : Program} {l : Launch} {e : Env} {s : State} {m : MethodId} {args : Array Value} {below : List Frame} {meth : Method} {cd : Code} {D : va_G} {ct : Nat → ClassId} {J : List Nat} {ad : Nat → Nat} {c0 : CF} {b : Nat} (hE : ME p s m cd args D ct cX9_keep RX9 5) (hr : meth.sig.returnType = (some .int)) (hlk : meth.locks = false) {x1 : Int32} {x2 : Int32} {x3 : Int32} {r : Int32} {st9 : MS} : ∀ (n : Nat) (x4 : Int32) (st : MS) (c : CF) (H : Heap) (locs : List Loc) (ls : Array Slot), HW D J ad c (aA J ad s.heap.size) s.heap H locs → MoB ct J ad c b st → Fr c0 c b 19 → lv_has ls 5 [(0, .ref (ad b)), (1, .int x1), (2, .int x2), (3, .int x3), (4, .int x4)] → fX9_keep_42 x1 x2 x3 n x4 st = some (r, st9) → W p l e (rr 2 42) s m args below meth cd H locs 0 0 (MQ below (Qi D J ad s.heap.size r (fun c' => MoB ct J ad c' b st9 ∧ Fr c0 c' b 19)) args s 0 0 (aA J ad s.heap.size)) (F0 m 42 ls []) := by
  have hx := hE.1
  have hb := hE.2.1
  intro n
  induction n with
  | zero =>
    intro x4 st c H locs ls hW hB_st hF hl h
    have h2 : (none : Option (Int32 × MS)) = some (r, st9) := h
    cases h2
  | succ n ih =>
    intro x4 st c H locs ls hW hB_st hF hl h
    rw [fX9_keep_42] at h
    refine lv_iload hx hb dX9_keep_42 (lv_at hl 4 rfl) ?_
    refine lv_sipush (v := (200 : Int32)) hx hb dX9_keep_44 (by decide) ?_
    refine lv_icmp_ge (tgt := 198) hx hb dX9_keep_47 (by decide) (fun k_8 => ?_) (fun k_8 => ?_)
    · have h := it_t k_8 h
      refine lv_aload_n hx hb dX9_keep_198 rfl (lv_at hl 0 rfl) ?_
      refine k_get (v := .int (st.2.1 2)) hE hW hB_st.o hB_st.obj rfl inX9 9 (by decide) q877 rfl dX9_keep_199 ?_
      obtain ⟨rfl, rfl⟩ := Prod.mk.inj (Option.some.inj h)
      exact k_iret hE hr hlk hW ⟨hB_st, hF⟩ rfl dX9_keep_202
    · have h := it_f k_8 h
      refine lv_aload_n hx hb dX9_keep_50 rfl (lv_at hl 0 rfl) ?_
      refine lv_iload_n hx hb dX9_keep_51 rfl (lv_at hl 1 rfl) ?_
      refine lv_iconst (v := (0 : Int32)) hx hb dX9_keep_52 (by decide) ?_
      refine lv_iload hx hb dX9_keep_53 (lv_at hl 4 rfl) ?_
      refine lv_iadd hx hb dX9_keep_55 ?_
      obtain ⟨r_9, hr_9, h⟩ := zb_e h
      refine k_callVi (rest := []) hE hW hl.1 (mX9_at hB_st hr_9) hB_st.o hB_st.obj rfl q934 q936 qs87 q10 q937 hd_X9_at ⟨Nat.le_of_ble_eq_true rfl, Nat.le_of_ble_eq_true rfl⟩ ⟨rfl, rfl⟩ rfl (Nat.le_of_ble_eq_true rfl) dX9_keep_56 ⟨Nat.zero_le _, Nat.zero_le _⟩ (fun c1 H locs hP hW => ?_)
      rw [hP] at hW
      refine lv_iconst (v := (1 : Int32)) hx hb dX9_keep_59 (by decide) ?_
      refine lv_icmp_ne (tgt := 192) hx hb dX9_keep_60 (by decide) (fun k_10 => ?_) (fun k_10 => ?_)
      · have h := it_f k_10 h
        refine lv_iinc (v := (x4 + (1 : Int32))) (lv' := [(4, .int (x4 + (1 : Int32))), (0, .ref (ad b)), (1, .int x1), (2, .int x2), (3, .int x3)]) hx hb dX9_keep_192 hl (k := 4) rfl rfl (by decide) rfl (fun ls hl => ?_)
        refine lv_goto (tgt := 42) hx hb dX9_keep_195 (by decide) ?_
        exact ih _ _ _ _ _ _ hW hB_st hF (lv_sub hl [1, 2, 3, 4, 0] rfl) h
      · have h := it_t k_10 h
        refine lv_aload_n hx hb dX9_keep_63 rfl (lv_at hl 0 rfl) ?_
        refine k_get (v := .int (st.2.1 2)) hE hW hB_st.o hB_st.obj rfl inX9 9 (by decide) q877 rfl dX9_keep_64 ?_
        refine lv_iload_n hx hb dX9_keep_67 rfl (lv_at hl 3 rfl) ?_
        refine lv_icmp_ne (tgt := 74) hx hb dX9_keep_68 (by decide) (fun k_11 => ?_) (fun k_11 => ?_)
        · have h := it_f k_11 h
          refine lv_iload_n hx hb dX9_keep_74 rfl (lv_at hl 2 rfl) ?_
          refine lv_iconst (v := (1 : Int32)) hx hb dX9_keep_75 (by decide) ?_
          refine lv_icmp_ne (tgt := 97) hx hb dX9_keep_76 (by decide) (fun k_12 => ?_) (fun k_12 => ?_)
          · have h := it_f k_12 h
            exact wX9_keep_97 hE hr hlk ih _ _ _ _ _ _ hW hB_st hF (lv_sub hl [0, 1, 2, 3, 4] rfl) h
          · have h := it_t k_12 h
            refine lv_aload_n hx hb dX9_keep_79 rfl (lv_at hl 0 rfl) ?_
            refine lv_iload_n hx hb dX9_keep_80 rfl (lv_at hl 1 rfl) ?_
            refine lv_sipush (v := (800 : Int32)) hx hb dX9_keep_81 (by decide) ?_
            refine lv_iload hx hb dX9_keep_84 (lv_at hl 4 rfl) ?_
            refine lv_iadd hx hb dX9_keep_86 ?_
            obtain ⟨r_25, hr_25, h⟩ := zb_e h
            refine k_callVi (rest := []) hE hW hl.1 (mX9_at hB_st hr_25) hB_st.o hB_st.obj rfl q934 q936 qs87 q10 q937 hd_X9_at ⟨Nat.le_of_ble_eq_true rfl, Nat.le_of_ble_eq_true rfl⟩ ⟨rfl, rfl⟩ rfl (Nat.le_of_ble_eq_true rfl) dX9_keep_87 ⟨Nat.zero_le _, Nat.zero_le _⟩ (fun c1 H locs hP hW => ?_)
            rw [hP] at hW
            refine lv_iconst (v := (1 : Int32)) hx hb dX9_keep_90 (by decide) ?_
            refine lv_icmp_ne (tgt := 97) hx hb dX9_keep_91 (by decide) (fun k_26 => ?_) (fun k_26 => ?_)
            · have h := it_f k_26 h
              exact wX9_keep_97 hE hr hlk ih _ _ _ _ _ _ hW hB_st hF (lv_sub hl [0, 1, 2, 3, 4] rfl) h
            · have h := it_t k_26 h
              refine lv_bipush (v := (-16 : Int32)) hx hb dX9_keep_94 (by decide) ?_
              obtain ⟨rfl, rfl⟩ := Prod.mk.inj (Option.some.inj h)
              exact k_iret hE hr hlk hW ⟨hB_st, hF⟩ rfl dX9_keep_96
        · have h := it_t k_11 h
          refine lv_bipush (v := (-13 : Int32)) hx hb dX9_keep_71 (by decide) ?_
          obtain ⟨rfl, rfl⟩ := Prod.mk.inj (Option.some.inj h)
          exact k_iret hE hr hlk hW ⟨hB_st, hF⟩ rfl dX9_keep_73
set_option maxHeartbeats 4000000 in
set_option maxRecDepth 100000 in
theorem mX9_keep {l : Launch} {D : va_G} {ct : Nat → ClassId} {J : List Nat} {ad : Nat → Nat} {c0 : CF} {a1 : Int32} {a2 : Int32} {a3 : Int32} {b : Nat} {st : MS} (hB_st : MoB ct J ad c0 b st) {r : Int32} {st9 : MS} (h : fX9_keep  a1 a2 a3 st = some (r, st9)) : Mi l D ct J ad yX9_keep cX9_keep 5 (some .int) (rr 2 42) [.ref (ad b), .int a1, .int a2, .int a3] c0 r (fun c' => MoB ct J ad c' b st9 ∧ Fr c0 c' b 19) := by
  refine Mi_of (own := RX9) (by decide) rfl (Nat.le_of_ble_eq_true rfl) (fun p e s m below meth cd hE hr hlk hW ls hl => ?_)
  have hx := hE.1
  have hb := hE.2.1
  have hl : lv_has ls 5 [(0, .ref (ad b)), (1, .int a1), (2, .int a2), (3, .int a3)] := hl
  rw [fX9_keep] at h
  obtain ⟨c, hB_st, hF, hW⟩ : ∃ c', MoB ct J ad c' b st ∧ Fr c0 c' b 19 ∧ HW D J ad c' (aA J ad s.heap.size) s.heap s.heap [] := ⟨c0, hB_st, Fr.rf, hW⟩
  refine lv_iload_n hx hb dX9_keep_0 rfl (lv_at hl 1 rfl) ?_
  obtain ⟨r_1, hr_1, h⟩ := zb_e h
  refine k_callSi (rest := []) hE hW hl.1 (mX9_isLog hr_1) q928 q929 q10 q930 hd_X9_isLog.2 ⟨Nat.le_of_ble_eq_true rfl, Nat.le_of_ble_eq_true rfl⟩ ⟨rfl, rfl⟩ rfl (Nat.le_of_ble_eq_true rfl) dX9_keep_1 ⟨Nat.zero_le _, Nat.zero_le _⟩ (fun c1 H locs hP hW => ?_)
  rw [hP] at hW
  refine lv_if_ne (tgt := 9) hx hb dX9_keep_4 (by decide) (fun k_2 => ?_) (fun k_2 => ?_)
  · have h := it_f k_2 h
    refine lv_iload_n hx hb dX9_keep_9 rfl (lv_at hl 2 rfl) ?_
    refine lv_iconst (v := (0 : Int32)) hx hb dX9_keep_10 (by decide) ?_
    refine lv_iconst (v := (1 : Int32)) hx hb dX9_keep_11 (by decide) ?_
    obtain ⟨r_3, hr_3, h⟩ := zb_e h
    refine k_callSi (rest := []) hE hW hl.1 (mX9_in hr_3) q931 q932 q10 q933 hd_X9_in.2 ⟨Nat.le_of_ble_eq_true rfl, Nat.le_of_ble_eq_true rfl⟩ ⟨rfl, rfl⟩ rfl (Nat.le_of_ble_eq_true rfl) dX9_keep_12 ⟨Nat.zero_le _, Nat.zero_le _⟩ (fun c1 H locs hP hW => ?_)
    rw [hP] at hW
    refine lv_if_eq (tgt := 24) hx hb dX9_keep_15 (by decide) (fun k_4 => ?_) (fun k_4 => ?_)
    · have h := it_t k_4 h
      refine lv_bipush (v := (-2 : Int32)) hx hb dX9_keep_24 (by decide) ?_
      obtain ⟨rfl, rfl⟩ := Prod.mk.inj (Option.some.inj h)
      exact k_iret hE hr hlk hW ⟨hB_st, hF⟩ rfl dX9_keep_26
    · have h := it_f k_4 h
      refine lv_iload_n hx hb dX9_keep_18 rfl (lv_at hl 3 rfl) ?_
      refine lv_bipush (v := (60 : Int32)) hx hb dX9_keep_19 (by decide) ?_
      refine lv_icmp_le (tgt := 27) hx hb dX9_keep_21 (by decide) (fun k_5 => ?_) (fun k_5 => ?_)
      · have h := it_t k_5 h
        refine lv_iload_n hx hb dX9_keep_27 rfl (lv_at hl 3 rfl) ?_
        refine lv_if_ge (tgt := 34) hx hb dX9_keep_28 (by decide) (fun k_6 => ?_) (fun k_6 => ?_)
        · have h := it_t k_6 h
          refine lv_aload_n hx hb dX9_keep_34 rfl (lv_at hl 0 rfl) ?_
          refine lv_iconst (v := (0 : Int32)) hx hb dX9_keep_35 (by decide) ?_
          obtain ⟨st_7, est_7, h⟩ := zl_e h
          refine k_put hE hW hB_st.o hB_st.obj rfl inX9 tyX9 tyX9_ok nmX9 9 (by decide) q877 rfl rfl rfl (Nat.le_of_ble_eq_true rfl) dX9_keep_36 (fun H locs hW => ?_)
          obtain ⟨c, hB_st, hF, hW⟩ : ∃ c', MoB ct J ad c' b st_7 ∧ Fr c0 c' b 19 ∧ HW D J ad c' (aA J ad s.heap.size) s.heap H locs := ⟨_, hB_st.wF (k := 9) (j := 2) rfl est_7, hF.up (by omega) (by omega), hW⟩
          refine lv_iconst (v := (0 : Int32)) hx hb dX9_keep_39 (by decide) ?_
          refine lv_istore (lv' := [(4, .int (0 : Int32)), (0, .ref (ad b)), (1, .int a1), (2, .int a2), (3, .int a3)]) hx hb dX9_keep_40 hl (by decide) rfl (fun ls hl => ?_)
          exact wX9_keep_42 hE hr hlk _ _ _ _ _ _ _ hW hB_st hF (lv_sub hl [1, 2, 3, 4, 0] rfl) h
        · have h := it_f k_6 h
          refine lv_bipush (v := (-14 : Int32)) hx hb dX9_keep_31 (by decide) ?_
          obtain ⟨rfl, rfl⟩ := Prod.mk.inj (Option.some.inj h)
          exact k_iret hE hr hlk hW ⟨hB_st, hF⟩ rfl dX9_keep_33
      · have h := it_f k_5 h
        refine lv_bipush (v := (-2 : Int32)) hx hb dX9_keep_24 (by decide) ?_
        obtain ⟨rfl, rfl⟩ := Prod.mk.inj (Option.some.inj h)
        exact k_iret hE hr hlk hW ⟨hB_st, hF⟩ rfl dX9_keep_26
  · have h := it_t k_2 h
    refine lv_iconst (v := (-1 : Int32)) hx hb dX9_keep_7 (by decide) ?_
    obtain ⟨rfl, rfl⟩ := Prod.mk.inj (Option.some.inj h)
    exact k_iret hE hr hlk hW ⟨hB_st, hF⟩ rfl dX9_keep_8
set_option maxHeartbeats 4000000 in
set_option maxRecDepth 100000 in
theorem wX9_kept_52 {p : Program} {l : Launch} {e : Env} {s : State} {m : MethodId} {args : Array Value} {below : List Frame} {meth : Method} {cd : Code} {D : va_G} {ct : Nat → ClassId} {J : List Nat} {ad : Nat → Nat} {c0 : CF} {b : Nat} (hE : ME p s m cd args D ct cX9_kept RX9 3) (hr : meth.sig.returnType = (some .long)) (hlk : meth.locks = false) {st : MS} (hB_st : MoB ct J ad c0 b st) {r : Int64} : ∀ (x1 : Int32) (x2 : Int32) (H : Heap) (locs : List Loc) (ls : Array Slot), HW D J ad c0 (aA J ad s.heap.size) s.heap H locs → lv_has ls 3 [(0, .ref (ad b)), (1, .int x1), (2, .int x2)] → fX9_kept_52 st x1 x2 = some r → W p l e (rr 1 22) s m args below meth cd H locs 0 0 (MQ below (Ql D J ad s.heap.size r (fun c' => c' = c0)) args s 0 0 (aA J ad s.heap.size)) (F0 m 52 ls []) := by
  have hx := hE.1
  have hb := hE.2.1
  intro x1 x2 H locs ls hW hl h
  rw [fX9_kept_52] at h
  refine lv_aload_n hx hb dX9_kept_52 rfl (lv_at hl 0 rfl) ?_
  refine k_get (v := .ref (ad (b + 1 + 7))) hE hW hB_st.o hB_st.obj rfl inX9 10 (by decide) q878 rfl dX9_kept_53 ?_
  refine lv_iconst (v := (4 : Int32)) hx hb dX9_kept_56 (by decide) ?_
  refine lv_iload_n hx hb dX9_kept_57 rfl (lv_at hl 1 rfl) ?_
  refine lv_imul hx hb dX9_kept_58 ?_
  refine lv_iload_n hx hb dX9_kept_59 rfl (lv_at hl 2 rfl) ?_
  refine lv_iadd hx hb dX9_kept_60 ?_
  obtain ⟨g_6, h⟩ := zi_e h
  refine k_iald hE hW (hB_st.memA 7 (Nat.le_of_ble_eq_true rfl)) (hB_st.arr 7 rfl) g_6 dX9_kept_61 ?_
  refine lv_i2l (v := (st.1 7 (((4 : Int32) * x1) + x2).toNatClampNeg).toInt64) hx hb dX9_kept_62 rfl ?_
  obtain rfl := Option.some.inj h
  exact k_lret hE hr hlk hW rfl rfl dX9_kept_63
set_option maxHeartbeats 4000000 in
set_option maxRecDepth 100000 in
theorem mX9_kept {l : Launch} {D : va_G} {ct : Nat → ClassId} {J : List Nat} {ad : Nat → Nat} {c0 : CF} {a1 : Int32} {a2 : Int32} {b : Nat} {st : MS} (hB_st : MoB ct J ad c0 b st) {r : Int64} (h : fX9_kept  a1 a2 st = some r) : Ml l D ct J ad yX9_kept cX9_kept 3 (some .long) (rr 1 22) [.ref (ad b), .int a1, .int a2] c0 r (fun c' => c' = c0) := by
  refine Ml_of (own := RX9) (by decide) rfl (Nat.le_of_ble_eq_true rfl) (fun p e s m below meth cd hE hr hlk hW ls hl => ?_)
  have hx := hE.1
  have hb := hE.2.1
  have hl : lv_has ls 3 [(0, .ref (ad b)), (1, .int a1), (2, .int a2)] := hl
  rw [fX9_kept] at h
  refine lv_iload_n hx hb dX9_kept_0 rfl (lv_at hl 1 rfl) ?_
  refine lv_iconst (v := (0 : Int32)) hx hb dX9_kept_1 (by decide) ?_
  refine lv_aload_n hx hb dX9_kept_2 rfl (lv_at hl 0 rfl) ?_
  refine k_get (v := .int (st.2.1 2)) hE hW hB_st.o hB_st.obj rfl inX9 9 (by decide) q877 rfl dX9_kept_3 ?_
  refine lv_iconst (v := (1 : Int32)) hx hb dX9_kept_6 (by decide) ?_
  refine lv_isub hx hb dX9_kept_7 ?_
  obtain ⟨r_1, hr_1, h⟩ := zb_e h
  refine k_callSi (rest := []) hE hW hl.1 (mX9_in hr_1) q931 q932 q10 q933 hd_X9_in.2 ⟨Nat.le_of_ble_eq_true rfl, Nat.le_of_ble_eq_true rfl⟩ ⟨rfl, rfl⟩ rfl (Nat.le_of_ble_eq_true rfl) dX9_kept_8 ⟨Nat.zero_le _, Nat.zero_le _⟩ (fun c1 H locs hP hW => ?_)
  rw [hP] at hW
  refine lv_if_eq (tgt := 23) hx hb dX9_kept_11 (by decide) (fun k_2 => ?_) (fun k_2 => ?_)
  · have h := it_t k_2 h
    refine lv_ldc2 (v := (-9223372036854775808 : Int64)) hx hb hE.2.2.2.1 (hE.2.2.2.2.1 _ q1078) dX9_kept_23 ?_
    obtain rfl := Option.some.inj h
    exact k_lret hE hr hlk hW rfl rfl dX9_kept_26
  · have h := it_f k_2 h
    refine lv_iload_n hx hb dX9_kept_14 rfl (lv_at hl 2 rfl) ?_
    refine lv_iconst (v := (0 : Int32)) hx hb dX9_kept_15 (by decide) ?_
    refine lv_iconst (v := (3 : Int32)) hx hb dX9_kept_16 (by decide) ?_
    obtain ⟨r_3, hr_3, h⟩ := zb_e h
    refine k_callSi (rest := []) hE hW hl.1 (mX9_in hr_3) q931 q932 q10 q933 hd_X9_in.2 ⟨Nat.le_of_ble_eq_true rfl, Nat.le_of_ble_eq_true rfl⟩ ⟨rfl, rfl⟩ rfl (Nat.le_of_ble_eq_true rfl) dX9_kept_17 ⟨Nat.zero_le _, Nat.zero_le _⟩ (fun c1 H locs hP hW => ?_)
    rw [hP] at hW
    refine lv_if_ne (tgt := 27) hx hb dX9_kept_20 (by decide) (fun k_4 => ?_) (fun k_4 => ?_)
    · have h := it_f k_4 h
      refine lv_iload_n hx hb dX9_kept_27 rfl (lv_at hl 2 rfl) ?_
      refine lv_iconst (v := (3 : Int32)) hx hb dX9_kept_28 (by decide) ?_
      refine lv_icmp_ne (tgt := 52) hx hb dX9_kept_29 (by decide) (fun k_5 => ?_) (fun k_5 => ?_)
      · have h := it_f k_5 h
        exact wX9_kept_52 hE hr hlk hB_st _ _ _ _ _ hW (lv_sub hl [0, 1, 2] rfl) h
      · have h := it_t k_5 h
        refine lv_aload_n hx hb dX9_kept_32 rfl (lv_at hl 0 rfl) ?_
        refine k_get (v := .ref (ad (b + 1 + 7))) hE hW hB_st.o hB_st.obj rfl inX9 10 (by decide) q878 rfl dX9_kept_33 ?_
        refine lv_iconst (v := (4 : Int32)) hx hb dX9_kept_36 (by decide) ?_
        refine lv_iload_n hx hb dX9_kept_37 rfl (lv_at hl 1 rfl) ?_
        refine lv_imul hx hb dX9_kept_38 ?_
        refine lv_iconst (v := (2 : Int32)) hx hb dX9_kept_39 (by decide) ?_
        refine lv_iadd hx hb dX9_kept_40 ?_
        obtain ⟨g_7, h⟩ := zi_e h
        refine k_iald hE hW (hB_st.memA 7 (Nat.le_of_ble_eq_true rfl)) (hB_st.arr 7 rfl) g_7 dX9_kept_41 ?_
        refine lv_iconst (v := (1 : Int32)) hx hb dX9_kept_42 (by decide) ?_
        refine lv_icmp_ne (tgt := 52) hx hb dX9_kept_43 (by decide) (fun k_8 => ?_) (fun k_8 => ?_)
        · have h := it_f k_8 h
          exact wX9_kept_52 hE hr hlk hB_st _ _ _ _ _ hW (lv_sub hl [0, 1, 2] rfl) h
        · have h := it_t k_8 h
          refine lv_ldc2 (v := (-9223372036854775808 : Int64)) hx hb hE.2.2.2.1 (hE.2.2.2.2.1 _ q1078) dX9_kept_46 ?_
          refine lv_goto (tgt := 63) hx hb dX9_kept_49 (by decide) ?_
          obtain rfl := Option.some.inj h
          exact k_lret hE hr hlk hW rfl rfl dX9_kept_63
    · have h := it_t k_4 h
      refine lv_ldc2 (v := (-9223372036854775808 : Int64)) hx hb hE.2.2.2.1 (hE.2.2.2.2.1 _ q1078) dX9_kept_23 ?_
      obtain rfl := Option.some.inj h
      exact k_lret hE hr hlk hW rfl rfl dX9_kept_26
set_option maxHeartbeats 4000000 in
set_option maxRecDepth 100000 in
theorem mX9_isTape {l : Launch} {D : va_G} {ct : Nat → ClassId} {J : List Nat} {ad : Nat → Nat} {c0 : CF} {a1 : Int32} {r : Int32} (h : fX9_isTape  a1 = some r) : Mi l D ct J ad yX9_isTape cX9_isTape 1 (some .boolean) (rr 1 22) [.int a1] c0 r (fun c' => c' = c0) := by
  refine Mi_of (own := RX9) (by decide) rfl (Nat.le_of_ble_eq_true rfl) (fun p e s m below meth cd hE hr hlk hW ls hl => ?_)
  have hx := hE.1
  have hb := hE.2.1
  have hl : lv_has ls 1 [(0, .int a1)] := hl
  rw [fX9_isTape] at h
  refine lv_iload_n hx hb dX9_isTape_0 rfl (lv_at hl 0 rfl) ?_
  refine lv_iconst (v := (0 : Int32)) hx hb dX9_isTape_1 (by decide) ?_
  refine lv_iconst (v := (5 : Int32)) hx hb dX9_isTape_2 (by decide) ?_
  obtain ⟨r_1, hr_1, h⟩ := zb_e h
  refine k_callSi (rest := []) hE hW hl.1 (mX9_in hr_1) q931 q932 q10 q933 hd_X9_in.2 ⟨Nat.le_of_ble_eq_true rfl, Nat.le_of_ble_eq_true rfl⟩ ⟨rfl, rfl⟩ rfl (Nat.le_of_ble_eq_true rfl) dX9_isTape_3 ⟨Nat.zero_le _, Nat.zero_le _⟩ (fun c1 H locs hP hW => ?_)
  rw [hP] at hW
  obtain ⟨hz, h⟩ := zq_e h
  obtain rfl := Option.some.inj h
  exact k_zret hE hr hlk hW rfl rfl (nb_of hz) dX9_isTape_6
set_option maxHeartbeats 4000000 in
set_option maxRecDepth 100000 in
theorem wX9_judge_44 {p : Program} {l : Launch} {e : Env} {s : State} {m : MethodId} {args : Array Value} {below : List Frame} {meth : Method} {cd : Code} {D : va_G} {ct : Nat → ClassId} {J : List Nat} {ad : Nat → Nat} {c0 : CF} {b : Nat} (hE : ME p s m cd args D ct cX9_judge RX9 6) (hr : meth.sig.returnType = (some .int)) (hlk : meth.locks = false) {x1 : Int32} {x2 : Int32} {x3 : Int32} {st : MS} (hB_st : MoB ct J ad c0 b st) {r : Int32} : ∀ (n : Nat) (x4 : Int32) (x5 : Int32) (H : Heap) (locs : List Loc) (ls : Array Slot), HW D J ad c0 (aA J ad s.heap.size) s.heap H locs → lv_has ls 6 [(0, .ref (ad b)), (1, .int x1), (2, .int x2), (3, .int x3), (4, .int x4), (5, .int x5)] → fX9_judge_44 x1 x2 x3 st n x4 x5 = some r → W p l e (rr 2 42) s m args below meth cd H locs 0 0 (MQ below (Qi D J ad s.heap.size r (fun c' => c' = c0)) args s 0 0 (aA J ad s.heap.size)) (F0 m 44 ls []) := by
  have hx := hE.1
  have hb := hE.2.1
  intro n
  induction n with
  | zero =>
    intro x4 x5 H locs ls hW hl h
    have h2 : (none : Option Int32) = some r := h
    cases h2
  | succ n ih =>
    intro x4 x5 H locs ls hW hl h
    rw [fX9_judge_44] at h
    refine lv_iload hx hb dX9_judge_44 (lv_at hl 5 rfl) ?_
    refine lv_sipush (v := (200 : Int32)) hx hb dX9_judge_46 (by decide) ?_
    refine lv_icmp_ge (tgt := 127) hx hb dX9_judge_49 (by decide) (fun k_7 => ?_) (fun k_7 => ?_)
    · have h := it_t k_7 h
      refine lv_bipush (v := (-5 : Int32)) hx hb dX9_judge_127 (by decide) ?_
      obtain rfl := Option.some.inj h
      exact k_iret hE hr hlk hW rfl rfl dX9_judge_129
    · have h := it_f k_7 h
      refine lv_aload_n hx hb dX9_judge_52 rfl (lv_at hl 0 rfl) ?_
      refine lv_iload_n hx hb dX9_judge_53 rfl (lv_at hl 1 rfl) ?_
      refine lv_iconst (v := (0 : Int32)) hx hb dX9_judge_54 (by decide) ?_
      refine lv_iload hx hb dX9_judge_55 (lv_at hl 5 rfl) ?_
      refine lv_iadd hx hb dX9_judge_57 ?_
      obtain ⟨r_8, hr_8, h⟩ := zb_e h
      refine k_callVi (rest := []) hE hW hl.1 (mX9_at hB_st hr_8) hB_st.o hB_st.obj rfl q934 q936 qs87 q10 q937 hd_X9_at ⟨Nat.le_of_ble_eq_true rfl, Nat.le_of_ble_eq_true rfl⟩ ⟨rfl, rfl⟩ rfl (Nat.le_of_ble_eq_true rfl) dX9_judge_58 ⟨Nat.zero_le _, Nat.zero_le _⟩ (fun c1 H locs hP hW => ?_)
      rw [hP] at hW
      refine lv_iconst (v := (1 : Int32)) hx hb dX9_judge_61 (by decide) ?_
      refine lv_icmp_ne (tgt := 121) hx hb dX9_judge_62 (by decide) (fun k_9 => ?_) (fun k_9 => ?_)
      · have h := it_f k_9 h
        refine lv_iinc (v := (x5 + (1 : Int32))) (lv' := [(5, .int (x5 + (1 : Int32))), (0, .ref (ad b)), (1, .int x1), (2, .int x2), (3, .int x3), (4, .int x4)]) hx hb dX9_judge_121 hl (k := 5) rfl rfl (by decide) rfl (fun ls hl => ?_)
        refine lv_goto (tgt := 44) hx hb dX9_judge_124 (by decide) ?_
        exact ih _ _ _ _ _ hW (lv_sub hl [1, 2, 3, 4, 5, 0] rfl) h
      · have h := it_t k_9 h
        refine lv_aload_n hx hb dX9_judge_65 rfl (lv_at hl 0 rfl) ?_
        refine k_get (v := .ref (ad (b + 1 + 8))) hE hW hB_st.o hB_st.obj rfl inX9 11 (by decide) q879 rfl dX9_judge_66 ?_
        refine lv_iload_n hx hb dX9_judge_69 rfl (lv_at hl 2 rfl) ?_
        obtain ⟨g_10, h⟩ := zi_e h
        refine k_iald hE hW (hB_st.memA 8 (Nat.le_of_ble_eq_true rfl)) (hB_st.arr 8 rfl) g_10 dX9_judge_70 ?_
        refine lv_if_lt (tgt := 91) hx hb dX9_judge_71 (by decide) (fun k_11 => ?_) (fun k_11 => ?_)
        · have h := it_t k_11 h
          refine lv_bipush (v := (100 : Int32)) hx hb dX9_judge_91 (by decide) ?_
          refine lv_iload hx hb dX9_judge_93 (lv_at hl 4 rfl) ?_
          refine lv_iadd hx hb dX9_judge_95 ?_
          obtain rfl := Option.some.inj h
          exact k_iret hE hr hlk hW rfl rfl dX9_judge_96
        · have h := it_f k_11 h
          refine lv_iload_n hx hb dX9_judge_74 rfl (lv_at hl 3 rfl) ?_
          refine lv_if_lt (tgt := 91) hx hb dX9_judge_75 (by decide) (fun k_12 => ?_) (fun k_12 => ?_)
          · have h := it_t k_12 h
            refine lv_bipush (v := (100 : Int32)) hx hb dX9_judge_91 (by decide) ?_
            refine lv_iload hx hb dX9_judge_93 (lv_at hl 4 rfl) ?_
            refine lv_iadd hx hb dX9_judge_95 ?_
            obtain rfl := Option.some.inj h
            exact k_iret hE hr hlk hW rfl rfl dX9_judge_96
          · have h := it_f k_12 h
            refine lv_iload_n hx hb dX9_judge_78 rfl (lv_at hl 3 rfl) ?_
            refine lv_aload_n hx hb dX9_judge_79 rfl (lv_at hl 0 rfl) ?_
            refine k_get (v := .ref (ad (b + 1 + 9))) hE hW hB_st.o hB_st.obj rfl inX9 12 (by decide) q880 rfl dX9_judge_80 ?_
            refine lv_iload_n hx hb dX9_judge_83 rfl (lv_at hl 2 rfl) ?_
            obtain ⟨g_13, h⟩ := zi_e h
            refine k_iald hE hW (hB_st.memA 9 (Nat.le_of_ble_eq_true rfl)) (hB_st.arr 9 rfl) g_13 dX9_judge_84 ?_
            refine lv_iload hx hb dX9_judge_85 (lv_at hl 4 rfl) ?_
            refine lv_isub hx hb dX9_judge_87 ?_
            refine lv_icmp_lt (tgt := 97) hx hb dX9_judge_88 (by decide) (fun k_14 => ?_) (fun k_14 => ?_)
            · have h := it_t k_14 h
              refine lv_aload_n hx hb dX9_judge_97 rfl (lv_at hl 0 rfl) ?_
              refine k_get (v := .ref (ad (b + 11))) hE hW hB_st.o hB_st.obj rfl inX9 13 (by decide) q881 rfl dX9_judge_98 ?_
              refine lv_iload_n hx hb dX9_judge_101 rfl (lv_at hl 2 rfl) ?_
              obtain ⟨g_15, h⟩ := zi_e h
              refine k_aaldR5 (g := fun t => b + 12 + t) hE hW (hB_st.memO) (hB_st.out) g_15 dX9_judge_102 ?_
              refine lv_iload_n hx hb dX9_judge_103 rfl (lv_at hl 3 rfl) ?_
              refine lv_iload hx hb dX9_judge_104 (lv_at hl 4 rfl) ?_
              refine lv_iadd hx hb dX9_judge_106 ?_
              obtain ⟨g_16, h⟩ := zi_e h
              refine k_lald hE hW (hB_st.memR x2.toNatClampNeg (vp_lt7 g_15)) (hB_st.row x2.toNatClampNeg (vp_lt7 g_15)) g_16 dX9_judge_107 ?_
              refine lv_iload hx hb dX9_judge_108 (lv_at hl 5 rfl) ?_
              refine lv_i2l (v := x5.toInt64) hx hb dX9_judge_110 rfl ?_
              refine W.lcmp hx hb dX9_judge_111 ?_
              refine lv_if_eq (tgt := 118) hx hb dX9_judge_112 (by decide) (fun k_17 => ?_) (fun k_17 => ?_)
              · have h := it_t k_17 h
                refine lv_iinc (v := (x4 + (1 : Int32))) (lv' := [(4, .int (x4 + (1 : Int32))), (0, .ref (ad b)), (1, .int x1), (2, .int x2), (3, .int x3), (5, .int x5)]) hx hb dX9_judge_118 hl (k := 4) rfl rfl (by decide) rfl (fun ls hl => ?_)
                refine lv_iinc (v := (x5 + (1 : Int32))) (lv' := [(5, .int (x5 + (1 : Int32))), (4, .int (x4 + (1 : Int32))), (0, .ref (ad b)), (1, .int x1), (2, .int x2), (3, .int x3)]) hx hb dX9_judge_121 hl (k := 5) rfl rfl (by decide) rfl (fun ls hl => ?_)
                refine lv_goto (tgt := 44) hx hb dX9_judge_124 (by decide) ?_
                exact ih _ _ _ _ _ hW (lv_sub hl [2, 3, 4, 5, 1, 0] rfl) h
              · have h := it_f k_17 h
                refine lv_iload hx hb dX9_judge_115 (lv_at hl 4 rfl) ?_
                obtain rfl := Option.some.inj h
                exact k_iret hE hr hlk hW rfl rfl dX9_judge_117
            · have h := it_f k_14 h
              refine lv_bipush (v := (100 : Int32)) hx hb dX9_judge_91 (by decide) ?_
              refine lv_iload hx hb dX9_judge_93 (lv_at hl 4 rfl) ?_
              refine lv_iadd hx hb dX9_judge_95 ?_
              obtain rfl := Option.some.inj h
              exact k_iret hE hr hlk hW rfl rfl dX9_judge_96
set_option maxHeartbeats 4000000 in
set_option maxRecDepth 100000 in
theorem mX9_judge {l : Launch} {D : va_G} {ct : Nat → ClassId} {J : List Nat} {ad : Nat → Nat} {c0 : CF} {a1 : Int32} {a2 : Int32} {a3 : Int32} {b : Nat} {st : MS} (hB_st : MoB ct J ad c0 b st) {r : Int32} (h : fX9_judge  a1 a2 a3 st = some r) : Mi l D ct J ad yX9_judge cX9_judge 6 (some .int) (rr 2 42) [.ref (ad b), .int a1, .int a2, .int a3] c0 r (fun c' => c' = c0) := by
  refine Mi_of (own := RX9) (by decide) rfl (Nat.le_of_ble_eq_true rfl) (fun p e s m below meth cd hE hr hlk hW ls hl => ?_)
  have hx := hE.1
  have hb := hE.2.1
  have hl : lv_has ls 6 [(0, .ref (ad b)), (1, .int a1), (2, .int a2), (3, .int a3)] := hl
  rw [fX9_judge] at h
  refine lv_iload_n hx hb dX9_judge_0 rfl (lv_at hl 1 rfl) ?_
  obtain ⟨r_1, hr_1, h⟩ := zb_e h
  refine k_callSi (rest := []) hE hW hl.1 (mX9_isLog hr_1) q928 q929 q10 q930 hd_X9_isLog.2 ⟨Nat.le_of_ble_eq_true rfl, Nat.le_of_ble_eq_true rfl⟩ ⟨rfl, rfl⟩ rfl (Nat.le_of_ble_eq_true rfl) dX9_judge_1 ⟨Nat.zero_le _, Nat.zero_le _⟩ (fun c1 H locs hP hW => ?_)
  rw [hP] at hW
  refine lv_if_eq (tgt := 14) hx hb dX9_judge_4 (by decide) (fun k_2 => ?_) (fun k_2 => ?_)
  · have h := it_t k_2 h
    refine lv_iconst (v := (-1 : Int32)) hx hb dX9_judge_14 (by decide) ?_
    obtain rfl := Option.some.inj h
    exact k_iret hE hr hlk hW rfl rfl dX9_judge_15
  · have h := it_f k_2 h
    refine lv_iload_n hx hb dX9_judge_7 rfl (lv_at hl 2 rfl) ?_
    obtain ⟨r_3, hr_3, h⟩ := zb_e h
    refine k_callSi (rest := []) hE hW hl.1 (mX9_isTape hr_3) q1249 q1250 q10 q1251 hd_X9_isTape.2 ⟨Nat.le_of_ble_eq_true rfl, Nat.le_of_ble_eq_true rfl⟩ ⟨rfl, rfl⟩ rfl (Nat.le_of_ble_eq_true rfl) dX9_judge_8 ⟨Nat.zero_le _, Nat.zero_le _⟩ (fun c1 H locs hP hW => ?_)
    rw [hP] at hW
    refine lv_if_ne (tgt := 16) hx hb dX9_judge_11 (by decide) (fun k_4 => ?_) (fun k_4 => ?_)
    · have h := it_f k_4 h
      refine lv_aload_n hx hb dX9_judge_16 rfl (lv_at hl 0 rfl) ?_
      refine k_get (v := .ref (ad (b + 1 + 8))) hE hW hB_st.o hB_st.obj rfl inX9 11 (by decide) q879 rfl dX9_judge_17 ?_
      refine lv_iload_n hx hb dX9_judge_20 rfl (lv_at hl 2 rfl) ?_
      obtain ⟨g_5, h⟩ := zi_e h
      refine k_iald hE hW (hB_st.memA 8 (Nat.le_of_ble_eq_true rfl)) (hB_st.arr 8 rfl) g_5 dX9_judge_21 ?_
      refine lv_if_lt (tgt := 38) hx hb dX9_judge_22 (by decide) (fun k_6 => ?_) (fun k_6 => ?_)
      · have h := it_t k_6 h
        refine lv_iconst (v := (0 : Int32)) hx hb dX9_judge_38 (by decide) ?_
        refine lv_istore (lv' := [(4, .int (0 : Int32)), (0, .ref (ad b)), (1, .int a1), (2, .int a2), (3, .int a3)]) hx hb dX9_judge_39 hl (by decide) rfl (fun ls hl => ?_)
        refine lv_iconst (v := (0 : Int32)) hx hb dX9_judge_41 (by decide) ?_
        refine lv_istore (lv' := [(5, .int (0 : Int32)), (4, .int (0 : Int32)), (0, .ref (ad b)), (1, .int a1), (2, .int a2), (3, .int a3)]) hx hb dX9_judge_42 hl (by decide) rfl (fun ls hl => ?_)
        exact wX9_judge_44 hE hr hlk hB_st _ _ _ _ _ _ hW (lv_sub hl [2, 3, 4, 5, 1, 0] rfl) h
      · have h := it_f k_6 h
        refine lv_aload_n hx hb dX9_judge_25 rfl (lv_at hl 0 rfl) ?_
        refine k_get (v := .ref (ad (b + 1 + 8))) hE hW hB_st.o hB_st.obj rfl inX9 11 (by decide) q879 rfl dX9_judge_26 ?_
        refine lv_iload_n hx hb dX9_judge_29 rfl (lv_at hl 2 rfl) ?_
        obtain ⟨g_18, h⟩ := zi_e h
        refine k_iald hE hW (hB_st.memA 8 (Nat.le_of_ble_eq_true rfl)) (hB_st.arr 8 rfl) g_18 dX9_judge_30 ?_
        refine lv_iconst (v := (1 : Int32)) hx hb dX9_judge_31 (by decide) ?_
        refine lv_icmp_eq (tgt := 38) hx hb dX9_judge_32 (by decide) (fun k_19 => ?_) (fun k_19 => ?_)
        · have h := it_t k_19 h
          refine lv_iconst (v := (0 : Int32)) hx hb dX9_judge_38 (by decide) ?_
          refine lv_istore (lv' := [(4, .int (0 : Int32)), (0, .ref (ad b)), (1, .int a1), (2, .int a2), (3, .int a3)]) hx hb dX9_judge_39 hl (by decide) rfl (fun ls hl => ?_)
          refine lv_iconst (v := (0 : Int32)) hx hb dX9_judge_41 (by decide) ?_
          refine lv_istore (lv' := [(5, .int (0 : Int32)), (4, .int (0 : Int32)), (0, .ref (ad b)), (1, .int a1), (2, .int a2), (3, .int a3)]) hx hb dX9_judge_42 hl (by decide) rfl (fun ls hl => ?_)
          exact wX9_judge_44 hE hr hlk hB_st _ _ _ _ _ _ hW (lv_sub hl [2, 3, 4, 5, 1, 0] rfl) h
        · have h := it_f k_19 h
          refine lv_bipush (v := (-12 : Int32)) hx hb dX9_judge_35 (by decide) ?_
          obtain rfl := Option.some.inj h
          exact k_iret hE hr hlk hW rfl rfl dX9_judge_37
    · have h := it_t k_4 h
      refine lv_iconst (v := (-1 : Int32)) hx hb dX9_judge_14 (by decide) ?_
      obtain rfl := Option.some.inj h
      exact k_iret hE hr hlk hW rfl rfl dX9_judge_15
set_option maxHeartbeats 4000000 in
set_option maxRecDepth 100000 in
theorem mX9_image {l : Launch} {D : va_G} {ct : Nat → ClassId} {J : List Nat} {ad : Nat → Nat} {c0 : CF} {b : Nat} {st : MS} (hB_st : MoB ct J ad c0 b st) {r : Int32} {st9 : MS} (h : fX9_image   st = some (r, st9)) : Mi l D ct J ad yX9_image cX9_image 1 (some .int) (rr 3 67) [.ref (ad b)] c0 r (fun c' => MoB ct J ad c' b st9 ∧ Fr c0 c' b 19) := by
  refine Mi_of (own := RX9) (by decide) rfl (Nat.le_of_ble_eq_true rfl) (fun p e s m below meth cd hE hr hlk hW ls hl => ?_)
  have hx := hE.1
  have hb := hE.2.1
  have hl : lv_has ls 1 [(0, .ref (ad b))] := hl
  rw [fX9_image] at h
  obtain ⟨c, hB_st, hF, hW⟩ : ∃ c', MoB ct J ad c' b st ∧ Fr c0 c' b 19 ∧ HW D J ad c' (aA J ad s.heap.size) s.heap s.heap [] := ⟨c0, hB_st, Fr.rf, hW⟩
  refine lv_aload_n hx hb dX9_image_0 rfl (lv_at hl 0 rfl) ?_
  refine k_get (v := .ref (ad (b + 1 + 0))) hE hW hB_st.o hB_st.obj rfl inX9 0 (by decide) q868 rfl dX9_image_1 ?_
  refine lv_aload_n hx hb dX9_image_4 rfl (lv_at hl 0 rfl) ?_
  refine k_get (v := .ref (ad (b + 1 + 2))) hE hW hB_st.o hB_st.obj rfl inX9 2 (by decide) q870 rfl dX9_image_5 ?_
  obtain ⟨st_1, hst_1, h⟩ := zb_e h
  refine k_callSv (rest := []) hE hW hl.1 (mX9_copy (k1 := 0) (k2 := 2) rfl rfl (Nat.le_of_ble_eq_true rfl) (Nat.le_of_ble_eq_true rfl) hB_st hst_1) q1140 q1141 q10 q1142 hd_X9_copy.2 ⟨Nat.le_of_ble_eq_true rfl, Nat.le_of_ble_eq_true rfl⟩ ⟨rfl, rfl⟩ rfl (Nat.le_of_ble_eq_true rfl) dX9_image_8 ⟨Nat.zero_le _, Nat.zero_le _⟩ (fun c1 H locs hP hW => ?_)
  obtain ⟨c, hB_st, hF, hW⟩ : ∃ c', MoB ct J ad c' b st_1 ∧ Fr c0 c' b 19 ∧ HW D J ad c' (aA J ad s.heap.size) s.heap H locs := ⟨c1, hP.1, hF.trans hP.2, hW⟩
  refine lv_aload_n hx hb dX9_image_11 rfl (lv_at hl 0 rfl) ?_
  refine lv_iconst (v := (1 : Int32)) hx hb dX9_image_12 (by decide) ?_
  obtain ⟨st_2, est_2, h⟩ := zl_e h
  refine k_put hE hW hB_st.o hB_st.obj rfl inX9 tyX9 tyX9_ok nmX9 3 (by decide) q871 rfl rfl rfl (Nat.le_of_ble_eq_true rfl) dX9_image_13 (fun H locs hW => ?_)
  obtain ⟨c, hB_st, hF, hW⟩ : ∃ c', MoB ct J ad c' b st_2 ∧ Fr c0 c' b 19 ∧ HW D J ad c' (aA J ad s.heap.size) s.heap H locs := ⟨_, hB_st.wF (k := 3) (j := 0) rfl est_2, hF.up (by omega) (by omega), hW⟩
  refine lv_aload_n hx hb dX9_image_16 rfl (lv_at hl 0 rfl) ?_
  obtain ⟨r_3, hr_3, h⟩ := zb_e h
  refine k_callVi (rest := []) hE hW hl.1 (mX9_allLogs hB_st hr_3) hB_st.o hB_st.obj rfl q1225 q1227 qs123 q10 q1228 hd_X9_allLogs ⟨Nat.le_of_ble_eq_true rfl, Nat.le_of_ble_eq_true rfl⟩ ⟨rfl, rfl⟩ rfl (Nat.le_of_ble_eq_true rfl) dX9_image_17 ⟨Nat.zero_le _, Nat.zero_le _⟩ (fun c1 H locs hP hW => ?_)
  rw [hP] at hW
  obtain ⟨rfl, rfl⟩ := Prod.mk.inj (Option.some.inj h)
  exact k_iret hE hr hlk hW ⟨hB_st, hF⟩ rfl dX9_image_20
set_option maxHeartbeats 4000000 in
set_option maxRecDepth 100000 in
theorem mX9_undo {l : Launch} {D : va_G} {ct : Nat → ClassId} {J : List Nat} {ad : Nat → Nat} {c0 : CF} {b : Nat} {st : MS} (hB_st : MoB ct J ad c0 b st) {r : Int32} {st9 : MS} (h : fX9_undo   st = some (r, st9)) : Mi l D ct J ad yX9_undo cX9_undo 1 (some .int) (rr 3 67) [.ref (ad b)] c0 r (fun c' => MoB ct J ad c' b st9 ∧ Fr c0 c' b 19) := by
  refine Mi_of (own := RX9) (by decide) rfl (Nat.le_of_ble_eq_true rfl) (fun p e s m below meth cd hE hr hlk hW ls hl => ?_)
  have hx := hE.1
  have hb := hE.2.1
  have hl : lv_has ls 1 [(0, .ref (ad b))] := hl
  rw [fX9_undo] at h
  obtain ⟨c, hB_st, hF, hW⟩ : ∃ c', MoB ct J ad c' b st ∧ Fr c0 c' b 19 ∧ HW D J ad c' (aA J ad s.heap.size) s.heap s.heap [] := ⟨c0, hB_st, Fr.rf, hW⟩
  refine lv_aload_n hx hb dX9_undo_0 rfl (lv_at hl 0 rfl) ?_
  refine k_get (v := .int (st.2.1 0)) hE hW hB_st.o hB_st.obj rfl inX9 3 (by decide) q871 rfl dX9_undo_1 ?_
  refine lv_if_ne (tgt := 10) hx hb dX9_undo_4 (by decide) (fun k_1 => ?_) (fun k_1 => ?_)
  · have h := it_f k_1 h
    refine lv_aload_n hx hb dX9_undo_10 rfl (lv_at hl 0 rfl) ?_
    refine k_get (v := .ref (ad (b + 1 + 2))) hE hW hB_st.o hB_st.obj rfl inX9 2 (by decide) q870 rfl dX9_undo_11 ?_
    refine lv_aload_n hx hb dX9_undo_14 rfl (lv_at hl 0 rfl) ?_
    refine k_get (v := .ref (ad (b + 1 + 0))) hE hW hB_st.o hB_st.obj rfl inX9 0 (by decide) q868 rfl dX9_undo_15 ?_
    obtain ⟨st_2, hst_2, h⟩ := zb_e h
    refine k_callSv (rest := []) hE hW hl.1 (mX9_copy (k1 := 2) (k2 := 0) rfl rfl (Nat.le_of_ble_eq_true rfl) (Nat.le_of_ble_eq_true rfl) hB_st hst_2) q1140 q1141 q10 q1142 hd_X9_copy.2 ⟨Nat.le_of_ble_eq_true rfl, Nat.le_of_ble_eq_true rfl⟩ ⟨rfl, rfl⟩ rfl (Nat.le_of_ble_eq_true rfl) dX9_undo_18 ⟨Nat.zero_le _, Nat.zero_le _⟩ (fun c1 H locs hP hW => ?_)
    obtain ⟨c, hB_st, hF, hW⟩ : ∃ c', MoB ct J ad c' b st_2 ∧ Fr c0 c' b 19 ∧ HW D J ad c' (aA J ad s.heap.size) s.heap H locs := ⟨c1, hP.1, hF.trans hP.2, hW⟩
    refine lv_aload_n hx hb dX9_undo_21 rfl (lv_at hl 0 rfl) ?_
    obtain ⟨r_3, hr_3, h⟩ := zb_e h
    refine k_callVi (rest := []) hE hW hl.1 (mX9_allLogs hB_st hr_3) hB_st.o hB_st.obj rfl q1225 q1227 qs123 q10 q1228 hd_X9_allLogs ⟨Nat.le_of_ble_eq_true rfl, Nat.le_of_ble_eq_true rfl⟩ ⟨rfl, rfl⟩ rfl (Nat.le_of_ble_eq_true rfl) dX9_undo_22 ⟨Nat.zero_le _, Nat.zero_le _⟩ (fun c1 H locs hP hW => ?_)
    rw [hP] at hW
    obtain ⟨rfl, rfl⟩ := Prod.mk.inj (Option.some.inj h)
    exact k_iret hE hr hlk hW ⟨hB_st, hF⟩ rfl dX9_undo_25
  · have h := it_t k_1 h
    refine lv_bipush (v := (-3 : Int32)) hx hb dX9_undo_7 (by decide) ?_
    obtain ⟨rfl, rfl⟩ := Prod.mk.inj (Option.some.inj h)
    exact k_iret hE hr hlk hW ⟨hB_st, hF⟩ rfl dX9_undo_9
set_option maxHeartbeats 4000000 in
set_option maxRecDepth 100000 in
theorem mX9_count {l : Launch} {D : va_G} {ct : Nat → ClassId} {J : List Nat} {ad : Nat → Nat} {c0 : CF} {a1 : Int32} {b : Nat} {st : MS} (hB_st : MoB ct J ad c0 b st) {r : Int32} (h : fX9_count  a1 st = some r) : Mi l D ct J ad yX9_count cX9_count 2 (some .int) (rr 3 67) [.ref (ad b), .int a1] c0 r (fun c' => c' = c0) := by
  refine Mi_of (own := RX9) (by decide) rfl (Nat.le_of_ble_eq_true rfl) (fun p e s m below meth cd hE hr hlk hW ls hl => ?_)
  have hx := hE.1
  have hb := hE.2.1
  have hl : lv_has ls 2 [(0, .ref (ad b)), (1, .int a1)] := hl
  rw [fX9_count] at h
  refine lv_iload_n hx hb dX9_count_0 rfl (lv_at hl 1 rfl) ?_
  rcases Classical.em (a1 = (0 : Int32)) with k_1 | k_1
  · have h := it_t k_1 h
    refine lv_tableIn (tgt := 36) hx hb dX9_count_1 (by rw [k_1]; decide) (by rw [k_1]; decide) (by rw [k_1]; rfl) (by decide) ?_
    refine lv_aload_n hx hb dX9_count_36 rfl (lv_at hl 0 rfl) ?_
    obtain ⟨r_2, hr_2, h⟩ := zb_e h
    refine k_callVi (rest := []) hE hW hl.1 (mX9_allLogs hB_st hr_2) hB_st.o hB_st.obj rfl q1225 q1227 qs123 q10 q1228 hd_X9_allLogs ⟨Nat.le_of_ble_eq_true rfl, Nat.le_of_ble_eq_true rfl⟩ ⟨rfl, rfl⟩ rfl (Nat.le_of_ble_eq_true rfl) dX9_count_37 ⟨Nat.zero_le _, Nat.zero_le _⟩ (fun c1 H locs hP hW => ?_)
    rw [hP] at hW
    obtain rfl := Option.some.inj h
    exact k_iret hE hr hlk hW rfl rfl dX9_count_40
  have h := it_f k_1 h
  rcases Classical.em (a1 = (1 : Int32)) with k_3 | k_3
  · have h := it_t k_3 h
    refine lv_tableIn (tgt := 41) hx hb dX9_count_1 (by rw [k_3]; decide) (by rw [k_3]; decide) (by rw [k_3]; rfl) (by decide) ?_
    refine lv_aload_n hx hb dX9_count_41 rfl (lv_at hl 0 rfl) ?_
    obtain ⟨r_4, hr_4, h⟩ := zb_e h
    refine k_callVi (rest := []) hE hW hl.1 (mX9_membersIn hB_st hr_4) hB_st.o hB_st.obj rfl q1159 q1161 qs116 q10 q1162 hd_X9_membersIn ⟨Nat.le_of_ble_eq_true rfl, Nat.le_of_ble_eq_true rfl⟩ ⟨rfl, rfl⟩ rfl (Nat.le_of_ble_eq_true rfl) dX9_count_42 ⟨Nat.zero_le _, Nat.zero_le _⟩ (fun c1 H locs hP hW => ?_)
    rw [hP] at hW
    obtain rfl := Option.some.inj h
    exact k_iret hE hr hlk hW rfl rfl dX9_count_45
  have h := it_f k_3 h
  rcases Classical.em (a1 = (2 : Int32)) with k_5 | k_5
  · have h := it_t k_5 h
    refine lv_tableIn (tgt := 46) hx hb dX9_count_1 (by rw [k_5]; decide) (by rw [k_5]; decide) (by rw [k_5]; rfl) (by decide) ?_
    refine lv_aload_n hx hb dX9_count_46 rfl (lv_at hl 0 rfl) ?_
    refine k_get (v := .ref (ad (b + 1 + 0))) hE hW hB_st.o hB_st.obj rfl inX9 0 (by decide) q868 rfl dX9_count_47 ?_
    refine lv_sipush (v := (5102 : Int32)) hx hb dX9_count_50 (by decide) ?_
    obtain ⟨g_6, h⟩ := zi_e h
    refine k_iald hE hW (hB_st.memA 0 (Nat.le_of_ble_eq_true rfl)) (hB_st.arr 0 rfl) g_6 dX9_count_53 ?_
    obtain rfl := Option.some.inj h
    exact k_iret hE hr hlk hW rfl rfl dX9_count_54
  have h := it_f k_5 h
  rcases Classical.em (a1 = (3 : Int32)) with k_7 | k_7
  · have h := it_t k_7 h
    refine lv_tableIn (tgt := 55) hx hb dX9_count_1 (by rw [k_7]; decide) (by rw [k_7]; decide) (by rw [k_7]; rfl) (by decide) ?_
    refine lv_aload_n hx hb dX9_count_55 rfl (lv_at hl 0 rfl) ?_
    refine k_get (v := .ref (ad (b + 1 + 0))) hE hW hB_st.o hB_st.obj rfl inX9 0 (by decide) q868 rfl dX9_count_56 ?_
    refine lv_sipush (v := (5123 : Int32)) hx hb dX9_count_59 (by decide) ?_
    obtain ⟨g_8, h⟩ := zi_e h
    refine k_iald hE hW (hB_st.memA 0 (Nat.le_of_ble_eq_true rfl)) (hB_st.arr 0 rfl) g_8 dX9_count_62 ?_
    obtain rfl := Option.some.inj h
    exact k_iret hE hr hlk hW rfl rfl dX9_count_63
  have h := it_f k_7 h
  rcases Classical.em (a1 = (4 : Int32)) with k_9 | k_9
  · have h := it_t k_9 h
    refine lv_tableIn (tgt := 64) hx hb dX9_count_1 (by rw [k_9]; decide) (by rw [k_9]; decide) (by rw [k_9]; rfl) (by decide) ?_
    refine lv_aload_n hx hb dX9_count_64 rfl (lv_at hl 0 rfl) ?_
    refine k_get (v := .int (st.2.1 1)) hE hW hB_st.o hB_st.obj rfl inX9 5 (by decide) q873 rfl dX9_count_65 ?_
    obtain rfl := Option.some.inj h
    exact k_iret hE hr hlk hW rfl rfl dX9_count_68
  have h := it_f k_9 h
  refine lv_tableOut (tgt := 69) hx hb dX9_count_1 (tb_out5 k_1 k_3 k_5 k_7 k_9) (by decide) ?_
  refine lv_bipush (v := (-2 : Int32)) hx hb dX9_count_69 (by decide) ?_
  obtain rfl := Option.some.inj h
  exact k_iret hE hr hlk hW rfl rfl dX9_count_71
set_option maxHeartbeats 4000000 in
set_option maxRecDepth 100000 in
theorem wX9_tape_67 {p : Program} {l : Launch} {e : Env} {s : State} {m : MethodId} {args : Array Value} {below : List Frame} {meth : Method} {cd : Code} {D : va_G} {ct : Nat → ClassId} {J : List Nat} {ad : Nat → Nat} {c0 : CF} {b : Nat} (hE : ME p s m cd args D ct cX9_tape RX9 5) (hr : meth.sig.returnType = (some .int)) (hlk : meth.locks = false) {x1 : Int32} {r : Int32} {st9 : MS} : ∀ (n : Nat) (x4 : Int32) (st : MS) (c : CF) (H : Heap) (locs : List Loc) (ls : Array Slot), HW D J ad c (aA J ad s.heap.size) s.heap H locs → MoB ct J ad c b st → Fr c0 c b 19 → lv_has ls 5 [(0, .ref (ad b)), (1, .int x1), (4, .int x4)] → fX9_tape_67 x1 n x4 st = some (r, st9) → W p l e (rr 2 42) s m args below meth cd H locs 0 0 (MQ below (Qi D J ad s.heap.size r (fun c' => MoB ct J ad c' b st9 ∧ Fr c0 c' b 19)) args s 0 0 (aA J ad s.heap.size)) (F0 m 67 ls []) := by
  have hx := hE.1
  have hb := hE.2.1
  intro n
  induction n with
  | zero =>
    intro x4 st c H locs ls hW hB_st hF hl h
    have h2 : (none : Option (Int32 × MS)) = some (r, st9) := h
    cases h2
  | succ n ih =>
    intro x4 st c H locs ls hW hB_st hF hl h
    rw [fX9_tape_67] at h
    refine lv_iload hx hb dX9_tape_67 (lv_at hl 2 rfl) ?_
    refine lv_bipush (v := (60 : Int32)) hx hb dX9_tape_69 (by decide) ?_
    refine lv_icmp_ge (tgt := 90) hx hb dX9_tape_71 (by decide) (fun k_12 => ?_) (fun k_12 => ?_)
    · have h := it_t k_12 h
      refine lv_iconst (v := (1 : Int32)) hx hb dX9_tape_90 (by decide) ?_
      obtain ⟨rfl, rfl⟩ := Prod.mk.inj (Option.some.inj h)
      exact k_iret hE hr hlk hW ⟨hB_st, hF⟩ rfl dX9_tape_91
    · have h := it_f k_12 h
      refine lv_aload_n hx hb dX9_tape_74 rfl (lv_at hl 0 rfl) ?_
      refine k_get (v := .ref (ad (b + 11))) hE hW hB_st.o hB_st.obj rfl inX9 13 (by decide) q881 rfl dX9_tape_75 ?_
      refine lv_iload_n hx hb dX9_tape_78 rfl (lv_at hl 1 rfl) ?_
      obtain ⟨g_13, h⟩ := zi_e h
      refine k_aaldR5 (g := fun t => b + 12 + t) hE hW (hB_st.memO) (hB_st.out) g_13 dX9_tape_79 ?_
      refine lv_iload hx hb dX9_tape_80 (lv_at hl 2 rfl) ?_
      refine lv_lconst (v := (0 : Int64)) hx hb dX9_tape_82 (by decide) ?_
      obtain ⟨g_14, h⟩ := zi_e h
      obtain ⟨st_15, est_15, h⟩ := zl_e h
      have := (show x1.toNatClampNeg < 7 from (vp_lt7 g_13))
      refine k_last hE hW (hB_st.memR x1.toNatClampNeg (vp_lt7 g_13)) (hB_st.row x1.toNatClampNeg (vp_lt7 g_13)) g_14 dX9_tape_83 (fun H locs hW => ?_)
      obtain ⟨c, hB_st, hF, hW⟩ : ∃ c', MoB ct J ad c' b st_15 ∧ Fr c0 c' b 19 ∧ HW D J ad c' (aA J ad s.heap.size) s.heap H locs := ⟨_, hB_st.wL (t := x1.toNatClampNeg) (vp_lt7 g_13) est_15, hF.up (by omega) (by omega), hW⟩
      refine lv_iinc (v := (x4 + (1 : Int32))) (lv' := [(4, .int (x4 + (1 : Int32))), (0, .ref (ad b)), (1, .int x1)]) hx hb dX9_tape_84 hl (k := 2) rfl rfl (by decide) rfl (fun ls hl => ?_)
      refine lv_goto (tgt := 67) hx hb dX9_tape_87 (by decide) ?_
      exact ih _ _ _ _ _ _ hW hB_st hF (lv_sub hl [1, 2, 0] rfl) h
set_option maxHeartbeats 4000000 in
set_option maxRecDepth 100000 in
theorem wX9_tape_63 {p : Program} {l : Launch} {e : Env} {s : State} {m : MethodId} {args : Array Value} {below : List Frame} {meth : Method} {cd : Code} {D : va_G} {ct : Nat → ClassId} {J : List Nat} {ad : Nat → Nat} {c0 : CF} {b : Nat} (hE : ME p s m cd args D ct cX9_tape RX9 5) (hr : meth.sig.returnType = (some .int)) (hlk : meth.locks = false) {r : Int32} {st9 : MS} : ∀ (x1 : Int32) (y0 : Int32) (y1 : Int32) (st : MS) (c : CF) (H : Heap) (locs : List Loc) (ls : Array Slot), HW D J ad c (aA J ad s.heap.size) s.heap H locs → MoB ct J ad c b st → Fr c0 c b 19 → lv_has ls 5 [(0, .ref (ad b)), (1, .int x1)] → fX9_tape_63 x1 y0 y1 st = some (r, st9) → W p l e (rr 2 42) s m args below meth cd H locs 0 0 (MQ below (Qi D J ad s.heap.size r (fun c' => MoB ct J ad c' b st9 ∧ Fr c0 c' b 19)) args s 0 0 (aA J ad s.heap.size)) (F0 m 63 ls [.int y0, .int y1, .ref (ad (b + 1 + 9))]) := by
  have hx := hE.1
  have hb := hE.2.1
  intro x1 y0 y1 st c H locs ls hW hB_st hF hl h
  rw [fX9_tape_63] at h
  obtain ⟨g_10, h⟩ := zi_e h
  obtain ⟨st_11, est_11, h⟩ := zl_e h
  refine k_iast hE hW (hB_st.memA 9 (Nat.le_of_ble_eq_true rfl)) (hB_st.arr 9 rfl) g_10 dX9_tape_63 (fun H locs hW => ?_)
  obtain ⟨c, hB_st, hF, hW⟩ : ∃ c', MoB ct J ad c' b st_11 ∧ Fr c0 c' b 19 ∧ HW D J ad c' (aA J ad s.heap.size) s.heap H locs := ⟨_, hB_st.wA (k := 9) rfl est_11, hF.up (by omega) (by omega), hW⟩
  refine lv_iconst (v := (0 : Int32)) hx hb dX9_tape_64 (by decide) ?_
  refine lv_istore (lv' := [(4, .int (0 : Int32)), (0, .ref (ad b)), (1, .int x1)]) hx hb dX9_tape_65 hl (by decide) rfl (fun ls hl => ?_)
  exact wX9_tape_67 hE hr hlk _ _ _ _ _ _ _ hW hB_st hF (lv_sub hl [1, 2, 0] rfl) h
set_option maxHeartbeats 4000000 in
set_option maxRecDepth 100000 in
theorem wX9_tape_42 {p : Program} {l : Launch} {e : Env} {s : State} {m : MethodId} {args : Array Value} {below : List Frame} {meth : Method} {cd : Code} {D : va_G} {ct : Nat → ClassId} {J : List Nat} {ad : Nat → Nat} {c0 : CF} {b : Nat} (hE : ME p s m cd args D ct cX9_tape RX9 5) (hr : meth.sig.returnType = (some .int)) (hlk : meth.locks = false) {r : Int32} {st9 : MS} : ∀ (x1 : Int32) (x2 : Int32) (x3 : Int32) (st : MS) (c : CF) (H : Heap) (locs : List Loc) (ls : Array Slot), HW D J ad c (aA J ad s.heap.size) s.heap H locs → MoB ct J ad c b st → Fr c0 c b 19 → lv_has ls 5 [(0, .ref (ad b)), (1, .int x1), (2, .int x2), (3, .int x3)] → fX9_tape_42 x1 x2 x3 st = some (r, st9) → W p l e (rr 2 42) s m args below meth cd H locs 0 0 (MQ below (Qi D J ad s.heap.size r (fun c' => MoB ct J ad c' b st9 ∧ Fr c0 c' b 19)) args s 0 0 (aA J ad s.heap.size)) (F0 m 42 ls []) := by
  have hx := hE.1
  have hb := hE.2.1
  intro x1 x2 x3 st c H locs ls hW hB_st hF hl h
  rw [fX9_tape_42] at h
  refine lv_aload_n hx hb dX9_tape_42 rfl (lv_at hl 0 rfl) ?_
  refine k_get (v := .ref (ad (b + 1 + 8))) hE hW hB_st.o hB_st.obj rfl inX9 11 (by decide) q879 rfl dX9_tape_43 ?_
  refine lv_iload_n hx hb dX9_tape_46 rfl (lv_at hl 1 rfl) ?_
  refine lv_iload_n hx hb dX9_tape_47 rfl (lv_at hl 2 rfl) ?_
  obtain ⟨g_7, h⟩ := zi_e h
  obtain ⟨st_8, est_8, h⟩ := zl_e h
  refine k_iast hE hW (hB_st.memA 8 (Nat.le_of_ble_eq_true rfl)) (hB_st.arr 8 rfl) g_7 dX9_tape_48 (fun H locs hW => ?_)
  obtain ⟨c, hB_st, hF, hW⟩ : ∃ c', MoB ct J ad c' b st_8 ∧ Fr c0 c' b 19 ∧ HW D J ad c' (aA J ad s.heap.size) s.heap H locs := ⟨_, hB_st.wA (k := 8) rfl est_8, hF.up (by omega) (by omega), hW⟩
  refine lv_aload_n hx hb dX9_tape_49 rfl (lv_at hl 0 rfl) ?_
  refine k_get (v := .ref (ad (b + 1 + 9))) hE hW hB_st.o hB_st.obj rfl inX9 12 (by decide) q880 rfl dX9_tape_50 ?_
  refine lv_iload_n hx hb dX9_tape_53 rfl (lv_at hl 1 rfl) ?_
  refine lv_iload_n hx hb dX9_tape_54 rfl (lv_at hl 2 rfl) ?_
  refine lv_if_ge (tgt := 62) hx hb dX9_tape_55 (by decide) (fun k_9 => ?_) (fun k_9 => ?_)
  · have h := it_t k_9 h
    refine lv_iload_n hx hb dX9_tape_62 rfl (lv_at hl 3 rfl) ?_
    exact wX9_tape_63 hE hr hlk _ _ _ _ _ _ _ _ hW hB_st hF (lv_sub hl [0, 1] rfl) h
  · have h := it_f k_9 h
    refine lv_iconst (v := (0 : Int32)) hx hb dX9_tape_58 (by decide) ?_
    refine lv_goto (tgt := 63) hx hb dX9_tape_59 (by decide) ?_
    exact wX9_tape_63 hE hr hlk _ _ _ _ _ _ _ _ hW hB_st hF (lv_sub hl [0, 1] rfl) h
set_option maxHeartbeats 4000000 in
set_option maxRecDepth 100000 in
theorem wX9_tape_31 {p : Program} {l : Launch} {e : Env} {s : State} {m : MethodId} {args : Array Value} {below : List Frame} {meth : Method} {cd : Code} {D : va_G} {ct : Nat → ClassId} {J : List Nat} {ad : Nat → Nat} {c0 : CF} {b : Nat} (hE : ME p s m cd args D ct cX9_tape RX9 5) (hr : meth.sig.returnType = (some .int)) (hlk : meth.locks = false) {r : Int32} {st9 : MS} : ∀ (x1 : Int32) (x2 : Int32) (x3 : Int32) (st : MS) (c : CF) (H : Heap) (locs : List Loc) (ls : Array Slot), HW D J ad c (aA J ad s.heap.size) s.heap H locs → MoB ct J ad c b st → Fr c0 c b 19 → lv_has ls 5 [(0, .ref (ad b)), (1, .int x1), (2, .int x2), (3, .int x3)] → fX9_tape_31 x1 x2 x3 st = some (r, st9) → W p l e (rr 2 42) s m args below meth cd H locs 0 0 (MQ below (Qi D J ad s.heap.size r (fun c' => MoB ct J ad c' b st9 ∧ Fr c0 c' b 19)) args s 0 0 (aA J ad s.heap.size)) (F0 m 31 ls []) := by
  have hx := hE.1
  have hb := hE.2.1
  intro x1 x2 x3 st c H locs ls hW hB_st hF hl h
  rw [fX9_tape_31] at h
  refine lv_iload_n hx hb dX9_tape_31 rfl (lv_at hl 2 rfl) ?_
  refine lv_if_lt (tgt := 42) hx hb dX9_tape_32 (by decide) (fun k_6 => ?_) (fun k_6 => ?_)
  · have h := it_t k_6 h
    exact wX9_tape_42 hE hr hlk _ _ _ _ _ _ _ _ hW hB_st hF (lv_sub hl [0, 1, 2, 3] rfl) h
  · have h := it_f k_6 h
    refine lv_iload_n hx hb dX9_tape_35 rfl (lv_at hl 3 rfl) ?_
    refine lv_if_ge (tgt := 42) hx hb dX9_tape_36 (by decide) (fun k_16 => ?_) (fun k_16 => ?_)
    · have h := it_t k_16 h
      exact wX9_tape_42 hE hr hlk _ _ _ _ _ _ _ _ hW hB_st hF (lv_sub hl [0, 1, 2, 3] rfl) h
    · have h := it_f k_16 h
      refine lv_bipush (v := (-14 : Int32)) hx hb dX9_tape_39 (by decide) ?_
      obtain ⟨rfl, rfl⟩ := Prod.mk.inj (Option.some.inj h)
      exact k_iret hE hr hlk hW ⟨hB_st, hF⟩ rfl dX9_tape_41
set_option maxHeartbeats 4000000 in
set_option maxRecDepth 100000 in
theorem mX9_tape {l : Launch} {D : va_G} {ct : Nat → ClassId} {J : List Nat} {ad : Nat → Nat} {c0 : CF} {a1 : Int32} {a2 : Int32} {a3 : Int32} {b : Nat} {st : MS} (hB_st : MoB ct J ad c0 b st) {r : Int32} {st9 : MS} (h : fX9_tape  a1 a2 a3 st = some (r, st9)) : Mi l D ct J ad yX9_tape cX9_tape 5 (some .int) (rr 2 42) [.ref (ad b), .int a1, .int a2, .int a3] c0 r (fun c' => MoB ct J ad c' b st9 ∧ Fr c0 c' b 19) := by
  refine Mi_of (own := RX9) (by decide) rfl (Nat.le_of_ble_eq_true rfl) (fun p e s m below meth cd hE hr hlk hW ls hl => ?_)
  have hx := hE.1
  have hb := hE.2.1
  have hl : lv_has ls 5 [(0, .ref (ad b)), (1, .int a1), (2, .int a2), (3, .int a3)] := hl
  rw [fX9_tape] at h
  obtain ⟨c, hB_st, hF, hW⟩ : ∃ c', MoB ct J ad c' b st ∧ Fr c0 c' b 19 ∧ HW D J ad c' (aA J ad s.heap.size) s.heap s.heap [] := ⟨c0, hB_st, Fr.rf, hW⟩
  refine lv_iload_n hx hb dX9_tape_0 rfl (lv_at hl 1 rfl) ?_
  obtain ⟨r_1, hr_1, h⟩ := zb_e h
  refine k_callSi (rest := []) hE hW hl.1 (mX9_isTape hr_1) q1249 q1250 q10 q1251 hd_X9_isTape.2 ⟨Nat.le_of_ble_eq_true rfl, Nat.le_of_ble_eq_true rfl⟩ ⟨rfl, rfl⟩ rfl (Nat.le_of_ble_eq_true rfl) dX9_tape_1 ⟨Nat.zero_le _, Nat.zero_le _⟩ (fun c1 H locs hP hW => ?_)
  rw [hP] at hW
  refine lv_if_ne (tgt := 9) hx hb dX9_tape_4 (by decide) (fun k_2 => ?_) (fun k_2 => ?_)
  · have h := it_f k_2 h
    refine lv_iload_n hx hb dX9_tape_9 rfl (lv_at hl 2 rfl) ?_
    refine lv_iconst (v := (-1 : Int32)) hx hb dX9_tape_10 (by decide) ?_
    refine lv_iconst (v := (4 : Int32)) hx hb dX9_tape_11 (by decide) ?_
    obtain ⟨r_3, hr_3, h⟩ := zb_e h
    refine k_callSi (rest := []) hE hW hl.1 (mX9_in hr_3) q931 q932 q10 q933 hd_X9_in.2 ⟨Nat.le_of_ble_eq_true rfl, Nat.le_of_ble_eq_true rfl⟩ ⟨rfl, rfl⟩ rfl (Nat.le_of_ble_eq_true rfl) dX9_tape_12 ⟨Nat.zero_le _, Nat.zero_le _⟩ (fun c1 H locs hP hW => ?_)
    rw [hP] at hW
    refine lv_if_eq (tgt := 28) hx hb dX9_tape_15 (by decide) (fun k_4 => ?_) (fun k_4 => ?_)
    · have h := it_t k_4 h
      refine lv_bipush (v := (-2 : Int32)) hx hb dX9_tape_28 (by decide) ?_
      obtain ⟨rfl, rfl⟩ := Prod.mk.inj (Option.some.inj h)
      exact k_iret hE hr hlk hW ⟨hB_st, hF⟩ rfl dX9_tape_30
    · have h := it_f k_4 h
      refine lv_iload_n hx hb dX9_tape_18 rfl (lv_at hl 2 rfl) ?_
      refine lv_if_lt (tgt := 31) hx hb dX9_tape_19 (by decide) (fun k_5 => ?_) (fun k_5 => ?_)
      · have h := it_t k_5 h
        exact wX9_tape_31 hE hr hlk _ _ _ _ _ _ _ _ hW hB_st hF (lv_sub hl [0, 1, 2, 3] rfl) h
      · have h := it_f k_5 h
        refine lv_iload_n hx hb dX9_tape_22 rfl (lv_at hl 3 rfl) ?_
        refine lv_bipush (v := (60 : Int32)) hx hb dX9_tape_23 (by decide) ?_
        refine lv_icmp_le (tgt := 31) hx hb dX9_tape_25 (by decide) (fun k_17 => ?_) (fun k_17 => ?_)
        · have h := it_t k_17 h
          exact wX9_tape_31 hE hr hlk _ _ _ _ _ _ _ _ hW hB_st hF (lv_sub hl [0, 1, 2, 3] rfl) h
        · have h := it_f k_17 h
          refine lv_bipush (v := (-2 : Int32)) hx hb dX9_tape_28 (by decide) ?_
          obtain ⟨rfl, rfl⟩ := Prod.mk.inj (Option.some.inj h)
          exact k_iret hE hr hlk hW ⟨hB_st, hF⟩ rfl dX9_tape_30
  · have h := it_t k_2 h
    refine lv_iconst (v := (-1 : Int32)) hx hb dX9_tape_7 (by decide) ?_
    obtain ⟨rfl, rfl⟩ := Prod.mk.inj (Option.some.inj h)
    exact k_iret hE hr hlk hW ⟨hB_st, hF⟩ rfl dX9_tape_8
set_option maxHeartbeats 4000000 in
set_option maxRecDepth 100000 in
theorem mX9_fit {l : Launch} {D : va_G} {ct : Nat → ClassId} {J : List Nat} {ad : Nat → Nat} {c0 : CF} {a1 : Int32} {a2 : Int64} {r : Int64} (h : fX9_fit  a1 a2 = some r) : Ml l D ct J ad yX9_fit cX9_fit 3 (some .long) (rr 0 0) [.int a1, .long a2] c0 r (fun c' => c' = c0) := by
  refine Ml_of (own := RX9) (by decide) rfl (Nat.le_of_ble_eq_true rfl) (fun p e s m below meth cd hE hr hlk hW ls hl => ?_)
  have hx := hE.1
  have hb := hE.2.1
  have hl : lv_has ls 3 [(0, .int a1), (1, .long a2)] := hl
  rw [fX9_fit] at h
  refine lv_iload_n hx hb dX9_fit_0 rfl (lv_at hl 0 rfl) ?_
  rcases Classical.em (a1 = (0 : Int32)) with k_1 | k_1
  · have h := it_t k_1 h
    refine lv_tableIn (tgt := 32) hx hb dX9_fit_1 (by rw [k_1]; decide) (by rw [k_1]; decide) (by rw [k_1]; rfl) (by decide) ?_
    refine lv_lload_n hx hb dX9_fit_32 rfl (lv_at hl 1 rfl) ?_
    refine lv_l2i (v := a2.toInt32) hx hb dX9_fit_33 rfl ?_
    refine lv_i2b (v := a2.toInt32.toInt8.toInt32) hx hb dX9_fit_34 rfl ?_
    refine lv_i2l (v := a2.toInt32.toInt8.toInt32.toInt64) hx hb dX9_fit_35 rfl ?_
    obtain rfl := Option.some.inj h
    exact k_lret hE hr hlk hW rfl rfl dX9_fit_36
  have h := it_f k_1 h
  rcases Classical.em (a1 = (1 : Int32)) with k_2 | k_2
  · have h := it_t k_2 h
    refine lv_tableIn (tgt := 37) hx hb dX9_fit_1 (by rw [k_2]; decide) (by rw [k_2]; decide) (by rw [k_2]; rfl) (by decide) ?_
    refine lv_lload_n hx hb dX9_fit_37 rfl (lv_at hl 1 rfl) ?_
    refine lv_l2i (v := a2.toInt32) hx hb dX9_fit_38 rfl ?_
    refine lv_i2s (v := a2.toInt32.toInt16.toInt32) hx hb dX9_fit_39 rfl ?_
    refine lv_i2l (v := a2.toInt32.toInt16.toInt32.toInt64) hx hb dX9_fit_40 rfl ?_
    obtain rfl := Option.some.inj h
    exact k_lret hE hr hlk hW rfl rfl dX9_fit_41
  have h := it_f k_2 h
  rcases Classical.em (a1 = (2 : Int32)) with k_3 | k_3
  · have h := it_t k_3 h
    refine lv_tableIn (tgt := 42) hx hb dX9_fit_1 (by rw [k_3]; decide) (by rw [k_3]; decide) (by rw [k_3]; rfl) (by decide) ?_
    refine lv_lload_n hx hb dX9_fit_42 rfl (lv_at hl 1 rfl) ?_
    refine lv_l2i (v := a2.toInt32) hx hb dX9_fit_43 rfl ?_
    refine lv_i2l (v := a2.toInt32.toInt64) hx hb dX9_fit_44 rfl ?_
    obtain rfl := Option.some.inj h
    exact k_lret hE hr hlk hW rfl rfl dX9_fit_45
  have h := it_f k_3 h
  rcases Classical.em (a1 = (3 : Int32)) with k_4 | k_4
  · have h := it_t k_4 h
    refine lv_tableIn (tgt := 46) hx hb dX9_fit_1 (by rw [k_4]; decide) (by rw [k_4]; decide) (by rw [k_4]; rfl) (by decide) ?_
    refine lv_lload_n hx hb dX9_fit_46 rfl (lv_at hl 1 rfl) ?_
    obtain rfl := Option.some.inj h
    exact k_lret hE hr hlk hW rfl rfl dX9_fit_47
  have h := it_f k_4 h
  refine lv_tableOut (tgt := 48) hx hb dX9_fit_1 (tb_out4 k_1 k_2 k_3 k_4) (by decide) ?_
  refine lv_lload_n hx hb dX9_fit_48 rfl (lv_at hl 1 rfl) ?_
  refine lv_lconst (v := (0 : Int64)) hx hb dX9_fit_49 (by decide) ?_
  refine W.lcmp hx hb dX9_fit_50 ?_
  refine lv_if_eq (tgt := 58) hx hb dX9_fit_51 (by decide) (fun k_5 => ?_) (fun k_5 => ?_)
  · have h := it_t k_5 h
    refine lv_lconst (v := (0 : Int64)) hx hb dX9_fit_58 (by decide) ?_
    obtain rfl := Option.some.inj h
    exact k_lret hE hr hlk hW rfl rfl dX9_fit_59
  · have h := it_f k_5 h
    refine lv_lconst (v := (1 : Int64)) hx hb dX9_fit_54 (by decide) ?_
    refine lv_goto (tgt := 59) hx hb dX9_fit_55 (by decide) ?_
    obtain rfl := Option.some.inj h
    exact k_lret hE hr hlk hW rfl rfl dX9_fit_59
set_option maxHeartbeats 4000000 in
set_option maxRecDepth 100000 in
theorem mX9_item {l : Launch} {D : va_G} {ct : Nat → ClassId} {J : List Nat} {ad : Nat → Nat} {c0 : CF} {a1 : Int32} {a2 : Int32} {a3 : Int64} {b : Nat} {st : MS} (hB_st : MoB ct J ad c0 b st) {r : Int32} {st9 : MS} (h : fX9_item  a1 a2 a3 st = some (r, st9)) : Mi l D ct J ad yX9_item cX9_item 5 (some .int) (rr 2 42) [.ref (ad b), .int a1, .int a2, .long a3] c0 r (fun c' => MoB ct J ad c' b st9 ∧ Fr c0 c' b 19) := by
  refine Mi_of (own := RX9) (by decide) rfl (Nat.le_of_ble_eq_true rfl) (fun p e s m below meth cd hE hr hlk hW ls hl => ?_)
  have hx := hE.1
  have hb := hE.2.1
  have hl : lv_has ls 5 [(0, .ref (ad b)), (1, .int a1), (2, .int a2), (3, .long a3)] := hl
  rw [fX9_item] at h
  obtain ⟨c, hB_st, hF, hW⟩ : ∃ c', MoB ct J ad c' b st ∧ Fr c0 c' b 19 ∧ HW D J ad c' (aA J ad s.heap.size) s.heap s.heap [] := ⟨c0, hB_st, Fr.rf, hW⟩
  refine lv_iload_n hx hb dX9_item_0 rfl (lv_at hl 1 rfl) ?_
  obtain ⟨r_1, hr_1, h⟩ := zb_e h
  refine k_callSi (rest := []) hE hW hl.1 (mX9_isTape hr_1) q1249 q1250 q10 q1251 hd_X9_isTape.2 ⟨Nat.le_of_ble_eq_true rfl, Nat.le_of_ble_eq_true rfl⟩ ⟨rfl, rfl⟩ rfl (Nat.le_of_ble_eq_true rfl) dX9_item_1 ⟨Nat.zero_le _, Nat.zero_le _⟩ (fun c1 H locs hP hW => ?_)
  rw [hP] at hW
  refine lv_if_ne (tgt := 9) hx hb dX9_item_4 (by decide) (fun k_2 => ?_) (fun k_2 => ?_)
  · have h := it_f k_2 h
    refine lv_aload_n hx hb dX9_item_9 rfl (lv_at hl 0 rfl) ?_
    refine k_get (v := .ref (ad (b + 1 + 8))) hE hW hB_st.o hB_st.obj rfl inX9 11 (by decide) q879 rfl dX9_item_10 ?_
    refine lv_iload_n hx hb dX9_item_13 rfl (lv_at hl 1 rfl) ?_
    obtain ⟨g_3, h⟩ := zi_e h
    refine k_iald hE hW (hB_st.memA 8 (Nat.le_of_ble_eq_true rfl)) (hB_st.arr 8 rfl) g_3 dX9_item_14 ?_
    refine lv_if_ge (tgt := 21) hx hb dX9_item_15 (by decide) (fun k_4 => ?_) (fun k_4 => ?_)
    · have h := it_t k_4 h
      refine lv_iload_n hx hb dX9_item_21 rfl (lv_at hl 2 rfl) ?_
      refine lv_iconst (v := (0 : Int32)) hx hb dX9_item_22 (by decide) ?_
      refine lv_aload_n hx hb dX9_item_23 rfl (lv_at hl 0 rfl) ?_
      refine k_get (v := .ref (ad (b + 1 + 9))) hE hW hB_st.o hB_st.obj rfl inX9 12 (by decide) q880 rfl dX9_item_24 ?_
      refine lv_iload_n hx hb dX9_item_27 rfl (lv_at hl 1 rfl) ?_
      obtain ⟨g_5, h⟩ := zi_e h
      refine k_iald hE hW (hB_st.memA 9 (Nat.le_of_ble_eq_true rfl)) (hB_st.arr 9 rfl) g_5 dX9_item_28 ?_
      refine lv_iconst (v := (1 : Int32)) hx hb dX9_item_29 (by decide) ?_
      refine lv_isub hx hb dX9_item_30 ?_
      obtain ⟨r_6, hr_6, h⟩ := zb_e h
      refine k_callSi (rest := []) hE hW hl.1 (mX9_in hr_6) q931 q932 q10 q933 hd_X9_in.2 ⟨Nat.le_of_ble_eq_true rfl, Nat.le_of_ble_eq_true rfl⟩ ⟨rfl, rfl⟩ rfl (Nat.le_of_ble_eq_true rfl) dX9_item_31 ⟨Nat.zero_le _, Nat.zero_le _⟩ (fun c1 H locs hP hW => ?_)
      rw [hP] at hW
      refine lv_if_ne (tgt := 40) hx hb dX9_item_34 (by decide) (fun k_7 => ?_) (fun k_7 => ?_)
      · have h := it_f k_7 h
        refine lv_aload_n hx hb dX9_item_40 rfl (lv_at hl 0 rfl) ?_
        refine k_get (v := .ref (ad (b + 11))) hE hW hB_st.o hB_st.obj rfl inX9 13 (by decide) q881 rfl dX9_item_41 ?_
        refine lv_iload_n hx hb dX9_item_44 rfl (lv_at hl 1 rfl) ?_
        obtain ⟨g_8, h⟩ := zi_e h
        refine k_aaldR5 (g := fun t => b + 12 + t) hE hW (hB_st.memO) (hB_st.out) g_8 dX9_item_45 ?_
        refine lv_iload_n hx hb dX9_item_46 rfl (lv_at hl 2 rfl) ?_
        refine lv_aload_n hx hb dX9_item_47 rfl (lv_at hl 0 rfl) ?_
        refine k_get (v := .ref (ad (b + 1 + 8))) hE hW hB_st.o hB_st.obj rfl inX9 11 (by decide) q879 rfl dX9_item_48 ?_
        refine lv_iload_n hx hb dX9_item_51 rfl (lv_at hl 1 rfl) ?_
        obtain ⟨g_9, h⟩ := zi_e h
        refine k_iald hE hW (hB_st.memA 8 (Nat.le_of_ble_eq_true rfl)) (hB_st.arr 8 rfl) g_9 dX9_item_52 ?_
        refine lv_lload_n hx hb dX9_item_53 rfl (lv_at hl 3 rfl) ?_
        obtain ⟨r_10, hr_10, h⟩ := zb_e h
        refine k_callSl (rest := [.int a2, .ref (ad (b + 12 + a1.toNatClampNeg))]) hE hW hl.1 (mX9_fit hr_10) q1272 q1273 q10 q1274 hd_X9_fit.2 ⟨Nat.le_of_ble_eq_true rfl, Nat.le_of_ble_eq_true rfl⟩ ⟨rfl, rfl⟩ rfl (Nat.le_of_ble_eq_true rfl) dX9_item_54 ⟨Nat.zero_le _, Nat.zero_le _⟩ (fun c1 H locs hP hW => ?_)
        rw [hP] at hW
        obtain ⟨g_11, h⟩ := zi_e h
        obtain ⟨st_12, est_12, h⟩ := zl_e h
        have := (show a1.toNatClampNeg < 7 from (vp_lt7 g_8))
        refine k_last hE hW (hB_st.memR a1.toNatClampNeg (vp_lt7 g_8)) (hB_st.row a1.toNatClampNeg (vp_lt7 g_8)) g_11 dX9_item_57 (fun H locs hW => ?_)
        obtain ⟨c, hB_st, hF, hW⟩ : ∃ c', MoB ct J ad c' b st_12 ∧ Fr c0 c' b 19 ∧ HW D J ad c' (aA J ad s.heap.size) s.heap H locs := ⟨_, hB_st.wL (t := a1.toNatClampNeg) (vp_lt7 g_8) est_12, hF.up (by omega) (by omega), hW⟩
        refine lv_iconst (v := (1 : Int32)) hx hb dX9_item_58 (by decide) ?_
        obtain ⟨rfl, rfl⟩ := Prod.mk.inj (Option.some.inj h)
        exact k_iret hE hr hlk hW ⟨hB_st, hF⟩ rfl dX9_item_59
      · have h := it_t k_7 h
        refine lv_bipush (v := (-13 : Int32)) hx hb dX9_item_37 (by decide) ?_
        obtain ⟨rfl, rfl⟩ := Prod.mk.inj (Option.some.inj h)
        exact k_iret hE hr hlk hW ⟨hB_st, hF⟩ rfl dX9_item_39
    · have h := it_f k_4 h
      refine lv_bipush (v := (-11 : Int32)) hx hb dX9_item_18 (by decide) ?_
      obtain ⟨rfl, rfl⟩ := Prod.mk.inj (Option.some.inj h)
      exact k_iret hE hr hlk hW ⟨hB_st, hF⟩ rfl dX9_item_20
  · have h := it_t k_2 h
    refine lv_iconst (v := (-1 : Int32)) hx hb dX9_item_7 (by decide) ?_
    obtain ⟨rfl, rfl⟩ := Prod.mk.inj (Option.some.inj h)
    exact k_iret hE hr hlk hW ⟨hB_st, hF⟩ rfl dX9_item_8
set_option maxHeartbeats 4000000 in
set_option maxRecDepth 100000 in
theorem mX9_peek {l : Launch} {D : va_G} {ct : Nat → ClassId} {J : List Nat} {ad : Nat → Nat} {c0 : CF} {a1 : Int32} {a2 : Int32} {b : Nat} {st : MS} (hB_st : MoB ct J ad c0 b st) {r : Int64} (h : fX9_peek  a1 a2 st = some r) : Ml l D ct J ad yX9_peek cX9_peek 3 (some .long) (rr 2 42) [.ref (ad b), .int a1, .int a2] c0 r (fun c' => c' = c0) := by
  refine Ml_of (own := RX9) (by decide) rfl (Nat.le_of_ble_eq_true rfl) (fun p e s m below meth cd hE hr hlk hW ls hl => ?_)
  have hx := hE.1
  have hb := hE.2.1
  have hl : lv_has ls 3 [(0, .ref (ad b)), (1, .int a1), (2, .int a2)] := hl
  rw [fX9_peek] at h
  refine lv_iload_n hx hb dX9_peek_0 rfl (lv_at hl 1 rfl) ?_
  obtain ⟨r_1, hr_1, h⟩ := zb_e h
  refine k_callSi (rest := []) hE hW hl.1 (mX9_isTape hr_1) q1249 q1250 q10 q1251 hd_X9_isTape.2 ⟨Nat.le_of_ble_eq_true rfl, Nat.le_of_ble_eq_true rfl⟩ ⟨rfl, rfl⟩ rfl (Nat.le_of_ble_eq_true rfl) dX9_peek_1 ⟨Nat.zero_le _, Nat.zero_le _⟩ (fun c1 H locs hP hW => ?_)
  rw [hP] at hW
  refine lv_if_eq (tgt := 43) hx hb dX9_peek_4 (by decide) (fun k_2 => ?_) (fun k_2 => ?_)
  · have h := it_t k_2 h
    refine lv_ldc2 (v := (-9223372036854775808 : Int64)) hx hb hE.2.2.2.1 (hE.2.2.2.2.1 _ q1078) dX9_peek_43 ?_
    obtain rfl := Option.some.inj h
    exact k_lret hE hr hlk hW rfl rfl dX9_peek_46
  · have h := it_f k_2 h
    refine lv_aload_n hx hb dX9_peek_7 rfl (lv_at hl 0 rfl) ?_
    refine k_get (v := .ref (ad (b + 1 + 8))) hE hW hB_st.o hB_st.obj rfl inX9 11 (by decide) q879 rfl dX9_peek_8 ?_
    refine lv_iload_n hx hb dX9_peek_11 rfl (lv_at hl 1 rfl) ?_
    obtain ⟨g_3, h⟩ := zi_e h
    refine k_iald hE hW (hB_st.memA 8 (Nat.le_of_ble_eq_true rfl)) (hB_st.arr 8 rfl) g_3 dX9_peek_12 ?_
    refine lv_if_lt (tgt := 43) hx hb dX9_peek_13 (by decide) (fun k_4 => ?_) (fun k_4 => ?_)
    · have h := it_t k_4 h
      refine lv_ldc2 (v := (-9223372036854775808 : Int64)) hx hb hE.2.2.2.1 (hE.2.2.2.2.1 _ q1078) dX9_peek_43 ?_
      obtain rfl := Option.some.inj h
      exact k_lret hE hr hlk hW rfl rfl dX9_peek_46
    · have h := it_f k_4 h
      refine lv_iload_n hx hb dX9_peek_16 rfl (lv_at hl 2 rfl) ?_
      refine lv_iconst (v := (0 : Int32)) hx hb dX9_peek_17 (by decide) ?_
      refine lv_aload_n hx hb dX9_peek_18 rfl (lv_at hl 0 rfl) ?_
      refine k_get (v := .ref (ad (b + 1 + 9))) hE hW hB_st.o hB_st.obj rfl inX9 12 (by decide) q880 rfl dX9_peek_19 ?_
      refine lv_iload_n hx hb dX9_peek_22 rfl (lv_at hl 1 rfl) ?_
      obtain ⟨g_5, h⟩ := zi_e h
      refine k_iald hE hW (hB_st.memA 9 (Nat.le_of_ble_eq_true rfl)) (hB_st.arr 9 rfl) g_5 dX9_peek_23 ?_
      refine lv_iconst (v := (1 : Int32)) hx hb dX9_peek_24 (by decide) ?_
      refine lv_isub hx hb dX9_peek_25 ?_
      obtain ⟨r_6, hr_6, h⟩ := zb_e h
      refine k_callSi (rest := []) hE hW hl.1 (mX9_in hr_6) q931 q932 q10 q933 hd_X9_in.2 ⟨Nat.le_of_ble_eq_true rfl, Nat.le_of_ble_eq_true rfl⟩ ⟨rfl, rfl⟩ rfl (Nat.le_of_ble_eq_true rfl) dX9_peek_26 ⟨Nat.zero_le _, Nat.zero_le _⟩ (fun c1 H locs hP hW => ?_)
      rw [hP] at hW
      refine lv_if_eq (tgt := 43) hx hb dX9_peek_29 (by decide) (fun k_7 => ?_) (fun k_7 => ?_)
      · have h := it_t k_7 h
        refine lv_ldc2 (v := (-9223372036854775808 : Int64)) hx hb hE.2.2.2.1 (hE.2.2.2.2.1 _ q1078) dX9_peek_43 ?_
        obtain rfl := Option.some.inj h
        exact k_lret hE hr hlk hW rfl rfl dX9_peek_46
      · have h := it_f k_7 h
        refine lv_aload_n hx hb dX9_peek_32 rfl (lv_at hl 0 rfl) ?_
        refine k_get (v := .ref (ad (b + 11))) hE hW hB_st.o hB_st.obj rfl inX9 13 (by decide) q881 rfl dX9_peek_33 ?_
        refine lv_iload_n hx hb dX9_peek_36 rfl (lv_at hl 1 rfl) ?_
        obtain ⟨g_8, h⟩ := zi_e h
        refine k_aaldR5 (g := fun t => b + 12 + t) hE hW (hB_st.memO) (hB_st.out) g_8 dX9_peek_37 ?_
        refine lv_iload_n hx hb dX9_peek_38 rfl (lv_at hl 2 rfl) ?_
        obtain ⟨g_9, h⟩ := zi_e h
        refine k_lald hE hW (hB_st.memR a1.toNatClampNeg (vp_lt7 g_8)) (hB_st.row a1.toNatClampNeg (vp_lt7 g_8)) g_9 dX9_peek_39 ?_
        refine lv_goto (tgt := 46) hx hb dX9_peek_40 (by decide) ?_
        obtain rfl := Option.some.inj h
        exact k_lret hE hr hlk hW rfl rfl dX9_peek_46
set_option maxHeartbeats 4000000 in
set_option maxRecDepth 100000 in
theorem wX9_shift_158 {p : Program} {l : Launch} {e : Env} {s : State} {m : MethodId} {args : Array Value} {below : List Frame} {meth : Method} {cd : Code} {D : va_G} {ct : Nat → ClassId} {J : List Nat} {ad : Nat → Nat} {c0 : CF} {b : Nat} (hE : ME p s m cd args D ct cX9_shift RX9 7) (hr : meth.sig.returnType = (some .int)) (hlk : meth.locks = false) {x3 : Int32} {x4 : Int32} {x5 : Int32} {r : Int32} {st9 : MS} : ∀ (n : Nat) (x6 : Int32) (st : MS) (c : CF) (H : Heap) (locs : List Loc) (ls : Array Slot), HW D J ad c (aA J ad s.heap.size) s.heap H locs → MoB ct J ad c b st → Fr c0 c b 19 → lv_has ls 7 [(0, .ref (ad b)), (3, .int x3), (4, .int x4), (5, .int x5), (6, .int x6)] → fX9_shift_158 x3 x4 x5 n x6 st = some (r, st9) → W p l e (rr 2 42) s m args below meth cd H locs 0 0 (MQ below (Qi D J ad s.heap.size r (fun c' => MoB ct J ad c' b st9 ∧ Fr c0 c' b 19)) args s 0 0 (aA J ad s.heap.size)) (F0 m 158 ls []) := by
  have hx := hE.1
  have hb := hE.2.1
  intro n
  induction n with
  | zero =>
    intro x6 st c H locs ls hW hB_st hF hl h
    have h2 : (none : Option (Int32 × MS)) = some (r, st9) := h
    cases h2
  | succ n ih =>
    intro x6 st c H locs ls hW hB_st hF hl h
    rw [fX9_shift_158] at h
    refine lv_iload hx hb dX9_shift_158 (lv_at hl 4 rfl) ?_
    refine lv_iload hx hb dX9_shift_160 (lv_at hl 3 rfl) ?_
    refine lv_icmp_ge (tgt := 190) hx hb dX9_shift_162 (by decide) (fun k_24 => ?_) (fun k_24 => ?_)
    · have h := it_t k_24 h
      refine lv_iload hx hb dX9_shift_190 (lv_at hl 3 rfl) ?_
      obtain ⟨rfl, rfl⟩ := Prod.mk.inj (Option.some.inj h)
      exact k_iret hE hr hlk hW ⟨hB_st, hF⟩ rfl dX9_shift_192
    · have h := it_f k_24 h
      refine lv_aload_n hx hb dX9_shift_165 rfl (lv_at hl 0 rfl) ?_
      refine k_get (v := .ref (ad (b + 11))) hE hW hB_st.o hB_st.obj rfl inX9 13 (by decide) q881 rfl dX9_shift_166 ?_
      refine lv_iload_n hx hb dX9_shift_169 rfl (lv_at hl 1 rfl) ?_
      obtain ⟨g_25, h⟩ := zi_e h
      refine k_aaldR5 (g := fun t => b + 12 + t) hE hW (hB_st.memO) (hB_st.out) g_25 dX9_shift_170 ?_
      refine lv_iload hx hb dX9_shift_171 (lv_at hl 2 rfl) ?_
      refine lv_iload hx hb dX9_shift_173 (lv_at hl 4 rfl) ?_
      refine lv_iadd hx hb dX9_shift_175 ?_
      refine lv_aload_n hx hb dX9_shift_176 rfl (lv_at hl 0 rfl) ?_
      refine k_get (v := .ref (ad (b + 12 + 6))) hE hW hB_st.o hB_st.obj rfl inX9 14 (by decide) q882 rfl dX9_shift_177 ?_
      refine lv_iload hx hb dX9_shift_180 (lv_at hl 4 rfl) ?_
      obtain ⟨g_26, h⟩ := zi_e h
      refine k_lald hE hW (hB_st.memR 6 (Nat.le_of_ble_eq_true rfl)) (hB_st.row 6 (Nat.le_of_ble_eq_true rfl)) g_26 dX9_shift_182 ?_
      obtain ⟨g_27, h⟩ := zi_e h
      obtain ⟨st_28, est_28, h⟩ := zl_e h
      have := (show x3.toNatClampNeg < 7 from (vp_lt7 g_25))
      refine k_last hE hW (hB_st.memR x3.toNatClampNeg (vp_lt7 g_25)) (hB_st.row x3.toNatClampNeg (vp_lt7 g_25)) g_27 dX9_shift_183 (fun H locs hW => ?_)
      obtain ⟨c, hB_st, hF, hW⟩ : ∃ c', MoB ct J ad c' b st_28 ∧ Fr c0 c' b 19 ∧ HW D J ad c' (aA J ad s.heap.size) s.heap H locs := ⟨_, hB_st.wL (t := x3.toNatClampNeg) (vp_lt7 g_25) est_28, hF.up (by omega) (by omega), hW⟩
      refine lv_iinc (v := (x6 + (1 : Int32))) (lv' := [(6, .int (x6 + (1 : Int32))), (0, .ref (ad b)), (3, .int x3), (4, .int x4), (5, .int x5)]) hx hb dX9_shift_184 hl (k := 4) rfl rfl (by decide) rfl (fun ls hl => ?_)
      refine lv_goto (tgt := 158) hx hb dX9_shift_187 (by decide) ?_
      exact ih _ _ _ _ _ _ hW hB_st hF (lv_sub hl [1, 2, 3, 4, 0] rfl) h
set_option maxHeartbeats 4000000 in
set_option maxRecDepth 100000 in
theorem wX9_shift_124 {p : Program} {l : Launch} {e : Env} {s : State} {m : MethodId} {args : Array Value} {below : List Frame} {meth : Method} {cd : Code} {D : va_G} {ct : Nat → ClassId} {J : List Nat} {ad : Nat → Nat} {c0 : CF} {b : Nat} (hE : ME p s m cd args D ct cX9_shift RX9 7) (hr : meth.sig.returnType = (some .int)) (hlk : meth.locks = false) {x1 : Int32} {x2 : Int32} {x3 : Int32} {x4 : Int32} {x5 : Int32} {r : Int32} {st9 : MS} : ∀ (n : Nat) (x6 : Int32) (st : MS) (c : CF) (H : Heap) (locs : List Loc) (ls : Array Slot), HW D J ad c (aA J ad s.heap.size) s.heap H locs → MoB ct J ad c b st → Fr c0 c b 19 → lv_has ls 7 [(0, .ref (ad b)), (1, .int x1), (2, .int x2), (3, .int x3), (4, .int x4), (5, .int x5), (6, .int x6)] → fX9_shift_124 x1 x2 x3 x4 x5 n x6 st = some (r, st9) → W p l e (rr 2 42) s m args below meth cd H locs 0 0 (MQ below (Qi D J ad s.heap.size r (fun c' => MoB ct J ad c' b st9 ∧ Fr c0 c' b 19)) args s 0 0 (aA J ad s.heap.size)) (F0 m 124 ls []) := by
  have hx := hE.1
  have hb := hE.2.1
  intro n
  induction n with
  | zero =>
    intro x6 st c H locs ls hW hB_st hF hl h
    have h2 : (none : Option (Int32 × MS)) = some (r, st9) := h
    cases h2
  | succ n ih =>
    intro x6 st c H locs ls hW hB_st hF hl h
    rw [fX9_shift_124] at h
    refine lv_iload hx hb dX9_shift_124 (lv_at hl 6 rfl) ?_
    refine lv_iload hx hb dX9_shift_126 (lv_at hl 5 rfl) ?_
    refine lv_icmp_ge (tgt := 155) hx hb dX9_shift_128 (by decide) (fun k_23 => ?_) (fun k_23 => ?_)
    · have h := it_t k_23 h
      refine lv_iconst (v := (0 : Int32)) hx hb dX9_shift_155 (by decide) ?_
      refine lv_istore (lv' := [(6, .int (0 : Int32)), (0, .ref (ad b)), (1, .int x1), (2, .int x2), (3, .int x3), (4, .int x4), (5, .int x5)]) hx hb dX9_shift_156 hl (by decide) rfl (fun ls hl => ?_)
      exact wX9_shift_158 hE hr hlk _ _ _ _ _ _ _ hW hB_st hF (lv_sub hl [1, 4, 5, 6, 0] rfl) h
    · have h := it_f k_23 h
      refine lv_aload_n hx hb dX9_shift_131 rfl (lv_at hl 0 rfl) ?_
      refine k_get (v := .ref (ad (b + 12 + 6))) hE hW hB_st.o hB_st.obj rfl inX9 14 (by decide) q882 rfl dX9_shift_132 ?_
      refine lv_iload hx hb dX9_shift_135 (lv_at hl 6 rfl) ?_
      refine lv_aload_n hx hb dX9_shift_137 rfl (lv_at hl 0 rfl) ?_
      refine k_get (v := .ref (ad (b + 11))) hE hW hB_st.o hB_st.obj rfl inX9 13 (by decide) q881 rfl dX9_shift_138 ?_
      refine lv_iload_n hx hb dX9_shift_141 rfl (lv_at hl 1 rfl) ?_
      obtain ⟨g_29, h⟩ := zi_e h
      refine k_aaldR5 (g := fun t => b + 12 + t) hE hW (hB_st.memO) (hB_st.out) g_29 dX9_shift_142 ?_
      refine lv_iload_n hx hb dX9_shift_143 rfl (lv_at hl 2 rfl) ?_
      refine lv_iload hx hb dX9_shift_144 (lv_at hl 6 rfl) ?_
      refine lv_iadd hx hb dX9_shift_146 ?_
      obtain ⟨g_30, h⟩ := zi_e h
      refine k_lald hE hW (hB_st.memR x1.toNatClampNeg (vp_lt7 g_29)) (hB_st.row x1.toNatClampNeg (vp_lt7 g_29)) g_30 dX9_shift_147 ?_
      obtain ⟨g_31, h⟩ := zi_e h
      obtain ⟨st_32, est_32, h⟩ := zl_e h
      have := (show 6 < 7 from (Nat.le_of_ble_eq_true rfl))
      refine k_last hE hW (hB_st.memR 6 (Nat.le_of_ble_eq_true rfl)) (hB_st.row 6 (Nat.le_of_ble_eq_true rfl)) g_31 dX9_shift_148 (fun H locs hW => ?_)
      obtain ⟨c, hB_st, hF, hW⟩ : ∃ c', MoB ct J ad c' b st_32 ∧ Fr c0 c' b 19 ∧ HW D J ad c' (aA J ad s.heap.size) s.heap H locs := ⟨_, hB_st.wL (t := 6) (Nat.le_of_ble_eq_true rfl) est_32, hF.up (by omega) (by omega), hW⟩
      refine lv_iinc (v := (x6 + (1 : Int32))) (lv' := [(6, .int (x6 + (1 : Int32))), (0, .ref (ad b)), (1, .int x1), (2, .int x2), (3, .int x3), (4, .int x4), (5, .int x5)]) hx hb dX9_shift_149 hl (k := 6) rfl rfl (by decide) rfl (fun ls hl => ?_)
      refine lv_goto (tgt := 124) hx hb dX9_shift_152 (by decide) ?_
      exact ih _ _ _ _ _ _ hW hB_st hF (lv_sub hl [1, 2, 3, 4, 5, 6, 0] rfl) h
set_option maxHeartbeats 4000000 in
set_option maxRecDepth 100000 in
theorem mX9_shift {l : Launch} {D : va_G} {ct : Nat → ClassId} {J : List Nat} {ad : Nat → Nat} {c0 : CF} {a1 : Int32} {a2 : Int32} {a3 : Int32} {a4 : Int32} {a5 : Int32} {b : Nat} {st : MS} (hB_st : MoB ct J ad c0 b st) {r : Int32} {st9 : MS} (h : fX9_shift  a1 a2 a3 a4 a5 st = some (r, st9)) : Mi l D ct J ad yX9_shift cX9_shift 7 (some .int) (rr 2 42) [.ref (ad b), .int a1, .int a2, .int a3, .int a4, .int a5] c0 r (fun c' => MoB ct J ad c' b st9 ∧ Fr c0 c' b 19) := by
  refine Mi_of (own := RX9) (by decide) rfl (Nat.le_of_ble_eq_true rfl) (fun p e s m below meth cd hE hr hlk hW ls hl => ?_)
  have hx := hE.1
  have hb := hE.2.1
  have hl : lv_has ls 7 [(0, .ref (ad b)), (1, .int a1), (2, .int a2), (3, .int a3), (4, .int a4), (5, .int a5)] := hl
  rw [fX9_shift] at h
  obtain ⟨c, hB_st, hF, hW⟩ : ∃ c', MoB ct J ad c' b st ∧ Fr c0 c' b 19 ∧ HW D J ad c' (aA J ad s.heap.size) s.heap s.heap [] := ⟨c0, hB_st, Fr.rf, hW⟩
  refine lv_iload_n hx hb dX9_shift_0 rfl (lv_at hl 1 rfl) ?_
  obtain ⟨r_1, hr_1, h⟩ := zb_e h
  refine k_callSi (rest := []) hE hW hl.1 (mX9_isTape hr_1) q1249 q1250 q10 q1251 hd_X9_isTape.2 ⟨Nat.le_of_ble_eq_true rfl, Nat.le_of_ble_eq_true rfl⟩ ⟨rfl, rfl⟩ rfl (Nat.le_of_ble_eq_true rfl) dX9_shift_1 ⟨Nat.zero_le _, Nat.zero_le _⟩ (fun c1 H locs hP hW => ?_)
  rw [hP] at hW
  refine lv_if_eq (tgt := 14) hx hb dX9_shift_4 (by decide) (fun k_2 => ?_) (fun k_2 => ?_)
  · have h := it_t k_2 h
    refine lv_iconst (v := (-1 : Int32)) hx hb dX9_shift_14 (by decide) ?_
    obtain ⟨rfl, rfl⟩ := Prod.mk.inj (Option.some.inj h)
    exact k_iret hE hr hlk hW ⟨hB_st, hF⟩ rfl dX9_shift_15
  · have h := it_f k_2 h
    refine lv_iload_n hx hb dX9_shift_7 rfl (lv_at hl 3 rfl) ?_
    obtain ⟨r_3, hr_3, h⟩ := zb_e h
    refine k_callSi (rest := []) hE hW hl.1 (mX9_isTape hr_3) q1249 q1250 q10 q1251 hd_X9_isTape.2 ⟨Nat.le_of_ble_eq_true rfl, Nat.le_of_ble_eq_true rfl⟩ ⟨rfl, rfl⟩ rfl (Nat.le_of_ble_eq_true rfl) dX9_shift_8 ⟨Nat.zero_le _, Nat.zero_le _⟩ (fun c1 H locs hP hW => ?_)
    rw [hP] at hW
    refine lv_if_ne (tgt := 16) hx hb dX9_shift_11 (by decide) (fun k_4 => ?_) (fun k_4 => ?_)
    · have h := it_f k_4 h
      refine lv_aload_n hx hb dX9_shift_16 rfl (lv_at hl 0 rfl) ?_
      refine k_get (v := .ref (ad (b + 1 + 8))) hE hW hB_st.o hB_st.obj rfl inX9 11 (by decide) q879 rfl dX9_shift_17 ?_
      refine lv_iload_n hx hb dX9_shift_20 rfl (lv_at hl 1 rfl) ?_
      obtain ⟨g_5, h⟩ := zi_e h
      refine k_iald hE hW (hB_st.memA 8 (Nat.le_of_ble_eq_true rfl)) (hB_st.arr 8 rfl) g_5 dX9_shift_21 ?_
      refine lv_if_lt (tgt := 34) hx hb dX9_shift_22 (by decide) (fun k_6 => ?_) (fun k_6 => ?_)
      · have h := it_t k_6 h
        refine lv_bipush (v := (-11 : Int32)) hx hb dX9_shift_34 (by decide) ?_
        obtain ⟨rfl, rfl⟩ := Prod.mk.inj (Option.some.inj h)
        exact k_iret hE hr hlk hW ⟨hB_st, hF⟩ rfl dX9_shift_36
      · have h := it_f k_6 h
        refine lv_aload_n hx hb dX9_shift_25 rfl (lv_at hl 0 rfl) ?_
        refine k_get (v := .ref (ad (b + 1 + 8))) hE hW hB_st.o hB_st.obj rfl inX9 11 (by decide) q879 rfl dX9_shift_26 ?_
        refine lv_iload_n hx hb dX9_shift_29 rfl (lv_at hl 3 rfl) ?_
        obtain ⟨g_7, h⟩ := zi_e h
        refine k_iald hE hW (hB_st.memA 8 (Nat.le_of_ble_eq_true rfl)) (hB_st.arr 8 rfl) g_7 dX9_shift_30 ?_
        refine lv_if_ge (tgt := 37) hx hb dX9_shift_31 (by decide) (fun k_8 => ?_) (fun k_8 => ?_)
        · have h := it_t k_8 h
          refine lv_aload_n hx hb dX9_shift_37 rfl (lv_at hl 0 rfl) ?_
          refine k_get (v := .ref (ad (b + 1 + 8))) hE hW hB_st.o hB_st.obj rfl inX9 11 (by decide) q879 rfl dX9_shift_38 ?_
          refine lv_iload_n hx hb dX9_shift_41 rfl (lv_at hl 1 rfl) ?_
          obtain ⟨g_9, h⟩ := zi_e h
          refine k_iald hE hW (hB_st.memA 8 (Nat.le_of_ble_eq_true rfl)) (hB_st.arr 8 rfl) g_9 dX9_shift_42 ?_
          refine lv_aload_n hx hb dX9_shift_43 rfl (lv_at hl 0 rfl) ?_
          refine k_get (v := .ref (ad (b + 1 + 8))) hE hW hB_st.o hB_st.obj rfl inX9 11 (by decide) q879 rfl dX9_shift_44 ?_
          refine lv_iload_n hx hb dX9_shift_47 rfl (lv_at hl 3 rfl) ?_
          obtain ⟨g_10, h⟩ := zi_e h
          refine k_iald hE hW (hB_st.memA 8 (Nat.le_of_ble_eq_true rfl)) (hB_st.arr 8 rfl) g_10 dX9_shift_48 ?_
          refine lv_icmp_eq (tgt := 55) hx hb dX9_shift_49 (by decide) (fun k_11 => ?_) (fun k_11 => ?_)
          · have h := it_t k_11 h
            refine lv_iload hx hb dX9_shift_55 (lv_at hl 5 rfl) ?_
            refine lv_if_lt (tgt := 118) hx hb dX9_shift_57 (by decide) (fun k_12 => ?_) (fun k_12 => ?_)
            · have h := it_t k_12 h
              refine lv_bipush (v := (-13 : Int32)) hx hb dX9_shift_118 (by decide) ?_
              obtain ⟨rfl, rfl⟩ := Prod.mk.inj (Option.some.inj h)
              exact k_iret hE hr hlk hW ⟨hB_st, hF⟩ rfl dX9_shift_120
            · have h := it_f k_12 h
              refine lv_iload_n hx hb dX9_shift_60 rfl (lv_at hl 2 rfl) ?_
              refine lv_if_lt (tgt := 118) hx hb dX9_shift_61 (by decide) (fun k_13 => ?_) (fun k_13 => ?_)
              · have h := it_t k_13 h
                refine lv_bipush (v := (-13 : Int32)) hx hb dX9_shift_118 (by decide) ?_
                obtain ⟨rfl, rfl⟩ := Prod.mk.inj (Option.some.inj h)
                exact k_iret hE hr hlk hW ⟨hB_st, hF⟩ rfl dX9_shift_120
              · have h := it_f k_13 h
                refine lv_iload hx hb dX9_shift_64 (lv_at hl 4 rfl) ?_
                refine lv_if_lt (tgt := 118) hx hb dX9_shift_66 (by decide) (fun k_14 => ?_) (fun k_14 => ?_)
                · have h := it_t k_14 h
                  refine lv_bipush (v := (-13 : Int32)) hx hb dX9_shift_118 (by decide) ?_
                  obtain ⟨rfl, rfl⟩ := Prod.mk.inj (Option.some.inj h)
                  exact k_iret hE hr hlk hW ⟨hB_st, hF⟩ rfl dX9_shift_120
                · have h := it_f k_14 h
                  refine lv_iload hx hb dX9_shift_69 (lv_at hl 5 rfl) ?_
                  refine lv_aload_n hx hb dX9_shift_71 rfl (lv_at hl 0 rfl) ?_
                  refine k_get (v := .ref (ad (b + 1 + 9))) hE hW hB_st.o hB_st.obj rfl inX9 12 (by decide) q880 rfl dX9_shift_72 ?_
                  refine lv_iload_n hx hb dX9_shift_75 rfl (lv_at hl 1 rfl) ?_
                  obtain ⟨g_15, h⟩ := zi_e h
                  refine k_iald hE hW (hB_st.memA 9 (Nat.le_of_ble_eq_true rfl)) (hB_st.arr 9 rfl) g_15 dX9_shift_76 ?_
                  refine lv_icmp_gt (tgt := 118) hx hb dX9_shift_77 (by decide) (fun k_16 => ?_) (fun k_16 => ?_)
                  · have h := it_t k_16 h
                    refine lv_bipush (v := (-13 : Int32)) hx hb dX9_shift_118 (by decide) ?_
                    obtain ⟨rfl, rfl⟩ := Prod.mk.inj (Option.some.inj h)
                    exact k_iret hE hr hlk hW ⟨hB_st, hF⟩ rfl dX9_shift_120
                  · have h := it_f k_16 h
                    refine lv_iload hx hb dX9_shift_80 (lv_at hl 5 rfl) ?_
                    refine lv_aload_n hx hb dX9_shift_82 rfl (lv_at hl 0 rfl) ?_
                    refine k_get (v := .ref (ad (b + 1 + 9))) hE hW hB_st.o hB_st.obj rfl inX9 12 (by decide) q880 rfl dX9_shift_83 ?_
                    refine lv_iload_n hx hb dX9_shift_86 rfl (lv_at hl 3 rfl) ?_
                    obtain ⟨g_17, h⟩ := zi_e h
                    refine k_iald hE hW (hB_st.memA 9 (Nat.le_of_ble_eq_true rfl)) (hB_st.arr 9 rfl) g_17 dX9_shift_87 ?_
                    refine lv_icmp_gt (tgt := 118) hx hb dX9_shift_88 (by decide) (fun k_18 => ?_) (fun k_18 => ?_)
                    · have h := it_t k_18 h
                      refine lv_bipush (v := (-13 : Int32)) hx hb dX9_shift_118 (by decide) ?_
                      obtain ⟨rfl, rfl⟩ := Prod.mk.inj (Option.some.inj h)
                      exact k_iret hE hr hlk hW ⟨hB_st, hF⟩ rfl dX9_shift_120
                    · have h := it_f k_18 h
                      refine lv_iload_n hx hb dX9_shift_91 rfl (lv_at hl 2 rfl) ?_
                      refine lv_aload_n hx hb dX9_shift_92 rfl (lv_at hl 0 rfl) ?_
                      refine k_get (v := .ref (ad (b + 1 + 9))) hE hW hB_st.o hB_st.obj rfl inX9 12 (by decide) q880 rfl dX9_shift_93 ?_
                      refine lv_iload_n hx hb dX9_shift_96 rfl (lv_at hl 1 rfl) ?_
                      obtain ⟨g_19, h⟩ := zi_e h
                      refine k_iald hE hW (hB_st.memA 9 (Nat.le_of_ble_eq_true rfl)) (hB_st.arr 9 rfl) g_19 dX9_shift_97 ?_
                      refine lv_iload hx hb dX9_shift_98 (lv_at hl 5 rfl) ?_
                      refine lv_isub hx hb dX9_shift_100 ?_
                      refine lv_icmp_gt (tgt := 118) hx hb dX9_shift_101 (by decide) (fun k_20 => ?_) (fun k_20 => ?_)
                      · have h := it_t k_20 h
                        refine lv_bipush (v := (-13 : Int32)) hx hb dX9_shift_118 (by decide) ?_
                        obtain ⟨rfl, rfl⟩ := Prod.mk.inj (Option.some.inj h)
                        exact k_iret hE hr hlk hW ⟨hB_st, hF⟩ rfl dX9_shift_120
                      · have h := it_f k_20 h
                        refine lv_iload hx hb dX9_shift_104 (lv_at hl 4 rfl) ?_
                        refine lv_aload_n hx hb dX9_shift_106 rfl (lv_at hl 0 rfl) ?_
                        refine k_get (v := .ref (ad (b + 1 + 9))) hE hW hB_st.o hB_st.obj rfl inX9 12 (by decide) q880 rfl dX9_shift_107 ?_
                        refine lv_iload_n hx hb dX9_shift_110 rfl (lv_at hl 3 rfl) ?_
                        obtain ⟨g_21, h⟩ := zi_e h
                        refine k_iald hE hW (hB_st.memA 9 (Nat.le_of_ble_eq_true rfl)) (hB_st.arr 9 rfl) g_21 dX9_shift_111 ?_
                        refine lv_iload hx hb dX9_shift_112 (lv_at hl 5 rfl) ?_
                        refine lv_isub hx hb dX9_shift_114 ?_
                        refine lv_icmp_le (tgt := 121) hx hb dX9_shift_115 (by decide) (fun k_22 => ?_) (fun k_22 => ?_)
                        · have h := it_t k_22 h
                          refine lv_iconst (v := (0 : Int32)) hx hb dX9_shift_121 (by decide) ?_
                          refine lv_istore (lv' := [(6, .int (0 : Int32)), (0, .ref (ad b)), (1, .int a1), (2, .int a2), (3, .int a3), (4, .int a4), (5, .int a5)]) hx hb dX9_shift_122 hl (by decide) rfl (fun ls hl => ?_)
                          exact wX9_shift_124 hE hr hlk _ _ _ _ _ _ _ hW hB_st hF (lv_sub hl [1, 2, 3, 4, 5, 6, 0] rfl) h
                        · have h := it_f k_22 h
                          refine lv_bipush (v := (-13 : Int32)) hx hb dX9_shift_118 (by decide) ?_
                          obtain ⟨rfl, rfl⟩ := Prod.mk.inj (Option.some.inj h)
                          exact k_iret hE hr hlk hW ⟨hB_st, hF⟩ rfl dX9_shift_120
          · have h := it_f k_11 h
            refine lv_bipush (v := (-12 : Int32)) hx hb dX9_shift_52 (by decide) ?_
            obtain ⟨rfl, rfl⟩ := Prod.mk.inj (Option.some.inj h)
            exact k_iret hE hr hlk hW ⟨hB_st, hF⟩ rfl dX9_shift_54
        · have h := it_f k_8 h
          refine lv_bipush (v := (-11 : Int32)) hx hb dX9_shift_34 (by decide) ?_
          obtain ⟨rfl, rfl⟩ := Prod.mk.inj (Option.some.inj h)
          exact k_iret hE hr hlk hW ⟨hB_st, hF⟩ rfl dX9_shift_36
    · have h := it_t k_4 h
      refine lv_iconst (v := (-1 : Int32)) hx hb dX9_shift_14 (by decide) ?_
      obtain ⟨rfl, rfl⟩ := Prod.mk.inj (Option.some.inj h)
      exact k_iret hE hr hlk hW ⟨hB_st, hF⟩ rfl dX9_shift_15
