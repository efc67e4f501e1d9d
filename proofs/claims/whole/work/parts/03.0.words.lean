/-- the words that a callee may take over: all of the tables but the links among nest mates -/
def AL : List Cond := lw_tbl.filter goodWord
def isN : Cond → Bool
  | .fieldLinkNest .. => true
  | .methodLinkNest .. => true
  | .arrayOver (.object _) => true
  | .arrayOver (.array _) => true
  | _ => false
def NL : List Cond := lw_tbl.filter isN

theorem qs0 : Cond.selects RX8 yX8_recordComes yX8_recordComes ∈ AL := List.mem_filter.mpr ⟨List.mem_of_getElem? (i := 0) (by decide +kernel), by decide +kernel⟩
theorem qs1 : Cond.selects RX3 yX3_isFull yX3_isFull ∈ AL := List.mem_filter.mpr ⟨List.mem_of_getElem? (i := 1) (by decide +kernel), by decide +kernel⟩
theorem qs2 : Cond.selects RX3 yX3_append yX3_append ∈ AL := List.mem_filter.mpr ⟨List.mem_of_getElem? (i := 2) (by decide +kernel), by decide +kernel⟩
theorem qs3 : Cond.selects RX3 yX3_recordsIn yX3_recordsIn ∈ AL := List.mem_filter.mpr ⟨List.mem_of_getElem? (i := 3) (by decide +kernel), by decide +kernel⟩
theorem qs4 : Cond.selects RX3 yX3_sizesIn yX3_sizesIn ∈ AL := List.mem_filter.mpr ⟨List.mem_of_getElem? (i := 4) (by decide +kernel), by decide +kernel⟩
theorem qs5 : Cond.selects RX8 yX8_setGrace yX8_setGrace ∈ AL := List.mem_filter.mpr ⟨List.mem_of_getElem? (i := 5) (by decide +kernel), by decide +kernel⟩
theorem qs6 : Cond.selects RX8 yX8_setKeep yX8_setKeep ∈ AL := List.mem_filter.mpr ⟨List.mem_of_getElem? (i := 6) (by decide +kernel), by decide +kernel⟩
theorem qs7 : Cond.selects RX8 yX8_setAge yX8_setAge ∈ AL := List.mem_filter.mpr ⟨List.mem_of_getElem? (i := 7) (by decide +kernel), by decide +kernel⟩
theorem qs8 : Cond.selects RX3 yX3_compacted yX3_compacted ∈ AL := List.mem_filter.mpr ⟨List.mem_of_getElem? (i := 8) (by decide +kernel), by decide +kernel⟩
theorem qs9 : Cond.selects RX3 yX3_findLast yX3_findLast ∈ AL := List.mem_filter.mpr ⟨List.mem_of_getElem? (i := 9) (by decide +kernel), by decide +kernel⟩
theorem qs10 : Cond.selects RX3 yX3_goesCompacted yX3_goesCompacted ∈ AL := List.mem_filter.mpr ⟨List.mem_of_getElem? (i := 10) (by decide +kernel), by decide +kernel⟩
theorem qs11 : Cond.selects RX3 yX3_joinSegments yX3_joinSegments ∈ AL := List.mem_filter.mpr ⟨List.mem_of_getElem? (i := 11) (by decide +kernel), by decide +kernel⟩
theorem qs12 : Cond.selects RX3 yX3_isClosed yX3_isClosed ∈ AL := List.mem_filter.mpr ⟨List.mem_of_getElem? (i := 12) (by decide +kernel), by decide +kernel⟩
theorem qs13 : Cond.selects RX3 yX3_fitTogether yX3_fitTogether ∈ AL := List.mem_filter.mpr ⟨List.mem_of_getElem? (i := 13) (by decide +kernel), by decide +kernel⟩
theorem qs14 : Cond.selects RX3 yX3_segmentEnd yX3_segmentEnd ∈ AL := List.mem_filter.mpr ⟨List.mem_of_getElem? (i := 14) (by decide +kernel), by decide +kernel⟩
theorem qs15 : Cond.selects RX3 yX3_dropBases yX3_dropBases ∈ AL := List.mem_filter.mpr ⟨List.mem_of_getElem? (i := 15) (by decide +kernel), by decide +kernel⟩
theorem qs16 : Cond.selects RX3 yX3_retained yX3_retained ∈ AL := List.mem_filter.mpr ⟨List.mem_of_getElem? (i := 16) (by decide +kernel), by decide +kernel⟩
theorem qs17 : Cond.selects RX3 yX3_segmentsGoing yX3_segmentsGoing ∈ AL := List.mem_filter.mpr ⟨List.mem_of_getElem? (i := 17) (by decide +kernel), by decide +kernel⟩
theorem qs18 : Cond.selects RX3 yX3_isOutdated yX3_isOutdated ∈ AL := List.mem_filter.mpr ⟨List.mem_of_getElem? (i := 18) (by decide +kernel), by decide +kernel⟩
theorem qs19 : Cond.selects RX7 yX7_isFull yX7_isFull ∈ AL := List.mem_filter.mpr ⟨List.mem_of_getElem? (i := 19) (by decide +kernel), by decide +kernel⟩
theorem qs20 : Cond.selects RX7 yX7_takeSign yX7_takeSign ∈ AL := List.mem_filter.mpr ⟨List.mem_of_getElem? (i := 20) (by decide +kernel), by decide +kernel⟩
theorem qs21 : Cond.selects RX7 yX7_parsed yX7_parsed ∈ AL := List.mem_filter.mpr ⟨List.mem_of_getElem? (i := 21) (by decide +kernel), by decide +kernel⟩
theorem qs22 : Cond.selects RX7 yX7_clauseParsed yX7_clauseParsed ∈ AL := List.mem_filter.mpr ⟨List.mem_of_getElem? (i := 22) (by decide +kernel), by decide +kernel⟩
theorem qs23 : Cond.selects RX7 yX7_isBetween yX7_isBetween ∈ AL := List.mem_filter.mpr ⟨List.mem_of_getElem? (i := 23) (by decide +kernel), by decide +kernel⟩
theorem qs24 : Cond.selects RX7 yX7_skipped yX7_skipped ∈ AL := List.mem_filter.mpr ⟨List.mem_of_getElem? (i := 24) (by decide +kernel), by decide +kernel⟩
theorem qs25 : Cond.selects RX7 yX7_valueParsed yX7_valueParsed ∈ AL := List.mem_filter.mpr ⟨List.mem_of_getElem? (i := 25) (by decide +kernel), by decide +kernel⟩
theorem qs26 : Cond.selects RX7 yX7_digits yX7_digits ∈ AL := List.mem_filter.mpr ⟨List.mem_of_getElem? (i := 26) (by decide +kernel), by decide +kernel⟩
theorem qs27 : Cond.selects RX8 yX8_clausesCome yX8_clausesCome ∈ AL := List.mem_filter.mpr ⟨List.mem_of_getElem? (i := 27) (by decide +kernel), by decide +kernel⟩
theorem qs28 : Cond.selects RX3 yX3_records yX3_records ∈ AL := List.mem_filter.mpr ⟨List.mem_of_getElem? (i := 28) (by decide +kernel), by decide +kernel⟩
theorem qs29 : Cond.selects RX3 yX3_start yX3_start ∈ AL := List.mem_filter.mpr ⟨List.mem_of_getElem? (i := 29) (by decide +kernel), by decide +kernel⟩
theorem qs30 : Cond.selects RX3 yX3_mapSize yX3_mapSize ∈ AL := List.mem_filter.mpr ⟨List.mem_of_getElem? (i := 30) (by decide +kernel), by decide +kernel⟩
theorem qs31 : Cond.selects RX3 yX3_isMapped yX3_isMapped ∈ AL := List.mem_filter.mpr ⟨List.mem_of_getElem? (i := 31) (by decide +kernel), by decide +kernel⟩
theorem qs32 : Cond.selects RX3 yX3_atOrBehind yX3_atOrBehind ∈ AL := List.mem_filter.mpr ⟨List.mem_of_getElem? (i := 32) (by decide +kernel), by decide +kernel⟩
theorem qs33 : Cond.selects RX3 yX3_atOrBefore yX3_atOrBefore ∈ AL := List.mem_filter.mpr ⟨List.mem_of_getElem? (i := 33) (by decide +kernel), by decide +kernel⟩
theorem qs34 : Cond.selects RX3 yX3_has yX3_has ∈ AL := List.mem_filter.mpr ⟨List.mem_of_getElem? (i := 34) (by decide +kernel), by decide +kernel⟩
theorem qs35 : Cond.selects RX3 yX3_segmentOf yX3_segmentOf ∈ AL := List.mem_filter.mpr ⟨List.mem_of_getElem? (i := 35) (by decide +kernel), by decide +kernel⟩
theorem qs36 : Cond.selects RX3 yX3_mapValue yX3_mapValue ∈ AL := List.mem_filter.mpr ⟨List.mem_of_getElem? (i := 36) (by decide +kernel), by decide +kernel⟩
theorem qs37 : Cond.selects RX3 yX3_mapSum yX3_mapSum ∈ AL := List.mem_filter.mpr ⟨List.mem_of_getElem? (i := 37) (by decide +kernel), by decide +kernel⟩
theorem qs38 : Cond.selects RX3 yX3_summand yX3_summand ∈ AL := List.mem_filter.mpr ⟨List.mem_of_getElem? (i := 38) (by decide +kernel), by decide +kernel⟩
theorem qs39 : Cond.selects RX3 yX3_oddSum yX3_oddSum ∈ AL := List.mem_filter.mpr ⟨List.mem_of_getElem? (i := 39) (by decide +kernel), by decide +kernel⟩
theorem qs40 : Cond.selects RX3 yX3_mapLeast yX3_mapLeast ∈ AL := List.mem_filter.mpr ⟨List.mem_of_getElem? (i := 40) (by decide +kernel), by decide +kernel⟩
theorem qs41 : Cond.selects RX3 yX3_rankAt yX3_rankAt ∈ AL := List.mem_filter.mpr ⟨List.mem_of_getElem? (i := 41) (by decide +kernel), by decide +kernel⟩
theorem qs42 : Cond.selects RX3 yX3_mapGreatest yX3_mapGreatest ∈ AL := List.mem_filter.mpr ⟨List.mem_of_getElem? (i := 42) (by decide +kernel), by decide +kernel⟩
theorem qs43 : Cond.selects RX3 yX3_mapMean yX3_mapMean ∈ AL := List.mem_filter.mpr ⟨List.mem_of_getElem? (i := 43) (by decide +kernel), by decide +kernel⟩
theorem qs44 : Cond.selects RX3 yX3_byAge yX3_byAge ∈ AL := List.mem_filter.mpr ⟨List.mem_of_getElem? (i := 44) (by decide +kernel), by decide +kernel⟩
theorem qs45 : Cond.selects RX3 yX3_likeTimesEnd yX3_likeTimesEnd ∈ AL := List.mem_filter.mpr ⟨List.mem_of_getElem? (i := 45) (by decide +kernel), by decide +kernel⟩
theorem qs46 : Cond.selects RX3 yX3_bySize yX3_bySize ∈ AL := List.mem_filter.mpr ⟨List.mem_of_getElem? (i := 46) (by decide +kernel), by decide +kernel⟩
theorem qs47 : Cond.selects RX3 yX3_goneIfCompacted yX3_goneIfCompacted ∈ AL := List.mem_filter.mpr ⟨List.mem_of_getElem? (i := 47) (by decide +kernel), by decide +kernel⟩
theorem qs48 : Cond.selects RX3 yX3_goneIfRetained yX3_goneIfRetained ∈ AL := List.mem_filter.mpr ⟨List.mem_of_getElem? (i := 48) (by decide +kernel), by decide +kernel⟩
theorem qs49 : Cond.selects RX8 yX8_leastKeep yX8_leastKeep ∈ AL := List.mem_filter.mpr ⟨List.mem_of_getElem? (i := 49) (by decide +kernel), by decide +kernel⟩
theorem qs50 : Cond.selects RX3 yX3_leftIfRetained yX3_leftIfRetained ∈ AL := List.mem_filter.mpr ⟨List.mem_of_getElem? (i := 50) (by decide +kernel), by decide +kernel⟩
theorem qs51 : Cond.selects RX1 yX1_changed yX1_changed ∈ AL := List.mem_filter.mpr ⟨List.mem_of_getElem? (i := 51) (by decide +kernel), by decide +kernel⟩
theorem qs52 : Cond.selects RX1 yX1_freeLogsOfAbsent yX1_freeLogsOfAbsent ∈ AL := List.mem_filter.mpr ⟨List.mem_of_getElem? (i := 52) (by decide +kernel), by decide +kernel⟩
theorem qs53 : Cond.selects RX1 yX1_membersIn yX1_membersIn ∈ AL := List.mem_filter.mpr ⟨List.mem_of_getElem? (i := 53) (by decide +kernel), by decide +kernel⟩
theorem qs54 : Cond.selects RX1 yX1_inBits yX1_inBits ∈ AL := List.mem_filter.mpr ⟨List.mem_of_getElem? (i := 54) (by decide +kernel), by decide +kernel⟩
theorem qs55 : Cond.selects RX1 yX1_freeLogsBeyond yX1_freeLogsBeyond ∈ AL := List.mem_filter.mpr ⟨List.mem_of_getElem? (i := 55) (by decide +kernel), by decide +kernel⟩
theorem qs56 : Cond.selects RX1 yX1_logsOf yX1_logsOf ∈ AL := List.mem_filter.mpr ⟨List.mem_of_getElem? (i := 56) (by decide +kernel), by decide +kernel⟩
theorem qs57 : Cond.selects RX1 yX1_logBits yX1_logBits ∈ AL := List.mem_filter.mpr ⟨List.mem_of_getElem? (i := 57) (by decide +kernel), by decide +kernel⟩
theorem qs58 : Cond.selects RX1 yX1_freeAllButLeast yX1_freeAllButLeast ∈ AL := List.mem_filter.mpr ⟨List.mem_of_getElem? (i := 58) (by decide +kernel), by decide +kernel⟩
theorem qs59 : Cond.selects RX1 yX1_giveFreeLogs yX1_giveFreeLogs ∈ AL := List.mem_filter.mpr ⟨List.mem_of_getElem? (i := 59) (by decide +kernel), by decide +kernel⟩
theorem qs60 : Cond.selects RX1 yX1_leastLaden yX1_leastLaden ∈ AL := List.mem_filter.mpr ⟨List.mem_of_getElem? (i := 60) (by decide +kernel), by decide +kernel⟩
theorem qs61 : Cond.selects RX1 yX1_moves yX1_moves ∈ AL := List.mem_filter.mpr ⟨List.mem_of_getElem? (i := 61) (by decide +kernel), by decide +kernel⟩
theorem qs62 : Cond.selects RX1 yX1_polled yX1_polled ∈ AL := List.mem_filter.mpr ⟨List.mem_of_getElem? (i := 62) (by decide +kernel), by decide +kernel⟩
theorem qs63 : Cond.selects RX1 yX1_lag yX1_lag ∈ AL := List.mem_filter.mpr ⟨List.mem_of_getElem? (i := 63) (by decide +kernel), by decide +kernel⟩
theorem qs64 : Cond.selects RX8 yX8_harmlessKeeps yX8_harmlessKeeps ∈ AL := List.mem_filter.mpr ⟨List.mem_of_getElem? (i := 64) (by decide +kernel), by decide +kernel⟩
theorem qs65 : Cond.selects RX4 yX4_isFull yX4_isFull ∈ AL := List.mem_filter.mpr ⟨List.mem_of_getElem? (i := 65) (by decide +kernel), by decide +kernel⟩
theorem qs66 : Cond.selects RX4 yX4_takeRow yX4_takeRow ∈ AL := List.mem_filter.mpr ⟨List.mem_of_getElem? (i := 66) (by decide +kernel), by decide +kernel⟩
theorem qs67 : Cond.selects RX5 yX5_copyFrom yX5_copyFrom ∈ AL := List.mem_filter.mpr ⟨List.mem_of_getElem? (i := 67) (by decide +kernel), by decide +kernel⟩
theorem qs68 : Cond.selects RX3 yX3_copyFrom yX3_copyFrom ∈ AL := List.mem_filter.mpr ⟨List.mem_of_getElem? (i := 68) (by decide +kernel), by decide +kernel⟩
theorem qs69 : Cond.selects RX1 yX1_copyFrom yX1_copyFrom ∈ AL := List.mem_filter.mpr ⟨List.mem_of_getElem? (i := 69) (by decide +kernel), by decide +kernel⟩
theorem qs70 : Cond.selects RX4 yX4_copyFrom yX4_copyFrom ∈ AL := List.mem_filter.mpr ⟨List.mem_of_getElem? (i := 70) (by decide +kernel), by decide +kernel⟩
theorem qs71 : Cond.selects RX5 yX5_followPlan yX5_followPlan ∈ AL := List.mem_filter.mpr ⟨List.mem_of_getElem? (i := 71) (by decide +kernel), by decide +kernel⟩
theorem qs72 : Cond.selects RX5 yX5_follow yX5_follow ∈ AL := List.mem_filter.mpr ⟨List.mem_of_getElem? (i := 72) (by decide +kernel), by decide +kernel⟩
theorem qs73 : Cond.selects RX5 yX5_records yX5_records ∈ AL := List.mem_filter.mpr ⟨List.mem_of_getElem? (i := 73) (by decide +kernel), by decide +kernel⟩
theorem qs74 : Cond.selects RX5 yX5_firstOtherwise yX5_firstOtherwise ∈ AL := List.mem_filter.mpr ⟨List.mem_of_getElem? (i := 74) (by decide +kernel), by decide +kernel⟩
theorem qs75 : Cond.selects RX2 yX2_filled yX2_filled ∈ AL := List.mem_filter.mpr ⟨List.mem_of_getElem? (i := 75) (by decide +kernel), by decide +kernel⟩
theorem qs76 : Cond.selects RX2 yX2_takeRecord yX2_takeRecord ∈ AL := List.mem_filter.mpr ⟨List.mem_of_getElem? (i := 76) (by decide +kernel), by decide +kernel⟩
theorem qs77 : Cond.selects RX2 yX2_about yX2_about ∈ AL := List.mem_filter.mpr ⟨List.mem_of_getElem? (i := 77) (by decide +kernel), by decide +kernel⟩
theorem qs78 : Cond.selects RX6 yX6_isNothing yX6_isNothing ∈ AL := List.mem_filter.mpr ⟨List.mem_of_getElem? (i := 78) (by decide +kernel), by decide +kernel⟩
theorem qs79 : Cond.selects RX6 yX6_judged yX6_judged ∈ AL := List.mem_filter.mpr ⟨List.mem_of_getElem? (i := 79) (by decide +kernel), by decide +kernel⟩
theorem qs80 : Cond.selects RX6 yX6_empty yX6_empty ∈ AL := List.mem_filter.mpr ⟨List.mem_of_getElem? (i := 80) (by decide +kernel), by decide +kernel⟩
theorem qs81 : Cond.selects RX6 yX6_become yX6_become ∈ AL := List.mem_filter.mpr ⟨List.mem_of_getElem? (i := 81) (by decide +kernel), by decide +kernel⟩
theorem qs82 : Cond.selects RX6 yX6_hasPlace yX6_hasPlace ∈ AL := List.mem_filter.mpr ⟨List.mem_of_getElem? (i := 82) (by decide +kernel), by decide +kernel⟩
theorem qs83 : Cond.selects RX6 yX6_asItem yX6_asItem ∈ AL := List.mem_filter.mpr ⟨List.mem_of_getElem? (i := 83) (by decide +kernel), by decide +kernel⟩
theorem qs84 : Cond.selects RX6 yX6_hasPlaces yX6_hasPlaces ∈ AL := List.mem_filter.mpr ⟨List.mem_of_getElem? (i := 84) (by decide +kernel), by decide +kernel⟩
theorem qs85 : Cond.selects RX9 yX9_sets yX9_sets ∈ AL := List.mem_filter.mpr ⟨List.mem_of_getElem? (i := 85) (by decide +kernel), by decide +kernel⟩
theorem qs86 : Cond.selects RX9 yX9_noRecord yX9_noRecord ∈ AL := List.mem_filter.mpr ⟨List.mem_of_getElem? (i := 86) (by decide +kernel), by decide +kernel⟩
theorem qs87 : Cond.selects RX9 yX9_at yX9_at ∈ AL := List.mem_filter.mpr ⟨List.mem_of_getElem? (i := 87) (by decide +kernel), by decide +kernel⟩
theorem qs88 : Cond.selects RX9 yX9_comes yX9_comes ∈ AL := List.mem_filter.mpr ⟨List.mem_of_getElem? (i := 88) (by decide +kernel), by decide +kernel⟩
theorem qs89 : Cond.selects RX9 yX9_manyIn yX9_manyIn ∈ AL := List.mem_filter.mpr ⟨List.mem_of_getElem? (i := 89) (by decide +kernel), by decide +kernel⟩
theorem qs90 : Cond.selects RX9 yX9_base yX9_base ∈ AL := List.mem_filter.mpr ⟨List.mem_of_getElem? (i := 90) (by decide +kernel), by decide +kernel⟩
theorem qs91 : Cond.selects RX9 yX9_endOf yX9_endOf ∈ AL := List.mem_filter.mpr ⟨List.mem_of_getElem? (i := 91) (by decide +kernel), by decide +kernel⟩
theorem qs92 : Cond.selects RX9 yX9_weightIn yX9_weightIn ∈ AL := List.mem_filter.mpr ⟨List.mem_of_getElem? (i := 92) (by decide +kernel), by decide +kernel⟩
theorem qs93 : Cond.selects RX9 yX9_weighs yX9_weighs ∈ AL := List.mem_filter.mpr ⟨List.mem_of_getElem? (i := 93) (by decide +kernel), by decide +kernel⟩
theorem qs94 : Cond.selects RX9 yX9_compacted yX9_compacted ∈ AL := List.mem_filter.mpr ⟨List.mem_of_getElem? (i := 94) (by decide +kernel), by decide +kernel⟩
theorem qs95 : Cond.selects RX9 yX9_hasLater yX9_hasLater ∈ AL := List.mem_filter.mpr ⟨List.mem_of_getElem? (i := 95) (by decide +kernel), by decide +kernel⟩
theorem qs96 : Cond.selects RX9 yX9_partGoes yX9_partGoes ∈ AL := List.mem_filter.mpr ⟨List.mem_of_getElem? (i := 96) (by decide +kernel), by decide +kernel⟩
theorem qs97 : Cond.selects RX9 yX9_retained yX9_retained ∈ AL := List.mem_filter.mpr ⟨List.mem_of_getElem? (i := 97) (by decide +kernel), by decide +kernel⟩
theorem qs98 : Cond.selects RX9 yX9_isOld yX9_isOld ∈ AL := List.mem_filter.mpr ⟨List.mem_of_getElem? (i := 98) (by decide +kernel), by decide +kernel⟩
theorem qs99 : Cond.selects RX9 yX9_clause yX9_clause ∈ AL := List.mem_filter.mpr ⟨List.mem_of_getElem? (i := 99) (by decide +kernel), by decide +kernel⟩
theorem qs100 : Cond.selects RX9 yX9_must yX9_must ∈ AL := List.mem_filter.mpr ⟨List.mem_of_getElem? (i := 100) (by decide +kernel), by decide +kernel⟩
theorem qs101 : Cond.selects RX9 yX9_sees yX9_sees ∈ AL := List.mem_filter.mpr ⟨List.mem_of_getElem? (i := 101) (by decide +kernel), by decide +kernel⟩
theorem qs102 : Cond.selects RX9 yX9_number yX9_number ∈ AL := List.mem_filter.mpr ⟨List.mem_of_getElem? (i := 102) (by decide +kernel), by decide +kernel⟩
theorem qs103 : Cond.selects RX9 yX9_all yX9_all ∈ AL := List.mem_filter.mpr ⟨List.mem_of_getElem? (i := 103) (by decide +kernel), by decide +kernel⟩
theorem qs104 : Cond.selects RX9 yX9_holes yX9_holes ∈ AL := List.mem_filter.mpr ⟨List.mem_of_getElem? (i := 104) (by decide +kernel), by decide +kernel⟩
theorem qs105 : Cond.selects RX9 yX9_replays yX9_replays ∈ AL := List.mem_filter.mpr ⟨List.mem_of_getElem? (i := 105) (by decide +kernel), by decide +kernel⟩
theorem qs106 : Cond.selects RX9 yX9_mapped yX9_mapped ∈ AL := List.mem_filter.mpr ⟨List.mem_of_getElem? (i := 106) (by decide +kernel), by decide +kernel⟩
theorem qs107 : Cond.selects RX9 yX9_isMapped yX9_isMapped ∈ AL := List.mem_filter.mpr ⟨List.mem_of_getElem? (i := 107) (by decide +kernel), by decide +kernel⟩
theorem qs108 : Cond.selects RX9 yX9_from yX9_from ∈ AL := List.mem_filter.mpr ⟨List.mem_of_getElem? (i := 108) (by decide +kernel), by decide +kernel⟩
theorem qs109 : Cond.selects RX9 yX9_isThere yX9_isThere ∈ AL := List.mem_filter.mpr ⟨List.mem_of_getElem? (i := 109) (by decide +kernel), by decide +kernel⟩
theorem qs110 : Cond.selects RX9 yX9_segmentOf yX9_segmentOf ∈ AL := List.mem_filter.mpr ⟨List.mem_of_getElem? (i := 110) (by decide +kernel), by decide +kernel⟩
theorem qs111 : Cond.selects RX9 yX9_valueIn yX9_valueIn ∈ AL := List.mem_filter.mpr ⟨List.mem_of_getElem? (i := 111) (by decide +kernel), by decide +kernel⟩
theorem qs112 : Cond.selects RX9 yX9_valueAt yX9_valueAt ∈ AL := List.mem_filter.mpr ⟨List.mem_of_getElem? (i := 112) (by decide +kernel), by decide +kernel⟩
theorem qs113 : Cond.selects RX9 yX9_isAhead yX9_isAhead ∈ AL := List.mem_filter.mpr ⟨List.mem_of_getElem? (i := 113) (by decide +kernel), by decide +kernel⟩
theorem qs114 : Cond.selects RX9 yX9_isIn yX9_isIn ∈ AL := List.mem_filter.mpr ⟨List.mem_of_getElem? (i := 114) (by decide +kernel), by decide +kernel⟩
theorem qs115 : Cond.selects RX9 yX9_shares yX9_shares ∈ AL := List.mem_filter.mpr ⟨List.mem_of_getElem? (i := 115) (by decide +kernel), by decide +kernel⟩
theorem qs116 : Cond.selects RX9 yX9_membersIn yX9_membersIn ∈ AL := List.mem_filter.mpr ⟨List.mem_of_getElem? (i := 116) (by decide +kernel), by decide +kernel⟩
theorem qs117 : Cond.selects RX9 yX9_logsOf yX9_logsOf ∈ AL := List.mem_filter.mpr ⟨List.mem_of_getElem? (i := 117) (by decide +kernel), by decide +kernel⟩
theorem qs118 : Cond.selects RX9 yX9_lets yX9_lets ∈ AL := List.mem_filter.mpr ⟨List.mem_of_getElem? (i := 118) (by decide +kernel), by decide +kernel⟩
theorem qs119 : Cond.selects RX9 yX9_least yX9_least ∈ AL := List.mem_filter.mpr ⟨List.mem_of_getElem? (i := 119) (by decide +kernel), by decide +kernel⟩
theorem qs120 : Cond.selects RX9 yX9_polled yX9_polled ∈ AL := List.mem_filter.mpr ⟨List.mem_of_getElem? (i := 120) (by decide +kernel), by decide +kernel⟩
theorem qs121 : Cond.selects RX9 yX9_lag yX9_lag ∈ AL := List.mem_filter.mpr ⟨List.mem_of_getElem? (i := 121) (by decide +kernel), by decide +kernel⟩
theorem qs122 : Cond.selects RX9 yX9_does yX9_does ∈ AL := List.mem_filter.mpr ⟨List.mem_of_getElem? (i := 122) (by decide +kernel), by decide +kernel⟩
theorem qs123 : Cond.selects RX9 yX9_allLogs yX9_allLogs ∈ AL := List.mem_filter.mpr ⟨List.mem_of_getElem? (i := 123) (by decide +kernel), by decide +kernel⟩
theorem q0 : Cond.initialized RL ∈ AL := List.mem_filter.mpr ⟨List.mem_of_getElem? (i := 124) (by decide +kernel), by decide +kernel⟩
theorem q1 : Cond.initialized RX8 ∈ AL := List.mem_filter.mpr ⟨List.mem_of_getElem? (i := 125) (by decide +kernel), by decide +kernel⟩
theorem q2 : Cond.initialized RX5 ∈ AL := List.mem_filter.mpr ⟨List.mem_of_getElem? (i := 126) (by decide +kernel), by decide +kernel⟩
theorem q3 : Cond.initialized RX3 ∈ AL := List.mem_filter.mpr ⟨List.mem_of_getElem? (i := 127) (by decide +kernel), by decide +kernel⟩
theorem q4 : Cond.initialized RX1 ∈ AL := List.mem_filter.mpr ⟨List.mem_of_getElem? (i := 128) (by decide +kernel), by decide +kernel⟩
theorem q5 : Cond.initialized RX4 ∈ AL := List.mem_filter.mpr ⟨List.mem_of_getElem? (i := 129) (by decide +kernel), by decide +kernel⟩
theorem q6 : Cond.initialized RJ9 ∈ AL := List.mem_filter.mpr ⟨List.mem_of_getElem? (i := 130) (by decide +kernel), by decide +kernel⟩
theorem q7 : Cond.initialized RX7 ∈ AL := List.mem_filter.mpr ⟨List.mem_of_getElem? (i := 131) (by decide +kernel), by decide +kernel⟩
theorem q8 : Cond.initialized RX2 ∈ AL := List.mem_filter.mpr ⟨List.mem_of_getElem? (i := 132) (by decide +kernel), by decide +kernel⟩
theorem q9 : Cond.initialized RX6 ∈ AL := List.mem_filter.mpr ⟨List.mem_of_getElem? (i := 133) (by decide +kernel), by decide +kernel⟩
theorem q10 : Cond.initialized RX9 ∈ AL := List.mem_filter.mpr ⟨List.mem_of_getElem? (i := 134) (by decide +kernel), by decide +kernel⟩
theorem q11 : Cond.initialized RX0 ∈ AL := List.mem_filter.mpr ⟨List.mem_of_getElem? (i := 135) (by decide +kernel), by decide +kernel⟩
theorem q12 : Cond.initialized RJxf58ca ∈ AL := List.mem_filter.mpr ⟨List.mem_of_getElem? (i := 136) (by decide +kernel), by decide +kernel⟩
theorem q13 : Cond.initialized RJxe99ae ∈ AL := List.mem_filter.mpr ⟨List.mem_of_getElem? (i := 137) (by decide +kernel), by decide +kernel⟩
theorem q14 : Cond.initialized RJ10 ∈ AL := List.mem_filter.mpr ⟨List.mem_of_getElem? (i := 138) (by decide +kernel), by decide +kernel⟩
theorem q15 : Cond.initialized RJ6 ∈ AL := List.mem_filter.mpr ⟨List.mem_of_getElem? (i := 139) (by decide +kernel), by decide +kernel⟩
theorem q16 : Cond.classLink RL 7 RX8 ∈ AL := List.mem_filter.mpr ⟨List.mem_of_getElem? (i := 140) (by decide +kernel), by decide +kernel⟩
theorem q17 : Cond.instantiable RX8 6 ∈ AL := List.mem_filter.mpr ⟨List.mem_of_getElem? (i := 141) (by decide +kernel), by decide +kernel⟩
theorem q18 : Cond.methodLink RL 9 yX8_init ∈ AL := List.mem_filter.mpr ⟨List.mem_of_getElem? (i := 142) (by decide +kernel), by decide +kernel⟩
theorem q19 : Cond.instanceMethod yX8_init ∈ AL := List.mem_filter.mpr ⟨List.mem_of_getElem? (i := 143) (by decide +kernel), by decide +kernel⟩
theorem q20 : Cond.code yX8_init cX8_init 2 none ∈ AL := List.mem_filter.mpr ⟨List.mem_of_getElem? (i := 144) (by decide +kernel), by decide +kernel⟩
theorem q21 : Cond.methodLink RX8 3 objectInit ∈ AL := List.mem_filter.mpr ⟨List.mem_of_getElem? (i := 145) (by decide +kernel), by decide +kernel⟩
theorem q22 : Cond.instanceMethod objectInit ∈ AL := List.mem_filter.mpr ⟨List.mem_of_getElem? (i := 146) (by decide +kernel), by decide +kernel⟩
theorem q23 : Cond.code objectInit object_method_1_code 1 none ∈ AL := List.mem_filter.mpr ⟨List.mem_of_getElem? (i := 147) (by decide +kernel), by decide +kernel⟩
theorem q24 : Cond.classLink RX8 9 RX5 ∈ AL := List.mem_filter.mpr ⟨List.mem_of_getElem? (i := 148) (by decide +kernel), by decide +kernel⟩
theorem q25 : Cond.instantiable RX5 8 ∈ AL := List.mem_filter.mpr ⟨List.mem_of_getElem? (i := 149) (by decide +kernel), by decide +kernel⟩
theorem q26 : Cond.methodLinkNest RX8 11 yX5_init RX8 ∈ NL := List.mem_filter.mpr ⟨List.mem_of_getElem? (i := 150) (by decide +kernel), by decide +kernel⟩
theorem q27 : Cond.instanceMethod yX5_init ∈ AL := List.mem_filter.mpr ⟨List.mem_of_getElem? (i := 151) (by decide +kernel), by decide +kernel⟩
theorem q28 : Cond.code yX5_init cX5_init 2 none ∈ AL := List.mem_filter.mpr ⟨List.mem_of_getElem? (i := 152) (by decide +kernel), by decide +kernel⟩
theorem q29 : Cond.methodLink RX5 3 objectInit ∈ AL := List.mem_filter.mpr ⟨List.mem_of_getElem? (i := 153) (by decide +kernel), by decide +kernel⟩
theorem q30 : Cond.classLink RX5 9 RX3 ∈ AL := List.mem_filter.mpr ⟨List.mem_of_getElem? (i := 154) (by decide +kernel), by decide +kernel⟩
theorem q31 : Cond.arrayOver (FieldType.object "KeyedLogs$Log") ∈ NL := List.mem_filter.mpr ⟨List.mem_of_getElem? (i := 155) (by decide +kernel), by decide +kernel⟩
theorem q32 : Cond.instantiable RX3 9 ∈ AL := List.mem_filter.mpr ⟨List.mem_of_getElem? (i := 156) (by decide +kernel), by decide +kernel⟩
theorem q33 : Cond.methodLinkNest RX5 17 yX3_init RX8 ∈ NL := List.mem_filter.mpr ⟨List.mem_of_getElem? (i := 157) (by decide +kernel), by decide +kernel⟩
theorem q34 : Cond.instanceMethod yX3_init ∈ AL := List.mem_filter.mpr ⟨List.mem_of_getElem? (i := 158) (by decide +kernel), by decide +kernel⟩
theorem q35 : Cond.code yX3_init cX3_init 1 none ∈ AL := List.mem_filter.mpr ⟨List.mem_of_getElem? (i := 159) (by decide +kernel), by decide +kernel⟩
theorem q36 : Cond.methodLink RX3 3 objectInit ∈ AL := List.mem_filter.mpr ⟨List.mem_of_getElem? (i := 160) (by decide +kernel), by decide +kernel⟩
theorem q37 : Cond.fieldLink RX3 9 RX3 "forms" "[I" ∈ AL := List.mem_filter.mpr ⟨List.mem_of_getElem? (i := 161) (by decide +kernel), by decide +kernel⟩
theorem q38 : Cond.fieldLinkNest RX2 37 RX3 "forms" "[I" RX8 ∈ NL := List.mem_filter.mpr ⟨List.mem_of_getElem? (i := 162) (by decide +kernel), by decide +kernel⟩
theorem q39 : Cond.fieldLinkNest RX8 160 RX3 "forms" "[I" RX8 ∈ NL := List.mem_filter.mpr ⟨List.mem_of_getElem? (i := 163) (by decide +kernel), by decide +kernel⟩
theorem q40 : Cond.fieldLink RX3 15 RX3 "keys" "[I" ∈ AL := List.mem_filter.mpr ⟨List.mem_of_getElem? (i := 164) (by decide +kernel), by decide +kernel⟩
theorem q41 : Cond.fieldLinkNest RX2 42 RX3 "keys" "[I" RX8 ∈ NL := List.mem_filter.mpr ⟨List.mem_of_getElem? (i := 165) (by decide +kernel), by decide +kernel⟩
theorem q42 : Cond.fieldLinkNest RX8 151 RX3 "keys" "[I" RX8 ∈ NL := List.mem_filter.mpr ⟨List.mem_of_getElem? (i := 166) (by decide +kernel), by decide +kernel⟩
theorem q43 : Cond.fieldLink RX3 18 RX3 "times" "[I" ∈ AL := List.mem_filter.mpr ⟨List.mem_of_getElem? (i := 167) (by decide +kernel), by decide +kernel⟩
theorem q44 : Cond.fieldLinkNest RX8 154 RX3 "times" "[I" RX8 ∈ NL := List.mem_filter.mpr ⟨List.mem_of_getElem? (i := 168) (by decide +kernel), by decide +kernel⟩
theorem q45 : Cond.fieldLink RX3 21 RX3 "sizes" "[I" ∈ AL := List.mem_filter.mpr ⟨List.mem_of_getElem? (i := 169) (by decide +kernel), by decide +kernel⟩
theorem q46 : Cond.fieldLinkNest RX8 157 RX3 "sizes" "[I" RX8 ∈ NL := List.mem_filter.mpr ⟨List.mem_of_getElem? (i := 170) (by decide +kernel), by decide +kernel⟩
theorem q47 : Cond.fieldLink RX3 24 RX3 "bits" "[I" ∈ AL := List.mem_filter.mpr ⟨List.mem_of_getElem? (i := 171) (by decide +kernel), by decide +kernel⟩
theorem q48 : Cond.fieldLinkNest RX2 43 RX3 "bits" "[I" RX8 ∈ NL := List.mem_filter.mpr ⟨List.mem_of_getElem? (i := 172) (by decide +kernel), by decide +kernel⟩
theorem q49 : Cond.fieldLinkNest RX8 163 RX3 "bits" "[I" RX8 ∈ NL := List.mem_filter.mpr ⟨List.mem_of_getElem? (i := 173) (by decide +kernel), by decide +kernel⟩
theorem q50 : Cond.fieldLink RX3 27 RX3 "bases" "[I" ∈ AL := List.mem_filter.mpr ⟨List.mem_of_getElem? (i := 174) (by decide +kernel), by decide +kernel⟩
theorem q51 : Cond.fieldLinkNest RX8 169 RX3 "bases" "[I" RX8 ∈ NL := List.mem_filter.mpr ⟨List.mem_of_getElem? (i := 175) (by decide +kernel), by decide +kernel⟩
theorem q52 : Cond.fieldLink RX3 30 RX3 "last" "[I" ∈ AL := List.mem_filter.mpr ⟨List.mem_of_getElem? (i := 176) (by decide +kernel), by decide +kernel⟩
theorem q53 : Cond.fieldLinkNest RX2 28 RX3 "end" "I" RX8 ∈ NL := List.mem_filter.mpr ⟨List.mem_of_getElem? (i := 177) (by decide +kernel), by decide +kernel⟩
theorem q54 : Cond.fieldLink RX3 43 RX3 "end" "I" ∈ AL := List.mem_filter.mpr ⟨List.mem_of_getElem? (i := 178) (by decide +kernel), by decide +kernel⟩
theorem q55 : Cond.fieldLinkNest RX1 48 RX3 "end" "I" RX8 ∈ NL := List.mem_filter.mpr ⟨List.mem_of_getElem? (i := 179) (by decide +kernel), by decide +kernel⟩
theorem q56 : Cond.fieldLinkNest RX6 28 RX3 "end" "I" RX8 ∈ NL := List.mem_filter.mpr ⟨List.mem_of_getElem? (i := 180) (by decide +kernel), by decide +kernel⟩
theorem q57 : Cond.fieldLinkNest RX8 115 RX3 "end" "I" RX8 ∈ NL := List.mem_filter.mpr ⟨List.mem_of_getElem? (i := 181) (by decide +kernel), by decide +kernel⟩
theorem q58 : Cond.fieldLink RX3 33 RX3 "segments" "I" ∈ AL := List.mem_filter.mpr ⟨List.mem_of_getElem? (i := 182) (by decide +kernel), by decide +kernel⟩
theorem q59 : Cond.fieldLinkNest RX8 118 RX3 "segments" "I" RX8 ∈ NL := List.mem_filter.mpr ⟨List.mem_of_getElem? (i := 183) (by decide +kernel), by decide +kernel⟩
theorem q60 : Cond.laysFinal RX3 RX3 "forms" "[I" ∈ AL := List.mem_filter.mpr ⟨List.mem_of_getElem? (i := 184) (by decide +kernel), by decide +kernel⟩
theorem q62 : Cond.laysFinal RX3 RX3 "keys" "[I" ∈ AL := List.mem_filter.mpr ⟨List.mem_of_getElem? (i := 186) (by decide +kernel), by decide +kernel⟩
theorem q64 : Cond.laysFinal RX3 RX3 "times" "[I" ∈ AL := List.mem_filter.mpr ⟨List.mem_of_getElem? (i := 188) (by decide +kernel), by decide +kernel⟩
theorem q66 : Cond.laysFinal RX3 RX3 "sizes" "[I" ∈ AL := List.mem_filter.mpr ⟨List.mem_of_getElem? (i := 190) (by decide +kernel), by decide +kernel⟩
theorem q68 : Cond.laysFinal RX3 RX3 "bits" "[I" ∈ AL := List.mem_filter.mpr ⟨List.mem_of_getElem? (i := 192) (by decide +kernel), by decide +kernel⟩
theorem q70 : Cond.laysFinal RX3 RX3 "bases" "[I" ∈ AL := List.mem_filter.mpr ⟨List.mem_of_getElem? (i := 194) (by decide +kernel), by decide +kernel⟩
theorem q72 : Cond.laysFinal RX3 RX3 "last" "[I" ∈ AL := List.mem_filter.mpr ⟨List.mem_of_getElem? (i := 196) (by decide +kernel), by decide +kernel⟩
theorem q74 : Cond.lays RX3 RX3 "end" "I" ∈ AL := List.mem_filter.mpr ⟨List.mem_of_getElem? (i := 198) (by decide +kernel), by decide +kernel⟩
theorem q76 : Cond.lays RX3 RX3 "segments" "I" ∈ AL := List.mem_filter.mpr ⟨List.mem_of_getElem? (i := 200) (by decide +kernel), by decide +kernel⟩
theorem q78 : Cond.superclass RX3 "java/lang/Object" ∈ AL := List.mem_filter.mpr ⟨List.mem_of_getElem? (i := 202) (by decide +kernel), by decide +kernel⟩
theorem q79 : Cond.arrayClass FieldType.int ∈ AL := List.mem_filter.mpr ⟨List.mem_of_getElem? (i := 203) (by decide +kernel), by decide +kernel⟩
theorem q80 : Cond.classLink RX5 18 RX1 ∈ AL := List.mem_filter.mpr ⟨List.mem_of_getElem? (i := 204) (by decide +kernel), by decide +kernel⟩
theorem q81 : Cond.instantiable RX1 5 ∈ AL := List.mem_filter.mpr ⟨List.mem_of_getElem? (i := 205) (by decide +kernel), by decide +kernel⟩
theorem q82 : Cond.methodLinkNest RX5 20 yX1_init RX8 ∈ NL := List.mem_filter.mpr ⟨List.mem_of_getElem? (i := 206) (by decide +kernel), by decide +kernel⟩
theorem q83 : Cond.instanceMethod yX1_init ∈ AL := List.mem_filter.mpr ⟨List.mem_of_getElem? (i := 207) (by decide +kernel), by decide +kernel⟩
theorem q84 : Cond.code yX1_init cX1_init 2 none ∈ AL := List.mem_filter.mpr ⟨List.mem_of_getElem? (i := 208) (by decide +kernel), by decide +kernel⟩
theorem q85 : Cond.methodLink RX1 3 objectInit ∈ AL := List.mem_filter.mpr ⟨List.mem_of_getElem? (i := 209) (by decide +kernel), by decide +kernel⟩
theorem q86 : Cond.fieldLink RX1 9 RX1 "in" "[Z" ∈ AL := List.mem_filter.mpr ⟨List.mem_of_getElem? (i := 210) (by decide +kernel), by decide +kernel⟩
theorem q87 : Cond.fieldLinkNest RX8 217 RX1 "in" "[Z" RX8 ∈ NL := List.mem_filter.mpr ⟨List.mem_of_getElem? (i := 211) (by decide +kernel), by decide +kernel⟩
theorem q88 : Cond.fieldLink RX1 15 RX1 "owner" "[I" ∈ AL := List.mem_filter.mpr ⟨List.mem_of_getElem? (i := 212) (by decide +kernel), by decide +kernel⟩
theorem q89 : Cond.fieldLinkNest RX8 131 RX1 "owner" "[I" RX8 ∈ NL := List.mem_filter.mpr ⟨List.mem_of_getElem? (i := 213) (by decide +kernel), by decide +kernel⟩
theorem q90 : Cond.fieldLink RX1 19 RX1 "ownerAhead" "[I" ∈ AL := List.mem_filter.mpr ⟨List.mem_of_getElem? (i := 214) (by decide +kernel), by decide +kernel⟩
theorem q91 : Cond.fieldLink RX1 22 RX1 "done" "[I" ∈ AL := List.mem_filter.mpr ⟨List.mem_of_getElem? (i := 215) (by decide +kernel), by decide +kernel⟩
theorem q92 : Cond.fieldLinkNest RX8 137 RX1 "done" "[I" RX8 ∈ NL := List.mem_filter.mpr ⟨List.mem_of_getElem? (i := 216) (by decide +kernel), by decide +kernel⟩
theorem q93 : Cond.fieldLink RX1 31 RX1 "reads" "I" ∈ AL := List.mem_filter.mpr ⟨List.mem_of_getElem? (i := 217) (by decide +kernel), by decide +kernel⟩
theorem q94 : Cond.fieldLinkNest RX8 235 RX1 "reads" "I" RX8 ∈ NL := List.mem_filter.mpr ⟨List.mem_of_getElem? (i := 218) (by decide +kernel), by decide +kernel⟩
theorem q95 : Cond.laysFinal RX1 RX1 "in" "[Z" ∈ AL := List.mem_filter.mpr ⟨List.mem_of_getElem? (i := 219) (by decide +kernel), by decide +kernel⟩
theorem q97 : Cond.laysFinal RX1 RX1 "owner" "[I" ∈ AL := List.mem_filter.mpr ⟨List.mem_of_getElem? (i := 221) (by decide +kernel), by decide +kernel⟩
theorem q99 : Cond.laysFinal RX1 RX1 "ownerAhead" "[I" ∈ AL := List.mem_filter.mpr ⟨List.mem_of_getElem? (i := 223) (by decide +kernel), by decide +kernel⟩
theorem q101 : Cond.laysFinal RX1 RX1 "done" "[I" ∈ AL := List.mem_filter.mpr ⟨List.mem_of_getElem? (i := 225) (by decide +kernel), by decide +kernel⟩
theorem q103 : Cond.lays RX1 RX1 "reads" "I" ∈ AL := List.mem_filter.mpr ⟨List.mem_of_getElem? (i := 227) (by decide +kernel), by decide +kernel⟩
theorem q105 : Cond.superclass RX1 "java/lang/Object" ∈ AL := List.mem_filter.mpr ⟨List.mem_of_getElem? (i := 229) (by decide +kernel), by decide +kernel⟩
theorem q106 : Cond.arrayClass FieldType.boolean ∈ AL := List.mem_filter.mpr ⟨List.mem_of_getElem? (i := 230) (by decide +kernel), by decide +kernel⟩
theorem q107 : Cond.classLink RX5 25 RX4 ∈ AL := List.mem_filter.mpr ⟨List.mem_of_getElem? (i := 231) (by decide +kernel), by decide +kernel⟩
theorem q108 : Cond.instantiable RX4 3 ∈ AL := List.mem_filter.mpr ⟨List.mem_of_getElem? (i := 232) (by decide +kernel), by decide +kernel⟩
theorem q109 : Cond.methodLinkNest RX5 27 yX4_init RX8 ∈ NL := List.mem_filter.mpr ⟨List.mem_of_getElem? (i := 233) (by decide +kernel), by decide +kernel⟩
theorem q110 : Cond.instanceMethod yX4_init ∈ AL := List.mem_filter.mpr ⟨List.mem_of_getElem? (i := 234) (by decide +kernel), by decide +kernel⟩
theorem q111 : Cond.code yX4_init cX4_init 2 none ∈ AL := List.mem_filter.mpr ⟨List.mem_of_getElem? (i := 235) (by decide +kernel), by decide +kernel⟩
theorem q112 : Cond.methodLink RX4 1 objectInit ∈ AL := List.mem_filter.mpr ⟨List.mem_of_getElem? (i := 236) (by decide +kernel), by decide +kernel⟩
theorem q113 : Cond.methodLink RX4 7 yJ9_max_7cf53 ∈ AL := List.mem_filter.mpr ⟨List.mem_of_getElem? (i := 237) (by decide +kernel), by decide +kernel⟩
theorem q114 : Cond.static yJ9_max_7cf53 ∈ AL := List.mem_filter.mpr ⟨List.mem_of_getElem? (i := 238) (by decide +kernel), by decide +kernel⟩
theorem q115 : Cond.code yJ9_max_7cf53 cJ9_max_7cf53 2 (some FieldType.int) ∈ AL := List.mem_filter.mpr ⟨List.mem_of_getElem? (i := 239) (by decide +kernel), by decide +kernel⟩
theorem q116 : Cond.fieldLink RX4 13 RX4 "first" "[I" ∈ AL := List.mem_filter.mpr ⟨List.mem_of_getElem? (i := 240) (by decide +kernel), by decide +kernel⟩
theorem q117 : Cond.fieldLinkNest RX5 67 RX4 "first" "[I" RX8 ∈ NL := List.mem_filter.mpr ⟨List.mem_of_getElem? (i := 241) (by decide +kernel), by decide +kernel⟩
theorem q118 : Cond.fieldLink RX4 19 RX4 "second" "[I" ∈ AL := List.mem_filter.mpr ⟨List.mem_of_getElem? (i := 242) (by decide +kernel), by decide +kernel⟩
theorem q119 : Cond.fieldLinkNest RX5 71 RX4 "second" "[I" RX8 ∈ NL := List.mem_filter.mpr ⟨List.mem_of_getElem? (i := 243) (by decide +kernel), by decide +kernel⟩
theorem q120 : Cond.fieldLink RX4 22 RX4 "size" "I" ∈ AL := List.mem_filter.mpr ⟨List.mem_of_getElem? (i := 244) (by decide +kernel), by decide +kernel⟩
theorem q121 : Cond.fieldLinkNest RX5 64 RX4 "size" "I" RX8 ∈ NL := List.mem_filter.mpr ⟨List.mem_of_getElem? (i := 245) (by decide +kernel), by decide +kernel⟩
theorem q122 : Cond.fieldLinkNest RX8 256 RX4 "size" "I" RX8 ∈ NL := List.mem_filter.mpr ⟨List.mem_of_getElem? (i := 246) (by decide +kernel), by decide +kernel⟩
theorem q123 : Cond.laysFinal RX4 RX4 "first" "[I" ∈ AL := List.mem_filter.mpr ⟨List.mem_of_getElem? (i := 247) (by decide +kernel), by decide +kernel⟩
theorem q125 : Cond.laysFinal RX4 RX4 "second" "[I" ∈ AL := List.mem_filter.mpr ⟨List.mem_of_getElem? (i := 249) (by decide +kernel), by decide +kernel⟩
theorem q127 : Cond.lays RX4 RX4 "size" "I" ∈ AL := List.mem_filter.mpr ⟨List.mem_of_getElem? (i := 251) (by decide +kernel), by decide +kernel⟩
theorem q129 : Cond.superclass RX4 "java/lang/Object" ∈ AL := List.mem_filter.mpr ⟨List.mem_of_getElem? (i := 253) (by decide +kernel), by decide +kernel⟩
theorem q130 : Cond.fieldLink RX5 11 RX5 "logs" "[LKeyedLogs$Log;" ∈ AL := List.mem_filter.mpr ⟨List.mem_of_getElem? (i := 254) (by decide +kernel), by decide +kernel⟩
theorem q131 : Cond.fieldLinkNest RX8 69 RX5 "logs" "[LKeyedLogs$Log;" RX8 ∈ NL := List.mem_filter.mpr ⟨List.mem_of_getElem? (i := 255) (by decide +kernel), by decide +kernel⟩
theorem q132 : Cond.fieldLink RX5 21 RX5 "group" "LKeyedLogs$Group;" ∈ AL := List.mem_filter.mpr ⟨List.mem_of_getElem? (i := 256) (by decide +kernel), by decide +kernel⟩
theorem q133 : Cond.fieldLinkNest RX8 127 RX5 "group" "LKeyedLogs$Group;" RX8 ∈ NL := List.mem_filter.mpr ⟨List.mem_of_getElem? (i := 257) (by decide +kernel), by decide +kernel⟩
theorem q134 : Cond.fieldLink RX5 30 RX5 "plan" "LKeyedLogs$Rows;" ∈ AL := List.mem_filter.mpr ⟨List.mem_of_getElem? (i := 258) (by decide +kernel), by decide +kernel⟩
theorem q135 : Cond.fieldLinkNest RX8 252 RX5 "plan" "LKeyedLogs$Rows;" RX8 ∈ NL := List.mem_filter.mpr ⟨List.mem_of_getElem? (i := 259) (by decide +kernel), by decide +kernel⟩
theorem q136 : Cond.fieldLink RX5 34 RX5 "book" "LKeyedLogs$Rows;" ∈ AL := List.mem_filter.mpr ⟨List.mem_of_getElem? (i := 260) (by decide +kernel), by decide +kernel⟩
theorem q137 : Cond.fieldLinkNest RX8 276 RX5 "book" "LKeyedLogs$Rows;" RX8 ∈ NL := List.mem_filter.mpr ⟨List.mem_of_getElem? (i := 261) (by decide +kernel), by decide +kernel⟩
theorem q138 : Cond.fieldLink RX5 57 RX5 "time" "I" ∈ AL := List.mem_filter.mpr ⟨List.mem_of_getElem? (i := 262) (by decide +kernel), by decide +kernel⟩
theorem q139 : Cond.fieldLinkNest RX8 51 RX5 "time" "I" RX8 ∈ NL := List.mem_filter.mpr ⟨List.mem_of_getElem? (i := 263) (by decide +kernel), by decide +kernel⟩
theorem q140 : Cond.fieldLink RX5 37 RX5 "grace" "I" ∈ AL := List.mem_filter.mpr ⟨List.mem_of_getElem? (i := 264) (by decide +kernel), by decide +kernel⟩
theorem q141 : Cond.fieldLinkNest RX8 73 RX5 "grace" "I" RX8 ∈ NL := List.mem_filter.mpr ⟨List.mem_of_getElem? (i := 265) (by decide +kernel), by decide +kernel⟩
theorem q142 : Cond.fieldLink RX5 41 RX5 "keep" "I" ∈ AL := List.mem_filter.mpr ⟨List.mem_of_getElem? (i := 266) (by decide +kernel), by decide +kernel⟩
theorem q143 : Cond.fieldLinkNest RX8 79 RX5 "keep" "I" RX8 ∈ NL := List.mem_filter.mpr ⟨List.mem_of_getElem? (i := 267) (by decide +kernel), by decide +kernel⟩
theorem q144 : Cond.fieldLink RX5 44 RX5 "age" "I" ∈ AL := List.mem_filter.mpr ⟨List.mem_of_getElem? (i := 268) (by decide +kernel), by decide +kernel⟩
theorem q145 : Cond.fieldLinkNest RX8 82 RX5 "age" "I" RX8 ∈ NL := List.mem_filter.mpr ⟨List.mem_of_getElem? (i := 269) (by decide +kernel), by decide +kernel⟩
theorem q146 : Cond.laysFinal RX5 RX5 "logs" "[LKeyedLogs$Log;" ∈ AL := List.mem_filter.mpr ⟨List.mem_of_getElem? (i := 270) (by decide +kernel), by decide +kernel⟩
theorem q148 : Cond.laysFinal RX5 RX5 "group" "LKeyedLogs$Group;" ∈ AL := List.mem_filter.mpr ⟨List.mem_of_getElem? (i := 272) (by decide +kernel), by decide +kernel⟩
theorem q150 : Cond.laysFinal RX5 RX5 "plan" "LKeyedLogs$Rows;" ∈ AL := List.mem_filter.mpr ⟨List.mem_of_getElem? (i := 274) (by decide +kernel), by decide +kernel⟩
theorem q152 : Cond.laysFinal RX5 RX5 "book" "LKeyedLogs$Rows;" ∈ AL := List.mem_filter.mpr ⟨List.mem_of_getElem? (i := 276) (by decide +kernel), by decide +kernel⟩
theorem q154 : Cond.lays RX5 RX5 "time" "I" ∈ AL := List.mem_filter.mpr ⟨List.mem_of_getElem? (i := 278) (by decide +kernel), by decide +kernel⟩
theorem q156 : Cond.lays RX5 RX5 "grace" "I" ∈ AL := List.mem_filter.mpr ⟨List.mem_of_getElem? (i := 280) (by decide +kernel), by decide +kernel⟩
theorem q158 : Cond.lays RX5 RX5 "keep" "I" ∈ AL := List.mem_filter.mpr ⟨List.mem_of_getElem? (i := 282) (by decide +kernel), by decide +kernel⟩
theorem q160 : Cond.lays RX5 RX5 "age" "I" ∈ AL := List.mem_filter.mpr ⟨List.mem_of_getElem? (i := 284) (by decide +kernel), by decide +kernel⟩
theorem q162 : Cond.superclass RX5 "java/lang/Object" ∈ AL := List.mem_filter.mpr ⟨List.mem_of_getElem? (i := 286) (by decide +kernel), by decide +kernel⟩
theorem q163 : Cond.classLink RX8 18 RX7 ∈ AL := List.mem_filter.mpr ⟨List.mem_of_getElem? (i := 287) (by decide +kernel), by decide +kernel⟩
theorem q164 : Cond.instantiable RX7 8 ∈ AL := List.mem_filter.mpr ⟨List.mem_of_getElem? (i := 288) (by decide +kernel), by decide +kernel⟩
theorem q165 : Cond.methodLinkNest RX8 20 yX7_init RX8 ∈ NL := List.mem_filter.mpr ⟨List.mem_of_getElem? (i := 289) (by decide +kernel), by decide +kernel⟩
theorem q166 : Cond.instanceMethod yX7_init ∈ AL := List.mem_filter.mpr ⟨List.mem_of_getElem? (i := 290) (by decide +kernel), by decide +kernel⟩
theorem q167 : Cond.code yX7_init cX7_init 1 none ∈ AL := List.mem_filter.mpr ⟨List.mem_of_getElem? (i := 291) (by decide +kernel), by decide +kernel⟩
theorem q168 : Cond.methodLink RX7 1 objectInit ∈ AL := List.mem_filter.mpr ⟨List.mem_of_getElem? (i := 292) (by decide +kernel), by decide +kernel⟩
theorem q169 : Cond.fieldLink RX7 9 RX7 "signs" "[I" ∈ AL := List.mem_filter.mpr ⟨List.mem_of_getElem? (i := 293) (by decide +kernel), by decide +kernel⟩
theorem q170 : Cond.fieldLink RX7 25 RX7 "length" "I" ∈ AL := List.mem_filter.mpr ⟨List.mem_of_getElem? (i := 294) (by decide +kernel), by decide +kernel⟩
theorem q171 : Cond.fieldLinkNest RX8 102 RX7 "length" "I" RX8 ∈ NL := List.mem_filter.mpr ⟨List.mem_of_getElem? (i := 295) (by decide +kernel), by decide +kernel⟩
theorem q172 : Cond.fieldLink RX7 13 RX7 "logs" "[I" ∈ AL := List.mem_filter.mpr ⟨List.mem_of_getElem? (i := 296) (by decide +kernel), by decide +kernel⟩
theorem q173 : Cond.fieldLinkNest RX8 343 RX7 "logs" "[I" RX8 ∈ NL := List.mem_filter.mpr ⟨List.mem_of_getElem? (i := 297) (by decide +kernel), by decide +kernel⟩
theorem q174 : Cond.fieldLink RX7 16 RX7 "keys" "[I" ∈ AL := List.mem_filter.mpr ⟨List.mem_of_getElem? (i := 298) (by decide +kernel), by decide +kernel⟩
theorem q175 : Cond.fieldLinkNest RX8 345 RX7 "keys" "[I" RX8 ∈ NL := List.mem_filter.mpr ⟨List.mem_of_getElem? (i := 299) (by decide +kernel), by decide +kernel⟩
theorem q176 : Cond.fieldLink RX7 19 RX7 "forms" "[I" ∈ AL := List.mem_filter.mpr ⟨List.mem_of_getElem? (i := 300) (by decide +kernel), by decide +kernel⟩
theorem q177 : Cond.fieldLinkNest RX8 346 RX7 "forms" "[I" RX8 ∈ NL := List.mem_filter.mpr ⟨List.mem_of_getElem? (i := 301) (by decide +kernel), by decide +kernel⟩
theorem q178 : Cond.fieldLink RX7 22 RX7 "bits" "[I" ∈ AL := List.mem_filter.mpr ⟨List.mem_of_getElem? (i := 302) (by decide +kernel), by decide +kernel⟩
theorem q179 : Cond.fieldLinkNest RX8 347 RX7 "bits" "[I" RX8 ∈ NL := List.mem_filter.mpr ⟨List.mem_of_getElem? (i := 303) (by decide +kernel), by decide +kernel⟩
theorem q180 : Cond.fieldLink RX7 32 RX7 "clauses" "I" ∈ AL := List.mem_filter.mpr ⟨List.mem_of_getElem? (i := 304) (by decide +kernel), by decide +kernel⟩
theorem q181 : Cond.fieldLinkNest RX8 340 RX7 "clauses" "I" RX8 ∈ NL := List.mem_filter.mpr ⟨List.mem_of_getElem? (i := 305) (by decide +kernel), by decide +kernel⟩
theorem q182 : Cond.fieldLink RX7 29 RX7 "at" "I" ∈ AL := List.mem_filter.mpr ⟨List.mem_of_getElem? (i := 306) (by decide +kernel), by decide +kernel⟩
theorem q183 : Cond.fieldLinkNest RX8 99 RX7 "at" "I" RX8 ∈ NL := List.mem_filter.mpr ⟨List.mem_of_getElem? (i := 307) (by decide +kernel), by decide +kernel⟩
theorem q184 : Cond.laysFinal RX7 RX7 "signs" "[I" ∈ AL := List.mem_filter.mpr ⟨List.mem_of_getElem? (i := 308) (by decide +kernel), by decide +kernel⟩
theorem q186 : Cond.lays RX7 RX7 "length" "I" ∈ AL := List.mem_filter.mpr ⟨List.mem_of_getElem? (i := 310) (by decide +kernel), by decide +kernel⟩
theorem q188 : Cond.laysFinal RX7 RX7 "logs" "[I" ∈ AL := List.mem_filter.mpr ⟨List.mem_of_getElem? (i := 312) (by decide +kernel), by decide +kernel⟩
theorem q190 : Cond.laysFinal RX7 RX7 "keys" "[I" ∈ AL := List.mem_filter.mpr ⟨List.mem_of_getElem? (i := 314) (by decide +kernel), by decide +kernel⟩
theorem q192 : Cond.laysFinal RX7 RX7 "forms" "[I" ∈ AL := List.mem_filter.mpr ⟨List.mem_of_getElem? (i := 316) (by decide +kernel), by decide +kernel⟩
theorem q194 : Cond.laysFinal RX7 RX7 "bits" "[I" ∈ AL := List.mem_filter.mpr ⟨List.mem_of_getElem? (i := 318) (by decide +kernel), by decide +kernel⟩
theorem q196 : Cond.lays RX7 RX7 "clauses" "I" ∈ AL := List.mem_filter.mpr ⟨List.mem_of_getElem? (i := 320) (by decide +kernel), by decide +kernel⟩
theorem q198 : Cond.lays RX7 RX7 "at" "I" ∈ AL := List.mem_filter.mpr ⟨List.mem_of_getElem? (i := 322) (by decide +kernel), by decide +kernel⟩
theorem q200 : Cond.superclass RX7 "java/lang/Object" ∈ AL := List.mem_filter.mpr ⟨List.mem_of_getElem? (i := 324) (by decide +kernel), by decide +kernel⟩
theorem q201 : Cond.classLink RX8 25 RX2 ∈ AL := List.mem_filter.mpr ⟨List.mem_of_getElem? (i := 325) (by decide +kernel), by decide +kernel⟩
theorem q202 : Cond.instantiable RX2 5 ∈ AL := List.mem_filter.mpr ⟨List.mem_of_getElem? (i := 326) (by decide +kernel), by decide +kernel⟩
theorem q203 : Cond.methodLinkNest RX8 27 yX2_init RX8 ∈ NL := List.mem_filter.mpr ⟨List.mem_of_getElem? (i := 327) (by decide +kernel), by decide +kernel⟩
theorem q204 : Cond.instanceMethod yX2_init ∈ AL := List.mem_filter.mpr ⟨List.mem_of_getElem? (i := 328) (by decide +kernel), by decide +kernel⟩
theorem q205 : Cond.code yX2_init cX2_init 1 none ∈ AL := List.mem_filter.mpr ⟨List.mem_of_getElem? (i := 329) (by decide +kernel), by decide +kernel⟩
theorem q206 : Cond.methodLink RX2 3 objectInit ∈ AL := List.mem_filter.mpr ⟨List.mem_of_getElem? (i := 330) (by decide +kernel), by decide +kernel⟩
theorem q207 : Cond.fieldLink RX2 9 RX2 "offsets" "[I" ∈ AL := List.mem_filter.mpr ⟨List.mem_of_getElem? (i := 331) (by decide +kernel), by decide +kernel⟩
theorem q208 : Cond.fieldLink RX2 15 RX2 "keys" "[I" ∈ AL := List.mem_filter.mpr ⟨List.mem_of_getElem? (i := 332) (by decide +kernel), by decide +kernel⟩
theorem q209 : Cond.fieldLink RX2 18 RX2 "forms" "[I" ∈ AL := List.mem_filter.mpr ⟨List.mem_of_getElem? (i := 333) (by decide +kernel), by decide +kernel⟩
theorem q210 : Cond.fieldLink RX2 21 RX2 "bits" "[I" ∈ AL := List.mem_filter.mpr ⟨List.mem_of_getElem? (i := 334) (by decide +kernel), by decide +kernel⟩
theorem q211 : Cond.fieldLink RX2 24 RX2 "size" "I" ∈ AL := List.mem_filter.mpr ⟨List.mem_of_getElem? (i := 335) (by decide +kernel), by decide +kernel⟩
theorem q212 : Cond.fieldLinkNest RX8 286 RX2 "size" "I" RX8 ∈ NL := List.mem_filter.mpr ⟨List.mem_of_getElem? (i := 336) (by decide +kernel), by decide +kernel⟩
theorem q213 : Cond.laysFinal RX2 RX2 "offsets" "[I" ∈ AL := List.mem_filter.mpr ⟨List.mem_of_getElem? (i := 337) (by decide +kernel), by decide +kernel⟩
theorem q215 : Cond.laysFinal RX2 RX2 "keys" "[I" ∈ AL := List.mem_filter.mpr ⟨List.mem_of_getElem? (i := 339) (by decide +kernel), by decide +kernel⟩
theorem q217 : Cond.laysFinal RX2 RX2 "forms" "[I" ∈ AL := List.mem_filter.mpr ⟨List.mem_of_getElem? (i := 341) (by decide +kernel), by decide +kernel⟩
theorem q219 : Cond.laysFinal RX2 RX2 "bits" "[I" ∈ AL := List.mem_filter.mpr ⟨List.mem_of_getElem? (i := 343) (by decide +kernel), by decide +kernel⟩
theorem q221 : Cond.lays RX2 RX2 "size" "I" ∈ AL := List.mem_filter.mpr ⟨List.mem_of_getElem? (i := 345) (by decide +kernel), by decide +kernel⟩
theorem q223 : Cond.superclass RX2 "java/lang/Object" ∈ AL := List.mem_filter.mpr ⟨List.mem_of_getElem? (i := 347) (by decide +kernel), by decide +kernel⟩
theorem q224 : Cond.classLink RX8 32 RX6 ∈ AL := List.mem_filter.mpr ⟨List.mem_of_getElem? (i := 348) (by decide +kernel), by decide +kernel⟩
theorem q225 : Cond.arrayOver (FieldType.object "KeyedLogs$Tape") ∈ NL := List.mem_filter.mpr ⟨List.mem_of_getElem? (i := 349) (by decide +kernel), by decide +kernel⟩
theorem q226 : Cond.instantiable RX6 3 ∈ AL := List.mem_filter.mpr ⟨List.mem_of_getElem? (i := 350) (by decide +kernel), by decide +kernel⟩
theorem q227 : Cond.methodLinkNest RX8 38 yX6_init RX8 ∈ NL := List.mem_filter.mpr ⟨List.mem_of_getElem? (i := 351) (by decide +kernel), by decide +kernel⟩
theorem q228 : Cond.instanceMethod yX6_init ∈ AL := List.mem_filter.mpr ⟨List.mem_of_getElem? (i := 352) (by decide +kernel), by decide +kernel⟩
theorem q229 : Cond.code yX6_init cX6_init 1 none ∈ AL := List.mem_filter.mpr ⟨List.mem_of_getElem? (i := 353) (by decide +kernel), by decide +kernel⟩
theorem q230 : Cond.methodLink RX6 3 objectInit ∈ AL := List.mem_filter.mpr ⟨List.mem_of_getElem? (i := 354) (by decide +kernel), by decide +kernel⟩
theorem q231 : Cond.fieldLink RX6 9 RX6 "items" "[J" ∈ AL := List.mem_filter.mpr ⟨List.mem_of_getElem? (i := 355) (by decide +kernel), by decide +kernel⟩
theorem q232 : Cond.fieldLinkNest RX8 318 RX6 "items" "[J" RX8 ∈ NL := List.mem_filter.mpr ⟨List.mem_of_getElem? (i := 356) (by decide +kernel), by decide +kernel⟩
theorem q233 : Cond.fieldLink RX6 15 RX6 "sort" "I" ∈ AL := List.mem_filter.mpr ⟨List.mem_of_getElem? (i := 357) (by decide +kernel), by decide +kernel⟩
theorem q234 : Cond.fieldLinkNest RX8 296 RX6 "sort" "I" RX8 ∈ NL := List.mem_filter.mpr ⟨List.mem_of_getElem? (i := 358) (by decide +kernel), by decide +kernel⟩
theorem q235 : Cond.fieldLink RX6 19 RX6 "length" "I" ∈ AL := List.mem_filter.mpr ⟨List.mem_of_getElem? (i := 359) (by decide +kernel), by decide +kernel⟩
theorem q236 : Cond.laysFinal RX6 RX6 "items" "[J" ∈ AL := List.mem_filter.mpr ⟨List.mem_of_getElem? (i := 360) (by decide +kernel), by decide +kernel⟩
theorem q238 : Cond.lays RX6 RX6 "sort" "I" ∈ AL := List.mem_filter.mpr ⟨List.mem_of_getElem? (i := 362) (by decide +kernel), by decide +kernel⟩
theorem q240 : Cond.lays RX6 RX6 "length" "I" ∈ AL := List.mem_filter.mpr ⟨List.mem_of_getElem? (i := 364) (by decide +kernel), by decide +kernel⟩
theorem q242 : Cond.superclass RX6 "java/lang/Object" ∈ AL := List.mem_filter.mpr ⟨List.mem_of_getElem? (i := 366) (by decide +kernel), by decide +kernel⟩
theorem q243 : Cond.arrayClass FieldType.long ∈ AL := List.mem_filter.mpr ⟨List.mem_of_getElem? (i := 367) (by decide +kernel), by decide +kernel⟩
theorem q244 : Cond.fieldLink RX8 12 RX8 "live" "LKeyedLogs$Store;" ∈ AL := List.mem_filter.mpr ⟨List.mem_of_getElem? (i := 368) (by decide +kernel), by decide +kernel⟩
theorem q245 : Cond.fieldLink RX8 21 RX8 "text" "LKeyedLogs$Text;" ∈ AL := List.mem_filter.mpr ⟨List.mem_of_getElem? (i := 369) (by decide +kernel), by decide +kernel⟩
theorem q246 : Cond.fieldLink RX8 28 RX8 "keptRow" "LKeyedLogs$KeptRow;" ∈ AL := List.mem_filter.mpr ⟨List.mem_of_getElem? (i := 370) (by decide +kernel), by decide +kernel⟩
theorem q247 : Cond.fieldLink RX8 34 RX8 "tapes" "[LKeyedLogs$Tape;" ∈ AL := List.mem_filter.mpr ⟨List.mem_of_getElem? (i := 371) (by decide +kernel), by decide +kernel⟩
theorem q248 : Cond.fieldLink RX8 302 RX8 "taken" "LKeyedLogs$Store;" ∈ AL := List.mem_filter.mpr ⟨List.mem_of_getElem? (i := 372) (by decide +kernel), by decide +kernel⟩
theorem q249 : Cond.fieldLink RX8 265 RX8 "trial" "LKeyedLogs$Store;" ∈ AL := List.mem_filter.mpr ⟨List.mem_of_getElem? (i := 373) (by decide +kernel), by decide +kernel⟩
theorem q250 : Cond.laysFinal RX8 RX8 "live" "LKeyedLogs$Store;" ∈ AL := List.mem_filter.mpr ⟨List.mem_of_getElem? (i := 374) (by decide +kernel), by decide +kernel⟩
theorem q252 : Cond.laysFinal RX8 RX8 "text" "LKeyedLogs$Text;" ∈ AL := List.mem_filter.mpr ⟨List.mem_of_getElem? (i := 376) (by decide +kernel), by decide +kernel⟩
theorem q254 : Cond.laysFinal RX8 RX8 "keptRow" "LKeyedLogs$KeptRow;" ∈ AL := List.mem_filter.mpr ⟨List.mem_of_getElem? (i := 378) (by decide +kernel), by decide +kernel⟩
theorem q256 : Cond.laysFinal RX8 RX8 "tapes" "[LKeyedLogs$Tape;" ∈ AL := List.mem_filter.mpr ⟨List.mem_of_getElem? (i := 380) (by decide +kernel), by decide +kernel⟩
theorem q258 : Cond.lays RX8 RX8 "taken" "LKeyedLogs$Store;" ∈ AL := List.mem_filter.mpr ⟨List.mem_of_getElem? (i := 382) (by decide +kernel), by decide +kernel⟩
theorem q260 : Cond.lays RX8 RX8 "trial" "LKeyedLogs$Store;" ∈ AL := List.mem_filter.mpr ⟨List.mem_of_getElem? (i := 384) (by decide +kernel), by decide +kernel⟩
theorem q262 : Cond.superclass RX8 "java/lang/Object" ∈ AL := List.mem_filter.mpr ⟨List.mem_of_getElem? (i := 386) (by decide +kernel), by decide +kernel⟩
theorem q263 : Cond.methodLink RL 13 yX8_put ∈ AL := List.mem_filter.mpr ⟨List.mem_of_getElem? (i := 387) (by decide +kernel), by decide +kernel⟩
theorem q264 : Cond.instanceMethod yX8_put ∈ AL := List.mem_filter.mpr ⟨List.mem_of_getElem? (i := 388) (by decide +kernel), by decide +kernel⟩
theorem q265 : Cond.selects RX8 yX8_put yX8_put ∈ AL := List.mem_filter.mpr ⟨List.mem_of_getElem? (i := 389) (by decide +kernel), by decide +kernel⟩
theorem q266 : Cond.code yX8_put cX8_put 6 (some FieldType.int) ∈ AL := List.mem_filter.mpr ⟨List.mem_of_getElem? (i := 390) (by decide +kernel), by decide +kernel⟩
theorem q267 : Cond.methodLinkNest RX8 41 yX0_quotient RX8 ∈ NL := List.mem_filter.mpr ⟨List.mem_of_getElem? (i := 391) (by decide +kernel), by decide +kernel⟩
theorem q268 : Cond.static yX0_quotient ∈ AL := List.mem_filter.mpr ⟨List.mem_of_getElem? (i := 392) (by decide +kernel), by decide +kernel⟩
theorem q269 : Cond.code yX0_quotient cX0_quotient 2 (some FieldType.int) ∈ AL := List.mem_filter.mpr ⟨List.mem_of_getElem? (i := 393) (by decide +kernel), by decide +kernel⟩
theorem q270 : Cond.constant RX0 9 2143289344 ∈ AL := List.mem_filter.mpr ⟨List.mem_of_getElem? (i := 394) (by decide +kernel), by decide +kernel⟩
theorem q271 : Cond.constant RX0 10 2139095040 ∈ AL := List.mem_filter.mpr ⟨List.mem_of_getElem? (i := 395) (by decide +kernel), by decide +kernel⟩
theorem q272 : Cond.constant RX0 11 (-8388608) ∈ AL := List.mem_filter.mpr ⟨List.mem_of_getElem? (i := 396) (by decide +kernel), by decide +kernel⟩
theorem q273 : Cond.constant RX0 12 (-2147483648) ∈ AL := List.mem_filter.mpr ⟨List.mem_of_getElem? (i := 397) (by decide +kernel), by decide +kernel⟩
theorem q274 : Cond.methodLink RX0 13 yX0_bitsOfFloat ∈ AL := List.mem_filter.mpr ⟨List.mem_of_getElem? (i := 398) (by decide +kernel), by decide +kernel⟩
theorem q275 : Cond.static yX0_bitsOfFloat ∈ AL := List.mem_filter.mpr ⟨List.mem_of_getElem? (i := 399) (by decide +kernel), by decide +kernel⟩
theorem q276 : Cond.code yX0_bitsOfFloat cX0_bitsOfFloat 2 (some FieldType.int) ∈ AL := List.mem_filter.mpr ⟨List.mem_of_getElem? (i := 400) (by decide +kernel), by decide +kernel⟩
theorem q277 : Cond.methodLink RX0 27 yX0_packed ∈ AL := List.mem_filter.mpr ⟨List.mem_of_getElem? (i := 401) (by decide +kernel), by decide +kernel⟩
theorem q278 : Cond.static yX0_packed ∈ AL := List.mem_filter.mpr ⟨List.mem_of_getElem? (i := 402) (by decide +kernel), by decide +kernel⟩
theorem q279 : Cond.code yX0_packed cX0_packed 9 (some FieldType.long) ∈ AL := List.mem_filter.mpr ⟨List.mem_of_getElem? (i := 403) (by decide +kernel), by decide +kernel⟩
theorem q280 : Cond.constantDouble RX0 35 4611686018427387904 ∈ AL := List.mem_filter.mpr ⟨List.mem_of_getElem? (i := 404) (by decide +kernel), by decide +kernel⟩
theorem q281 : Cond.constantDouble RX0 37 4602678819172646912 ∈ AL := List.mem_filter.mpr ⟨List.mem_of_getElem? (i := 405) (by decide +kernel), by decide +kernel⟩
theorem q282 : Cond.methodLink RX8 47 yX8_recordComes ∈ AL := List.mem_filter.mpr ⟨List.mem_of_getElem? (i := 406) (by decide +kernel), by decide +kernel⟩
theorem q284 : Cond.instanceMethod yX8_recordComes ∈ AL := List.mem_filter.mpr ⟨List.mem_of_getElem? (i := 408) (by decide +kernel), by decide +kernel⟩
theorem q285 : Cond.code yX8_recordComes cX8_recordComes 7 (some FieldType.int) ∈ AL := List.mem_filter.mpr ⟨List.mem_of_getElem? (i := 409) (by decide +kernel), by decide +kernel⟩
theorem q286 : Cond.methodLink RX8 65 yX8_isLog ∈ AL := List.mem_filter.mpr ⟨List.mem_of_getElem? (i := 410) (by decide +kernel), by decide +kernel⟩
theorem q287 : Cond.static yX8_isLog ∈ AL := List.mem_filter.mpr ⟨List.mem_of_getElem? (i := 411) (by decide +kernel), by decide +kernel⟩
theorem q288 : Cond.code yX8_isLog cX8_isLog 1 (some FieldType.boolean) ∈ AL := List.mem_filter.mpr ⟨List.mem_of_getElem? (i := 412) (by decide +kernel), by decide +kernel⟩
theorem q289 : Cond.methodLink RX8 181 yX8_isKey ∈ AL := List.mem_filter.mpr ⟨List.mem_of_getElem? (i := 413) (by decide +kernel), by decide +kernel⟩
theorem q290 : Cond.static yX8_isKey ∈ AL := List.mem_filter.mpr ⟨List.mem_of_getElem? (i := 414) (by decide +kernel), by decide +kernel⟩
theorem q291 : Cond.code yX8_isKey cX8_isKey 1 (some FieldType.boolean) ∈ AL := List.mem_filter.mpr ⟨List.mem_of_getElem? (i := 415) (by decide +kernel), by decide +kernel⟩
theorem q292 : Cond.methodLinkNest RX8 336 yX3_isFull RX8 ∈ NL := List.mem_filter.mpr ⟨List.mem_of_getElem? (i := 416) (by decide +kernel), by decide +kernel⟩
theorem q294 : Cond.instanceMethod yX3_isFull ∈ AL := List.mem_filter.mpr ⟨List.mem_of_getElem? (i := 418) (by decide +kernel), by decide +kernel⟩
theorem q295 : Cond.code yX3_isFull cX3_isFull 1 (some FieldType.boolean) ∈ AL := List.mem_filter.mpr ⟨List.mem_of_getElem? (i := 419) (by decide +kernel), by decide +kernel⟩
theorem q296 : Cond.methodLinkNest RX8 337 yX3_append RX8 ∈ NL := List.mem_filter.mpr ⟨List.mem_of_getElem? (i := 420) (by decide +kernel), by decide +kernel⟩
theorem q298 : Cond.instanceMethod yX3_append ∈ AL := List.mem_filter.mpr ⟨List.mem_of_getElem? (i := 422) (by decide +kernel), by decide +kernel⟩
theorem q299 : Cond.code yX3_append cX3_append 8 (some FieldType.int) ∈ AL := List.mem_filter.mpr ⟨List.mem_of_getElem? (i := 423) (by decide +kernel), by decide +kernel⟩
theorem q300 : Cond.methodLink RX3 46 yX3_recordsIn ∈ AL := List.mem_filter.mpr ⟨List.mem_of_getElem? (i := 424) (by decide +kernel), by decide +kernel⟩
theorem q302 : Cond.instanceMethod yX3_recordsIn ∈ AL := List.mem_filter.mpr ⟨List.mem_of_getElem? (i := 426) (by decide +kernel), by decide +kernel⟩
theorem q303 : Cond.code yX3_recordsIn cX3_recordsIn 5 (some FieldType.int) ∈ AL := List.mem_filter.mpr ⟨List.mem_of_getElem? (i := 427) (by decide +kernel), by decide +kernel⟩
theorem q304 : Cond.methodLink RX3 53 yJ9_max_7cf53 ∈ AL := List.mem_filter.mpr ⟨List.mem_of_getElem? (i := 428) (by decide +kernel), by decide +kernel⟩
theorem q305 : Cond.methodLink RX3 50 yX3_sizesIn ∈ AL := List.mem_filter.mpr ⟨List.mem_of_getElem? (i := 429) (by decide +kernel), by decide +kernel⟩
theorem q307 : Cond.instanceMethod yX3_sizesIn ∈ AL := List.mem_filter.mpr ⟨List.mem_of_getElem? (i := 431) (by decide +kernel), by decide +kernel⟩
theorem q308 : Cond.code yX3_sizesIn cX3_sizesIn 5 (some FieldType.int) ∈ AL := List.mem_filter.mpr ⟨List.mem_of_getElem? (i := 432) (by decide +kernel), by decide +kernel⟩
theorem q309 : Cond.methodLink RL 18 yX8_tomb ∈ AL := List.mem_filter.mpr ⟨List.mem_of_getElem? (i := 433) (by decide +kernel), by decide +kernel⟩
theorem q310 : Cond.instanceMethod yX8_tomb ∈ AL := List.mem_filter.mpr ⟨List.mem_of_getElem? (i := 434) (by decide +kernel), by decide +kernel⟩
theorem q311 : Cond.selects RX8 yX8_tomb yX8_tomb ∈ AL := List.mem_filter.mpr ⟨List.mem_of_getElem? (i := 435) (by decide +kernel), by decide +kernel⟩
theorem q312 : Cond.code yX8_tomb cX8_tomb 4 (some FieldType.int) ∈ AL := List.mem_filter.mpr ⟨List.mem_of_getElem? (i := 436) (by decide +kernel), by decide +kernel⟩
theorem q313 : Cond.methodLink RL 23 yX8_tick ∈ AL := List.mem_filter.mpr ⟨List.mem_of_getElem? (i := 437) (by decide +kernel), by decide +kernel⟩
theorem q314 : Cond.instanceMethod yX8_tick ∈ AL := List.mem_filter.mpr ⟨List.mem_of_getElem? (i := 438) (by decide +kernel), by decide +kernel⟩
theorem q315 : Cond.selects RX8 yX8_tick yX8_tick ∈ AL := List.mem_filter.mpr ⟨List.mem_of_getElem? (i := 439) (by decide +kernel), by decide +kernel⟩
theorem q316 : Cond.code yX8_tick cX8_tick 2 (some FieldType.int) ∈ AL := List.mem_filter.mpr ⟨List.mem_of_getElem? (i := 440) (by decide +kernel), by decide +kernel⟩
theorem q317 : Cond.methodLink RL 28 yX8_set ∈ AL := List.mem_filter.mpr ⟨List.mem_of_getElem? (i := 441) (by decide +kernel), by decide +kernel⟩
theorem q318 : Cond.instanceMethod yX8_set ∈ AL := List.mem_filter.mpr ⟨List.mem_of_getElem? (i := 442) (by decide +kernel), by decide +kernel⟩
theorem q319 : Cond.selects RX8 yX8_set yX8_set ∈ AL := List.mem_filter.mpr ⟨List.mem_of_getElem? (i := 443) (by decide +kernel), by decide +kernel⟩
theorem q320 : Cond.code yX8_set cX8_set 3 (some FieldType.int) ∈ AL := List.mem_filter.mpr ⟨List.mem_of_getElem? (i := 444) (by decide +kernel), by decide +kernel⟩
theorem q321 : Cond.methodLink RX8 55 yX8_setGrace ∈ AL := List.mem_filter.mpr ⟨List.mem_of_getElem? (i := 445) (by decide +kernel), by decide +kernel⟩
theorem q323 : Cond.instanceMethod yX8_setGrace ∈ AL := List.mem_filter.mpr ⟨List.mem_of_getElem? (i := 447) (by decide +kernel), by decide +kernel⟩
theorem q324 : Cond.code yX8_setGrace cX8_setGrace 3 (some FieldType.int) ∈ AL := List.mem_filter.mpr ⟨List.mem_of_getElem? (i := 448) (by decide +kernel), by decide +kernel⟩
theorem q325 : Cond.methodLink RX8 59 yX8_setKeep ∈ AL := List.mem_filter.mpr ⟨List.mem_of_getElem? (i := 449) (by decide +kernel), by decide +kernel⟩
theorem q327 : Cond.instanceMethod yX8_setKeep ∈ AL := List.mem_filter.mpr ⟨List.mem_of_getElem? (i := 451) (by decide +kernel), by decide +kernel⟩
theorem q328 : Cond.code yX8_setKeep cX8_setKeep 3 (some FieldType.int) ∈ AL := List.mem_filter.mpr ⟨List.mem_of_getElem? (i := 452) (by decide +kernel), by decide +kernel⟩
theorem q329 : Cond.methodLink RX8 62 yX8_setAge ∈ AL := List.mem_filter.mpr ⟨List.mem_of_getElem? (i := 453) (by decide +kernel), by decide +kernel⟩
theorem q331 : Cond.instanceMethod yX8_setAge ∈ AL := List.mem_filter.mpr ⟨List.mem_of_getElem? (i := 455) (by decide +kernel), by decide +kernel⟩
theorem q332 : Cond.code yX8_setAge cX8_setAge 3 (some FieldType.int) ∈ AL := List.mem_filter.mpr ⟨List.mem_of_getElem? (i := 456) (by decide +kernel), by decide +kernel⟩
theorem q333 : Cond.methodLink RL 33 yX8_compact ∈ AL := List.mem_filter.mpr ⟨List.mem_of_getElem? (i := 457) (by decide +kernel), by decide +kernel⟩
theorem q334 : Cond.instanceMethod yX8_compact ∈ AL := List.mem_filter.mpr ⟨List.mem_of_getElem? (i := 458) (by decide +kernel), by decide +kernel⟩
theorem q335 : Cond.selects RX8 yX8_compact yX8_compact ∈ AL := List.mem_filter.mpr ⟨List.mem_of_getElem? (i := 459) (by decide +kernel), by decide +kernel⟩
theorem q336 : Cond.code yX8_compact cX8_compact 2 (some FieldType.int) ∈ AL := List.mem_filter.mpr ⟨List.mem_of_getElem? (i := 460) (by decide +kernel), by decide +kernel⟩
theorem q337 : Cond.methodLinkNest RX8 76 yX3_compacted RX8 ∈ NL := List.mem_filter.mpr ⟨List.mem_of_getElem? (i := 461) (by decide +kernel), by decide +kernel⟩
theorem q339 : Cond.instanceMethod yX3_compacted ∈ AL := List.mem_filter.mpr ⟨List.mem_of_getElem? (i := 463) (by decide +kernel), by decide +kernel⟩
theorem q340 : Cond.code yX3_compacted cX3_compacted 5 (some FieldType.int) ∈ AL := List.mem_filter.mpr ⟨List.mem_of_getElem? (i := 464) (by decide +kernel), by decide +kernel⟩
theorem q341 : Cond.methodLink RX3 65 yX3_findLast ∈ AL := List.mem_filter.mpr ⟨List.mem_of_getElem? (i := 465) (by decide +kernel), by decide +kernel⟩
theorem q343 : Cond.instanceMethod yX3_findLast ∈ AL := List.mem_filter.mpr ⟨List.mem_of_getElem? (i := 467) (by decide +kernel), by decide +kernel⟩
theorem q344 : Cond.code yX3_findLast cX3_findLast 3 none ∈ AL := List.mem_filter.mpr ⟨List.mem_of_getElem? (i := 468) (by decide +kernel), by decide +kernel⟩
theorem q345 : Cond.methodLink RX3 69 yX3_goesCompacted ∈ AL := List.mem_filter.mpr ⟨List.mem_of_getElem? (i := 469) (by decide +kernel), by decide +kernel⟩
theorem q347 : Cond.instanceMethod yX3_goesCompacted ∈ AL := List.mem_filter.mpr ⟨List.mem_of_getElem? (i := 471) (by decide +kernel), by decide +kernel⟩
theorem q348 : Cond.code yX3_goesCompacted cX3_goesCompacted 4 (some FieldType.boolean) ∈ AL := List.mem_filter.mpr ⟨List.mem_of_getElem? (i := 472) (by decide +kernel), by decide +kernel⟩
theorem q349 : Cond.methodLink RX3 73 yX3_joinSegments ∈ AL := List.mem_filter.mpr ⟨List.mem_of_getElem? (i := 473) (by decide +kernel), by decide +kernel⟩
theorem q351 : Cond.instanceMethod yX3_joinSegments ∈ AL := List.mem_filter.mpr ⟨List.mem_of_getElem? (i := 475) (by decide +kernel), by decide +kernel⟩
theorem q352 : Cond.code yX3_joinSegments cX3_joinSegments 3 none ∈ AL := List.mem_filter.mpr ⟨List.mem_of_getElem? (i := 476) (by decide +kernel), by decide +kernel⟩
theorem q353 : Cond.methodLink RX3 58 yX3_isClosed ∈ AL := List.mem_filter.mpr ⟨List.mem_of_getElem? (i := 477) (by decide +kernel), by decide +kernel⟩
theorem q355 : Cond.instanceMethod yX3_isClosed ∈ AL := List.mem_filter.mpr ⟨List.mem_of_getElem? (i := 479) (by decide +kernel), by decide +kernel⟩
theorem q356 : Cond.code yX3_isClosed cX3_isClosed 2 (some FieldType.boolean) ∈ AL := List.mem_filter.mpr ⟨List.mem_of_getElem? (i := 480) (by decide +kernel), by decide +kernel⟩
theorem q357 : Cond.methodLink RX3 76 yX3_fitTogether ∈ AL := List.mem_filter.mpr ⟨List.mem_of_getElem? (i := 481) (by decide +kernel), by decide +kernel⟩
theorem q359 : Cond.instanceMethod yX3_fitTogether ∈ AL := List.mem_filter.mpr ⟨List.mem_of_getElem? (i := 483) (by decide +kernel), by decide +kernel⟩
theorem q360 : Cond.code yX3_fitTogether cX3_fitTogether 4 (some FieldType.boolean) ∈ AL := List.mem_filter.mpr ⟨List.mem_of_getElem? (i := 484) (by decide +kernel), by decide +kernel⟩
theorem q361 : Cond.methodLink RX3 83 yX3_segmentEnd ∈ AL := List.mem_filter.mpr ⟨List.mem_of_getElem? (i := 485) (by decide +kernel), by decide +kernel⟩
theorem q363 : Cond.instanceMethod yX3_segmentEnd ∈ AL := List.mem_filter.mpr ⟨List.mem_of_getElem? (i := 487) (by decide +kernel), by decide +kernel⟩
theorem q364 : Cond.code yX3_segmentEnd cX3_segmentEnd 2 (some FieldType.int) ∈ AL := List.mem_filter.mpr ⟨List.mem_of_getElem? (i := 488) (by decide +kernel), by decide +kernel⟩
theorem q365 : Cond.methodLink RX3 79 yX3_dropBases ∈ AL := List.mem_filter.mpr ⟨List.mem_of_getElem? (i := 489) (by decide +kernel), by decide +kernel⟩
theorem q367 : Cond.instanceMethod yX3_dropBases ∈ AL := List.mem_filter.mpr ⟨List.mem_of_getElem? (i := 491) (by decide +kernel), by decide +kernel⟩
theorem q368 : Cond.code yX3_dropBases cX3_dropBases 4 none ∈ AL := List.mem_filter.mpr ⟨List.mem_of_getElem? (i := 492) (by decide +kernel), by decide +kernel⟩
theorem q369 : Cond.methodLink RL 37 yX8_retain ∈ AL := List.mem_filter.mpr ⟨List.mem_of_getElem? (i := 493) (by decide +kernel), by decide +kernel⟩
theorem q370 : Cond.instanceMethod yX8_retain ∈ AL := List.mem_filter.mpr ⟨List.mem_of_getElem? (i := 494) (by decide +kernel), by decide +kernel⟩
theorem q371 : Cond.selects RX8 yX8_retain yX8_retain ∈ AL := List.mem_filter.mpr ⟨List.mem_of_getElem? (i := 495) (by decide +kernel), by decide +kernel⟩
theorem q372 : Cond.code yX8_retain cX8_retain 2 (some FieldType.int) ∈ AL := List.mem_filter.mpr ⟨List.mem_of_getElem? (i := 496) (by decide +kernel), by decide +kernel⟩
theorem q373 : Cond.methodLinkNest RX8 85 yX3_retained RX8 ∈ NL := List.mem_filter.mpr ⟨List.mem_of_getElem? (i := 497) (by decide +kernel), by decide +kernel⟩
theorem q375 : Cond.instanceMethod yX3_retained ∈ AL := List.mem_filter.mpr ⟨List.mem_of_getElem? (i := 499) (by decide +kernel), by decide +kernel⟩
theorem q376 : Cond.code yX3_retained cX3_retained 8 (some FieldType.int) ∈ AL := List.mem_filter.mpr ⟨List.mem_of_getElem? (i := 500) (by decide +kernel), by decide +kernel⟩
theorem q377 : Cond.methodLink RX3 87 yX3_segmentsGoing ∈ AL := List.mem_filter.mpr ⟨List.mem_of_getElem? (i := 501) (by decide +kernel), by decide +kernel⟩
theorem q379 : Cond.instanceMethod yX3_segmentsGoing ∈ AL := List.mem_filter.mpr ⟨List.mem_of_getElem? (i := 503) (by decide +kernel), by decide +kernel⟩
theorem q380 : Cond.code yX3_segmentsGoing cX3_segmentsGoing 6 (some FieldType.int) ∈ AL := List.mem_filter.mpr ⟨List.mem_of_getElem? (i := 504) (by decide +kernel), by decide +kernel⟩
theorem q381 : Cond.methodLink RX3 91 yX3_isOutdated ∈ AL := List.mem_filter.mpr ⟨List.mem_of_getElem? (i := 505) (by decide +kernel), by decide +kernel⟩
theorem q383 : Cond.instanceMethod yX3_isOutdated ∈ AL := List.mem_filter.mpr ⟨List.mem_of_getElem? (i := 507) (by decide +kernel), by decide +kernel⟩
theorem q384 : Cond.code yX3_isOutdated cX3_isOutdated 4 (some FieldType.boolean) ∈ AL := List.mem_filter.mpr ⟨List.mem_of_getElem? (i := 508) (by decide +kernel), by decide +kernel⟩
theorem q385 : Cond.methodLink RL 41 yX8_feed ∈ AL := List.mem_filter.mpr ⟨List.mem_of_getElem? (i := 509) (by decide +kernel), by decide +kernel⟩
theorem q386 : Cond.instanceMethod yX8_feed ∈ AL := List.mem_filter.mpr ⟨List.mem_of_getElem? (i := 510) (by decide +kernel), by decide +kernel⟩
theorem q387 : Cond.selects RX8 yX8_feed yX8_feed ∈ AL := List.mem_filter.mpr ⟨List.mem_of_getElem? (i := 511) (by decide +kernel), by decide +kernel⟩
theorem q388 : Cond.code yX8_feed cX8_feed 2 (some FieldType.int) ∈ AL := List.mem_filter.mpr ⟨List.mem_of_getElem? (i := 512) (by decide +kernel), by decide +kernel⟩
theorem q389 : Cond.methodLinkNest RX8 89 yX7_isFull RX8 ∈ NL := List.mem_filter.mpr ⟨List.mem_of_getElem? (i := 513) (by decide +kernel), by decide +kernel⟩
theorem q391 : Cond.instanceMethod yX7_isFull ∈ AL := List.mem_filter.mpr ⟨List.mem_of_getElem? (i := 515) (by decide +kernel), by decide +kernel⟩
theorem q392 : Cond.code yX7_isFull cX7_isFull 1 (some FieldType.boolean) ∈ AL := List.mem_filter.mpr ⟨List.mem_of_getElem? (i := 516) (by decide +kernel), by decide +kernel⟩
theorem q393 : Cond.methodLinkNest RX8 93 yX7_takeSign RX8 ∈ NL := List.mem_filter.mpr ⟨List.mem_of_getElem? (i := 517) (by decide +kernel), by decide +kernel⟩
theorem q395 : Cond.instanceMethod yX7_takeSign ∈ AL := List.mem_filter.mpr ⟨List.mem_of_getElem? (i := 519) (by decide +kernel), by decide +kernel⟩
theorem q396 : Cond.code yX7_takeSign cX7_takeSign 2 (some FieldType.int) ∈ AL := List.mem_filter.mpr ⟨List.mem_of_getElem? (i := 520) (by decide +kernel), by decide +kernel⟩
theorem q397 : Cond.methodLink RL 45 yX8_read ∈ AL := List.mem_filter.mpr ⟨List.mem_of_getElem? (i := 521) (by decide +kernel), by decide +kernel⟩
theorem q398 : Cond.instanceMethod yX8_read ∈ AL := List.mem_filter.mpr ⟨List.mem_of_getElem? (i := 522) (by decide +kernel), by decide +kernel⟩
theorem q399 : Cond.selects RX8 yX8_read yX8_read ∈ AL := List.mem_filter.mpr ⟨List.mem_of_getElem? (i := 523) (by decide +kernel), by decide +kernel⟩
theorem q400 : Cond.code yX8_read cX8_read 3 (some FieldType.int) ∈ AL := List.mem_filter.mpr ⟨List.mem_of_getElem? (i := 524) (by decide +kernel), by decide +kernel⟩
theorem q401 : Cond.methodLinkNest RX8 96 yX7_parsed RX8 ∈ NL := List.mem_filter.mpr ⟨List.mem_of_getElem? (i := 525) (by decide +kernel), by decide +kernel⟩
theorem q403 : Cond.instanceMethod yX7_parsed ∈ AL := List.mem_filter.mpr ⟨List.mem_of_getElem? (i := 527) (by decide +kernel), by decide +kernel⟩
theorem q404 : Cond.code yX7_parsed cX7_parsed 1 (some FieldType.boolean) ∈ AL := List.mem_filter.mpr ⟨List.mem_of_getElem? (i := 528) (by decide +kernel), by decide +kernel⟩
theorem q405 : Cond.methodLink RX7 35 yX7_clauseParsed ∈ AL := List.mem_filter.mpr ⟨List.mem_of_getElem? (i := 529) (by decide +kernel), by decide +kernel⟩
theorem q407 : Cond.instanceMethod yX7_clauseParsed ∈ AL := List.mem_filter.mpr ⟨List.mem_of_getElem? (i := 531) (by decide +kernel), by decide +kernel⟩
theorem q408 : Cond.code yX7_clauseParsed cX7_clauseParsed 1 (some FieldType.boolean) ∈ AL := List.mem_filter.mpr ⟨List.mem_of_getElem? (i := 532) (by decide +kernel), by decide +kernel⟩
theorem q409 : Cond.methodLink RX7 43 yX7_isBetween ∈ AL := List.mem_filter.mpr ⟨List.mem_of_getElem? (i := 533) (by decide +kernel), by decide +kernel⟩
theorem q411 : Cond.instanceMethod yX7_isBetween ∈ AL := List.mem_filter.mpr ⟨List.mem_of_getElem? (i := 535) (by decide +kernel), by decide +kernel⟩
theorem q412 : Cond.code yX7_isBetween cX7_isBetween 3 (some FieldType.boolean) ∈ AL := List.mem_filter.mpr ⟨List.mem_of_getElem? (i := 536) (by decide +kernel), by decide +kernel⟩
theorem q413 : Cond.methodLink RX7 39 yX7_skipped ∈ AL := List.mem_filter.mpr ⟨List.mem_of_getElem? (i := 537) (by decide +kernel), by decide +kernel⟩
theorem q415 : Cond.instanceMethod yX7_skipped ∈ AL := List.mem_filter.mpr ⟨List.mem_of_getElem? (i := 539) (by decide +kernel), by decide +kernel⟩
theorem q416 : Cond.code yX7_skipped cX7_skipped 2 (some FieldType.boolean) ∈ AL := List.mem_filter.mpr ⟨List.mem_of_getElem? (i := 540) (by decide +kernel), by decide +kernel⟩
theorem q417 : Cond.methodLink RX7 49 yX7_valueParsed ∈ AL := List.mem_filter.mpr ⟨List.mem_of_getElem? (i := 541) (by decide +kernel), by decide +kernel⟩
theorem q419 : Cond.instanceMethod yX7_valueParsed ∈ AL := List.mem_filter.mpr ⟨List.mem_of_getElem? (i := 543) (by decide +kernel), by decide +kernel⟩
theorem q420 : Cond.code yX7_valueParsed cX7_valueParsed 4 (some FieldType.boolean) ∈ AL := List.mem_filter.mpr ⟨List.mem_of_getElem? (i := 544) (by decide +kernel), by decide +kernel⟩
theorem q421 : Cond.methodLink RX7 52 yX7_digits ∈ AL := List.mem_filter.mpr ⟨List.mem_of_getElem? (i := 545) (by decide +kernel), by decide +kernel⟩
theorem q423 : Cond.instanceMethod yX7_digits ∈ AL := List.mem_filter.mpr ⟨List.mem_of_getElem? (i := 547) (by decide +kernel), by decide +kernel⟩
theorem q424 : Cond.code yX7_digits cX7_digits 4 (some FieldType.int) ∈ AL := List.mem_filter.mpr ⟨List.mem_of_getElem? (i := 548) (by decide +kernel), by decide +kernel⟩
theorem q425 : Cond.methodLinkNest RX7 56 yX0_quotient RX8 ∈ NL := List.mem_filter.mpr ⟨List.mem_of_getElem? (i := 549) (by decide +kernel), by decide +kernel⟩
theorem q426 : Cond.methodLink RX8 105 yX8_clausesCome ∈ AL := List.mem_filter.mpr ⟨List.mem_of_getElem? (i := 550) (by decide +kernel), by decide +kernel⟩
theorem q428 : Cond.instanceMethod yX8_clausesCome ∈ AL := List.mem_filter.mpr ⟨List.mem_of_getElem? (i := 552) (by decide +kernel), by decide +kernel⟩
theorem q429 : Cond.code yX8_clausesCome cX8_clausesCome 3 (some FieldType.int) ∈ AL := List.mem_filter.mpr ⟨List.mem_of_getElem? (i := 553) (by decide +kernel), by decide +kernel⟩
theorem q430 : Cond.methodLink RL 50 yX8_of ∈ AL := List.mem_filter.mpr ⟨List.mem_of_getElem? (i := 554) (by decide +kernel), by decide +kernel⟩
theorem q431 : Cond.instanceMethod yX8_of ∈ AL := List.mem_filter.mpr ⟨List.mem_of_getElem? (i := 555) (by decide +kernel), by decide +kernel⟩
theorem q432 : Cond.selects RX8 yX8_of yX8_of ∈ AL := List.mem_filter.mpr ⟨List.mem_of_getElem? (i := 556) (by decide +kernel), by decide +kernel⟩
theorem q433 : Cond.code yX8_of cX8_of 4 (some FieldType.int) ∈ AL := List.mem_filter.mpr ⟨List.mem_of_getElem? (i := 557) (by decide +kernel), by decide +kernel⟩
theorem q434 : Cond.methodLinkNest RX8 109 yX3_records RX8 ∈ NL := List.mem_filter.mpr ⟨List.mem_of_getElem? (i := 558) (by decide +kernel), by decide +kernel⟩
theorem q436 : Cond.instanceMethod yX3_records ∈ AL := List.mem_filter.mpr ⟨List.mem_of_getElem? (i := 560) (by decide +kernel), by decide +kernel⟩
theorem q437 : Cond.code yX3_records cX3_records 1 (some FieldType.int) ∈ AL := List.mem_filter.mpr ⟨List.mem_of_getElem? (i := 561) (by decide +kernel), by decide +kernel⟩
theorem q438 : Cond.methodLinkNest RX8 112 yX3_start RX8 ∈ NL := List.mem_filter.mpr ⟨List.mem_of_getElem? (i := 562) (by decide +kernel), by decide +kernel⟩
theorem q440 : Cond.instanceMethod yX3_start ∈ AL := List.mem_filter.mpr ⟨List.mem_of_getElem? (i := 564) (by decide +kernel), by decide +kernel⟩
theorem q441 : Cond.code yX3_start cX3_start 1 (some FieldType.int) ∈ AL := List.mem_filter.mpr ⟨List.mem_of_getElem? (i := 565) (by decide +kernel), by decide +kernel⟩
theorem q442 : Cond.methodLinkNest RX8 121 yX3_sizesIn RX8 ∈ NL := List.mem_filter.mpr ⟨List.mem_of_getElem? (i := 566) (by decide +kernel), by decide +kernel⟩
theorem q443 : Cond.methodLinkNest RX8 124 yX3_mapSize RX8 ∈ NL := List.mem_filter.mpr ⟨List.mem_of_getElem? (i := 567) (by decide +kernel), by decide +kernel⟩
theorem q445 : Cond.instanceMethod yX3_mapSize ∈ AL := List.mem_filter.mpr ⟨List.mem_of_getElem? (i := 569) (by decide +kernel), by decide +kernel⟩
theorem q446 : Cond.code yX3_mapSize cX3_mapSize 4 (some FieldType.int) ∈ AL := List.mem_filter.mpr ⟨List.mem_of_getElem? (i := 570) (by decide +kernel), by decide +kernel⟩
theorem q447 : Cond.methodLink RX3 95 yX3_isMapped ∈ AL := List.mem_filter.mpr ⟨List.mem_of_getElem? (i := 571) (by decide +kernel), by decide +kernel⟩
theorem q449 : Cond.instanceMethod yX3_isMapped ∈ AL := List.mem_filter.mpr ⟨List.mem_of_getElem? (i := 573) (by decide +kernel), by decide +kernel⟩
theorem q450 : Cond.code yX3_isMapped cX3_isMapped 2 (some FieldType.boolean) ∈ AL := List.mem_filter.mpr ⟨List.mem_of_getElem? (i := 574) (by decide +kernel), by decide +kernel⟩
theorem q451 : Cond.methodLinkNest RX8 140 yX3_atOrBehind RX8 ∈ NL := List.mem_filter.mpr ⟨List.mem_of_getElem? (i := 575) (by decide +kernel), by decide +kernel⟩
theorem q453 : Cond.instanceMethod yX3_atOrBehind ∈ AL := List.mem_filter.mpr ⟨List.mem_of_getElem? (i := 577) (by decide +kernel), by decide +kernel⟩
theorem q454 : Cond.code yX3_atOrBehind cX3_atOrBehind 3 (some FieldType.int) ∈ AL := List.mem_filter.mpr ⟨List.mem_of_getElem? (i := 578) (by decide +kernel), by decide +kernel⟩
theorem q455 : Cond.methodLinkNest RX8 143 yX3_atOrBefore RX8 ∈ NL := List.mem_filter.mpr ⟨List.mem_of_getElem? (i := 579) (by decide +kernel), by decide +kernel⟩
theorem q457 : Cond.instanceMethod yX3_atOrBefore ∈ AL := List.mem_filter.mpr ⟨List.mem_of_getElem? (i := 581) (by decide +kernel), by decide +kernel⟩
theorem q458 : Cond.code yX3_atOrBefore cX3_atOrBefore 3 (some FieldType.int) ∈ AL := List.mem_filter.mpr ⟨List.mem_of_getElem? (i := 582) (by decide +kernel), by decide +kernel⟩
theorem q459 : Cond.methodLink RX3 62 yJ9_min_7cf53 ∈ AL := List.mem_filter.mpr ⟨List.mem_of_getElem? (i := 583) (by decide +kernel), by decide +kernel⟩
theorem q460 : Cond.static yJ9_min_7cf53 ∈ AL := List.mem_filter.mpr ⟨List.mem_of_getElem? (i := 584) (by decide +kernel), by decide +kernel⟩
theorem q461 : Cond.code yJ9_min_7cf53 cJ9_min_7cf53 2 (some FieldType.int) ∈ AL := List.mem_filter.mpr ⟨List.mem_of_getElem? (i := 585) (by decide +kernel), by decide +kernel⟩
theorem q462 : Cond.methodLink RL 54 yX8_record ∈ AL := List.mem_filter.mpr ⟨List.mem_of_getElem? (i := 586) (by decide +kernel), by decide +kernel⟩
theorem q463 : Cond.instanceMethod yX8_record ∈ AL := List.mem_filter.mpr ⟨List.mem_of_getElem? (i := 587) (by decide +kernel), by decide +kernel⟩
theorem q464 : Cond.selects RX8 yX8_record yX8_record ∈ AL := List.mem_filter.mpr ⟨List.mem_of_getElem? (i := 588) (by decide +kernel), by decide +kernel⟩
theorem q465 : Cond.code yX8_record cX8_record 5 (some FieldType.long) ∈ AL := List.mem_filter.mpr ⟨List.mem_of_getElem? (i := 589) (by decide +kernel), by decide +kernel⟩
theorem q466 : Cond.methodLinkNest RX8 146 yX3_has RX8 ∈ NL := List.mem_filter.mpr ⟨List.mem_of_getElem? (i := 590) (by decide +kernel), by decide +kernel⟩
theorem q468 : Cond.instanceMethod yX3_has ∈ AL := List.mem_filter.mpr ⟨List.mem_of_getElem? (i := 592) (by decide +kernel), by decide +kernel⟩
theorem q469 : Cond.code yX3_has cX3_has 2 (some FieldType.boolean) ∈ AL := List.mem_filter.mpr ⟨List.mem_of_getElem? (i := 593) (by decide +kernel), by decide +kernel⟩
theorem q470 : Cond.constantLong RX8 149 (-9223372036854775808) ∈ AL := List.mem_filter.mpr ⟨List.mem_of_getElem? (i := 594) (by decide +kernel), by decide +kernel⟩
theorem q471 : Cond.methodLinkNest RX8 166 yX3_segmentOf RX8 ∈ NL := List.mem_filter.mpr ⟨List.mem_of_getElem? (i := 595) (by decide +kernel), by decide +kernel⟩
theorem q473 : Cond.instanceMethod yX3_segmentOf ∈ AL := List.mem_filter.mpr ⟨List.mem_of_getElem? (i := 597) (by decide +kernel), by decide +kernel⟩
theorem q474 : Cond.code yX3_segmentOf cX3_segmentOf 3 (some FieldType.int) ∈ AL := List.mem_filter.mpr ⟨List.mem_of_getElem? (i := 598) (by decide +kernel), by decide +kernel⟩
theorem q475 : Cond.methodLink RL 59 yX8_segment ∈ AL := List.mem_filter.mpr ⟨List.mem_of_getElem? (i := 599) (by decide +kernel), by decide +kernel⟩
theorem q476 : Cond.instanceMethod yX8_segment ∈ AL := List.mem_filter.mpr ⟨List.mem_of_getElem? (i := 600) (by decide +kernel), by decide +kernel⟩
theorem q477 : Cond.selects RX8 yX8_segment yX8_segment ∈ AL := List.mem_filter.mpr ⟨List.mem_of_getElem? (i := 601) (by decide +kernel), by decide +kernel⟩
theorem q478 : Cond.code yX8_segment cX8_segment 5 (some FieldType.int) ∈ AL := List.mem_filter.mpr ⟨List.mem_of_getElem? (i := 602) (by decide +kernel), by decide +kernel⟩
theorem q479 : Cond.methodLinkNest RX8 172 yX3_segmentEnd RX8 ∈ NL := List.mem_filter.mpr ⟨List.mem_of_getElem? (i := 603) (by decide +kernel), by decide +kernel⟩
theorem q480 : Cond.methodLinkNest RX8 175 yX3_recordsIn RX8 ∈ NL := List.mem_filter.mpr ⟨List.mem_of_getElem? (i := 604) (by decide +kernel), by decide +kernel⟩
theorem q481 : Cond.methodLinkNest RX8 178 yX3_isClosed RX8 ∈ NL := List.mem_filter.mpr ⟨List.mem_of_getElem? (i := 605) (by decide +kernel), by decide +kernel⟩
theorem q482 : Cond.methodLink RL 63 yX8_value ∈ AL := List.mem_filter.mpr ⟨List.mem_of_getElem? (i := 606) (by decide +kernel), by decide +kernel⟩
theorem q483 : Cond.instanceMethod yX8_value ∈ AL := List.mem_filter.mpr ⟨List.mem_of_getElem? (i := 607) (by decide +kernel), by decide +kernel⟩
theorem q484 : Cond.selects RX8 yX8_value yX8_value ∈ AL := List.mem_filter.mpr ⟨List.mem_of_getElem? (i := 608) (by decide +kernel), by decide +kernel⟩
theorem q485 : Cond.code yX8_value cX8_value 3 (some FieldType.long) ∈ AL := List.mem_filter.mpr ⟨List.mem_of_getElem? (i := 609) (by decide +kernel), by decide +kernel⟩
theorem q486 : Cond.methodLinkNest RX8 184 yX3_mapValue RX8 ∈ NL := List.mem_filter.mpr ⟨List.mem_of_getElem? (i := 610) (by decide +kernel), by decide +kernel⟩
theorem q488 : Cond.instanceMethod yX3_mapValue ∈ AL := List.mem_filter.mpr ⟨List.mem_of_getElem? (i := 612) (by decide +kernel), by decide +kernel⟩
theorem q489 : Cond.code yX3_mapValue cX3_mapValue 3 (some FieldType.long) ∈ AL := List.mem_filter.mpr ⟨List.mem_of_getElem? (i := 613) (by decide +kernel), by decide +kernel⟩
theorem q490 : Cond.constantLong RX3 98 (-9223372036854775808) ∈ AL := List.mem_filter.mpr ⟨List.mem_of_getElem? (i := 614) (by decide +kernel), by decide +kernel⟩
theorem q491 : Cond.methodLink RL 68 yX8_map ∈ AL := List.mem_filter.mpr ⟨List.mem_of_getElem? (i := 615) (by decide +kernel), by decide +kernel⟩
theorem q492 : Cond.instanceMethod yX8_map ∈ AL := List.mem_filter.mpr ⟨List.mem_of_getElem? (i := 616) (by decide +kernel), by decide +kernel⟩
theorem q493 : Cond.selects RX8 yX8_map yX8_map ∈ AL := List.mem_filter.mpr ⟨List.mem_of_getElem? (i := 617) (by decide +kernel), by decide +kernel⟩
theorem q494 : Cond.code yX8_map cX8_map 4 (some FieldType.long) ∈ AL := List.mem_filter.mpr ⟨List.mem_of_getElem? (i := 618) (by decide +kernel), by decide +kernel⟩
theorem q495 : Cond.methodLinkNest RX8 188 yX3_mapSum RX8 ∈ NL := List.mem_filter.mpr ⟨List.mem_of_getElem? (i := 619) (by decide +kernel), by decide +kernel⟩
theorem q497 : Cond.instanceMethod yX3_mapSum ∈ AL := List.mem_filter.mpr ⟨List.mem_of_getElem? (i := 621) (by decide +kernel), by decide +kernel⟩
theorem q498 : Cond.code yX3_mapSum cX3_mapSum 3 (some FieldType.int) ∈ AL := List.mem_filter.mpr ⟨List.mem_of_getElem? (i := 622) (by decide +kernel), by decide +kernel⟩
theorem q499 : Cond.methodLink RX3 112 yX3_summand ∈ AL := List.mem_filter.mpr ⟨List.mem_of_getElem? (i := 623) (by decide +kernel), by decide +kernel⟩
theorem q501 : Cond.instanceMethod yX3_summand ∈ AL := List.mem_filter.mpr ⟨List.mem_of_getElem? (i := 625) (by decide +kernel), by decide +kernel⟩
theorem q502 : Cond.code yX3_summand cX3_summand 3 (some FieldType.float) ∈ AL := List.mem_filter.mpr ⟨List.mem_of_getElem? (i := 626) (by decide +kernel), by decide +kernel⟩
theorem q503 : Cond.methodLinkNest RX3 100 yX0_isFinite RX8 ∈ NL := List.mem_filter.mpr ⟨List.mem_of_getElem? (i := 627) (by decide +kernel), by decide +kernel⟩
theorem q504 : Cond.static yX0_isFinite ∈ AL := List.mem_filter.mpr ⟨List.mem_of_getElem? (i := 628) (by decide +kernel), by decide +kernel⟩
theorem q505 : Cond.code yX0_isFinite cX0_isFinite 1 (some FieldType.boolean) ∈ AL := List.mem_filter.mpr ⟨List.mem_of_getElem? (i := 629) (by decide +kernel), by decide +kernel⟩
theorem q506 : Cond.methodLinkNest RX3 108 yX0_floatOf RX8 ∈ NL := List.mem_filter.mpr ⟨List.mem_of_getElem? (i := 630) (by decide +kernel), by decide +kernel⟩
theorem q507 : Cond.static yX0_floatOf ∈ AL := List.mem_filter.mpr ⟨List.mem_of_getElem? (i := 631) (by decide +kernel), by decide +kernel⟩
theorem q508 : Cond.code yX0_floatOf cX0_floatOf 4 (some FieldType.float) ∈ AL := List.mem_filter.mpr ⟨List.mem_of_getElem? (i := 632) (by decide +kernel), by decide +kernel⟩
theorem q509 : Cond.constant RX0 24 8388607 ∈ AL := List.mem_filter.mpr ⟨List.mem_of_getElem? (i := 633) (by decide +kernel), by decide +kernel⟩
theorem q510 : Cond.constant RX0 25 8388608 ∈ AL := List.mem_filter.mpr ⟨List.mem_of_getElem? (i := 634) (by decide +kernel), by decide +kernel⟩
theorem q511 : Cond.constantFloat RX0 26 1056964608 ∈ AL := List.mem_filter.mpr ⟨List.mem_of_getElem? (i := 635) (by decide +kernel), by decide +kernel⟩
theorem q512 : Cond.methodLink RX3 115 yX3_oddSum ∈ AL := List.mem_filter.mpr ⟨List.mem_of_getElem? (i := 636) (by decide +kernel), by decide +kernel⟩
theorem q514 : Cond.instanceMethod yX3_oddSum ∈ AL := List.mem_filter.mpr ⟨List.mem_of_getElem? (i := 638) (by decide +kernel), by decide +kernel⟩
theorem q515 : Cond.code yX3_oddSum cX3_oddSum 4 (some FieldType.int) ∈ AL := List.mem_filter.mpr ⟨List.mem_of_getElem? (i := 639) (by decide +kernel), by decide +kernel⟩
theorem q516 : Cond.methodLinkNest RX3 105 yX0_oddSum RX8 ∈ NL := List.mem_filter.mpr ⟨List.mem_of_getElem? (i := 640) (by decide +kernel), by decide +kernel⟩
theorem q517 : Cond.static yX0_oddSum ∈ AL := List.mem_filter.mpr ⟨List.mem_of_getElem? (i := 641) (by decide +kernel), by decide +kernel⟩
theorem q518 : Cond.code yX0_oddSum cX0_oddSum 2 (some FieldType.int) ∈ AL := List.mem_filter.mpr ⟨List.mem_of_getElem? (i := 642) (by decide +kernel), by decide +kernel⟩
theorem q519 : Cond.methodLinkNest RX3 118 yX0_bitsOfFloat RX8 ∈ NL := List.mem_filter.mpr ⟨List.mem_of_getElem? (i := 643) (by decide +kernel), by decide +kernel⟩
theorem q520 : Cond.methodLinkNest RX8 191 yX3_mapLeast RX8 ∈ NL := List.mem_filter.mpr ⟨List.mem_of_getElem? (i := 644) (by decide +kernel), by decide +kernel⟩
theorem q522 : Cond.instanceMethod yX3_mapLeast ∈ AL := List.mem_filter.mpr ⟨List.mem_of_getElem? (i := 646) (by decide +kernel), by decide +kernel⟩
theorem q523 : Cond.code yX3_mapLeast cX3_mapLeast 4 (some FieldType.long) ∈ AL := List.mem_filter.mpr ⟨List.mem_of_getElem? (i := 647) (by decide +kernel), by decide +kernel⟩
theorem q524 : Cond.methodLink RX3 133 yX3_rankAt ∈ AL := List.mem_filter.mpr ⟨List.mem_of_getElem? (i := 648) (by decide +kernel), by decide +kernel⟩
theorem q526 : Cond.instanceMethod yX3_rankAt ∈ AL := List.mem_filter.mpr ⟨List.mem_of_getElem? (i := 650) (by decide +kernel), by decide +kernel⟩
theorem q527 : Cond.code yX3_rankAt cX3_rankAt 2 (some FieldType.int) ∈ AL := List.mem_filter.mpr ⟨List.mem_of_getElem? (i := 651) (by decide +kernel), by decide +kernel⟩
theorem q528 : Cond.methodLinkNest RX3 136 yX0_rank RX8 ∈ NL := List.mem_filter.mpr ⟨List.mem_of_getElem? (i := 652) (by decide +kernel), by decide +kernel⟩
theorem q529 : Cond.static yX0_rank ∈ AL := List.mem_filter.mpr ⟨List.mem_of_getElem? (i := 653) (by decide +kernel), by decide +kernel⟩
theorem q530 : Cond.code yX0_rank cX0_rank 1 (some FieldType.int) ∈ AL := List.mem_filter.mpr ⟨List.mem_of_getElem? (i := 654) (by decide +kernel), by decide +kernel⟩
theorem q531 : Cond.constant RX0 23 2147483647 ∈ AL := List.mem_filter.mpr ⟨List.mem_of_getElem? (i := 655) (by decide +kernel), by decide +kernel⟩
theorem q532 : Cond.methodLinkNest RX8 195 yX3_mapGreatest RX8 ∈ NL := List.mem_filter.mpr ⟨List.mem_of_getElem? (i := 656) (by decide +kernel), by decide +kernel⟩
theorem q534 : Cond.instanceMethod yX3_mapGreatest ∈ AL := List.mem_filter.mpr ⟨List.mem_of_getElem? (i := 658) (by decide +kernel), by decide +kernel⟩
theorem q535 : Cond.code yX3_mapGreatest cX3_mapGreatest 4 (some FieldType.long) ∈ AL := List.mem_filter.mpr ⟨List.mem_of_getElem? (i := 659) (by decide +kernel), by decide +kernel⟩
theorem q536 : Cond.methodLinkNest RX8 198 yX3_mapMean RX8 ∈ NL := List.mem_filter.mpr ⟨List.mem_of_getElem? (i := 660) (by decide +kernel), by decide +kernel⟩
theorem q538 : Cond.instanceMethod yX3_mapMean ∈ AL := List.mem_filter.mpr ⟨List.mem_of_getElem? (i := 662) (by decide +kernel), by decide +kernel⟩
theorem q539 : Cond.code yX3_mapMean cX3_mapMean 6 (some FieldType.long) ∈ AL := List.mem_filter.mpr ⟨List.mem_of_getElem? (i := 663) (by decide +kernel), by decide +kernel⟩
theorem q540 : Cond.methodLink RX3 122 yX3_mapSize ∈ AL := List.mem_filter.mpr ⟨List.mem_of_getElem? (i := 664) (by decide +kernel), by decide +kernel⟩
theorem q541 : Cond.methodLinkNest RX3 125 yX0_widened RX8 ∈ NL := List.mem_filter.mpr ⟨List.mem_of_getElem? (i := 665) (by decide +kernel), by decide +kernel⟩
theorem q542 : Cond.static yX0_widened ∈ AL := List.mem_filter.mpr ⟨List.mem_of_getElem? (i := 666) (by decide +kernel), by decide +kernel⟩
theorem q543 : Cond.code yX0_widened cX0_widened 1 (some FieldType.long) ∈ AL := List.mem_filter.mpr ⟨List.mem_of_getElem? (i := 667) (by decide +kernel), by decide +kernel⟩
theorem q544 : Cond.constantLong RX0 17 9221120237041090560 ∈ AL := List.mem_filter.mpr ⟨List.mem_of_getElem? (i := 668) (by decide +kernel), by decide +kernel⟩
theorem q545 : Cond.constantLong RX0 19 (-4503599627370496) ∈ AL := List.mem_filter.mpr ⟨List.mem_of_getElem? (i := 669) (by decide +kernel), by decide +kernel⟩
theorem q546 : Cond.constantLong RX0 21 9218868437227405312 ∈ AL := List.mem_filter.mpr ⟨List.mem_of_getElem? (i := 670) (by decide +kernel), by decide +kernel⟩
theorem q547 : Cond.methodLinkNest RX3 129 yX0_bitsOfDouble RX8 ∈ NL := List.mem_filter.mpr ⟨List.mem_of_getElem? (i := 671) (by decide +kernel), by decide +kernel⟩
theorem q548 : Cond.static yX0_bitsOfDouble ∈ AL := List.mem_filter.mpr ⟨List.mem_of_getElem? (i := 672) (by decide +kernel), by decide +kernel⟩
theorem q549 : Cond.code yX0_bitsOfDouble cX0_bitsOfDouble 4 (some FieldType.long) ∈ AL := List.mem_filter.mpr ⟨List.mem_of_getElem? (i := 673) (by decide +kernel), by decide +kernel⟩
theorem q550 : Cond.constantLong RX0 33 (-9223372036854775808) ∈ AL := List.mem_filter.mpr ⟨List.mem_of_getElem? (i := 674) (by decide +kernel), by decide +kernel⟩
theorem q551 : Cond.methodLink RL 72 yX8_replay ∈ AL := List.mem_filter.mpr ⟨List.mem_of_getElem? (i := 675) (by decide +kernel), by decide +kernel⟩
theorem q552 : Cond.instanceMethod yX8_replay ∈ AL := List.mem_filter.mpr ⟨List.mem_of_getElem? (i := 676) (by decide +kernel), by decide +kernel⟩
theorem q553 : Cond.selects RX8 yX8_replay yX8_replay ∈ AL := List.mem_filter.mpr ⟨List.mem_of_getElem? (i := 677) (by decide +kernel), by decide +kernel⟩
theorem q554 : Cond.code yX8_replay cX8_replay 4 (some FieldType.long) ∈ AL := List.mem_filter.mpr ⟨List.mem_of_getElem? (i := 678) (by decide +kernel), by decide +kernel⟩
theorem q555 : Cond.methodLink RL 76 yX8_near ∈ AL := List.mem_filter.mpr ⟨List.mem_of_getElem? (i := 679) (by decide +kernel), by decide +kernel⟩
theorem q556 : Cond.instanceMethod yX8_near ∈ AL := List.mem_filter.mpr ⟨List.mem_of_getElem? (i := 680) (by decide +kernel), by decide +kernel⟩
theorem q557 : Cond.selects RX8 yX8_near yX8_near ∈ AL := List.mem_filter.mpr ⟨List.mem_of_getElem? (i := 681) (by decide +kernel), by decide +kernel⟩
theorem q558 : Cond.code yX8_near cX8_near 4 (some FieldType.int) ∈ AL := List.mem_filter.mpr ⟨List.mem_of_getElem? (i := 682) (by decide +kernel), by decide +kernel⟩
theorem q559 : Cond.methodLink RL 80 yX8_oldest ∈ AL := List.mem_filter.mpr ⟨List.mem_of_getElem? (i := 683) (by decide +kernel), by decide +kernel⟩
theorem q560 : Cond.instanceMethod yX8_oldest ∈ AL := List.mem_filter.mpr ⟨List.mem_of_getElem? (i := 684) (by decide +kernel), by decide +kernel⟩
theorem q561 : Cond.selects RX8 yX8_oldest yX8_oldest ∈ AL := List.mem_filter.mpr ⟨List.mem_of_getElem? (i := 685) (by decide +kernel), by decide +kernel⟩
theorem q562 : Cond.code yX8_oldest cX8_oldest 3 (some FieldType.int) ∈ AL := List.mem_filter.mpr ⟨List.mem_of_getElem? (i := 686) (by decide +kernel), by decide +kernel⟩
theorem q563 : Cond.methodLinkNest RX8 201 yX3_byAge RX8 ∈ NL := List.mem_filter.mpr ⟨List.mem_of_getElem? (i := 687) (by decide +kernel), by decide +kernel⟩
theorem q565 : Cond.instanceMethod yX3_byAge ∈ AL := List.mem_filter.mpr ⟨List.mem_of_getElem? (i := 689) (by decide +kernel), by decide +kernel⟩
theorem q566 : Cond.code yX3_byAge cX3_byAge 6 (some FieldType.int) ∈ AL := List.mem_filter.mpr ⟨List.mem_of_getElem? (i := 690) (by decide +kernel), by decide +kernel⟩
theorem q567 : Cond.methodLink RX3 139 yX3_likeTimesEnd ∈ AL := List.mem_filter.mpr ⟨List.mem_of_getElem? (i := 691) (by decide +kernel), by decide +kernel⟩
theorem q569 : Cond.instanceMethod yX3_likeTimesEnd ∈ AL := List.mem_filter.mpr ⟨List.mem_of_getElem? (i := 693) (by decide +kernel), by decide +kernel⟩
theorem q570 : Cond.code yX3_likeTimesEnd cX3_likeTimesEnd 3 (some FieldType.int) ∈ AL := List.mem_filter.mpr ⟨List.mem_of_getElem? (i := 694) (by decide +kernel), by decide +kernel⟩
theorem q571 : Cond.methodLink RX3 142 yX3_bySize ∈ AL := List.mem_filter.mpr ⟨List.mem_of_getElem? (i := 695) (by decide +kernel), by decide +kernel⟩
theorem q573 : Cond.instanceMethod yX3_bySize ∈ AL := List.mem_filter.mpr ⟨List.mem_of_getElem? (i := 697) (by decide +kernel), by decide +kernel⟩
theorem q574 : Cond.code yX3_bySize cX3_bySize 7 (some FieldType.int) ∈ AL := List.mem_filter.mpr ⟨List.mem_of_getElem? (i := 698) (by decide +kernel), by decide +kernel⟩
theorem q575 : Cond.methodLink RL 84 yX8_would ∈ AL := List.mem_filter.mpr ⟨List.mem_of_getElem? (i := 699) (by decide +kernel), by decide +kernel⟩
theorem q576 : Cond.instanceMethod yX8_would ∈ AL := List.mem_filter.mpr ⟨List.mem_of_getElem? (i := 700) (by decide +kernel), by decide +kernel⟩
theorem q577 : Cond.selects RX8 yX8_would yX8_would ∈ AL := List.mem_filter.mpr ⟨List.mem_of_getElem? (i := 701) (by decide +kernel), by decide +kernel⟩
theorem q578 : Cond.code yX8_would cX8_would 4 (some FieldType.int) ∈ AL := List.mem_filter.mpr ⟨List.mem_of_getElem? (i := 702) (by decide +kernel), by decide +kernel⟩
theorem q579 : Cond.methodLinkNest RX8 204 yX3_goneIfCompacted RX8 ∈ NL := List.mem_filter.mpr ⟨List.mem_of_getElem? (i := 703) (by decide +kernel), by decide +kernel⟩
theorem q581 : Cond.instanceMethod yX3_goneIfCompacted ∈ AL := List.mem_filter.mpr ⟨List.mem_of_getElem? (i := 705) (by decide +kernel), by decide +kernel⟩
theorem q582 : Cond.code yX3_goneIfCompacted cX3_goneIfCompacted 5 (some FieldType.int) ∈ AL := List.mem_filter.mpr ⟨List.mem_of_getElem? (i := 706) (by decide +kernel), by decide +kernel⟩
theorem q583 : Cond.methodLinkNest RX8 207 yX3_goneIfRetained RX8 ∈ NL := List.mem_filter.mpr ⟨List.mem_of_getElem? (i := 707) (by decide +kernel), by decide +kernel⟩
theorem q585 : Cond.instanceMethod yX3_goneIfRetained ∈ AL := List.mem_filter.mpr ⟨List.mem_of_getElem? (i := 709) (by decide +kernel), by decide +kernel⟩
theorem q586 : Cond.code yX3_goneIfRetained cX3_goneIfRetained 4 (some FieldType.int) ∈ AL := List.mem_filter.mpr ⟨List.mem_of_getElem? (i := 710) (by decide +kernel), by decide +kernel⟩
theorem q587 : Cond.methodLink RL 88 yX8_need ∈ AL := List.mem_filter.mpr ⟨List.mem_of_getElem? (i := 711) (by decide +kernel), by decide +kernel⟩
theorem q588 : Cond.instanceMethod yX8_need ∈ AL := List.mem_filter.mpr ⟨List.mem_of_getElem? (i := 712) (by decide +kernel), by decide +kernel⟩
theorem q589 : Cond.selects RX8 yX8_need yX8_need ∈ AL := List.mem_filter.mpr ⟨List.mem_of_getElem? (i := 713) (by decide +kernel), by decide +kernel⟩
theorem q590 : Cond.code yX8_need cX8_need 3 (some FieldType.int) ∈ AL := List.mem_filter.mpr ⟨List.mem_of_getElem? (i := 714) (by decide +kernel), by decide +kernel⟩
theorem q591 : Cond.methodLink RX8 210 yX8_leastKeep ∈ AL := List.mem_filter.mpr ⟨List.mem_of_getElem? (i := 715) (by decide +kernel), by decide +kernel⟩
theorem q593 : Cond.instanceMethod yX8_leastKeep ∈ AL := List.mem_filter.mpr ⟨List.mem_of_getElem? (i := 717) (by decide +kernel), by decide +kernel⟩
theorem q594 : Cond.code yX8_leastKeep cX8_leastKeep 7 (some FieldType.int) ∈ AL := List.mem_filter.mpr ⟨List.mem_of_getElem? (i := 718) (by decide +kernel), by decide +kernel⟩
theorem q595 : Cond.methodLinkNest RX8 348 yX3_leftIfRetained RX8 ∈ NL := List.mem_filter.mpr ⟨List.mem_of_getElem? (i := 719) (by decide +kernel), by decide +kernel⟩
theorem q597 : Cond.instanceMethod yX3_leftIfRetained ∈ AL := List.mem_filter.mpr ⟨List.mem_of_getElem? (i := 721) (by decide +kernel), by decide +kernel⟩
theorem q598 : Cond.code yX3_leftIfRetained cX3_leftIfRetained 4 (some FieldType.int) ∈ AL := List.mem_filter.mpr ⟨List.mem_of_getElem? (i := 722) (by decide +kernel), by decide +kernel⟩
theorem q599 : Cond.methodLink RL 92 yX8_join ∈ AL := List.mem_filter.mpr ⟨List.mem_of_getElem? (i := 723) (by decide +kernel), by decide +kernel⟩
theorem q600 : Cond.instanceMethod yX8_join ∈ AL := List.mem_filter.mpr ⟨List.mem_of_getElem? (i := 724) (by decide +kernel), by decide +kernel⟩
theorem q601 : Cond.selects RX8 yX8_join yX8_join ∈ AL := List.mem_filter.mpr ⟨List.mem_of_getElem? (i := 725) (by decide +kernel), by decide +kernel⟩
theorem q602 : Cond.code yX8_join cX8_join 2 (some FieldType.int) ∈ AL := List.mem_filter.mpr ⟨List.mem_of_getElem? (i := 726) (by decide +kernel), by decide +kernel⟩
theorem q603 : Cond.methodLink RX8 214 yX8_isMember ∈ AL := List.mem_filter.mpr ⟨List.mem_of_getElem? (i := 727) (by decide +kernel), by decide +kernel⟩
theorem q604 : Cond.static yX8_isMember ∈ AL := List.mem_filter.mpr ⟨List.mem_of_getElem? (i := 728) (by decide +kernel), by decide +kernel⟩
theorem q605 : Cond.code yX8_isMember cX8_isMember 1 (some FieldType.boolean) ∈ AL := List.mem_filter.mpr ⟨List.mem_of_getElem? (i := 729) (by decide +kernel), by decide +kernel⟩
theorem q606 : Cond.methodLinkNest RX8 221 yX1_changed RX8 ∈ NL := List.mem_filter.mpr ⟨List.mem_of_getElem? (i := 730) (by decide +kernel), by decide +kernel⟩
theorem q608 : Cond.instanceMethod yX1_changed ∈ AL := List.mem_filter.mpr ⟨List.mem_of_getElem? (i := 732) (by decide +kernel), by decide +kernel⟩
theorem q609 : Cond.code yX1_changed cX1_changed 5 (some FieldType.int) ∈ AL := List.mem_filter.mpr ⟨List.mem_of_getElem? (i := 733) (by decide +kernel), by decide +kernel⟩
theorem q610 : Cond.methodLink RX1 25 ⟨"java/lang/System", "arraycopy", "(Ljava/lang/Object;ILjava/lang/Object;II)V"⟩ ∈ AL := List.mem_filter.mpr ⟨List.mem_of_getElem? (i := 734) (by decide +kernel), by decide +kernel⟩
theorem q611 : Cond.static ⟨"java/lang/System", "arraycopy", "(Ljava/lang/Object;ILjava/lang/Object;II)V"⟩ ∈ AL := List.mem_filter.mpr ⟨List.mem_of_getElem? (i := 735) (by decide +kernel), by decide +kernel⟩
theorem q612 : Cond.native ⟨"java/lang/System", "arraycopy", "(Ljava/lang/Object;ILjava/lang/Object;II)V"⟩ ∈ AL := List.mem_filter.mpr ⟨List.mem_of_getElem? (i := 736) (by decide +kernel), by decide +kernel⟩
theorem q613 : Cond.methodLink RX1 60 yX1_freeLogsOfAbsent ∈ AL := List.mem_filter.mpr ⟨List.mem_of_getElem? (i := 737) (by decide +kernel), by decide +kernel⟩
theorem q615 : Cond.instanceMethod yX1_freeLogsOfAbsent ∈ AL := List.mem_filter.mpr ⟨List.mem_of_getElem? (i := 739) (by decide +kernel), by decide +kernel⟩
theorem q616 : Cond.code yX1_freeLogsOfAbsent cX1_freeLogsOfAbsent 2 none ∈ AL := List.mem_filter.mpr ⟨List.mem_of_getElem? (i := 740) (by decide +kernel), by decide +kernel⟩
theorem q617 : Cond.methodLink RX1 63 yX1_membersIn ∈ AL := List.mem_filter.mpr ⟨List.mem_of_getElem? (i := 741) (by decide +kernel), by decide +kernel⟩
theorem q619 : Cond.instanceMethod yX1_membersIn ∈ AL := List.mem_filter.mpr ⟨List.mem_of_getElem? (i := 743) (by decide +kernel), by decide +kernel⟩
theorem q620 : Cond.code yX1_membersIn cX1_membersIn 1 (some FieldType.int) ∈ AL := List.mem_filter.mpr ⟨List.mem_of_getElem? (i := 744) (by decide +kernel), by decide +kernel⟩
theorem q621 : Cond.methodLink RX1 35 yX1_inBits ∈ AL := List.mem_filter.mpr ⟨List.mem_of_getElem? (i := 745) (by decide +kernel), by decide +kernel⟩
theorem q623 : Cond.instanceMethod yX1_inBits ∈ AL := List.mem_filter.mpr ⟨List.mem_of_getElem? (i := 747) (by decide +kernel), by decide +kernel⟩
theorem q624 : Cond.code yX1_inBits cX1_inBits 3 (some FieldType.int) ∈ AL := List.mem_filter.mpr ⟨List.mem_of_getElem? (i := 748) (by decide +kernel), by decide +kernel⟩
theorem q625 : Cond.methodLink RX1 39 yJ6_bitCount_0f7a4 ∈ AL := List.mem_filter.mpr ⟨List.mem_of_getElem? (i := 749) (by decide +kernel), by decide +kernel⟩
theorem q626 : Cond.static yJ6_bitCount_0f7a4 ∈ AL := List.mem_filter.mpr ⟨List.mem_of_getElem? (i := 750) (by decide +kernel), by decide +kernel⟩
theorem q627 : Cond.code yJ6_bitCount_0f7a4 cJ6_bitCount_0f7a4 1 (some FieldType.int) ∈ AL := List.mem_filter.mpr ⟨List.mem_of_getElem? (i := 751) (by decide +kernel), by decide +kernel⟩
theorem q628 : Cond.constant RJ6 265 1431655765 ∈ AL := List.mem_filter.mpr ⟨List.mem_of_getElem? (i := 752) (by decide +kernel), by decide +kernel⟩
theorem q629 : Cond.constant RJ6 266 858993459 ∈ AL := List.mem_filter.mpr ⟨List.mem_of_getElem? (i := 753) (by decide +kernel), by decide +kernel⟩
theorem q630 : Cond.constant RJ6 267 252645135 ∈ AL := List.mem_filter.mpr ⟨List.mem_of_getElem? (i := 754) (by decide +kernel), by decide +kernel⟩
theorem q631 : Cond.methodLink RX1 66 yX1_freeLogsBeyond ∈ AL := List.mem_filter.mpr ⟨List.mem_of_getElem? (i := 755) (by decide +kernel), by decide +kernel⟩
theorem q633 : Cond.instanceMethod yX1_freeLogsBeyond ∈ AL := List.mem_filter.mpr ⟨List.mem_of_getElem? (i := 757) (by decide +kernel), by decide +kernel⟩
theorem q634 : Cond.code yX1_freeLogsBeyond cX1_freeLogsBeyond 6 none ∈ AL := List.mem_filter.mpr ⟨List.mem_of_getElem? (i := 758) (by decide +kernel), by decide +kernel⟩
theorem q635 : Cond.methodLink RX1 76 yX1_logsOf ∈ AL := List.mem_filter.mpr ⟨List.mem_of_getElem? (i := 759) (by decide +kernel), by decide +kernel⟩
theorem q637 : Cond.instanceMethod yX1_logsOf ∈ AL := List.mem_filter.mpr ⟨List.mem_of_getElem? (i := 761) (by decide +kernel), by decide +kernel⟩
theorem q638 : Cond.code yX1_logsOf cX1_logsOf 2 (some FieldType.int) ∈ AL := List.mem_filter.mpr ⟨List.mem_of_getElem? (i := 762) (by decide +kernel), by decide +kernel⟩
theorem q639 : Cond.methodLink RX1 45 yX1_logBits ∈ AL := List.mem_filter.mpr ⟨List.mem_of_getElem? (i := 763) (by decide +kernel), by decide +kernel⟩
theorem q641 : Cond.instanceMethod yX1_logBits ∈ AL := List.mem_filter.mpr ⟨List.mem_of_getElem? (i := 765) (by decide +kernel), by decide +kernel⟩
theorem q642 : Cond.code yX1_logBits cX1_logBits 4 (some FieldType.int) ∈ AL := List.mem_filter.mpr ⟨List.mem_of_getElem? (i := 766) (by decide +kernel), by decide +kernel⟩
theorem q643 : Cond.methodLink RX1 79 yX1_freeAllButLeast ∈ AL := List.mem_filter.mpr ⟨List.mem_of_getElem? (i := 767) (by decide +kernel), by decide +kernel⟩
theorem q645 : Cond.instanceMethod yX1_freeAllButLeast ∈ AL := List.mem_filter.mpr ⟨List.mem_of_getElem? (i := 769) (by decide +kernel), by decide +kernel⟩
theorem q646 : Cond.code yX1_freeAllButLeast cX1_freeAllButLeast 5 none ∈ AL := List.mem_filter.mpr ⟨List.mem_of_getElem? (i := 770) (by decide +kernel), by decide +kernel⟩
theorem q647 : Cond.methodLink RX1 70 yX1_giveFreeLogs ∈ AL := List.mem_filter.mpr ⟨List.mem_of_getElem? (i := 771) (by decide +kernel), by decide +kernel⟩
theorem q649 : Cond.instanceMethod yX1_giveFreeLogs ∈ AL := List.mem_filter.mpr ⟨List.mem_of_getElem? (i := 773) (by decide +kernel), by decide +kernel⟩
theorem q650 : Cond.code yX1_giveFreeLogs cX1_giveFreeLogs 2 none ∈ AL := List.mem_filter.mpr ⟨List.mem_of_getElem? (i := 774) (by decide +kernel), by decide +kernel⟩
theorem q651 : Cond.methodLink RX1 82 yX1_leastLaden ∈ AL := List.mem_filter.mpr ⟨List.mem_of_getElem? (i := 775) (by decide +kernel), by decide +kernel⟩
theorem q653 : Cond.instanceMethod yX1_leastLaden ∈ AL := List.mem_filter.mpr ⟨List.mem_of_getElem? (i := 777) (by decide +kernel), by decide +kernel⟩
theorem q654 : Cond.code yX1_leastLaden cX1_leastLaden 3 (some FieldType.int) ∈ AL := List.mem_filter.mpr ⟨List.mem_of_getElem? (i := 778) (by decide +kernel), by decide +kernel⟩
theorem q655 : Cond.methodLink RX1 73 yX1_moves ∈ AL := List.mem_filter.mpr ⟨List.mem_of_getElem? (i := 779) (by decide +kernel), by decide +kernel⟩
theorem q657 : Cond.instanceMethod yX1_moves ∈ AL := List.mem_filter.mpr ⟨List.mem_of_getElem? (i := 781) (by decide +kernel), by decide +kernel⟩
theorem q658 : Cond.code yX1_moves cX1_moves 3 (some FieldType.int) ∈ AL := List.mem_filter.mpr ⟨List.mem_of_getElem? (i := 782) (by decide +kernel), by decide +kernel⟩
theorem q659 : Cond.methodLink RL 96 yX8_leave ∈ AL := List.mem_filter.mpr ⟨List.mem_of_getElem? (i := 783) (by decide +kernel), by decide +kernel⟩
theorem q660 : Cond.instanceMethod yX8_leave ∈ AL := List.mem_filter.mpr ⟨List.mem_of_getElem? (i := 784) (by decide +kernel), by decide +kernel⟩
theorem q661 : Cond.selects RX8 yX8_leave yX8_leave ∈ AL := List.mem_filter.mpr ⟨List.mem_of_getElem? (i := 785) (by decide +kernel), by decide +kernel⟩
theorem q662 : Cond.code yX8_leave cX8_leave 2 (some FieldType.int) ∈ AL := List.mem_filter.mpr ⟨List.mem_of_getElem? (i := 786) (by decide +kernel), by decide +kernel⟩
theorem q663 : Cond.methodLink RL 100 yX8_poll ∈ AL := List.mem_filter.mpr ⟨List.mem_of_getElem? (i := 787) (by decide +kernel), by decide +kernel⟩
theorem q664 : Cond.instanceMethod yX8_poll ∈ AL := List.mem_filter.mpr ⟨List.mem_of_getElem? (i := 788) (by decide +kernel), by decide +kernel⟩
theorem q665 : Cond.selects RX8 yX8_poll yX8_poll ∈ AL := List.mem_filter.mpr ⟨List.mem_of_getElem? (i := 789) (by decide +kernel), by decide +kernel⟩
theorem q666 : Cond.code yX8_poll cX8_poll 2 (some FieldType.int) ∈ AL := List.mem_filter.mpr ⟨List.mem_of_getElem? (i := 790) (by decide +kernel), by decide +kernel⟩
theorem q667 : Cond.methodLinkNest RX8 225 yX1_polled RX8 ∈ NL := List.mem_filter.mpr ⟨List.mem_of_getElem? (i := 791) (by decide +kernel), by decide +kernel⟩
theorem q669 : Cond.instanceMethod yX1_polled ∈ AL := List.mem_filter.mpr ⟨List.mem_of_getElem? (i := 793) (by decide +kernel), by decide +kernel⟩
theorem q670 : Cond.code yX1_polled cX1_polled 5 (some FieldType.int) ∈ AL := List.mem_filter.mpr ⟨List.mem_of_getElem? (i := 794) (by decide +kernel), by decide +kernel⟩
theorem q671 : Cond.methodLinkNest RX1 57 yX3_atOrBehind RX8 ∈ NL := List.mem_filter.mpr ⟨List.mem_of_getElem? (i := 795) (by decide +kernel), by decide +kernel⟩
theorem q672 : Cond.methodLink RL 104 yX8_seek ∈ AL := List.mem_filter.mpr ⟨List.mem_of_getElem? (i := 796) (by decide +kernel), by decide +kernel⟩
theorem q673 : Cond.instanceMethod yX8_seek ∈ AL := List.mem_filter.mpr ⟨List.mem_of_getElem? (i := 797) (by decide +kernel), by decide +kernel⟩
theorem q674 : Cond.selects RX8 yX8_seek yX8_seek ∈ AL := List.mem_filter.mpr ⟨List.mem_of_getElem? (i := 798) (by decide +kernel), by decide +kernel⟩
theorem q675 : Cond.code yX8_seek cX8_seek 4 (some FieldType.int) ∈ AL := List.mem_filter.mpr ⟨List.mem_of_getElem? (i := 799) (by decide +kernel), by decide +kernel⟩
theorem q676 : Cond.methodLink RL 108 yX8_member ∈ AL := List.mem_filter.mpr ⟨List.mem_of_getElem? (i := 800) (by decide +kernel), by decide +kernel⟩
theorem q677 : Cond.instanceMethod yX8_member ∈ AL := List.mem_filter.mpr ⟨List.mem_of_getElem? (i := 801) (by decide +kernel), by decide +kernel⟩
theorem q678 : Cond.selects RX8 yX8_member yX8_member ∈ AL := List.mem_filter.mpr ⟨List.mem_of_getElem? (i := 802) (by decide +kernel), by decide +kernel⟩
theorem q679 : Cond.code yX8_member cX8_member 3 (some FieldType.int) ∈ AL := List.mem_filter.mpr ⟨List.mem_of_getElem? (i := 803) (by decide +kernel), by decide +kernel⟩
theorem q680 : Cond.methodLinkNest RX8 229 yX1_logBits RX8 ∈ NL := List.mem_filter.mpr ⟨List.mem_of_getElem? (i := 804) (by decide +kernel), by decide +kernel⟩
theorem q681 : Cond.methodLinkNest RX8 232 yX1_lag RX8 ∈ NL := List.mem_filter.mpr ⟨List.mem_of_getElem? (i := 805) (by decide +kernel), by decide +kernel⟩
theorem q683 : Cond.instanceMethod yX1_lag ∈ AL := List.mem_filter.mpr ⟨List.mem_of_getElem? (i := 807) (by decide +kernel), by decide +kernel⟩
theorem q684 : Cond.code yX1_lag cX1_lag 5 (some FieldType.int) ∈ AL := List.mem_filter.mpr ⟨List.mem_of_getElem? (i := 808) (by decide +kernel), by decide +kernel⟩
theorem q685 : Cond.methodLinkNest RX1 53 yX3_recordsIn RX8 ∈ NL := List.mem_filter.mpr ⟨List.mem_of_getElem? (i := 809) (by decide +kernel), by decide +kernel⟩
