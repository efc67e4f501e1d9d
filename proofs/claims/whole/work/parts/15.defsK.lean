def fX8_isLog  (a1 : Int32) : Option Int32 :=
  if a1 < 0 then (some ((0 : Int32))) else (if (4 : Int32) ≤ a1 then (some ((0 : Int32))) else (some ((1 : Int32))))
def fX8_isKey  (a1 : Int32) : Option Int32 :=
  if a1 < 0 then (some ((0 : Int32))) else (if (26 : Int32) ≤ a1 then (some ((0 : Int32))) else (some ((1 : Int32))))
def fX8_recordComes  (a1 : Int32) (a2 : Int32) (a3 : Int32) (a4 : Int32) (a5 : Int32) (st : KS) : Option (Int32 × KS) :=
  zb (fX8_isLog a1) (fun r_1 => if r_1 = 0 then (some ((-1 : Int32), st)) else (zb (fX8_isKey a2) (fun r_3 => if r_3 = 0 then (some ((-1 : Int32), st)) else (if a5 < (1 : Int32) then (some ((-2 : Int32), st)) else (if a5 ≤ (9 : Int32) then (zi a1 4 (zb (fX3_isFull (st.1.1 a1.toNatClampNeg)) (fun r_8 => if r_8 = 0 then (zb2 (fX3_append a2 a3 a4 a5 (st.1.2.2.2.2 0) (st.1.1 a1.toNatClampNeg)) (fun r_10 y_12 => zl (kLv st (sLg st.1 a1.toNatClampNeg y_12)) (fun st_11 => some (r_10, st_11)))) else (some ((-4 : Int32), st))))) else (some ((-2 : Int32), st)))))))
def fX8_put  (a1 : Int32) (a2 : Int32) (a3 : Int32) (a4 : Int32) (a5 : Int32) (st : KS) : Option (Int32 × KS) :=
  zb (fX0_quotient a3 a4) (fun r_1 => zb2 (fX8_recordComes a1 a2 (1 : Int32) r_1 a5 st) (fun r_2 st_3 => some (r_2, st_3)))
def fX8_tomb  (a1 : Int32) (a2 : Int32) (a3 : Int32) (st : KS) : Option (Int32 × KS) :=
  zb2 (fX8_recordComes a1 a2 (2 : Int32) (0 : Int32) a3 st) (fun r_1 st_2 => some (r_1, st_2))
def fX8_tick  (a1 : Int32) (st : KS) : Option (Int32 × KS) :=
  if a1 < 0 then (some ((-2 : Int32), st)) else (if a1 ≤ (99 : Int32) then (if ((st.1.2.2.2.2 0) + a1) ≤ (9999 : Int32) then (zl (kLv st (sTm st.1 0 ((st.1.2.2.2.2 0) + a1))) (fun st_4 => some ((st_4.1.2.2.2.2 0), st_4))) else (some ((-3 : Int32), st))) else (some ((-2 : Int32), st)))
def fX8_setGrace  (a1 : Int32) (st : KS) : Option (Int32 × KS) :=
  if a1 < 0 then (some ((-2 : Int32), st)) else (if a1 ≤ (99 : Int32) then (zl (kLv st (sTm st.1 1 a1)) (fun st_3 => some ((st.1.2.2.2.2 1), st_3))) else (some ((-2 : Int32), st)))
def fX8_setKeep  (a1 : Int32) (st : KS) : Option (Int32 × KS) :=
  if a1 < 0 then (some ((-2 : Int32), st)) else (if a1 ≤ (999 : Int32) then (zl (kLv st (sTm st.1 2 a1)) (fun st_3 => some ((st.1.2.2.2.2 2), st_3))) else (some ((-2 : Int32), st)))
def fX8_setAge  (a1 : Int32) (st : KS) : Option (Int32 × KS) :=
  if a1 < 0 then (some ((-2 : Int32), st)) else (if a1 ≤ (999 : Int32) then (zl (kLv st (sTm st.1 3 a1)) (fun st_3 => some ((st.1.2.2.2.2 3), st_3))) else (some ((-2 : Int32), st)))
def fX8_set  (a1 : Int32) (a2 : Int32) (st : KS) : Option (Int32 × KS) :=
  if a1 = (0 : Int32) then (zb2 (fX8_setGrace a2 st) (fun r_2 st_3 => some (r_2, st_3))) else if a1 = (1 : Int32) then (zb2 (fX8_setKeep a2 st) (fun r_5 st_6 => some (r_5, st_6))) else if a1 = (2 : Int32) then (zb2 (fX8_setAge a2 st) (fun r_8 st_9 => some (r_8, st_9))) else (some ((-1 : Int32), st))
def fX8_compact  (a1 : Int32) (st : KS) : Option (Int32 × KS) :=
  zb (fX8_isLog a1) (fun r_1 => if r_1 = 0 then (some ((-1 : Int32), st)) else (zi a1 4 (zb2 (fX3_compacted (st.1.2.2.2.2 0) (st.1.2.2.2.2 1) (st.1.1 a1.toNatClampNeg)) (fun r_4 y_6 => zl (kLv st (sLg st.1 a1.toNatClampNeg y_6)) (fun st_5 => some (r_4, st_5))))))
def fX8_retain  (a1 : Int32) (st : KS) : Option (Int32 × KS) :=
  zb (fX8_isLog a1) (fun r_1 => if r_1 = 0 then (some ((-1 : Int32), st)) else (zi a1 4 (zb2 (fX3_retained (st.1.2.2.2.2 2) (st.1.2.2.2.2 0) (st.1.2.2.2.2 3) (st.1.1 a1.toNatClampNeg)) (fun r_4 y_6 => zl (kLv st (sLg st.1 a1.toNatClampNeg y_6)) (fun st_5 => some (r_4, st_5))))))
def fX8_feed  (a1 : Int32) (st : KS) : Option (Int32 × KS) :=
  if a1 < 0 then (some ((-2 : Int32), st)) else (if a1 ≤ (127 : Int32) then (zb (fX7_isFull st.2.1) (fun r_3 => if r_3 = 0 then (zb2 (fX7_takeSign a1 st.2.1) (fun r_5 y_7 => zl (kTx st y_7) (fun st_6 => some (r_5, st_6)))) else (some ((-4 : Int32), st)))) else (some ((-2 : Int32), st)))
def fX8_clausesCome_4 : Nat → Int32 → Int32 → KS → Option (Int32 × KS)
  | 0, _, _, _ => none
  | n + 1, x1, x2, st =>
    if (st.2.1.2 1) ≤ x2 then (some (x1, st)) else (zi x2 12 (zi x2 12 (zi x2 12 (zi x2 12 (zb2 (fX8_recordComes (st.2.1.1 1 x2.toNatClampNeg) (st.2.1.1 2 x2.toNatClampNeg) (st.2.1.1 3 x2.toNatClampNeg) (st.2.1.1 4 x2.toNatClampNeg) (1 : Int32) st) (fun r_6 st_7 => if r_6 < 0 then (fX8_clausesCome_4 n x1 (x2 + (1 : Int32)) st_7) else (fX8_clausesCome_4 n (x1 + (1 : Int32)) (x2 + (1 : Int32)) st_7)))))))
def fX8_clausesCome   (st : KS) : Option (Int32 × KS) :=
  fX8_clausesCome_4 FU (0 : Int32) (0 : Int32) st
def fX8_read   (st : KS) : Option (Int32 × KS) :=
  zb2 (fX7_parsed st.2.1) (fun r_1 y_3 => zl (kTx st y_3) (fun st_2 => zl (kTx st_2 (sF st_2.2.1 0 (0 : Int32))) (fun st_4 => if r_1 = 0 then (some (((-10 : Int32) - (st_2.2.1.2 2)), st_4)) else (zb2 (fX8_clausesCome st_4) (fun r_6 st_7 => some (r_6, st_7))))))
def fX8_of  (a1 : Int32) (a2 : Int32) (st : KS) : Option (Int32 × KS) :=
  zb (fX8_isLog a1) (fun r_1 => if r_1 = 0 then (some ((-1 : Int32), st)) else (zi a1 4 (if a2 = (0 : Int32) then (zb (fX3_records (st.1.1 a1.toNatClampNeg)) (fun r_5 => some (r_5, st))) else if a2 = (1 : Int32) then (zb (fX3_start (st.1.1 a1.toNatClampNeg)) (fun r_7 => some (r_7, st))) else if a2 = (2 : Int32) then (some (((st.1.1 a1.toNatClampNeg).2 0), st)) else if a2 = (3 : Int32) then (some (((st.1.1 a1.toNatClampNeg).2 1), st)) else if a2 = (4 : Int32) then (zb (fX3_sizesIn (0 : Int32) ((st.1.1 a1.toNatClampNeg).2 0) (st.1.1 a1.toNatClampNeg)) (fun r_11 => some (r_11, st))) else if a2 = (5 : Int32) then (zb (fX3_start (st.1.1 a1.toNatClampNeg)) (fun r_13 => zb (fX3_records (st.1.1 a1.toNatClampNeg)) (fun r_14 => some (((((st.1.1 a1.toNatClampNeg).2 0) - r_13) - r_14), st)))) else if a2 = (6 : Int32) then (zb2 (fX3_mapSize ((st.1.1 a1.toNatClampNeg).2 0) (st.1.1 a1.toNatClampNeg)) (fun r_16 y_18 => zl (kLv st (sLg st.1 a1.toNatClampNeg y_18)) (fun st_17 => some (r_16, st_17)))) else if a2 = (7 : Int32) then (zi a1 4 (some ((st.1.2.1.1 1 a1.toNatClampNeg), st))) else if a2 = (8 : Int32) then (zi a1 4 (some ((st.1.2.1.1 3 a1.toNatClampNeg), st))) else if a2 = (9 : Int32) then (zb (fX3_atOrBehind (0 : Int32) (st.1.1 a1.toNatClampNeg)) (fun r_24 => some (r_24, st))) else if a2 = (10 : Int32) then (zb (fX3_atOrBefore ((st.1.1 a1.toNatClampNeg).2 0) (st.1.1 a1.toNatClampNeg)) (fun r_26 => some (r_26, st))) else (some ((-1 : Int32), st)))))
def fX8_record  (a1 : Int32) (a2 : Int32) (a3 : Int32) (st : KS) : Option Int64 :=
  zb (fX8_isLog a1) (fun r_1 => if r_1 = 0 then (some ((-9223372036854775808 : Int64))) else (zi a1 4 (zb (fX3_has a2 (st.1.1 a1.toNatClampNeg)) (fun r_4 => if r_4 = 0 then (some ((-9223372036854775808 : Int64))) else (zi a1 4 (if a3 = (0 : Int32) then (zi a2 200 (some (((st.1.1 a1.toNatClampNeg).1 1 a2.toNatClampNeg).toInt64))) else if a3 = (1 : Int32) then (zi a2 200 (some (((st.1.1 a1.toNatClampNeg).1 2 a2.toNatClampNeg).toInt64))) else if a3 = (2 : Int32) then (zi a2 200 (some (((st.1.1 a1.toNatClampNeg).1 3 a2.toNatClampNeg).toInt64))) else if a3 = (3 : Int32) then (zi a2 200 (if ((st.1.1 a1.toNatClampNeg).1 0 a2.toNatClampNeg) = (2 : Int32) then (some ((1 : Int64))) else (some ((0 : Int64))))) else if a3 = (4 : Int32) then (zi a2 200 (if ((st.1.1 a1.toNatClampNeg).1 0 a2.toNatClampNeg) = (2 : Int32) then (some ((-9223372036854775808 : Int64))) else (zi a2 200 (some (((st.1.1 a1.toNatClampNeg).1 4 a2.toNatClampNeg).toInt64))))) else if a3 = (5 : Int32) then (zb (fX3_segmentOf a2 (st.1.1 a1.toNatClampNeg)) (fun r_21 => some r_21.toInt64)) else (some ((-9223372036854775808 : Int64)))))))))
def fX8_segment  (a1 : Int32) (a2 : Int32) (a3 : Int32) (st : KS) : Option Int32 :=
  zb (fX8_isLog a1) (fun r_1 => if r_1 = 0 then (some ((-1 : Int32))) else (if a2 < 0 then (some ((-1 : Int32))) else (zi a1 4 (if a2 < ((st.1.1 a1.toNatClampNeg).2 1) then (zi a1 4 (if a3 = (0 : Int32) then (zi a2 201 (some (((st.1.1 a1.toNatClampNeg).1 5 a2.toNatClampNeg)))) else if a3 = (1 : Int32) then (zi a2 201 (zb (fX3_segmentEnd a2 (st.1.1 a1.toNatClampNeg)) (fun r_11 => zb (fX3_recordsIn ((st.1.1 a1.toNatClampNeg).1 5 a2.toNatClampNeg) r_11 (st.1.1 a1.toNatClampNeg)) (fun r_12 => some r_12)))) else if a3 = (2 : Int32) then (zi a2 201 (zb (fX3_segmentEnd a2 (st.1.1 a1.toNatClampNeg)) (fun r_15 => zb (fX3_sizesIn ((st.1.1 a1.toNatClampNeg).1 5 a2.toNatClampNeg) r_15 (st.1.1 a1.toNatClampNeg)) (fun r_16 => some r_16)))) else if a3 = (3 : Int32) then (zb (fX3_isClosed a2 (st.1.1 a1.toNatClampNeg)) (fun r_18 => if r_18 = 0 then (some ((0 : Int32))) else (some ((1 : Int32))))) else (some ((-1 : Int32))))) else (some ((-1 : Int32)))))))
def fX8_value  (a1 : Int32) (a2 : Int32) (st : KS) : Option (Int64 × KS) :=
  zb (fX8_isLog a1) (fun r_1 => if r_1 = 0 then (some ((-9223372036854775808 : Int64), st)) else (zb (fX8_isKey a2) (fun r_3 => if r_3 = 0 then (some ((-9223372036854775808 : Int64), st)) else (zi a1 4 (zi a1 4 (zb2 (fX3_mapValue a2 ((st.1.1 a1.toNatClampNeg).2 0) (st.1.1 a1.toNatClampNeg)) (fun r_7 y_9 => zl (kLv st (sLg st.1 a1.toNatClampNeg y_9)) (fun st_8 => some (r_7, st_8)))))))))
def fX8_map  (a1 : Int32) (a2 : Int32) (st : KS) : Option (Int64 × KS) :=
  zb (fX8_isLog a1) (fun r_1 => if r_1 = 0 then (some ((-9223372036854775808 : Int64), st)) else (zi a1 4 (if a2 = (0 : Int32) then (zb2 (fX3_mapSize ((st.1.1 a1.toNatClampNeg).2 0) (st.1.1 a1.toNatClampNeg)) (fun r_5 y_7 => zl (kLv st (sLg st.1 a1.toNatClampNeg y_7)) (fun st_6 => some (r_5.toInt64, st_6)))) else if a2 = (1 : Int32) then (zb2 (fX3_mapSum (st.1.1 a1.toNatClampNeg)) (fun r_9 y_11 => zl (kLv st (sLg st.1 a1.toNatClampNeg y_11)) (fun st_10 => some (r_9.toInt64, st_10)))) else if a2 = (2 : Int32) then (zb2 (fX3_mapLeast (st.1.1 a1.toNatClampNeg)) (fun r_13 y_15 => zl (kLv st (sLg st.1 a1.toNatClampNeg y_15)) (fun st_14 => some (r_13, st_14)))) else if a2 = (3 : Int32) then (zb2 (fX3_mapGreatest (st.1.1 a1.toNatClampNeg)) (fun r_17 y_19 => zl (kLv st (sLg st.1 a1.toNatClampNeg y_19)) (fun st_18 => some (r_17, st_18)))) else if a2 = (4 : Int32) then (zb2 (fX3_mapMean (st.1.1 a1.toNatClampNeg)) (fun r_21 y_23 => zl (kLv st (sLg st.1 a1.toNatClampNeg y_23)) (fun st_22 => some (r_21, st_22)))) else (some ((-9223372036854775808 : Int64), st)))))
def fX8_replay  (a1 : Int32) (a2 : Int32) (a3 : Int32) (st : KS) : Option (Int64 × KS) :=
  zb (fX8_isLog a1) (fun r_1 => if r_1 = 0 then (some ((-9223372036854775808 : Int64), st)) else (if 0 ≤ a2 then (if a3 = (-1 : Int32) then (zi a1 4 (zb2 (fX3_mapSize a2 (st.1.1 a1.toNatClampNeg)) (fun r_12 y_14 => zl (kLv st (sLg st.1 a1.toNatClampNeg y_14)) (fun st_13 => some (r_12.toInt64, st_13))))) else (zb (fX8_isKey a3) (fun r_5 => if r_5 = 0 then (some ((-9223372036854775808 : Int64), st)) else (zi a1 4 (zb2 (fX3_mapValue a3 a2 (st.1.1 a1.toNatClampNeg)) (fun r_8 y_10 => zl (kLv st (sLg st.1 a1.toNatClampNeg y_10)) (fun st_9 => some (r_8, st_9)))))))) else (some ((-9223372036854775808 : Int64), st))))
def fX8_near  (a1 : Int32) (a2 : Int32) (a3 : Int32) (st : KS) : Option Int32 :=
  zb (fX8_isLog a1) (fun r_1 => if r_1 = 0 then (some ((-1 : Int32))) else (if a3 < 0 then (some ((-1 : Int32))) else (if a3 ≤ (1 : Int32) then (if a3 = 0 then (zi a1 4 (zb (fX3_atOrBefore a2 (st.1.1 a1.toNatClampNeg)) (fun r_9 => some r_9))) else (zi a1 4 (zb (fX3_atOrBehind a2 (st.1.1 a1.toNatClampNeg)) (fun r_7 => some r_7)))) else (some ((-1 : Int32))))))
def fX8_oldest  (a1 : Int32) (a2 : Int32) (st : KS) : Option Int32 :=
  zb (fX8_isLog a1) (fun r_1 => if r_1 = 0 then (some ((-1 : Int32))) else (if a2 < 0 then (some ((-1 : Int32))) else (zi a1 4 (zb (fX3_byAge a2 (st.1.1 a1.toNatClampNeg)) (fun r_5 => some r_5)))))
def fX8_would  (a1 : Int32) (a2 : Int32) (st : KS) : Option (Int32 × KS) :=
  zb (fX8_isLog a1) (fun r_1 => if r_1 = 0 then (some ((-1 : Int32), st)) else (if a2 < 0 then (some ((-1 : Int32), st)) else (if a2 ≤ (1 : Int32) then (zi a1 4 (if a2 = 0 then (zb2 (fX3_goneIfCompacted (st.1.2.2.2.2 0) (st.1.2.2.2.2 1) (st.1.1 a1.toNatClampNeg)) (fun r_8 y_10 => zl (kLv st (sLg st.1 a1.toNatClampNeg y_10)) (fun st_9 => some (r_8, st_9)))) else (zb (fX3_goneIfRetained (st.1.2.2.2.2 2) (st.1.2.2.2.2 0) (st.1.2.2.2.2 3) (st.1.1 a1.toNatClampNeg)) (fun r_7 => some (r_7, st))))) else (some ((-1 : Int32), st)))))
def fX8_leastKeep_38 (ix : Nat) (x2 : Int32) (st : KS) : Nat → Int32 → Int32 → Int32 → Option Int32
  | 0, _, _, _ => none
  | n + 1, x3, x4, x5 =>
    if (200 : Int32) < x5 then (some x3) else (if x4 ≤ x3 then (some x3) else (zz (2 : Int32) (zl (((x3 + x4) / (2 : Int32))) (fun x_6 => zb (fX3_leftIfRetained x_6 (st.1.2.2.2.2 0) (st.1.2.2.2.2 3) (st.1.1 ix)) (fun r_7 => if r_7 < x2 then (fX8_leastKeep_38 ix x2 st n (x_6 + (1 : Int32)) x4 (x5 + (1 : Int32))) else (fX8_leastKeep_38 ix x2 st n x3 x_6 (x5 + (1 : Int32))))))))
def fX8_leastKeep  (ix : Nat) (a2 : Int32) (st : KS) : Option Int32 :=
  zb (fX3_leftIfRetained (200 : Int32) (st.1.2.2.2.2 0) (st.1.2.2.2.2 3) (st.1.1 ix)) (fun r_1 => if a2 ≤ r_1 then (fX8_leastKeep_38 ix a2 st FU (0 : Int32) (200 : Int32) (0 : Int32)) else (some ((-5 : Int32))))
def fX8_need  (a1 : Int32) (a2 : Int32) (st : KS) : Option Int32 :=
  zb (fX8_isLog a1) (fun r_1 => if r_1 = 0 then (some ((-1 : Int32))) else (if a2 < 0 then (some ((-2 : Int32))) else (if a2 ≤ (200 : Int32) then (zi a1 4 (zb (fX8_leastKeep a1.toNatClampNeg a2 st) (fun r_6 => some r_6))) else (some ((-2 : Int32))))))
def fX8_isMember  (a1 : Int32) : Option Int32 :=
  if a1 < 0 then (some ((0 : Int32))) else (if (4 : Int32) ≤ a1 then (some ((0 : Int32))) else (some ((1 : Int32))))
def fX8_join  (a1 : Int32) (st : KS) : Option (Int32 × KS) :=
  zb (fX8_isMember a1) (fun r_1 => if r_1 = 0 then (some ((-1 : Int32), st)) else (zi a1 4 (if (st.1.2.1.1 0 a1.toNatClampNeg) = 0 then (zb2 (fX1_changed a1 (1 : Int32) st.1.2.1) (fun r_5 y_7 => zl (kLv st (sGr st.1 y_7)) (fun st_6 => some (r_5, st_6)))) else (some ((-3 : Int32), st)))))
def fX8_leave  (a1 : Int32) (st : KS) : Option (Int32 × KS) :=
  zb (fX8_isMember a1) (fun r_1 => if r_1 = 0 then (some ((-1 : Int32), st)) else (zi a1 4 (if (st.1.2.1.1 0 a1.toNatClampNeg) = 0 then (some ((-3 : Int32), st)) else (zb2 (fX1_changed a1 (0 : Int32) st.1.2.1) (fun r_5 y_7 => zl (kLv st (sGr st.1 y_7)) (fun st_6 => some (r_5, st_6)))))))
def fX8_poll  (a1 : Int32) (st : KS) : Option (Int32 × KS) :=
  zb (fX8_isMember a1) (fun r_1 => if r_1 = 0 then (some ((-1 : Int32), st)) else (zi a1 4 (if (st.1.2.1.1 0 a1.toNatClampNeg) = 0 then (some ((-3 : Int32), st)) else (zb2 (fX1_polled a1 st.1.1 st.1.2.1) (fun r_5 y_7 => zl (kLv st (sGr st.1 y_7)) (fun st_6 => some (r_5, st_6)))))))
def fX8_seek  (a1 : Int32) (a2 : Int32) (st : KS) : Option (Int32 × KS) :=
  zb (fX8_isLog a1) (fun r_1 => if r_1 = 0 then (some ((-1 : Int32), st)) else (if a2 < 0 then (some ((-2 : Int32), st)) else (zi a1 4 (if a2 ≤ ((st.1.1 a1.toNatClampNeg).2 0) then (zi a1 4 (zl ((st.1.2.1.1 3 a1.toNatClampNeg)) (fun x_7 => zi a1 4 (zl (kLv st (sGr st.1 (wA st.1.2.1 3 a1 a2))) (fun st_9 => some (x_7, st_9)))))) else (some ((-2 : Int32), st))))))
def fX8_member  (a1 : Int32) (a2 : Int32) (st : KS) : Option Int32 :=
  zb (fX8_isMember a1) (fun r_1 => if r_1 = 0 then (some ((-1 : Int32))) else (if a2 = (0 : Int32) then (zi a1 4 (if (st.1.2.1.1 0 a1.toNatClampNeg) = 0 then (some ((0 : Int32))) else (some ((1 : Int32))))) else if a2 = (1 : Int32) then (zb (fX1_logBits a1 st.1.2.1) (fun r_7 => some r_7)) else if a2 = (2 : Int32) then (zb (fX1_lag a1 st.1.1 st.1.2.1) (fun r_9 => some r_9)) else (some ((-1 : Int32)))))
def fX8_told  (a1 : Int32) (st : KS) : Option Int32 :=
  if a1 = (0 : Int32) then (some ((st.1.2.2.2.2 0))) else if a1 = (1 : Int32) then (some ((st.1.2.2.2.2 1))) else if a1 = (2 : Int32) then (some ((st.1.2.2.2.2 2))) else if a1 = (3 : Int32) then (some ((st.1.2.2.2.2 3))) else if a1 = (4 : Int32) then (some ((st.1.2.1.2 0))) else if a1 = (5 : Int32) then (zb (fX1_inBits st.1.2.1) (fun r_7 => some r_7)) else (some ((-1 : Int32)))
def fX8_harmlessKeeps_5 (ix : Nat) (x2 : Int32) (st : KS) : Nat → Int32 → Int32 → Option Int32
  | 0, _, _ => none
  | n + 1, x3, x4 =>
    if x2 ≤ x4 then (some x3) else (zb (fX3_goneIfRetained ((5 : Int32) * x4) (st.1.2.2.2.2 0) (st.1.2.2.2.2 3) (st.1.1 ix)) (fun r_2 => if r_2 = 0 then (fX8_harmlessKeeps_5 ix x2 st n (x3 + (1 : Int32)) (x4 + (1 : Int32))) else (fX8_harmlessKeeps_5 ix x2 st n x3 (x4 + (1 : Int32)))))
def fX8_harmlessKeeps  (ix : Nat) (a2 : Int32) (st : KS) : Option Int32 :=
  fX8_harmlessKeeps_5 ix a2 st FU (0 : Int32) (0 : Int32)
def fX8_commonDivisor_2 (x0 : Int32) (x1 : Int32) : Nat → Int32 → Option Int32
  | 0, _ => none
  | n + 1, x2 =>
    if x2 ≤ (1 : Int32) then (some ((1 : Int32))) else (zz x2 (if (x0 - x0 / x2 * x2) = 0 then (zz x2 (if (x1 - x1 / x2 * x2) = 0 then (some x2) else (fX8_commonDivisor_2 x0 x1 n (x2 + (-1 : Int32))))) else (fX8_commonDivisor_2 x0 x1 n (x2 + (-1 : Int32)))))
def fX8_commonDivisor  (a1 : Int32) (a2 : Int32) : Option Int32 :=
  fX8_commonDivisor_2 a1 a2 FU a2
def fX8_odds_57 (st : KS) (x5 : Int32) (y0 : Int32) : Option Int64 :=
  zz (if x5 < (1 : Int32) then (1 : Int32) else x5) (some ((y0 / (if x5 < (1 : Int32) then (1 : Int32) else x5)).toInt64))
def fX8_odds  (a1 : Int32) (a2 : Int32) (st : KS) : Option Int64 :=
  zb (fX8_isLog a1) (fun r_1 => if r_1 = 0 then (some ((-9223372036854775808 : Int64))) else (if a2 < 0 then (some ((-9223372036854775808 : Int64))) else (if a2 ≤ (1 : Int32) then (zi a1 4 (zb (fX8_harmlessKeeps a1.toNatClampNeg (20 : Int32) st) (fun r_6 => zb (fX8_commonDivisor r_6 (20 : Int32)) (fun r_7 => if a2 = 0 then (fX8_odds_57 st r_7 r_6) else (fX8_odds_57 st r_7 (20 : Int32)))))) else (some ((-9223372036854775808 : Int64))))))
def fX8_plan_71 (x1 : Int32) (x2 : Int32) (st : KS) : Option (Int32 × KS) :=
  zb (fX4_isFull 10 st.1.2.2.1) (fun r_7 => if r_7 = 0 then (zb2 (fX4_takeRow 10 x1 x2 st.1.2.2.1) (fun r_9 y_11 => zl (kLv st (sPl st.1 y_11)) (fun st_10 => some (r_9, st_10)))) else (some ((-4 : Int32), st)))
def fX8_plan_53 (x1 : Int32) (x2 : Int32) (st : KS) : Option (Int32 × KS) :=
  if x1 = (3 : Int32) then (if x2 < 0 then (some ((-2 : Int32), st)) else (if x2 ≤ (99 : Int32) then (fX8_plan_71 x1 x2 st) else (some ((-2 : Int32), st)))) else (fX8_plan_71 x1 x2 st)
def fX8_plan_39 (x1 : Int32) (x2 : Int32) (st : KS) : Option (Int32 × KS) :=
  if x1 = (2 : Int32) then (zb (fX8_isMember x2) (fun r_14 => if r_14 = 0 then (some ((-1 : Int32), st)) else (fX8_plan_53 x1 x2 st))) else (fX8_plan_53 x1 x2 st)
def fX8_plan  (a1 : Int32) (a2 : Int32) (st : KS) : Option (Int32 × KS) :=
  if a1 = (-1 : Int32) then (zl (kLv st (sPl st.1 (sF st.1.2.2.1 0 (0 : Int32)))) (fun st_18 => some ((0 : Int32), st_18))) else (if a1 < 0 then (some ((-1 : Int32), st)) else (if (3 : Int32) < a1 then (some ((-1 : Int32), st)) else (if (2 : Int32) ≤ a1 then (fX8_plan_39 a1 a2 st) else (zb (fX8_isLog a2) (fun r_16 => if r_16 = 0 then (some ((-1 : Int32), st)) else (fX8_plan_39 a1 a2 st))))))
def fX8_book  (a1 : Int32) (a2 : Int32) (st : KS) : Option (Int32 × KS) :=
  if a1 = (-1 : Int32) then (zl (kLv st (sBk st.1 (sF st.1.2.2.2.1 0 (0 : Int32)))) (fun st_11 => some ((0 : Int32), st_11))) else (zb (fX8_isLog a1) (fun r_2 => if r_2 = 0 then (some ((-1 : Int32), st)) else (if a2 < 0 then (some ((-2 : Int32), st)) else (if a2 ≤ (200 : Int32) then (zb (fX4_isFull 8 st.1.2.2.2.1) (fun r_6 => if r_6 = 0 then (zb2 (fX4_takeRow 8 a1 a2 st.1.2.2.2.1) (fun r_8 y_10 => zl (kLv st (sBk st.1 y_10)) (fun st_9 => some (r_8, st_9)))) else (some ((-4 : Int32), st)))) else (some ((-2 : Int32), st))))))
def fX8_looked   (st : KS) : Option Int32 :=
  zb (fX5_firstOtherwise st.1) (fun r_1 => some r_1)
def fX8_keep_59 (x3 : Int32) (y0 : Int32) (j1 : Nat) (st : KS) : Option (Int32 × KS) :=
  zb2 (fX2_filled y0 x3 (st.1.1 j1) st.2.2.1) (fun r_9 y_11 => zl (kKr st y_11) (fun st_10 => some (r_9, st_10)))
def fX8_keep  (a1 : Int32) (a2 : Int32) (a3 : Int32) (st : KS) : Option (Int32 × KS) :=
  zb (fX8_isLog a1) (fun r_1 => if r_1 = 0 then (some ((-1 : Int32), st)) else (if a2 < 0 then (some ((-2 : Int32), st)) else (if (1 : Int32) < a2 then (some ((-2 : Int32), st)) else (if a3 ≤ (60 : Int32) then (if 0 ≤ a3 then (zi a1 4 (if a2 = (1 : Int32) then (fX8_keep_59 a3 (1 : Int32) a1.toNatClampNeg st) else (fX8_keep_59 a3 (0 : Int32) a1.toNatClampNeg st))) else (some ((-14 : Int32), st))) else (some ((-2 : Int32), st))))))
def fX8_kept  (a1 : Int32) (a2 : Int32) (st : KS) : Option Int64 :=
  if a1 < 0 then (some ((-9223372036854775808 : Int64))) else (if (st.2.2.1.2 0) ≤ a1 then (some ((-9223372036854775808 : Int64))) else (zb (fX2_about a1 a2 st.2.2.1) (fun r_3 => some r_3)))
def fX8_isTape  (a1 : Int32) : Option Int32 :=
  if a1 < 0 then (some ((0 : Int32))) else (if (6 : Int32) ≤ a1 then (some ((0 : Int32))) else (some ((1 : Int32))))
def fX8_judge_44 (st : KS) (x1 : Int32) (x2 : Int32) (x3 : Int32) : Option Int32 :=
  zi x2 6 (zi x1 4 (zb (fX6_judged x3 (st.1.1 x1.toNatClampNeg) (st.2.2.2.1 x2.toNatClampNeg)) (fun r_10 => some r_10)))
def fX8_judge  (a1 : Int32) (a2 : Int32) (a3 : Int32) (st : KS) : Option Int32 :=
  zb (fX8_isLog a1) (fun r_1 => if r_1 = 0 then (some ((-1 : Int32))) else (zb (fX8_isTape a2) (fun r_3 => if r_3 = 0 then (some ((-1 : Int32))) else (zi a2 6 (zb (fX6_isNothing (st.2.2.2.1 a2.toNatClampNeg)) (fun r_6 => if r_6 = 0 then (zi a2 6 (if ((st.2.2.2.1 a2.toNatClampNeg).2 0) = (1 : Int32) then (fX8_judge_44 st a1 a2 a3) else (some ((-12 : Int32))))) else (fX8_judge_44 st a1 a2 a3)))))))
def fX8_undo   (st : KS) : Option (Int32 × KS) :=
  zo (st.2.2.2.2.1) (some ((-3 : Int32), st)) (fun S_1 => zb (fX5_copyFrom S_1 st.1) (fun y_6 => zl (kLv st y_6) (fun st_5 => zb (fX5_records st_5.1) (fun r_7 => some (r_7, st_5)))))
def fX8_count  (a1 : Int32) (st : KS) : Option Int32 :=
  if a1 = (0 : Int32) then (zb (fX5_records st.1) (fun r_2 => some r_2)) else if a1 = (1 : Int32) then (zb (fX1_membersIn st.1.2.1) (fun r_4 => some r_4)) else if a1 = (2 : Int32) then (some ((st.1.2.2.1.2 0))) else if a1 = (3 : Int32) then (some ((st.1.2.2.2.1.2 0))) else if a1 = (4 : Int32) then (some ((st.2.1.2 0))) else (some ((-2 : Int32)))
def fX8_tape  (a1 : Int32) (a2 : Int32) (a3 : Int32) (st : KS) : Option (Int32 × KS) :=
  zb (fX8_isTape a1) (fun r_1 => if r_1 = 0 then (some ((-1 : Int32), st)) else (if a2 = (-1 : Int32) then (zi a1 6 (zb (fX6_empty (st.2.2.2.1 a1.toNatClampNeg)) (fun y_13 => zl (kTp st a1.toNatClampNeg y_13) (fun st_12 => some ((1 : Int32), st_12))))) else (if a2 < 0 then (some ((-2 : Int32), st)) else (if (4 : Int32) < a2 then (some ((-2 : Int32), st)) else (if a3 ≤ (60 : Int32) then (if 0 ≤ a3 then (zi a1 6 (zb (fX6_become a2 a3 (st.2.2.2.1 a1.toNatClampNeg)) (fun y_10 => zl (kTp st a1.toNatClampNeg y_10) (fun st_9 => some ((1 : Int32), st_9))))) else (some ((-14 : Int32), st))) else (some ((-2 : Int32), st)))))))
def fX8_item  (a1 : Int32) (a2 : Int32) (a3 : Int64) (st : KS) : Option (Int32 × KS) :=
  zb (fX8_isTape a1) (fun r_1 => if r_1 = 0 then (some ((-1 : Int32), st)) else (zi a1 6 (zb (fX6_isNothing (st.2.2.2.1 a1.toNatClampNeg)) (fun r_4 => if r_4 = 0 then (zi a1 6 (zb (fX6_hasPlace a2 (st.2.2.2.1 a1.toNatClampNeg)) (fun r_7 => if r_7 = 0 then (some ((-13 : Int32), st)) else (zi a1 6 (zi a1 6 (zb (fX6_asItem a3 (st.2.2.2.1 a1.toNatClampNeg)) (fun r_11 => zi a2 60 (zl (kTp st a1.toNatClampNeg (wLt (st.2.2.2.1 a1.toNatClampNeg) a2 r_11)) (fun st_13 => some ((1 : Int32), st_13)))))))))) else (some ((-11 : Int32), st))))))
def fX8_peek  (a1 : Int32) (a2 : Int32) (st : KS) : Option Int64 :=
  zb (fX8_isTape a1) (fun r_1 => if r_1 = 0 then (some ((-9223372036854775808 : Int64))) else (zi a1 6 (zb (fX6_hasPlace a2 (st.2.2.2.1 a1.toNatClampNeg)) (fun r_4 => if r_4 = 0 then (some ((-9223372036854775808 : Int64))) else (zi a1 6 (zi a2 60 (some (((st.2.2.2.1 a1.toNatClampNeg).1 a2.toNatClampNeg)))))))))
def fX8_shift  (a1 : Int32) (a2 : Int32) (a3 : Int32) (a4 : Int32) (a5 : Int32) (st : KS) : Option (Int32 × KS) :=
  zb (fX8_isTape a1) (fun r_1 => if r_1 = 0 then (some ((-1 : Int32), st)) else (zb (fX8_isTape a3) (fun r_3 => if r_3 = 0 then (some ((-1 : Int32), st)) else (zi a1 6 (zi a3 6 (zb (fX6_isNothing (st.2.2.2.1 a1.toNatClampNeg)) (fun r_7 => if r_7 = 0 then (zb (fX6_isNothing (st.2.2.2.1 a3.toNatClampNeg)) (fun r_9 => if r_9 = 0 then (if ((st.2.2.2.1 a1.toNatClampNeg).2 0) = ((st.2.2.2.1 a3.toNatClampNeg).2 0) then (zb (fX6_hasPlaces a2 a5 (st.2.2.2.1 a1.toNatClampNeg)) (fun r_12 => if r_12 = 0 then (some ((-13 : Int32), st)) else (zb (fX6_hasPlaces a4 a5 (st.2.2.2.1 a3.toNatClampNeg)) (fun r_14 => if r_14 = 0 then (some ((-13 : Int32), st)) else (zc a2 a4 a5 60 60 (zl (kTp st a3.toNatClampNeg (sLt (st.2.2.2.1 a3.toNatClampNeg) (va_cpy (st.2.2.2.1 a1.toNatClampNeg).1 (st.2.2.2.1 a3.toNatClampNeg).1 a2.toNatClampNeg a4.toNatClampNeg a5.toNatClampNeg))) (fun st_17 => some (a5, st_17)))))))) else (some ((-12 : Int32), st))) else (some ((-11 : Int32), st)))) else (some ((-11 : Int32), st)))))))))
