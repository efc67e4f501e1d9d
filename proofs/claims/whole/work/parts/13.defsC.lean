def fJ6_bitCount_0f7a4  (a1 : Int32) : Option Int32 :=
  zl ((a1 - ((a1.toUInt32 >>> ((1 : Int32).toUInt32 &&& Int32.toUInt32 31)).toInt32 &&& (1431655765 : Int32)))) (fun x_1 => zl (((x_1 &&& (858993459 : Int32)) + ((x_1.toUInt32 >>> ((2 : Int32).toUInt32 &&& Int32.toUInt32 31)).toInt32 &&& (858993459 : Int32)))) (fun x_2 => zl (((x_2 + (x_2.toUInt32 >>> ((4 : Int32).toUInt32 &&& Int32.toUInt32 31)).toInt32) &&& (252645135 : Int32))) (fun x_3 => zl ((x_3 + (x_3.toUInt32 >>> ((8 : Int32).toUInt32 &&& Int32.toUInt32 31)).toInt32)) (fun x_4 => zl ((x_4 + (x_4.toUInt32 >>> ((16 : Int32).toUInt32 &&& Int32.toUInt32 31)).toInt32)) (fun x_5 => some ((x_5 &&& (63 : Int32))))))))
def fX1_copyFrom_2 (sx : CS) : Nat → Int32 → CS → Option CS
  | 0, _, _ => none
  | n + 1, x2, st =>
    if (4 : Int32) ≤ x2 then (zc (0 : Int32) (0 : Int32) (4 : Int32) 4 4 ((zl (sA st 1 (va_cpy (sx.1 1) (st.1 1) (0 : Int32).toNatClampNeg (0 : Int32).toNatClampNeg (4 : Int32).toNatClampNeg)) (fun st_3 => zc (0 : Int32) (0 : Int32) (4 : Int32) 4 4 ((zl (sA st_3 3 (va_cpy (sx.1 3) (st_3.1 3) (0 : Int32).toNatClampNeg (0 : Int32).toNatClampNeg (4 : Int32).toNatClampNeg)) (fun st_5 => zl (sF st_5 0 (sx.2 0)) (fun st_6 => some st_6)))))))) else (zi x2 4 (zi x2 4 (zl (wA st 0 x2 (vp_nar .boolean (sx.1 0 x2.toNatClampNeg))) (fun st_9 => fX1_copyFrom_2 sx n (x2 + (1 : Int32)) st_9))))
def fX1_copyFrom   (sx : CS) (st : CS) : Option CS :=
  fX1_copyFrom_2 sx FU (0 : Int32) st
def fX1_inBits_4 (st : CS) : Nat → Int32 → Int32 → Option Int32
  | 0, _, _ => none
  | n + 1, x1, x2 =>
    if (4 : Int32) ≤ x2 then (some x1) else (zi x2 4 (if (st.1 0 x2.toNatClampNeg) = 0 then (fX1_inBits_4 st n x1 (x2 + (1 : Int32))) else (zl ((x1 ||| ((1 : Int32) <<< (x2 &&& 31)))) (fun x_4 => fX1_inBits_4 st n x_4 (x2 + (1 : Int32))))))
def fX1_inBits   (st : CS) : Option Int32 :=
  fX1_inBits_4 st FU (0 : Int32) (0 : Int32)
def fX1_membersIn   (st : CS) : Option Int32 :=
  zb (fX1_inBits st) (fun r_1 => zb (fJ6_bitCount_0f7a4 r_1) (fun r_2 => some r_2))
def fX1_logBits_4 (x1 : Int32) (st : CS) : Nat → Int32 → Int32 → Option Int32
  | 0, _, _ => none
  | n + 1, x2, x3 =>
    if (4 : Int32) ≤ x3 then (some x2) else (zi x3 4 (if (st.1 1 x3.toNatClampNeg) = x1 then (zl ((x2 ||| ((1 : Int32) <<< (x3 &&& 31)))) (fun x_4 => fX1_logBits_4 x1 st n x_4 (x3 + (1 : Int32)))) else (fX1_logBits_4 x1 st n x2 (x3 + (1 : Int32)))))
def fX1_logBits  (a1 : Int32) (st : CS) : Option Int32 :=
  fX1_logBits_4 a1 st FU (0 : Int32) (0 : Int32)
def fX1_logsOf  (a1 : Int32) (st : CS) : Option Int32 :=
  zb (fX1_logBits a1 st) (fun r_1 => zb (fJ6_bitCount_0f7a4 r_1) (fun r_2 => some r_2))
def fX1_lag_5 (sx : (Nat → CS)) (x1 : Int32) (st : CS) : Nat → Int32 → Int32 → Option Int32
  | 0, _, _ => none
  | n + 1, x3, x4 =>
    if (4 : Int32) ≤ x4 then (some x3) else (zi x4 4 (if (st.1 1 x4.toNatClampNeg) = x1 then (zi x4 4 (zi x4 4 (zi x4 4 (zb (fX3_recordsIn (st.1 3 x4.toNatClampNeg) ((sx x4.toNatClampNeg).2 0) (sx x4.toNatClampNeg)) (fun r_7 => fX1_lag_5 sx x1 st n (x3 + r_7) (x4 + (1 : Int32))))))) else (fX1_lag_5 sx x1 st n x3 (x4 + (1 : Int32)))))
def fX1_lag  (a1 : Int32) (sx : (Nat → CS)) (st : CS) : Option Int32 :=
  fX1_lag_5 sx a1 st FU (0 : Int32) (0 : Int32)
def fX1_polled_34 (sx : (Nat → CS)) (x1 : Int32) (K2 : Int32 → CS → Option (Int32 × CS)) (x3 : Int32) (y0 : Int32) (st : CS) : Option (Int32 × CS) :=
  if y0 < 0 then (K2 (x3 + (1 : Int32)) st) else (zi x3 4 (zl (wA st 3 x3 (y0 + (1 : Int32))) (fun st_6 => zl (sF st_6 0 ((st_6.2 0) + (1 : Int32))) (fun st_7 => some ((((1000 : Int32) * x3) + y0), st_7)))))
def fX1_polled_2 (sx : (Nat → CS)) (x1 : Int32) : Nat → Int32 → CS → Option (Int32 × CS)
  | 0, _, _ => none
  | n + 1, x3, st =>
    if (4 : Int32) ≤ x3 then (some ((-5 : Int32), st)) else (zi x3 4 (if (st.1 1 x3.toNatClampNeg) = x1 then (zi x3 4 (zi x3 4 (zb (fX3_atOrBehind (st.1 3 x3.toNatClampNeg) (sx x3.toNatClampNeg)) (fun r_10 => fX1_polled_34 sx x1 (fX1_polled_2 sx x1 n) x3 r_10 st)))) else (fX1_polled_34 sx x1 (fX1_polled_2 sx x1 n) x3 (-5 : Int32) st)))
def fX1_polled  (a1 : Int32) (sx : (Nat → CS)) (st : CS) : Option (Int32 × CS) :=
  fX1_polled_2 sx a1 FU (0 : Int32) st
def fX1_freeLogsOfAbsent_2 : Nat → Int32 → CS → Option CS
  | 0, _, _ => none
  | n + 1, x1, st =>
    if (4 : Int32) ≤ x1 then (some st) else (zi x1 4 (if (st.1 1 x1.toNatClampNeg) < 0 then (fX1_freeLogsOfAbsent_2 n (x1 + (1 : Int32)) st) else (zi x1 4 (zi (st.1 1 x1.toNatClampNeg) 4 (if (st.1 0 (st.1 1 x1.toNatClampNeg).toNatClampNeg) = 0 then (zi x1 4 (zl (wA st 1 x1 (-5 : Int32)) (fun st_8 => fX1_freeLogsOfAbsent_2 n (x1 + (1 : Int32)) st_8))) else (fX1_freeLogsOfAbsent_2 n (x1 + (1 : Int32)) st))))))
def fX1_freeLogsOfAbsent   (st : CS) : Option CS :=
  fX1_freeLogsOfAbsent_2 FU (0 : Int32) st
def fX1_freeAllButLeast_5 (x1 : Int32) (x2 : Int32) : Nat → Int32 → Int32 → CS → Option CS
  | 0, _, _, _ => none
  | n + 1, x3, x4, st =>
    if (4 : Int32) ≤ x4 then (some st) else (zi x4 4 (if (st.1 1 x4.toNatClampNeg) = x1 then (if (x3 + (1 : Int32)) ≤ x2 then (fX1_freeAllButLeast_5 x1 x2 n (x3 + (1 : Int32)) (x4 + (1 : Int32)) st) else (zi x4 4 (zl (wA st 1 x4 (-5 : Int32)) (fun st_6 => fX1_freeAllButLeast_5 x1 x2 n (x3 + (1 : Int32)) (x4 + (1 : Int32)) st_6)))) else (fX1_freeAllButLeast_5 x1 x2 n x3 (x4 + (1 : Int32)) st)))
def fX1_freeAllButLeast  (a1 : Int32) (a2 : Int32) (st : CS) : Option CS :=
  fX1_freeAllButLeast_5 a1 a2 FU (0 : Int32) (0 : Int32) st
def fX1_freeLogsBeyond_56 (x1 : Int32) (x2 : Int32) (K5 : Int32 → Int32 → CS → Option CS) (x3 : Int32) (x4 : Int32) (y0 : Int32) (y1 : Int32) (st : CS) : Option CS :=
  zb (fX1_freeAllButLeast y1 y0 st) (fun st_7 => K5 x3 (x4 + (1 : Int32)) st_7)
def fX1_freeLogsBeyond_41 (x1 : Int32) (x2 : Int32) (K5 : Int32 → Int32 → CS → Option CS) (x3 : Int32) (x4 : Int32) (x5 : Int32) (st : CS) : Option CS :=
  if x5 = 0 then (fX1_freeLogsBeyond_56 x1 x2 K5 x3 x4 x1 x4 st) else (fX1_freeLogsBeyond_56 x1 x2 K5 x3 x4 (x1 + (1 : Int32)) x4 st)
def fX1_freeLogsBeyond_31 (x1 : Int32) (x2 : Int32) (K5 : Int32 → Int32 → CS → Option CS) (x3 : Int32) (x4 : Int32) (y0 : Int32) (st : CS) : Option CS :=
  if y0 = 0 then (fX1_freeLogsBeyond_41 x1 x2 K5 x3 x4 y0 st) else (fX1_freeLogsBeyond_41 x1 x2 K5 (x3 + (1 : Int32)) x4 y0 st)
def fX1_freeLogsBeyond_5 (x1 : Int32) (x2 : Int32) : Nat → Int32 → Int32 → CS → Option CS
  | 0, _, _, _ => none
  | n + 1, x3, x4, st =>
    if (4 : Int32) ≤ x4 then (some st) else (zb (fX1_logsOf x4 st) (fun r_2 => if r_2 ≤ x1 then (fX1_freeLogsBeyond_5 x1 x2 n x3 (x4 + (1 : Int32)) st) else (if x2 ≤ x3 then (fX1_freeLogsBeyond_31 x1 x2 (fX1_freeLogsBeyond_5 x1 x2 n) x3 x4 (0 : Int32) st) else (fX1_freeLogsBeyond_31 x1 x2 (fX1_freeLogsBeyond_5 x1 x2 n) x3 x4 (1 : Int32) st))))
def fX1_freeLogsBeyond  (a1 : Int32) (a2 : Int32) (st : CS) : Option CS :=
  fX1_freeLogsBeyond_5 a1 a2 FU (0 : Int32) (0 : Int32) st
def fX1_leastLaden_5 (st : CS) : Nat → Int32 → Int32 → Option Int32
  | 0, _, _ => none
  | n + 1, x1, x2 =>
    if (4 : Int32) ≤ x2 then (some x1) else (zi x2 4 (if (st.1 0 x2.toNatClampNeg) = 0 then (fX1_leastLaden_5 st n x1 (x2 + (1 : Int32))) else (if x1 = (-5 : Int32) then (fX1_leastLaden_5 st n x2 (x2 + (1 : Int32))) else (zb (fX1_logsOf x2 st) (fun r_5 => zb (fX1_logsOf x1 st) (fun r_6 => if r_6 ≤ r_5 then (fX1_leastLaden_5 st n x1 (x2 + (1 : Int32))) else (fX1_leastLaden_5 st n x2 (x2 + (1 : Int32)))))))))
def fX1_leastLaden   (st : CS) : Option Int32 :=
  fX1_leastLaden_5 st FU (-5 : Int32) (0 : Int32)
def fX1_giveFreeLogs_2 : Nat → Int32 → CS → Option CS
  | 0, _, _ => none
  | n + 1, x1, st =>
    if (4 : Int32) ≤ x1 then (some st) else (zi x1 4 (if (st.1 1 x1.toNatClampNeg) = (-5 : Int32) then (zb (fX1_leastLaden st) (fun r_4 => zi x1 4 (zl (wA st 1 x1 r_4) (fun st_6 => fX1_giveFreeLogs_2 n (x1 + (1 : Int32)) st_6)))) else (fX1_giveFreeLogs_2 n (x1 + (1 : Int32)) st)))
def fX1_giveFreeLogs   (st : CS) : Option CS :=
  fX1_giveFreeLogs_2 FU (0 : Int32) st
def fX1_moves_4 (st : CS) : Nat → Int32 → Int32 → Option Int32
  | 0, _, _ => none
  | n + 1, x1, x2 =>
    if (4 : Int32) ≤ x2 then (some x1) else (zi x2 4 (zi x2 4 (if (st.1 1 x2.toNatClampNeg) = (st.1 2 x2.toNatClampNeg) then (fX1_moves_4 st n x1 (x2 + (1 : Int32))) else (fX1_moves_4 st n (x1 + (1 : Int32)) (x2 + (1 : Int32))))))
def fX1_moves   (st : CS) : Option Int32 :=
  fX1_moves_4 st FU (0 : Int32) (0 : Int32)
def fX1_changed_55 (st : CS) : Option (Int32 × CS) :=
  zb (fX1_moves st) (fun r_8 => some (r_8, st))
def fX1_changed  (a1 : Int32) (a2 : Int32) (st : CS) : Option (Int32 × CS) :=
  zi a1 4 (zl (wA st 0 a1 (vp_nar .boolean a2)) (fun st_2 => zc (0 : Int32) (0 : Int32) (4 : Int32) 4 4 ((zl (sA st_2 2 (va_cpy (st_2.1 1) (st_2.1 2) (0 : Int32).toNatClampNeg (0 : Int32).toNatClampNeg (4 : Int32).toNatClampNeg)) (fun st_4 => zb (fX1_freeLogsOfAbsent st_4) (fun st_5 => zb (fX1_membersIn st_5) (fun r_6 => if r_6 ≤ 0 then (fX1_changed_55 st_5) else (zz r_6 (zb (fX1_freeLogsBeyond ((4 : Int32) / r_6) ((4 : Int32) - (((4 : Int32) / r_6) * r_6)) st_5) (fun st_10 => zb (fX1_giveFreeLogs st_10) (fun st_11 => fX1_changed_55 st_11)))))))))))
def fX2_takeRecord  (a2 : Int32) (sx : CS) (st : CS) : Option CS :=
  zi (st.2 0) 60 (zl (wA st 0 (st.2 0) a2) (fun st_2 => zi a2 200 (zi (st_2.2 0) 60 (zl (wA st_2 1 (st_2.2 0) (sx.1 1 a2.toNatClampNeg)) (fun st_5 => zi a2 200 (zi (st_5.2 0) 60 (zl (wA st_5 2 (st_5.2 0) (sx.1 0 a2.toNatClampNeg)) (fun st_8 => zi a2 200 (zi (st_8.2 0) 60 (zl (wA st_8 3 (st_8.2 0) (sx.1 4 a2.toNatClampNeg)) (fun st_11 => zl (sF st_11 0 ((st_11.2 0) + (1 : Int32))) (fun st_12 => some st_12))))))))))))
def fX2_filled_64 (sx : CS) (x2 : Int32) (x3 : Int32) (K8 : Int32 → CS → Option (Int32 × CS)) (x4 : Int32) (st : CS) : Option (Int32 × CS) :=
  zb (fX2_takeRecord x4 sx st) (fun st_8 => K8 (x4 + (1 : Int32)) st_8)
def fX2_filled_8 (sx : CS) (x2 : Int32) (x3 : Int32) : Nat → Int32 → CS → Option (Int32 × CS)
  | 0, _, _ => none
  | n + 1, x4, st =>
    if (sx.2 0) ≤ x4 then (some ((st.2 0), st)) else (zb (fX3_has x4 sx) (fun r_3 => if r_3 = 0 then (fX2_filled_8 sx x2 x3 n (x4 + (1 : Int32)) st) else (if x3 ≤ (st.2 0) then (some ((-13 : Int32), st)) else (if (st.2 0) < (60 : Int32) then (if x2 = 0 then (fX2_filled_64 sx x2 x3 (fX2_filled_8 sx x2 x3 n) x4 st) else (zi x4 200 (if (sx.1 0 x4.toNatClampNeg) = (2 : Int32) then (some ((-16 : Int32), st)) else (fX2_filled_64 sx x2 x3 (fX2_filled_8 sx x2 x3 n) x4 st)))) else (some ((-13 : Int32), st))))))
def fX2_filled  (a2 : Int32) (a3 : Int32) (sx : CS) (st : CS) : Option (Int32 × CS) :=
  zl (sF st 0 (0 : Int32)) (fun st_1 => fX2_filled_8 sx a2 a3 FU (0 : Int32) st_1)
def fX2_about  (a1 : Int32) (a2 : Int32) (st : CS) : Option Int64 :=
  if a2 = (0 : Int32) then (zi a1 60 (some ((st.1 0 a1.toNatClampNeg).toInt64))) else if a2 = (1 : Int32) then (zi a1 60 (some ((st.1 1 a1.toNatClampNeg).toInt64))) else if a2 = (2 : Int32) then (zi a1 60 (if (st.1 2 a1.toNatClampNeg) = (2 : Int32) then (some ((1 : Int64))) else (some ((0 : Int64))))) else if a2 = (3 : Int32) then (zi a1 60 (if (st.1 2 a1.toNatClampNeg) = (2 : Int32) then (some ((-9223372036854775808 : Int64))) else (zi a1 60 (some ((st.1 3 a1.toNatClampNeg).toInt64))))) else (some ((-9223372036854775808 : Int64)))
def fX3_copyFrom   (sx : CS) (st : CS) : Option CS :=
  zc (0 : Int32) (0 : Int32) (200 : Int32) 200 200 ((zl (sA st 0 (va_cpy (sx.1 0) (st.1 0) (0 : Int32).toNatClampNeg (0 : Int32).toNatClampNeg (200 : Int32).toNatClampNeg)) (fun st_2 => zc (0 : Int32) (0 : Int32) (200 : Int32) 200 200 ((zl (sA st_2 1 (va_cpy (sx.1 1) (st_2.1 1) (0 : Int32).toNatClampNeg (0 : Int32).toNatClampNeg (200 : Int32).toNatClampNeg)) (fun st_4 => zc (0 : Int32) (0 : Int32) (200 : Int32) 200 200 ((zl (sA st_4 2 (va_cpy (sx.1 2) (st_4.1 2) (0 : Int32).toNatClampNeg (0 : Int32).toNatClampNeg (200 : Int32).toNatClampNeg)) (fun st_6 => zc (0 : Int32) (0 : Int32) (200 : Int32) 200 200 ((zl (sA st_6 3 (va_cpy (sx.1 3) (st_6.1 3) (0 : Int32).toNatClampNeg (0 : Int32).toNatClampNeg (200 : Int32).toNatClampNeg)) (fun st_8 => zc (0 : Int32) (0 : Int32) (200 : Int32) 200 200 ((zl (sA st_8 4 (va_cpy (sx.1 4) (st_8.1 4) (0 : Int32).toNatClampNeg (0 : Int32).toNatClampNeg (200 : Int32).toNatClampNeg)) (fun st_10 => zc (0 : Int32) (0 : Int32) (201 : Int32) 201 201 ((zl (sA st_10 5 (va_cpy (sx.1 5) (st_10.1 5) (0 : Int32).toNatClampNeg (0 : Int32).toNatClampNeg (201 : Int32).toNatClampNeg)) (fun st_12 => zl (sF st_12 0 (sx.2 0)) (fun st_13 => zl (sF st_13 1 (sx.2 1)) (fun st_14 => some st_14))))))))))))))))))))
def fX4_copyFrom  (nR : Nat)  (sx : CS) (st : CS) : Option CS :=
  zl (sF st 0 (if (nI nR) < (sx.2 0) then (nI nR) else (sx.2 0))) (fun st_1 => zc (0 : Int32) (0 : Int32) (st_1.2 0) nR nR ((zl (sA st_1 0 (va_cpy (sx.1 0) (st_1.1 0) (0 : Int32).toNatClampNeg (0 : Int32).toNatClampNeg (st_1.2 0).toNatClampNeg)) (fun st_3 => zc (0 : Int32) (0 : Int32) (st_3.2 0) nR nR ((zl (sA st_3 1 (va_cpy (sx.1 1) (st_3.1 1) (0 : Int32).toNatClampNeg (0 : Int32).toNatClampNeg (st_3.2 0).toNatClampNeg)) (fun st_5 => some st_5)))))))
def fX4_isFull  (nR : Nat)  (st : CS) : Option Int32 :=
  if (st.2 0) < (nI nR) then (some ((0 : Int32))) else (some ((1 : Int32)))
def fX4_takeRow  (nR : Nat) (a1 : Int32) (a2 : Int32) (st : CS) : Option (Int32 × CS) :=
  zi (st.2 0) nR (zl (wA st 0 (st.2 0) a1) (fun st_2 => zi (st_2.2 0) nR (zl (wA st_2 1 (st_2.2 0) a2) (fun st_4 => zl (sF st_4 0 ((st_4.2 0) + (1 : Int32))) (fun st_5 => some ((st_5.2 0), st_5))))))
def fX5_copyFrom_2 (sx : SS) : Nat → Int32 → SS → Option SS
  | 0, _, _ => none
  | n + 1, x2, st =>
    if (4 : Int32) ≤ x2 then (zb (fX1_copyFrom sx.2.1 st.2.1) (fun y_3 => zl (sGr st y_3) (fun st_2 => zb (fX4_copyFrom 10 sx.2.2.1 st_2.2.2.1) (fun y_5 => zl (sPl st_2 y_5) (fun st_4 => zb (fX4_copyFrom 8 sx.2.2.2.1 st_4.2.2.2.1) (fun y_7 => zl (sBk st_4 y_7) (fun st_6 => zl (sTm st_6 0 (sx.2.2.2.2 0)) (fun st_8 => zl (sTm st_8 1 (sx.2.2.2.2 1)) (fun st_9 => zl (sTm st_9 2 (sx.2.2.2.2 2)) (fun st_10 => zl (sTm st_10 3 (sx.2.2.2.2 3)) (fun st_11 => some st_11))))))))))) else (zi x2 4 (zi x2 4 (zb (fX3_copyFrom (sx.1 x2.toNatClampNeg) (st.1 x2.toNatClampNeg)) (fun y_15 => zl (sLg st x2.toNatClampNeg y_15) (fun st_14 => fX5_copyFrom_2 sx n (x2 + (1 : Int32)) st_14)))))
def fX5_copyFrom   (sx : SS) (st : SS) : Option SS :=
  fX5_copyFrom_2 sx FU (0 : Int32) st
def fX5_records_4 (st : SS) : Nat → Int32 → Int32 → Option Int32
  | 0, _, _ => none
  | n + 1, x1, x2 =>
    if (4 : Int32) ≤ x2 then (some x1) else (zi x2 4 (zb (fX3_records (st.1 x2.toNatClampNeg)) (fun r_3 => fX5_records_4 st n (x1 + r_3) (x2 + (1 : Int32)))))
def fX5_records   (st : SS) : Option Int32 :=
  fX5_records_4 st FU (0 : Int32) (0 : Int32)
def fX5_follow  (a1 : Int32) (a2 : Int32) (st : SS) : Option SS :=
  if a1 = (0 : Int32) then (zi a2 4 (zb2 (fX3_compacted (st.2.2.2.2 0) (st.2.2.2.2 1) (st.1 a2.toNatClampNeg)) (fun r_3 y_5 => zl (sLg st a2.toNatClampNeg y_5) (fun st_4 => some st_4)))) else if a1 = (1 : Int32) then (zi a2 4 (zb2 (fX3_retained (st.2.2.2.2 2) (st.2.2.2.2 0) (st.2.2.2.2 3) (st.1 a2.toNatClampNeg)) (fun r_8 y_10 => zl (sLg st a2.toNatClampNeg y_10) (fun st_9 => some st_9)))) else if a1 = (2 : Int32) then (zb2 (fX1_polled a2 st.1 st.2.1) (fun r_12 y_14 => zl (sGr st y_14) (fun st_13 => some st_13))) else (zl (sTm st 0 ((st.2.2.2.2 0) + a2)) (fun st_15 => some st_15))
def fX5_followPlan_2 : Nat → Int32 → SS → Option SS
  | 0, _, _ => none
  | n + 1, x1, st =>
    if (st.2.2.1.2 0) ≤ x1 then (some st) else (zi x1 10 (zi x1 10 (zb (fX5_follow (st.2.2.1.1 0 x1.toNatClampNeg) (st.2.2.1.1 1 x1.toNatClampNeg) st) (fun st_4 => fX5_followPlan_2 n (x1 + (1 : Int32)) st_4))))
def fX5_followPlan   (st : SS) : Option SS :=
  fX5_followPlan_2 FU (0 : Int32) st
def fX5_firstOtherwise_2 (st : SS) : Nat → Int32 → Option Int32
  | 0, _ => none
  | n + 1, x1 =>
    if (st.2.2.2.1.2 0) ≤ x1 then (some ((-5 : Int32))) else (zi x1 8 (zi (st.2.2.2.1.1 0 x1.toNatClampNeg) 4 (zb (fX3_start (st.1 (st.2.2.2.1.1 0 x1.toNatClampNeg).toNatClampNeg)) (fun r_4 => zi x1 8 (if r_4 = (st.2.2.2.1.1 1 x1.toNatClampNeg) then (fX5_firstOtherwise_2 st n (x1 + (1 : Int32))) else (some x1))))))
def fX5_firstOtherwise   (st : SS) : Option Int32 :=
  fX5_firstOtherwise_2 st FU (0 : Int32)
def fX6_isNothing   (st : TS) : Option Int32 :=
  if (st.2 0) = (-1 : Int32) then (some ((1 : Int32))) else (some ((0 : Int32)))
def fX6_empty   (st : TS) : Option TS :=
  zl (sFt st 0 (-1 : Int32)) (fun st_1 => zl (sFt st_1 1 (0 : Int32)) (fun st_2 => some st_2))
def fX6_become_17 : Nat → Int32 → TS → Option TS
  | 0, _, _ => none
  | n + 1, x3, st =>
    if (60 : Int32) ≤ x3 then (some st) else (zi x3 60 (zl (wLt st x3 (0 : Int64)) (fun st_5 => fX6_become_17 n (x3 + (1 : Int32)) st_5)))
def fX6_become  (a1 : Int32) (a2 : Int32) (st : TS) : Option TS :=
  zl (sFt st 0 a1) (fun st_1 => zl (sFt st_1 1 (if (60 : Int32) < a2 then (60 : Int32) else a2)) (fun st_2 => fX6_become_17 FU (0 : Int32) st_2))
def fX6_hasPlace  (a1 : Int32) (st : TS) : Option Int32 :=
  if a1 < 0 then (some ((0 : Int32))) else (if (st.2 1) ≤ a1 then (some ((0 : Int32))) else (some ((1 : Int32))))
def fX6_hasPlaces  (a1 : Int32) (a2 : Int32) (st : TS) : Option Int32 :=
  if a1 < 0 then (some ((0 : Int32))) else (if a2 < 0 then (some ((0 : Int32))) else (if (st.2 1) < a1 then (some ((0 : Int32))) else (if ((st.2 1) - a1) < a2 then (some ((0 : Int32))) else (some ((1 : Int32))))))
def fX6_asItem  (a1 : Int64) (st : TS) : Option Int64 :=
  if (st.2 0) = (0 : Int32) then (some a1.toInt32.toInt8.toInt32.toInt64) else if (st.2 0) = (1 : Int32) then (some a1.toInt32.toInt16.toInt32.toInt64) else if (st.2 0) = (2 : Int32) then (some a1.toInt32.toInt64) else if (st.2 0) = (3 : Int32) then (some a1) else (if (lg_cmp a1 (0 : Int64)) = 0 then (some ((0 : Int64))) else (some ((1 : Int64))))
def fX6_judged_5 (sx : CS) (x2 : Int32) (st : TS) : Nat → Int32 → Int32 → Option Int32
  | 0, _, _ => none
  | n + 1, x3, x4 =>
    if (sx.2 0) ≤ x4 then (some ((-5 : Int32))) else (zb (fX3_has x4 sx) (fun r_2 => if r_2 = 0 then (fX6_judged_5 sx x2 st n x3 (x4 + (1 : Int32))) else (if x2 < 0 then (some (((100 : Int32) + x3))) else (if x3 < ((st.2 1) - x2) then (zi (x2 + x3) 60 (if (lg_cmp (st.1 (x2 + x3).toNatClampNeg) x4.toInt64) = 0 then (fX6_judged_5 sx x2 st n (x3 + (1 : Int32)) (x4 + (1 : Int32))) else (some x3))) else (some (((100 : Int32) + x3)))))))
def fX6_judged  (a2 : Int32) (sx : CS) (st : TS) : Option Int32 :=
  fX6_judged_5 sx a2 st FU (0 : Int32) (0 : Int32)
def fX7_isFull   (st : CS) : Option Int32 :=
  if (st.2 0) < (100 : Int32) then (some ((0 : Int32))) else (some ((1 : Int32)))
def fX7_takeSign  (a1 : Int32) (st : CS) : Option (Int32 × CS) :=
  zi (st.2 0) 100 (zl (wA st 0 (st.2 0) a1) (fun st_2 => zl (sF st_2 0 ((st_2.2 0) + (1 : Int32))) (fun st_3 => some ((st_3.2 0), st_3))))
def fX7_isBetween  (a1 : Int32) (a2 : Int32) (st : CS) : Option Int32 :=
  if (st.2 0) ≤ (st.2 2) then (some ((0 : Int32))) else (zi (st.2 2) 100 (if (st.1 0 (st.2 2).toNatClampNeg) < a1 then (some ((0 : Int32))) else (zi (st.2 2) 100 (if a2 < (st.1 0 (st.2 2).toNatClampNeg) then (some ((0 : Int32))) else (some ((1 : Int32)))))))
def fX7_skipped  (a1 : Int32) (st : CS) : Option (Int32 × CS) :=
  zb (fX7_isBetween a1 a1 st) (fun r_1 => if r_1 = 0 then (some ((0 : Int32), st)) else (zl (sF st 2 ((st.2 2) + (1 : Int32))) (fun st_3 => some ((1 : Int32), st_3))))
def fX7_digits_4 (x1 : Int32) : Nat → Int32 → Int32 → CS → Option (Int32 × CS)
  | 0, _, _, _ => none
  | n + 1, x2, x3, st =>
    if x1 ≤ x3 then (some (x2, st)) else (zb (fX7_isBetween (48 : Int32) (57 : Int32) st) (fun r_2 => if r_2 = 0 then (some (x2, st)) else (zi (st.2 2) 100 (zl (((((10 : Int32) * x2) + (st.1 0 (st.2 2).toNatClampNeg)) - (48 : Int32))) (fun x_5 => zl (sF st 2 ((st.2 2) + (1 : Int32))) (fun st_6 => fX7_digits_4 x1 n x_5 (x3 + (1 : Int32)) st_6))))))
def fX7_digits  (a1 : Int32) (st : CS) : Option (Int32 × CS) :=
  fX7_digits_4 a1 FU (0 : Int32) (0 : Int32) st
def fX7_valueParsed_74 (x3 : Int32) (y0 : Int32) (y1 : Int32) (st : CS) : Option (Int32 × CS) :=
  zb (fX0_quotient y0 x3) (fun r_11 => zi y1 12 (zl (wA st 4 y1 r_11) (fun st_13 => some ((1 : Int32), st_13))))
def fX7_valueParsed_56 (x1 : Int32) (x2 : Int32) (x3 : Int32) (st : CS) : Option (Int32 × CS) :=
  if x1 = 0 then (fX7_valueParsed_74 x3 x2 (st.2 1) st) else (fX7_valueParsed_74 x3 (-x2) (st.2 1) st)
def fX7_valueParsed   (st : CS) : Option (Int32 × CS) :=
  zb2 (fX7_skipped (45 : Int32) st) (fun r_1 st_2 => zb (fX7_isBetween (48 : Int32) (57 : Int32) st_2) (fun r_3 => if r_3 = 0 then (some ((0 : Int32), st_2)) else (zb2 (fX7_digits (4 : Int32) st_2) (fun r_5 st_6 => zb2 (fX7_skipped (47 : Int32) st_6) (fun r_7 st_8 => if r_7 = 0 then (fX7_valueParsed_56 r_1 r_5 (1 : Int32) st_8) else (zb (fX7_isBetween (48 : Int32) (57 : Int32) st_8) (fun r_14 => if r_14 = 0 then (some ((0 : Int32), st_8)) else (zb2 (fX7_digits (2 : Int32) st_8) (fun r_16 st_17 => fX7_valueParsed_56 r_1 r_5 r_16 st_17)))))))))
def fX7_clauseParsed   (st : CS) : Option (Int32 × CS) :=
  zb (fX7_isBetween (48 : Int32) (51 : Int32) st) (fun r_1 => if r_1 = 0 then (some ((0 : Int32), st)) else (zi (st.2 2) 100 (zi (st.2 1) 12 (zl (wA st 1 (st.2 1) ((st.1 0 (st.2 2).toNatClampNeg) - (48 : Int32))) (fun st_5 => zl (sF st_5 2 ((st_5.2 2) + (1 : Int32))) (fun st_6 => zb (fX7_isBetween (97 : Int32) (122 : Int32) st_6) (fun r_7 => if r_7 = 0 then (some ((0 : Int32), st_6)) else (zi (st_6.2 2) 100 (zi (st_6.2 1) 12 (zl (wA st_6 2 (st_6.2 1) ((st_6.1 0 (st_6.2 2).toNatClampNeg) - (97 : Int32))) (fun st_11 => zl (sF st_11 2 ((st_11.2 2) + (1 : Int32))) (fun st_12 => zb2 (fX7_skipped (45 : Int32) st_12) (fun r_13 st_14 => if r_13 = 0 then (zi (st_14.2 1) 12 (zl (wA st_14 3 (st_14.2 1) (1 : Int32)) (fun st_17 => zb2 (fX7_skipped (61 : Int32) st_17) (fun r_18 st_19 => if r_18 = 0 then (some ((0 : Int32), st_19)) else (zb2 (fX7_valueParsed st_19) (fun r_21 st_22 => if r_21 = 0 then (some ((0 : Int32), st_22)) else (some ((1 : Int32), st_22)))))))) else (zi (st_14.2 1) 12 (zl (wA st_14 3 (st_14.2 1) (2 : Int32)) (fun st_25 => zi (st_25.2 1) 12 (zl (wA st_25 4 (st_25.2 1) (0 : Int32)) (fun st_27 => some ((1 : Int32), st_27)))))))))))))))))))
def fX7_parsed_10 : Nat → CS → Option (Int32 × CS)
  | 0, _ => none
  | n + 1, st =>
    if (12 : Int32) ≤ (st.2 1) then (some ((0 : Int32), st)) else (zb2 (fX7_clauseParsed st) (fun r_4 st_5 => if r_4 = 0 then (some ((0 : Int32), st_5)) else (zl (sF st_5 1 ((st_5.2 1) + (1 : Int32))) (fun st_7 => if (st_7.2 2) = (st_7.2 0) then (some ((1 : Int32), st_7)) else (if (st_7.2 1) = (12 : Int32) then (some ((0 : Int32), st_7)) else (zb2 (fX7_skipped (59 : Int32) st_7) (fun r_10 st_11 => if r_10 = 0 then (some ((0 : Int32), st_11)) else (fX7_parsed_10 n st_11))))))))
def fX7_parsed   (st : CS) : Option (Int32 × CS) :=
  zl (sF st 2 (0 : Int32)) (fun st_1 => zl (sF st_1 1 (0 : Int32)) (fun st_2 => fX7_parsed_10 FU st_2))
