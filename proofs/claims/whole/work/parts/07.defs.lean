def fX0_packed_78 (x2 : Int32) (x4 : UInt64) (x6 : Int32) : Option Int64 :=
  zl (((1 : Int64) <<< (x2.toInt64 &&& 63))) (fun x_3 => zn64 (FP.dsub x4 (4607182418800017408 : UInt64)) (zn64 (FP.dmul (FP.dsub x4 (4607182418800017408 : UInt64)) (FP.l2d x_3)) (some (((x6.toInt64 <<< (x2.toInt64 &&& 63)) ||| (FP.d2l (FP.dmul (FP.dsub x4 (4607182418800017408 : UInt64)) (FP.l2d x_3))))))))
def fX0_packed_46 (x2 : Int32) : Nat → UInt64 → Int32 → Int32 → Option Int64
  | 0, _, _, _ => none
  | n + 1, x4, x6, x7 =>
    if (1023 : Int32) ≤ x7 then (fX0_packed_78 x2 x4 x6) else (if 0 ≤ (Op.cmpValue (FP.dcmp x4 (4607182418800017408 : UInt64)) CmpOp.g) then (fX0_packed_78 x2 x4 x6) else (zn64 (FP.dmul x4 (4611686018427387904 : UInt64)) (zl ((FP.dmul x4 (4611686018427387904 : UInt64))) (fun x_8 => fX0_packed_46 x2 n x_8 (x6 + (-1 : Int32)) (x7 + (1 : Int32))))))
def fX0_packed_9 (x2 : Int32) : Nat → UInt64 → Int32 → Int32 → Option Int64
  | 0, _, _, _ => none
  | n + 1, x4, x6, x7 =>
    if (1023 : Int32) ≤ x7 then (fX0_packed_46 x2 FU x4 x6 (0 : Int32)) else (if (Op.cmpValue (FP.dcmp x4 (4611686018427387904 : UInt64)) CmpOp.l) < 0 then (fX0_packed_46 x2 FU x4 x6 (0 : Int32)) else (zn64 (FP.dmul x4 (4602678819172646912 : UInt64)) (zl ((FP.dmul x4 (4602678819172646912 : UInt64))) (fun x_11 => fX0_packed_9 x2 n x_11 (x6 + (1 : Int32)) (x7 + (1 : Int32))))))
def fX0_packed  (a1 : UInt64) (a2 : Int32) (a3 : Int32) : Option Int64 :=
  fX0_packed_9 a2 FU a1 a3 (0 : Int32)
def fX0_bitsOfFloat_22 (x0 : UInt32) (y0 : UInt64) : Option Int32 :=
  zb (fX0_packed y0 (23 : Int32) (127 : Int32)) (fun r_4 => if 0 ≤ (Op.cmpValue (FP.fcmp x0 (0 : UInt32)) CmpOp.g) then (some r_4.toInt32) else (some ((r_4.toInt32 ||| (-2147483648 : Int32)))))
def fX0_bitsOfFloat  (a1 : UInt32) : Option Int32 :=
  if (Op.cmpValue (FP.fcmp a1 (0 : UInt32)) CmpOp.l) = 0 then (some ((0 : Int32))) else (if 0 ≤ (Op.cmpValue (FP.fcmp a1 (0 : UInt32)) CmpOp.g) then (zn64 (FP.f2d a1) (fX0_bitsOfFloat_22 a1 (FP.f2d a1))) else (zn64 (FP.f2d (FP.fneg a1)) (fX0_bitsOfFloat_22 a1 (FP.f2d (FP.fneg a1)))))
def fX0_quotient  (a1 : Int32) (a2 : Int32) : Option Int32 :=
  if a2 = 0 then (if a1 = 0 then (some ((2143289344 : Int32))) else (if a1 ≤ 0 then (some ((-8388608 : Int32))) else (some ((2139095040 : Int32))))) else (if a1 = 0 then (if 0 ≤ a2 then (some ((0 : Int32))) else (some ((-2147483648 : Int32)))) else (zn32 (FP.fdiv (FP.i2f a1) (FP.i2f a2)) (zb (fX0_bitsOfFloat (FP.fdiv (FP.i2f a1) (FP.i2f a2))) (fun r_4 => some r_4))))
def fX0_isFinite  (a1 : Int32) : Option Int32 :=
  if (a1 &&& (2139095040 : Int32)) = (2139095040 : Int32) then (some ((0 : Int32))) else (some ((1 : Int32)))
def fX0_oddSum  (a1 : Int32) (a2 : Int32) : Option Int32 :=
  if a1 = a2 then (some a1) else (some ((2143289344 : Int32)))
def fX0_widened  (a1 : Int32) : Option Int64 :=
  if a1 = (2143289344 : Int32) then (some ((9221120237041090560 : Int64))) else (if 0 ≤ a1 then (some ((9218868437227405312 : Int64))) else (some ((-4503599627370496 : Int64))))
def fX0_rank  (a1 : Int32) : Option Int32 :=
  if 0 ≤ a1 then (some a1) else (some ((a1 ^^^ (2147483647 : Int32))))
def fX0_floatOf_48 (x0 : Int32) (x1 : Int32) : Nat → UInt32 → Int32 → Option UInt32
  | 0, _, _ => none
  | n + 1, x2, x3 =>
    if x1 ≤ x3 then (if 0 ≤ x0 then (some x2) else (some ((FP.fneg x2)))) else (zn32 (FP.fmul x2 (1073741824 : UInt32)) (zl ((FP.fmul x2 (1073741824 : UInt32))) (fun x_8 => fX0_floatOf_48 x0 x1 n x_8 (x3 + (1 : Int32)))))
def fX0_floatOf_26 (x0 : Int32) (x1 : Int32) : Nat → UInt32 → Int32 → Option UInt32
  | 0, _, _ => none
  | n + 1, x2, x3 =>
    if (150 : Int32) ≤ x3 then (fX0_floatOf_48 x0 x1 FU x2 (150 : Int32)) else (zn32 (FP.fmul x2 (1056964608 : UInt32)) (zl ((FP.fmul x2 (1056964608 : UInt32))) (fun x_10 => fX0_floatOf_26 x0 x1 n x_10 (x3 + (1 : Int32)))))
def fX0_floatOf  (a1 : Int32) : Option UInt32 :=
  zl (((a1.toUInt32 >>> ((23 : Int32).toUInt32 &&& Int32.toUInt32 31)).toInt32 &&& (255 : Int32))) (fun x_1 => if x_1 = 0 then (some ((0 : UInt32))) else (zl ((FP.i2f ((a1 &&& (8388607 : Int32)) ||| (8388608 : Int32)))) (fun x_3 => fX0_floatOf_26 a1 x_1 FU x_3 x_1)))
def fX0_bitsOfDouble_20 (x0 : UInt64) (y0 : UInt64) : Option Int64 :=
  zb (fX0_packed y0 (52 : Int32) (1023 : Int32)) (fun r_3 => if 0 ≤ (Op.cmpValue (FP.dcmp x0 (0 : UInt64)) CmpOp.g) then (some r_3) else (some ((r_3 ||| (-9223372036854775808 : Int64)))))
def fX0_bitsOfDouble  (a1 : UInt64) : Option Int64 :=
  if (Op.cmpValue (FP.dcmp a1 (0 : UInt64)) CmpOp.l) = 0 then (some ((0 : Int64))) else (if 0 ≤ (Op.cmpValue (FP.dcmp a1 (0 : UInt64)) CmpOp.g) then (fX0_bitsOfDouble_20 a1 a1) else (fX0_bitsOfDouble_20 a1 (FP.dneg a1)))
def fX3_isFull   (st : CS) : Option Int32 :=
  if (st.2 0) < (200 : Int32) then (some ((0 : Int32))) else (some ((1 : Int32)))
def fX3_recordsIn_9 (x2 : Int32) (st : CS) : Nat → Int32 → Int32 → Option Int32
  | 0, _, _ => none
  | n + 1, x3, x4 =>
    if x2 ≤ x4 then (some x3) else (if (st.2 0) ≤ x4 then (some x3) else (zi x4 200 (if (st.1 0 x4.toNatClampNeg) = 0 then (fX3_recordsIn_9 x2 st n x3 (x4 + (1 : Int32))) else (fX3_recordsIn_9 x2 st n (x3 + (1 : Int32)) (x4 + (1 : Int32))))))
def fX3_recordsIn  (a1 : Int32) (a2 : Int32) (st : CS) : Option Int32 :=
  zl ((if a1 < (0 : Int32) then (0 : Int32) else a1)) (fun x_1 => fX3_recordsIn_9 a2 st FU (0 : Int32) x_1)
def fX3_sizesIn_9 (x2 : Int32) (st : CS) : Nat → Int32 → Int32 → Option Int32
  | 0, _, _ => none
  | n + 1, x3, x4 =>
    if x2 ≤ x4 then (some x3) else (if (st.2 0) ≤ x4 then (some x3) else (zi x4 200 (if (st.1 0 x4.toNatClampNeg) = 0 then (fX3_sizesIn_9 x2 st n x3 (x4 + (1 : Int32))) else (zi x4 200 (zl ((x3 + (st.1 3 x4.toNatClampNeg))) (fun x_7 => fX3_sizesIn_9 x2 st n x_7 (x4 + (1 : Int32))))))))
def fX3_sizesIn  (a1 : Int32) (a2 : Int32) (st : CS) : Option Int32 :=
  zl ((if a1 < (0 : Int32) then (0 : Int32) else a1)) (fun x_1 => fX3_sizesIn_9 a2 st FU (0 : Int32) x_1)
def fX3_append_100 (x6 : Int32) (st : CS) : Option (Int32 × CS) :=
  zi (st.2 1) 201 (zl (wA st 5 (st.2 1) (st.2 0)) (fun st_17 => zl (sF st_17 1 ((st_17.2 1) + (1 : Int32))) (fun st_18 => some (x6, st_18))))
def fX3_append  (a1 : Int32) (a2 : Int32) (a3 : Int32) (a4 : Int32) (a5 : Int32) (st : CS) : Option (Int32 × CS) :=
  zi (st.2 0) 200 (zl (wA st 0 (st.2 0) a2) (fun st_2 => zi (st.2 0) 200 (zl (wA st_2 1 (st.2 0) a1) (fun st_4 => zi (st.2 0) 200 (zl (wA st_4 2 (st.2 0) a5) (fun st_6 => zi (st.2 0) 200 (zl (wA st_6 3 (st.2 0) a4) (fun st_8 => zi (st.2 0) 200 (zl (wA st_8 4 (st.2 0) a3) (fun st_10 => zl (sF st_10 0 ((st_10.2 0) + (1 : Int32))) (fun st_11 => zi ((st_11.2 1) - (1 : Int32)) 201 (zl ((st_11.1 5 ((st_11.2 1) - (1 : Int32)).toNatClampNeg)) (fun x_13 => zb (fX3_recordsIn x_13 (st_11.2 0) st_11) (fun r_14 => if (4 : Int32) ≤ r_14 then (fX3_append_100 (st.2 0) st_11) else (zb (fX3_sizesIn x_13 (st_11.2 0) st_11) (fun r_19 => if r_19 < (20 : Int32) then (some ((st.2 0), st_11)) else (fX3_append_100 (st.2 0) st_11)))))))))))))))))
def fX3_has  (a1 : Int32) (st : CS) : Option Int32 :=
  if a1 < 0 then (some ((0 : Int32))) else (if (st.2 0) ≤ a1 then (some ((0 : Int32))) else (zi a1 200 (if (st.1 0 a1.toNatClampNeg) = 0 then (some ((0 : Int32))) else (some ((1 : Int32))))))
def fX3_start   (st : CS) : Option Int32 :=
  zi (0 : Int32) 201 (some ((st.1 5 (0 : Int32).toNatClampNeg)))
def fX3_records   (st : CS) : Option Int32 :=
  zb (fX3_recordsIn (0 : Int32) (st.2 0) st) (fun r_1 => some r_1)
def fX3_isClosed  (a1 : Int32) (st : CS) : Option Int32 :=
  if ((st.2 1) - (1 : Int32)) ≤ a1 then (some ((0 : Int32))) else (some ((1 : Int32)))
def fX3_segmentEnd  (a1 : Int32) (st : CS) : Option Int32 :=
  zb (fX3_isClosed a1 st) (fun r_1 => if r_1 = 0 then (some ((st.2 0))) else (zi (a1 + (1 : Int32)) 201 (some ((st.1 5 (a1 + (1 : Int32)).toNatClampNeg)))))
def fX3_segmentOf_2 (x1 : Int32) (st : CS) : Nat → Int32 → Option Int32
  | 0, _ => none
  | n + 1, x2 =>
    if ((st.2 1) - (1 : Int32)) ≤ x2 then (some x2) else (zi (x2 + (1 : Int32)) 201 (if x1 < (st.1 5 (x2 + (1 : Int32)).toNatClampNeg) then (some x2) else (fX3_segmentOf_2 x1 st n (x2 + (1 : Int32)))))
def fX3_segmentOf  (a1 : Int32) (st : CS) : Option Int32 :=
  fX3_segmentOf_2 a1 st FU (0 : Int32)
def fX3_atOrBefore_11 (st : CS) : Nat → Int32 → Option Int32
  | 0, _ => none
  | n + 1, x2 =>
    if x2 < 0 then (some ((-5 : Int32))) else (zi x2 200 (if (st.1 0 x2.toNatClampNeg) = 0 then (fX3_atOrBefore_11 st n (x2 + (-1 : Int32))) else (some x2)))
def fX3_atOrBefore  (a1 : Int32) (st : CS) : Option Int32 :=
  zl ((if ((st.2 0) - (1 : Int32)) < a1 then ((st.2 0) - (1 : Int32)) else a1)) (fun x_1 => fX3_atOrBefore_11 st FU x_1)
def fX3_atOrBehind_6 (st : CS) : Nat → Int32 → Option Int32
  | 0, _ => none
  | n + 1, x2 =>
    if (st.2 0) ≤ x2 then (some ((-5 : Int32))) else (zi x2 200 (if (st.1 0 x2.toNatClampNeg) = 0 then (fX3_atOrBehind_6 st n (x2 + (1 : Int32))) else (some x2)))
def fX3_atOrBehind  (a1 : Int32) (st : CS) : Option Int32 :=
  zl ((if a1 < (0 : Int32) then (0 : Int32) else a1)) (fun x_1 => fX3_atOrBehind_6 st FU x_1)
def fX3_findLast_24 (x1 : Int32) : Nat → Int32 → CS → Option CS
  | 0, _, _ => none
  | n + 1, x2, st =>
    if x1 ≤ x2 then (some st) else (if (st.2 0) ≤ x2 then (some st) else (zi x2 200 (if (st.1 0 x2.toNatClampNeg) = 0 then (fX3_findLast_24 x1 n (x2 + (1 : Int32)) st) else (zi x2 200 (zi (st.1 1 x2.toNatClampNeg) 26 (zl (wA st 6 (st.1 1 x2.toNatClampNeg) x2) (fun st_8 => fX3_findLast_24 x1 n (x2 + (1 : Int32)) st_8)))))))
def fX3_findLast_2 (x1 : Int32) : Nat → Int32 → CS → Option CS
  | 0, _, _ => none
  | n + 1, x2, st =>
    if (26 : Int32) ≤ x2 then (fX3_findLast_24 x1 FU (0 : Int32) st) else (zi x2 26 (zl (wA st 6 x2 (-5 : Int32)) (fun st_10 => fX3_findLast_2 x1 n (x2 + (1 : Int32)) st_10)))
def fX3_findLast  (a1 : Int32) (st : CS) : Option CS :=
  fX3_findLast_2 a1 FU (0 : Int32) st
def fX3_goesCompacted  (a1 : Int32) (a2 : Int32) (a3 : Int32) (st : CS) : Option Int32 :=
  zi a1 200 (if (st.1 0 a1.toNatClampNeg) = 0 then (some ((0 : Int32))) else (zi a1 200 (zi (st.1 1 a1.toNatClampNeg) 26 (if a1 < (st.1 6 (st.1 1 a1.toNatClampNeg).toNatClampNeg) then (some ((1 : Int32))) else (zi a1 200 (if (st.1 0 a1.toNatClampNeg) = (2 : Int32) then (zi a1 200 (if (a2 - (st.1 2 a1.toNatClampNeg)) < a3 then (some ((0 : Int32))) else (some ((1 : Int32))))) else (some ((0 : Int32)))))))))
def fX3_fitTogether  (a1 : Int32) (st : CS) : Option Int32 :=
  zi a1 201 (zl ((st.1 5 a1.toNatClampNeg)) (fun x_2 => zb (fX3_segmentEnd (a1 + (1 : Int32)) st) (fun r_3 => zb (fX3_sizesIn x_2 r_3 st) (fun r_4 => if (20 : Int32) < r_4 then (some ((0 : Int32))) else (zb (fX3_recordsIn x_2 r_3 st) (fun r_6 => if (8 : Int32) < r_6 then (some ((0 : Int32))) else (some ((1 : Int32)))))))))
def fX3_dropBases_12 (x2 : Int32) : Nat → Int32 → CS → Option CS
  | 0, _, _ => none
  | n + 1, x3, st =>
    if (st.2 1) ≤ x3 then (some st) else (zi (x3 + x2) 201 (zi x3 201 (zl (wA st 5 x3 (st.1 5 (x3 + x2).toNatClampNeg)) (fun st_5 => fX3_dropBases_12 x2 n (x3 + (1 : Int32)) st_5))))
def fX3_dropBases  (a1 : Int32) (a2 : Int32) (st : CS) : Option CS :=
  zl (sF st 1 ((st.2 1) - a2)) (fun st_1 => fX3_dropBases_12 a2 FU a1 st_1)
def fX3_joinSegments_7 : Nat → Int32 → Int32 → CS → Option CS
  | 0, _, _, _ => none
  | n + 1, x1, x2, st =>
    if x2 ≤ 0 then (some st) else (zb (fX3_isClosed (x1 + (1 : Int32)) st) (fun r_2 => if r_2 = 0 then (some st) else (zb (fX3_fitTogether x1 st) (fun r_4 => if r_4 = 0 then (fX3_joinSegments_7 n (x1 + (1 : Int32)) (x2 + (-1 : Int32)) st) else (zb (fX3_dropBases (x1 + (1 : Int32)) (1 : Int32) st) (fun st_6 => fX3_joinSegments_7 n x1 (x2 + (-1 : Int32)) st_6))))))
def fX3_joinSegments   (st : CS) : Option CS :=
  fX3_joinSegments_7 FU (0 : Int32) (st.2 1) st
def fX3_compacted_13 (x1 : Int32) (x2 : Int32) : Nat → Int32 → Int32 → CS → Option (Int32 × CS)
  | 0, _, _, _ => none
  | n + 1, x3, x4, st =>
    zi ((st.2 1) - (1 : Int32)) 201 (if (st.1 5 ((st.2 1) - (1 : Int32)).toNatClampNeg) ≤ x4 then (zb (fX3_joinSegments st) (fun st_4 => some (x3, st_4))) else (zb (fX3_goesCompacted x4 x1 x2 st) (fun r_5 => if r_5 = 0 then (fX3_compacted_13 x1 x2 n x3 (x4 + (1 : Int32)) st) else (zi x4 200 (zl (wA st 0 x4 (0 : Int32)) (fun st_8 => fX3_compacted_13 x1 x2 n (x3 + (1 : Int32)) (x4 + (1 : Int32)) st_8))))))
def fX3_compacted  (a1 : Int32) (a2 : Int32) (st : CS) : Option (Int32 × CS) :=
  zb (fX3_findLast (st.2 0) st) (fun st_1 => fX3_compacted_13 a1 a2 FU (0 : Int32) (0 : Int32) st_1)
def fX3_goneIfCompacted_13 (x1 : Int32) (x2 : Int32) : Nat → Int32 → Int32 → CS → Option (Int32 × CS)
  | 0, _, _, _ => none
  | n + 1, x3, x4, st =>
    zi ((st.2 1) - (1 : Int32)) 201 (if (st.1 5 ((st.2 1) - (1 : Int32)).toNatClampNeg) ≤ x4 then (some (x3, st)) else (zb (fX3_goesCompacted x4 x1 x2 st) (fun r_4 => if r_4 = 0 then (fX3_goneIfCompacted_13 x1 x2 n x3 (x4 + (1 : Int32)) st) else (fX3_goneIfCompacted_13 x1 x2 n (x3 + (1 : Int32)) (x4 + (1 : Int32)) st))))
def fX3_goneIfCompacted  (a1 : Int32) (a2 : Int32) (st : CS) : Option (Int32 × CS) :=
  zb (fX3_findLast (st.2 0) st) (fun st_1 => fX3_goneIfCompacted_13 a1 a2 FU (0 : Int32) (0 : Int32) st_1)
def fX3_isOutdated_7 (x1 : Int32) (x2 : Int32) (st : CS) : Nat → Int32 → Option Int32
  | 0, _ => none
  | n + 1, x3 =>
    zb (fX3_segmentEnd x1 st) (fun r_3 => if r_3 ≤ x3 then (some ((1 : Int32))) else (zi x3 200 (if (st.1 0 x3.toNatClampNeg) = 0 then (fX3_isOutdated_7 x1 x2 st n (x3 + (1 : Int32))) else (zi x3 200 (if (st.1 2 x3.toNatClampNeg) < x2 then (fX3_isOutdated_7 x1 x2 st n (x3 + (1 : Int32))) else (some ((0 : Int32))))))))
def fX3_isOutdated  (a1 : Int32) (a2 : Int32) (st : CS) : Option Int32 :=
  zi a1 201 (zl ((st.1 5 a1.toNatClampNeg)) (fun x_2 => fX3_isOutdated_7 a1 a2 st FU x_2))
def fX3_segmentsGoing_43 (x1 : Int32) (x2 : Int32) (x3 : Int32) (st : CS) (K14 : Int32 → Int32 → Option Int32) (x4 : Int32) (x5 : Int32) : Option Int32 :=
  zi x5 201 (zi (x5 + (1 : Int32)) 201 (zb (fX3_sizesIn (st.1 5 x5.toNatClampNeg) (st.1 5 (x5 + (1 : Int32)).toNatClampNeg) st) (fun r_6 => K14 (x4 - r_6) (x5 + (1 : Int32)))))
def fX3_segmentsGoing_14 (x1 : Int32) (x2 : Int32) (x3 : Int32) (st : CS) : Nat → Int32 → Int32 → Option Int32
  | 0, _, _ => none
  | n + 1, x4, x5 =>
    if ((st.2 1) - (1 : Int32)) ≤ x5 then (some x5) else (if x1 < x4 then (fX3_segmentsGoing_43 x1 x2 x3 st (fX3_segmentsGoing_14 x1 x2 x3 st n) x4 x5) else (zb (fX3_isOutdated x5 (x2 - x3) st) (fun r_7 => if r_7 = 0 then (some x5) else (fX3_segmentsGoing_43 x1 x2 x3 st (fX3_segmentsGoing_14 x1 x2 x3 st n) x4 x5))))
def fX3_segmentsGoing  (a1 : Int32) (a2 : Int32) (a3 : Int32) (st : CS) : Option Int32 :=
  zb (fX3_sizesIn (0 : Int32) (st.2 0) st) (fun r_1 => fX3_segmentsGoing_14 a1 a2 a3 st FU r_1 (0 : Int32))
def fX3_retained_30 (x4 : Int32) (x5 : Int32) (x6 : Int32) : Nat → Int32 → CS → Option (Int32 × CS)
  | 0, _, _ => none
  | n + 1, x7, st =>
    if x5 ≤ x7 then (zb (fX3_dropBases (0 : Int32) x4 st) (fun st_6 => some (x6, st_6))) else (zi x7 200 (zl (wA st 0 x7 (0 : Int32)) (fun st_8 => fX3_retained_30 x4 x5 x6 n (x7 + (1 : Int32)) st_8)))
def fX3_retained  (a1 : Int32) (a2 : Int32) (a3 : Int32) (st : CS) : Option (Int32 × CS) :=
  zb (fX3_segmentsGoing a1 a2 a3 st) (fun r_1 => zi r_1 201 (zl ((st.1 5 r_1.toNatClampNeg)) (fun x_3 => zb (fX3_recordsIn (0 : Int32) x_3 st) (fun r_4 => fX3_retained_30 r_1 x_3 r_4 FU (0 : Int32) st))))
def fX3_goneIfRetained  (a1 : Int32) (a2 : Int32) (a3 : Int32) (st : CS) : Option Int32 :=
  zb (fX3_segmentsGoing a1 a2 a3 st) (fun r_1 => zi r_1 201 (zb (fX3_recordsIn (0 : Int32) (st.1 5 r_1.toNatClampNeg) st) (fun r_3 => some r_3)))
def fX3_leftIfRetained  (a1 : Int32) (a2 : Int32) (a3 : Int32) (st : CS) : Option Int32 :=
  zb (fX3_segmentsGoing a1 a2 a3 st) (fun r_1 => zi r_1 201 (zb (fX3_recordsIn (st.1 5 r_1.toNatClampNeg) (st.2 0) st) (fun r_3 => some r_3)))
def fX3_isMapped  (a1 : Int32) (st : CS) : Option Int32 :=
  zi a1 26 (if (st.1 6 a1.toNatClampNeg) < 0 then (some ((0 : Int32))) else (zi a1 26 (zi (st.1 6 a1.toNatClampNeg) 200 (if (st.1 0 (st.1 6 a1.toNatClampNeg).toNatClampNeg) = (1 : Int32) then (some ((1 : Int32))) else (some ((0 : Int32)))))))
def fX3_mapSize_9 : Nat → Int32 → Int32 → CS → Option (Int32 × CS)
  | 0, _, _, _ => none
  | n + 1, x2, x3, st =>
    if (26 : Int32) ≤ x3 then (some (x2, st)) else (zb (fX3_isMapped x3 st) (fun r_3 => if r_3 = 0 then (fX3_mapSize_9 n x2 (x3 + (1 : Int32)) st) else (fX3_mapSize_9 n (x2 + (1 : Int32)) (x3 + (1 : Int32)) st)))
def fX3_mapSize  (a1 : Int32) (st : CS) : Option (Int32 × CS) :=
  zb (fX3_findLast a1 st) (fun st_1 => fX3_mapSize_9 FU (0 : Int32) (0 : Int32) st_1)
def fX3_mapValue  (a1 : Int32) (a2 : Int32) (st : CS) : Option (Int64 × CS) :=
  zb (fX3_findLast a2 st) (fun st_1 => zb (fX3_isMapped a1 st_1) (fun r_2 => if r_2 = 0 then (some ((-9223372036854775808 : Int64), st_1)) else (zi a1 26 (zi (st_1.1 6 a1.toNatClampNeg) 200 (some ((st_1.1 4 (st_1.1 6 a1.toNatClampNeg).toNatClampNeg).toInt64, st_1))))))
def fX3_oddSum_4 (st : CS) : Nat → Int32 → Int32 → Option Int32
  | 0, _, _ => none
  | n + 1, x1, x2 =>
    if (26 : Int32) ≤ x2 then (some x1) else (zb (fX3_isMapped x2 st) (fun r_2 => if r_2 = 0 then (fX3_oddSum_4 st n x1 (x2 + (1 : Int32))) else (zi x2 26 (zi (st.1 6 x2.toNatClampNeg) 200 (zb (fX0_isFinite (st.1 4 (st.1 6 x2.toNatClampNeg).toNatClampNeg)) (fun r_6 => if r_6 = 0 then (zi x2 26 (zi (st.1 6 x2.toNatClampNeg) 200 (zl ((st.1 4 (st.1 6 x2.toNatClampNeg).toNatClampNeg)) (fun x_10 => if x1 = 0 then (fX3_oddSum_4 st n x_10 (x2 + (1 : Int32))) else (zb (fX0_oddSum x1 x_10) (fun r_12 => fX3_oddSum_4 st n r_12 (x2 + (1 : Int32)))))))) else (fX3_oddSum_4 st n x1 (x2 + (1 : Int32)))))))))
def fX3_oddSum   (st : CS) : Option Int32 :=
  fX3_oddSum_4 st FU (0 : Int32) (0 : Int32)
def fX3_summand_30 (st : CS) (x1 : Int32) (y0 : Int32) : Option UInt32 :=
  if y0 = 0 then (some ((0 : UInt32))) else (zi x1 26 (zi (st.1 6 x1.toNatClampNeg) 200 (zb (fX0_floatOf (st.1 4 (st.1 6 x1.toNatClampNeg).toNatClampNeg)) (fun r_6 => some r_6))))
def fX3_summand_29 (st : CS) (x1 : Int32) : Option UInt32 :=
  fX3_summand_30 st x1 (0 : Int32)
def fX3_summand  (a1 : Int32) (st : CS) : Option UInt32 :=
  zb (fX3_isMapped a1 st) (fun r_1 => if r_1 = 0 then (fX3_summand_29 st a1) else (zi a1 26 (zi (st.1 6 a1.toNatClampNeg) 200 (zb (fX0_isFinite (st.1 4 (st.1 6 a1.toNatClampNeg).toNatClampNeg)) (fun r_9 => if r_9 = 0 then (fX3_summand_29 st a1) else (fX3_summand_30 st a1 (1 : Int32)))))))
def fX3_mapSum_12 : Nat → UInt32 → Int32 → CS → Option (Int32 × CS)
  | 0, _, _, _ => none
  | n + 1, x1, x2, st =>
    if (26 : Int32) ≤ x2 then (zb (fX3_oddSum st) (fun r_3 => if r_3 = 0 then (zb (fX0_bitsOfFloat x1) (fun r_5 => some (r_5, st))) else (some (r_3, st)))) else (zb (fX3_summand x2 st) (fun r_6 => zn32 (FP.fadd x1 r_6) (fX3_mapSum_12 n (FP.fadd x1 r_6) (x2 + (1 : Int32)) st)))
def fX3_mapSum   (st : CS) : Option (Int32 × CS) :=
  zb (fX3_findLast (st.2 0) st) (fun st_1 => fX3_mapSum_12 FU (0 : UInt32) (0 : Int32) st_1)
def fX3_mapMean_22 (x2 : Int32) (st : CS) : Option (Int64 × CS) :=
  if x2 = 0 then (some ((-9223372036854775808 : Int64), st)) else (zb (fX0_widened x2) (fun r_6 => some (r_6, st)))
def fX3_mapMean_42 (x1 : Int32) : Nat → UInt64 → Int32 → CS → Option (Int64 × CS)
  | 0, _, _, _ => none
  | n + 1, x3, x5, st =>
    if (26 : Int32) ≤ x5 then (zn64 (FP.ddiv x3 (FP.i2d x1)) (zb (fX0_bitsOfDouble (FP.ddiv x3 (FP.i2d x1))) (fun r_10 => some (r_10, st)))) else (zb (fX3_summand x5 st) (fun r_11 => zn64 (FP.f2d r_11) (zn64 (FP.dadd x3 (FP.f2d r_11)) (zl ((FP.dadd x3 (FP.f2d r_11))) (fun x_14 => fX3_mapMean_42 x1 n x_14 (x5 + (1 : Int32)) st)))))
def fX3_mapMean   (st : CS) : Option (Int64 × CS) :=
  zb2 (fX3_mapSize (st.2 0) st) (fun r_1 st_2 => zb (fX3_oddSum st_2) (fun r_3 => if r_3 = 0 then (if r_1 = 0 then (fX3_mapMean_22 r_3 st_2) else (fX3_mapMean_42 r_1 FU (0 : UInt64) (0 : Int32) st_2)) else (fX3_mapMean_22 r_3 st_2)))
def fX3_rankAt  (a1 : Int32) (st : CS) : Option Int32 :=
  zi a1 26 (zi (st.1 6 a1.toNatClampNeg) 200 (zb (fX0_rank (st.1 4 (st.1 6 a1.toNatClampNeg).toNatClampNeg)) (fun r_3 => some r_3)))
def fX3_mapLeast_49 (K14 : Int64 → Int32 → CS → Option (Int64 × CS)) (x3 : Int32) (st : CS) : Option (Int64 × CS) :=
  zi x3 26 (zi (st.1 6 x3.toNatClampNeg) 200 (zl ((st.1 4 (st.1 6 x3.toNatClampNeg).toNatClampNeg).toInt64) (fun x_9 => K14 x_9 (x3 + (1 : Int32)) st)))
def fX3_mapLeast_14 : Nat → Int64 → Int32 → CS → Option (Int64 × CS)
  | 0, _, _, _ => none
  | n + 1, x1, x3, st =>
    if (26 : Int32) ≤ x3 then (some (x1, st)) else (zb (fX3_isMapped x3 st) (fun r_4 => if r_4 = 0 then (fX3_mapLeast_14 n x1 (x3 + (1 : Int32)) st) else (if (lg_cmp x1 (-9223372036854775808 : Int64)) = 0 then (fX3_mapLeast_49 (fX3_mapLeast_14 n) x3 st) else (zb (fX3_rankAt x3 st) (fun r_10 => zb (fX0_rank x1.toInt32) (fun r_11 => if r_11 ≤ r_10 then (fX3_mapLeast_14 n x1 (x3 + (1 : Int32)) st) else (fX3_mapLeast_49 (fX3_mapLeast_14 n) x3 st)))))))
def fX3_mapLeast   (st : CS) : Option (Int64 × CS) :=
  zb (fX3_findLast (st.2 0) st) (fun st_1 => zl ((-9223372036854775808 : Int64)) (fun x_2 => fX3_mapLeast_14 FU x_2 (0 : Int32) st_1))
def fX3_mapGreatest_49 (K14 : Int64 → Int32 → CS → Option (Int64 × CS)) (x3 : Int32) (st : CS) : Option (Int64 × CS) :=
  zi x3 26 (zi (st.1 6 x3.toNatClampNeg) 200 (zl ((st.1 4 (st.1 6 x3.toNatClampNeg).toNatClampNeg).toInt64) (fun x_9 => K14 x_9 (x3 + (1 : Int32)) st)))
def fX3_mapGreatest_14 : Nat → Int64 → Int32 → CS → Option (Int64 × CS)
  | 0, _, _, _ => none
  | n + 1, x1, x3, st =>
    if (26 : Int32) ≤ x3 then (some (x1, st)) else (zb (fX3_isMapped x3 st) (fun r_4 => if r_4 = 0 then (fX3_mapGreatest_14 n x1 (x3 + (1 : Int32)) st) else (if (lg_cmp x1 (-9223372036854775808 : Int64)) = 0 then (fX3_mapGreatest_49 (fX3_mapGreatest_14 n) x3 st) else (zb (fX3_rankAt x3 st) (fun r_10 => zb (fX0_rank x1.toInt32) (fun r_11 => if r_10 ≤ r_11 then (fX3_mapGreatest_14 n x1 (x3 + (1 : Int32)) st) else (fX3_mapGreatest_49 (fX3_mapGreatest_14 n) x3 st)))))))
def fX3_mapGreatest   (st : CS) : Option (Int64 × CS) :=
  zb (fX3_findLast (st.2 0) st) (fun st_1 => zl ((-9223372036854775808 : Int64)) (fun x_2 => fX3_mapGreatest_14 FU x_2 (0 : Int32) st_1))
def fX3_likeTimesEnd_2 (x1 : Int32) (st : CS) : Nat → Int32 → Option Int32
  | 0, _ => none
  | n + 1, x2 =>
    if (st.2 0) ≤ x2 then (some x2) else (zi x2 200 (zi x1 200 (if (st.1 2 x2.toNatClampNeg) = (st.1 2 x1.toNatClampNeg) then (fX3_likeTimesEnd_2 x1 st n (x2 + (1 : Int32))) else (some x2))))
def fX3_likeTimesEnd  (a1 : Int32) (st : CS) : Option Int32 :=
  fX3_likeTimesEnd_2 a1 st FU a1
def fX3_bySize_15 (x1 : Int32) (x2 : Int32) (x5 : Int32) (st : CS) (K7 : Int32 → Int32 → Option Int32) : Nat → Int32 → Int32 → Option Int32
  | 0, _, _ => none
  | n + 1, x4, x6 =>
    if x2 ≤ x6 then (K7 x4 (x5 + (-1 : Int32))) else (zi x6 200 (if (st.1 0 x6.toNatClampNeg) = 0 then (fX3_bySize_15 x1 x2 x5 st K7 n x4 (x6 + (1 : Int32))) else (zi x6 200 (if (st.1 3 x6.toNatClampNeg) = x5 then (if x4 = 0 then (some x6) else (fX3_bySize_15 x1 x2 x5 st K7 n (x4 + (-1 : Int32)) (x6 + (1 : Int32)))) else (fX3_bySize_15 x1 x2 x5 st K7 n x4 (x6 + (1 : Int32)))))))
def fX3_bySize_7 (x1 : Int32) (x2 : Int32) (st : CS) : Nat → Int32 → Int32 → Option Int32
  | 0, _, _ => none
  | n + 1, x4, x5 =>
    if x5 ≤ 0 then (some ((-5 : Int32))) else (fX3_bySize_15 x1 x2 x5 st (fX3_bySize_7 x1 x2 st n) FU x4 x1)
def fX3_bySize  (a1 : Int32) (a2 : Int32) (a3 : Int32) (st : CS) : Option Int32 :=
  fX3_bySize_7 a1 a2 st FU a3 (9 : Int32)
def fX3_byAge_33 (st : CS) (K4 : Int32 → Int32 → Option Int32) (x2 : Int32) (x3 : Int32) : Option Int32 :=
  zb (fX3_likeTimesEnd x3 st) (fun r_3 => zb (fX3_recordsIn x3 r_3 st) (fun r_4 => if r_4 ≤ x2 then (K4 (x2 - r_4) (x3 + (1 : Int32))) else (zb (fX3_bySize x3 r_3 x2 st) (fun r_6 => some r_6))))
def fX3_byAge_4 (st : CS) : Nat → Int32 → Int32 → Option Int32
  | 0, _, _ => none
  | n + 1, x2, x3 =>
    if (st.2 0) ≤ x3 then (some ((-5 : Int32))) else (if x3 = 0 then (fX3_byAge_33 st (fX3_byAge_4 st n) x2 x3) else (zi x3 200 (zi (x3 - (1 : Int32)) 200 (if (st.1 2 x3.toNatClampNeg) = (st.1 2 (x3 - (1 : Int32)).toNatClampNeg) then (fX3_byAge_4 st n x2 (x3 + (1 : Int32))) else (fX3_byAge_33 st (fX3_byAge_4 st n) x2 x3)))))
def fX3_byAge  (a1 : Int32) (st : CS) : Option Int32 :=
  fX3_byAge_4 st FU a1 (0 : Int32)
