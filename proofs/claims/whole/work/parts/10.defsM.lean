def fX9_sets  (a1 : Int32) (a2 : Int32) (a3 : Int32) (st : MS) : Option MS :=
  zi ((a1 * (1274 : Int32)) + a2) 5140 (zl (wAm st 0 ((a1 * (1274 : Int32)) + a2) a3) (fun st_2 => some st_2))
def fX9_in  (a1 : Int32) (a2 : Int32) (a3 : Int32) : Option Int32 :=
  if a1 < a2 then (some ((0 : Int32))) else (if a3 < a1 then (some ((0 : Int32))) else (some ((1 : Int32))))
def fX9_copy_2 (k1 : Nat) (k2 : Nat) : Nat → Int32 → MS → Option MS
  | 0, _, _ => none
  | n + 1, x2, st =>
    if (5140 : Int32) ≤ x2 then (some st) else (zi x2 5140 (zi x2 5140 (zl (wAm st k2 x2 (st.1 k1 x2.toNatClampNeg)) (fun st_4 => fX9_copy_2 k1 k2 n (x2 + (1 : Int32)) st_4))))
def fX9_copy  (k1 : Nat) (k2 : Nat)  (st : MS) : Option MS :=
  fX9_copy_2 k1 k2 FU (0 : Int32) st
def fX9_isLog  (a1 : Int32) : Option Int32 :=
  zb (fX9_in a1 (0 : Int32) (3 : Int32)) (fun r_1 => zq r_1 (some r_1))
def fX9_at  (a1 : Int32) (a2 : Int32) (st : MS) : Option Int32 :=
  zi ((a1 * (1274 : Int32)) + a2) 5140 (some ((st.1 0 ((a1 * (1274 : Int32)) + a2).toNatClampNeg)))
def fX9_isThere  (a1 : Int32) (a2 : Int32) (st : MS) : Option Int32 :=
  zb (fX9_in a2 (0 : Int32) (199 : Int32)) (fun r_1 => if r_1 = 0 then (some ((0 : Int32))) else (zb (fX9_at a1 ((0 : Int32) + a2) st) (fun r_3 => if r_3 = (1 : Int32) then (some ((1 : Int32))) else (some ((0 : Int32))))))
def fX9_base  (a1 : Int32) (a2 : Int32) (st : MS) : Option Int32 :=
  zb (fX9_at a1 ((1200 : Int32) + a2) st) (fun r_1 => some r_1)
def fX9_endOf  (a1 : Int32) (a2 : Int32) (st : MS) : Option Int32 :=
  zb (fX9_at a1 (1270 : Int32) st) (fun r_1 => if r_1 ≤ (a2 + (1 : Int32)) then (zb (fX9_at a1 (1271 : Int32) st) (fun r_3 => some r_3)) else (zb (fX9_base a1 (a2 + (1 : Int32)) st) (fun r_4 => some r_4)))
def fX9_manyIn_10 (x1 : Int32) (x2 : Int32) (st : MS) : Nat → Int32 → Int32 → Option Int32
  | 0, _, _ => none
  | n + 1, x3, x4 =>
    zb (fX9_endOf x1 x2 st) (fun r_2 => if r_2 ≤ x4 then (some x3) else (zb (fX9_at x1 ((0 : Int32) + x4) st) (fun r_4 => fX9_manyIn_10 x1 x2 st n (x3 + r_4) (x4 + (1 : Int32)))))
def fX9_manyIn  (a1 : Int32) (a2 : Int32) (st : MS) : Option Int32 :=
  zb (fX9_base a1 a2 st) (fun r_1 => fX9_manyIn_10 a1 a2 st FU (0 : Int32) r_1)
def fX9_weighs_6 (x1 : Int32) (x3 : Int32) (st : MS) : Nat → Int32 → Int32 → Option Int32
  | 0, _, _ => none
  | n + 1, x4, x5 =>
    if x3 ≤ x5 then (some x4) else (zb (fX9_at x1 ((0 : Int32) + x5) st) (fun r_2 => if r_2 = (1 : Int32) then (zb (fX9_at x1 ((600 : Int32) + x5) st) (fun r_4 => fX9_weighs_6 x1 x3 st n (x4 + r_4) (x5 + (1 : Int32)))) else (fX9_weighs_6 x1 x3 st n (x4 + (0 : Int32)) (x5 + (1 : Int32)))))
def fX9_weighs  (a1 : Int32) (a2 : Int32) (a3 : Int32) (st : MS) : Option Int32 :=
  fX9_weighs_6 a1 a3 st FU (0 : Int32) a2
def fX9_weightIn  (a1 : Int32) (a2 : Int32) (st : MS) : Option Int32 :=
  zb (fX9_base a1 a2 st) (fun r_1 => zb (fX9_endOf a1 a2 st) (fun r_2 => zb (fX9_weighs a1 r_1 r_2 st) (fun r_3 => some r_3)))
def fX9_all_4 (x1 : Int32) (st : MS) : Nat → Int32 → Int32 → Option Int32
  | 0, _, _ => none
  | n + 1, x2, x3 =>
    if (200 : Int32) ≤ x3 then (some x2) else (zb (fX9_at x1 ((0 : Int32) + x3) st) (fun r_2 => fX9_all_4 x1 st n (x2 + r_2) (x3 + (1 : Int32))))
def fX9_all  (a1 : Int32) (st : MS) : Option Int32 :=
  fX9_all_4 a1 st FU (0 : Int32) (0 : Int32)
def fX9_allLogs_4 (st : MS) : Nat → Int32 → Int32 → Option Int32
  | 0, _, _ => none
  | n + 1, x1, x2 =>
    if (4 : Int32) ≤ x2 then (some x1) else (zb (fX9_all x2 st) (fun r_2 => fX9_allLogs_4 st n (x1 + r_2) (x2 + (1 : Int32))))
def fX9_allLogs   (st : MS) : Option Int32 :=
  fX9_allLogs_4 st FU (0 : Int32) (0 : Int32)
def fX9_segmentOf_2 (x1 : Int32) (x2 : Int32) (st : MS) : Nat → Int32 → Option Int32
  | 0, _ => none
  | n + 1, x3 =>
    zb (fX9_at x1 (1270 : Int32) st) (fun r_1 => if r_1 ≤ (x3 + (1 : Int32)) then (some x3) else (zb (fX9_base x1 (x3 + (1 : Int32)) st) (fun r_3 => if x2 < r_3 then (some x3) else (fX9_segmentOf_2 x1 x2 st n (x3 + (1 : Int32))))))
def fX9_segmentOf  (a1 : Int32) (a2 : Int32) (st : MS) : Option Int32 :=
  fX9_segmentOf_2 a1 a2 st FU (0 : Int32)
def fX9_partGoes_14 (x1 : Int32) (x3 : Int32) : Nat → Int32 → MS → Option MS
  | 0, _, _ => none
  | n + 1, x4, st =>
    if x3 ≤ x4 then (zb (fX9_sets x1 (1270 : Int32) x3 st) (fun st_3 => some st_3)) else (zb (fX9_base x1 (x4 + (1 : Int32)) st) (fun r_4 => zb (fX9_sets x1 ((1200 : Int32) + x4) r_4 st) (fun st_5 => fX9_partGoes_14 x1 x3 n (x4 + (1 : Int32)) st_5)))
def fX9_partGoes  (a1 : Int32) (a2 : Int32) (st : MS) : Option MS :=
  zb (fX9_at a1 (1270 : Int32) st) (fun r_1 => fX9_partGoes_14 a1 (r_1 - (1 : Int32)) FU a2 st)
def fX9_comes_144 (x1 : Int32) (x6 : Int32) (x7 : Int32) (st : MS) : Option (Int32 × MS) :=
  zb (fX9_sets x1 (((1200 : Int32) + x7) + (1 : Int32)) (x6 + (1 : Int32)) st) (fun st_14 => zb (fX9_sets x1 (1270 : Int32) (x7 + (2 : Int32)) st_14) (fun st_15 => some (x6, st_15)))
def fX9_comes_82 (x1 : Int32) (x3 : Int32) (x6 : Int32) (y0 : Int32) (y1 : Int32) (y2 : Int32) (st : MS) : Option (Int32 × MS) :=
  zb (fX9_sets y2 y1 y0 st) (fun st_8 => zb (fX9_sets x1 ((1000 : Int32) + x6) x3 st_8) (fun st_9 => zb (fX9_sets x1 (1271 : Int32) (x6 + (1 : Int32)) st_9) (fun st_10 => zb (fX9_at x1 (1270 : Int32) st_10) (fun r_11 => zb (fX9_manyIn x1 (r_11 - (1 : Int32)) st_10) (fun r_12 => if (4 : Int32) ≤ r_12 then (fX9_comes_144 x1 x6 (r_11 - (1 : Int32)) st_10) else (zb (fX9_weightIn x1 (r_11 - (1 : Int32)) st_10) (fun r_16 => if r_16 < (20 : Int32) then (some (x6, st_10)) else (fX9_comes_144 x1 x6 (r_11 - (1 : Int32)) st_10))))))))
def fX9_comes  (a1 : Int32) (a2 : Int32) (a3 : Int32) (a4 : Int32) (a5 : Int32) (st : MS) : Option (Int32 × MS) :=
  zb (fX9_at a1 (1271 : Int32) st) (fun r_1 => zb (fX9_sets a1 ((0 : Int32) + r_1) (1 : Int32) st) (fun st_2 => zb (fX9_sets a1 ((200 : Int32) + r_1) a2 st_2) (fun st_3 => zi (5096 : Int32) 5140 (zb (fX9_sets a1 ((400 : Int32) + r_1) (st_3.1 0 (5096 : Int32).toNatClampNeg) st_3) (fun st_5 => zb (fX9_sets a1 ((600 : Int32) + r_1) a5 st_5) (fun st_6 => if a4 = 0 then (fX9_comes_82 a1 a3 r_1 (0 : Int32) ((800 : Int32) + r_1) a1 st_6) else (fX9_comes_82 a1 a3 r_1 (1 : Int32) ((800 : Int32) + r_1) a1 st_6)))))))
def fX9_noRecord  (a1 : Int32) (a2 : Int32) (a3 : Int32) (st : MS) : Option Int32 :=
  zb (fX9_isLog a1) (fun r_1 => if r_1 = 0 then (some ((-1 : Int32))) else (zb (fX9_in a2 (0 : Int32) (25 : Int32)) (fun r_3 => if r_3 = 0 then (some ((-1 : Int32))) else (zb (fX9_in a3 (1 : Int32) (9 : Int32)) (fun r_5 => if r_5 = 0 then (some ((-2 : Int32))) else (zb (fX9_at a1 (1271 : Int32) st) (fun r_7 => if r_7 = (200 : Int32) then (some ((-4 : Int32))) else (some ((0 : Int32))))))))))
def fX9_tomb  (a1 : Int32) (a2 : Int32) (a3 : Int32) (st : MS) : Option (Int32 × MS) :=
  zb (fX9_noRecord a1 a2 a3 st) (fun r_1 => if r_1 = 0 then (zb2 (fX9_comes a1 a2 (0 : Int32) (1 : Int32) a3 st) (fun r_3 st_4 => some (r_3, st_4))) else (some (r_1, st)))
def fX9_tick  (a1 : Int32) (st : MS) : Option (Int32 × MS) :=
  zb (fX9_in a1 (0 : Int32) (99 : Int32)) (fun r_1 => if r_1 = 0 then (some ((-2 : Int32), st)) else (zi (5096 : Int32) 5140 (if ((st.1 0 (5096 : Int32).toNatClampNeg) + a1) ≤ (9999 : Int32) then (zi (5096 : Int32) 5140 (zi (5096 : Int32) 5140 (zl (wAm st 0 (5096 : Int32) ((st.1 0 (5096 : Int32).toNatClampNeg) + a1)) (fun st_7 => zi (5096 : Int32) 5140 (some ((st_7.1 0 (5096 : Int32).toNatClampNeg), st_7)))))) else (some ((-3 : Int32), st)))))
def fX9_set_25 (x1 : Int32) (x2 : Int32) (y0 : Int32) (y1 : Int32) (y2 : Int32) (st : MS) : Option (Int32 × MS) :=
  zb (fX9_in y2 y1 y0) (fun r_4 => if r_4 = 0 then (some ((-2 : Int32), st)) else (zi ((5097 : Int32) + x1) 5140 (zl ((st.1 0 ((5097 : Int32) + x1).toNatClampNeg)) (fun x_7 => zi ((5097 : Int32) + x1) 5140 (zl (wAm st 0 ((5097 : Int32) + x1) x2) (fun st_9 => some (x_7, st_9)))))))
def fX9_set  (a1 : Int32) (a2 : Int32) (st : MS) : Option (Int32 × MS) :=
  zb (fX9_in a1 (0 : Int32) (2 : Int32)) (fun r_1 => if r_1 = 0 then (some ((-1 : Int32), st)) else (if a1 = 0 then (fX9_set_25 a1 a2 (99 : Int32) (0 : Int32) a2 st) else (fX9_set_25 a1 a2 (999 : Int32) (0 : Int32) a2 st)))
def fX9_hasLater_4 (x1 : Int32) (x2 : Int32) (st : MS) : Nat → Int32 → Option Int32
  | 0, _ => none
  | n + 1, x3 =>
    zb (fX9_at x1 (1271 : Int32) st) (fun r_1 => if r_1 ≤ x3 then (some ((0 : Int32))) else (zb (fX9_at x1 ((0 : Int32) + x3) st) (fun r_3 => if r_3 = (1 : Int32) then (zb (fX9_at x1 ((200 : Int32) + x3) st) (fun r_5 => zb (fX9_at x1 ((200 : Int32) + x2) st) (fun r_6 => if r_5 = r_6 then (some ((1 : Int32))) else (fX9_hasLater_4 x1 x2 st n (x3 + (1 : Int32)))))) else (fX9_hasLater_4 x1 x2 st n (x3 + (1 : Int32))))))
def fX9_hasLater  (a1 : Int32) (a2 : Int32) (st : MS) : Option Int32 :=
  fX9_hasLater_4 a1 a2 st FU (a2 + (1 : Int32))
def fX9_compacted_130 (x1 : Int32) (x3 : Int32) : Nat → Int32 → MS → Option (Int32 × MS)
  | 0, _, _ => none
  | n + 1, x4, st =>
    zb (fX9_at x1 (1270 : Int32) st) (fun r_4 => if r_4 ≤ (x4 + (2 : Int32)) then (some (x3, st)) else (zb (fX9_weightIn x1 x4 st) (fun r_6 => zb (fX9_weightIn x1 (x4 + (1 : Int32)) st) (fun r_7 => if (20 : Int32) < (r_6 + r_7) then (fX9_compacted_130 x1 x3 n (x4 + (1 : Int32)) st) else (zb (fX9_manyIn x1 x4 st) (fun r_9 => zb (fX9_manyIn x1 (x4 + (1 : Int32)) st) (fun r_10 => if (8 : Int32) < (r_9 + r_10) then (fX9_compacted_130 x1 x3 n (x4 + (1 : Int32)) st) else (zb (fX9_partGoes x1 (x4 + (1 : Int32)) st) (fun st_12 => fX9_compacted_130 x1 x3 n x4 st_12)))))))))
def fX9_compacted_108 (x1 : Int32) (x2 : Int32) (K21 : Int32 → Int32 → MS → Option (Int32 × MS)) (x3 : Int32) (x4 : Int32) (st : MS) : Option (Int32 × MS) :=
  zb (fX9_sets x1 ((0 : Int32) + x4) (0 : Int32) st) (fun st_19 => K21 (x3 + (1 : Int32)) (x4 + (1 : Int32)) st_19)
def fX9_compacted_91 (x1 : Int32) (x2 : Int32) (K21 : Int32 → Int32 → MS → Option (Int32 × MS)) (x3 : Int32) (x4 : Int32) (y0 : Int32) (st : MS) : Option (Int32 × MS) :=
  zb (fX9_hasLater x1 x4 st) (fun r_17 => if r_17 = 0 then (if y0 = 0 then (K21 x3 (x4 + (1 : Int32)) st) else (fX9_compacted_108 x1 x2 K21 x3 x4 st)) else (fX9_compacted_108 x1 x2 K21 x3 x4 st))
def fX9_compacted_90 (x1 : Int32) (x2 : Int32) (K21 : Int32 → Int32 → MS → Option (Int32 × MS)) (x3 : Int32) (x4 : Int32) (st : MS) : Option (Int32 × MS) :=
  fX9_compacted_91 x1 x2 K21 x3 x4 (0 : Int32) st
def fX9_compacted_21 (x1 : Int32) (x2 : Int32) : Nat → Int32 → Int32 → MS → Option (Int32 × MS)
  | 0, _, _, _ => none
  | n + 1, x3, x4, st =>
    if x2 ≤ x4 then (fX9_compacted_130 x1 x3 FU (0 : Int32) st) else (zb (fX9_at x1 ((0 : Int32) + x4) st) (fun r_13 => if r_13 = (1 : Int32) then (zb (fX9_at x1 ((800 : Int32) + x4) st) (fun r_15 => if r_15 = (1 : Int32) then (zi (5096 : Int32) 5140 (zb (fX9_at x1 ((400 : Int32) + x4) st) (fun r_22 => zi (5097 : Int32) 5140 (if ((st.1 0 (5096 : Int32).toNatClampNeg) - r_22) < (st.1 0 (5097 : Int32).toNatClampNeg) then (fX9_compacted_90 x1 x2 (fX9_compacted_21 x1 x2 n) x3 x4 st) else (fX9_compacted_91 x1 x2 (fX9_compacted_21 x1 x2 n) x3 x4 (1 : Int32) st))))) else (fX9_compacted_90 x1 x2 (fX9_compacted_21 x1 x2 n) x3 x4 st))) else (fX9_compacted_21 x1 x2 n x3 (x4 + (1 : Int32)) st)))
def fX9_compacted  (a1 : Int32) (st : MS) : Option (Int32 × MS) :=
  zb (fX9_at a1 (1270 : Int32) st) (fun r_1 => zb (fX9_base a1 (r_1 - (1 : Int32)) st) (fun r_2 => fX9_compacted_21 a1 r_2 FU (0 : Int32) (0 : Int32) st))
def fX9_isOld_10 (x1 : Int32) (st : MS) : Nat → Int32 → Int32 → Option Int32
  | 0, _, _ => none
  | n + 1, x2, x3 =>
    zb (fX9_endOf x1 (0 : Int32) st) (fun r_2 => if r_2 ≤ x3 then (zi (5096 : Int32) 5140 (zi (5099 : Int32) 5140 (if ((st.1 0 (5096 : Int32).toNatClampNeg) - (st.1 0 (5099 : Int32).toNatClampNeg)) ≤ x2 then (some ((0 : Int32))) else (some ((1 : Int32)))))) else (zb (fX9_at x1 ((0 : Int32) + x3) st) (fun r_7 => if r_7 = (1 : Int32) then (zb (fX9_at x1 ((400 : Int32) + x3) st) (fun r_9 => if r_9 ≤ x2 then (fX9_isOld_10 x1 st n x2 (x3 + (1 : Int32))) else (zb (fX9_at x1 ((400 : Int32) + x3) st) (fun r_11 => fX9_isOld_10 x1 st n r_11 (x3 + (1 : Int32)))))) else (fX9_isOld_10 x1 st n x2 (x3 + (1 : Int32))))))
def fX9_isOld  (a1 : Int32) (st : MS) : Option Int32 :=
  zb (fX9_base a1 (0 : Int32) st) (fun r_1 => fX9_isOld_10 a1 st FU (-2147483648 : Int32) r_1)
def fX9_retained_67 (x1 : Int32) (x2 : Int32) (K2 : Int32 → MS → Option (Int32 × MS)) : Nat → Int32 → MS → Option (Int32 × MS)
  | 0, _, _ => none
  | n + 1, x3, st =>
    zb (fX9_endOf x1 (0 : Int32) st) (fun r_8 => if r_8 ≤ x3 then (zb (fX9_partGoes x1 (0 : Int32) st) (fun st_10 => K2 x2 st_10)) else (zb (fX9_sets x1 ((0 : Int32) + x3) (0 : Int32) st) (fun st_11 => fX9_retained_67 x1 x2 K2 n (x3 + (1 : Int32)) st_11)))
def fX9_retained_51 (x1 : Int32) (K2 : Int32 → MS → Option (Int32 × MS)) (x2 : Int32) (st : MS) : Option (Int32 × MS) :=
  zb (fX9_manyIn x1 (0 : Int32) st) (fun r_6 => zb (fX9_base x1 (0 : Int32) st) (fun r_7 => fX9_retained_67 x1 (x2 + r_6) K2 FU r_7 st))
def fX9_retained_2 (x1 : Int32) : Nat → Int32 → MS → Option (Int32 × MS)
  | 0, _, _ => none
  | n + 1, x2, st =>
    zb (fX9_at x1 (1270 : Int32) st) (fun r_1 => if r_1 ≤ (1 : Int32) then (some (x2, st)) else (zb (fX9_weighs x1 (0 : Int32) (200 : Int32) st) (fun r_3 => zi (5098 : Int32) 5140 (if (st.1 0 (5098 : Int32).toNatClampNeg) < r_3 then (fX9_retained_51 x1 (fX9_retained_2 x1 n) x2 st) else (zb (fX9_manyIn x1 (0 : Int32) st) (fun r_12 => if r_12 = 0 then (fX9_retained_51 x1 (fX9_retained_2 x1 n) x2 st) else (zb (fX9_isOld x1 st) (fun r_14 => if r_14 = 0 then (some (x2, st)) else (fX9_retained_51 x1 (fX9_retained_2 x1 n) x2 st)))))))))
def fX9_retained  (a1 : Int32) (st : MS) : Option (Int32 × MS) :=
  fX9_retained_2 a1 FU (0 : Int32) st
def fX9_compact  (a1 : Int32) (st : MS) : Option (Int32 × MS) :=
  zb (fX9_isLog a1) (fun r_1 => if r_1 = 0 then (some ((-1 : Int32), st)) else (zb2 (fX9_compacted a1 st) (fun r_3 st_4 => some (r_3, st_4))))
def fX9_retain  (a1 : Int32) (st : MS) : Option (Int32 × MS) :=
  zb (fX9_isLog a1) (fun r_1 => if r_1 = 0 then (some ((-1 : Int32), st)) else (zb2 (fX9_retained a1 st) (fun r_3 st_4 => some (r_3, st_4))))
def fX9_feed  (a1 : Int32) (st : MS) : Option (Int32 × MS) :=
  zb (fX9_in a1 (0 : Int32) (127 : Int32)) (fun r_1 => if r_1 = 0 then (some ((-2 : Int32), st)) else (if (st.2.1 1) = (100 : Int32) then (some ((-4 : Int32), st)) else (zl (sFm st 1 ((st.2.1 1) + (1 : Int32))) (fun st_4 => zi (st.2.1 1) 100 (zl (wAm st_4 3 (st.2.1 1) a1) (fun st_6 => some ((st_6.2.1 1), st_6)))))))
def fX9_sees  (a1 : Int32) (a2 : Int32) (st : MS) : Option Int32 :=
  if 0 ≤ (st.2.1 4) then (some ((0 : Int32))) else (if (st.2.1 1) ≤ (st.2.1 3) then (some ((0 : Int32))) else (zi (st.2.1 3) 100 (zb (fX9_in (st.1 3 (st.2.1 3).toNatClampNeg) a1 a2) (fun r_4 => if r_4 = 0 then (some ((0 : Int32))) else (some ((1 : Int32)))))))
def fX9_must_28 (x1 : Int32) (y0 : Int32) (st : MS) : Option (Int32 × MS) :=
  zl (sFm st 4 y0) (fun st_6 => some (x1, st_6))
def fX9_must  (a1 : Int32) (a2 : Int32) (st : MS) : Option (Int32 × MS) :=
  zb (fX9_sees a1 a2 st) (fun r_1 => if r_1 = 0 then (if 0 ≤ (st.2.1 4) then (fX9_must_28 a1 (st.2.1 4) st) else (fX9_must_28 a1 (st.2.1 3) st)) else (zl (sFm st 3 ((st.2.1 3) + (1 : Int32))) (fun st_3 => zi (st.2.1 3) 100 (some ((st_3.1 3 (st.2.1 3).toNatClampNeg), st_3)))))
def fX9_number_14 (x1 : Int32) : Nat → Int32 → Int32 → MS → Option (Int32 × MS)
  | 0, _, _, _ => none
  | n + 1, x2, x3, st =>
    if x1 ≤ x3 then (some (x2, st)) else (zb (fX9_sees (48 : Int32) (57 : Int32) st) (fun r_4 => if r_4 = 0 then (some (x2, st)) else (zl (sFm st 3 ((st.2.1 3) + (1 : Int32))) (fun st_6 => zi (st.2.1 3) 100 (zl (((((10 : Int32) * x2) + (st_6.1 3 (st.2.1 3).toNatClampNeg)) - (48 : Int32))) (fun x_8 => fX9_number_14 x1 n x_8 (x3 + (1 : Int32)) st_6))))))
def fX9_number  (a1 : Int32) (st : MS) : Option (Int32 × MS) :=
  zb2 (fX9_must (48 : Int32) (57 : Int32) st) (fun r_1 st_2 => fX9_number_14 a1 FU (r_1 - (48 : Int32)) (1 : Int32) st_2)
def fX9_clause_175 (x1 : Int32) (y0 : Int32) (y1 : Int32) (st : MS) : Option MS :=
  zi y1 60 (zl (wAm st 4 y1 y0) (fun st_28 => zb (fX9_sees (47 : Int32) (47 : Int32) st_28) (fun r_29 => if r_29 = 0 then (some st_28) else (zl (sFm st_28 3 ((st_28.2.1 3) + (1 : Int32))) (fun st_31 => zb2 (fX9_number (2 : Int32) st_31) (fun r_32 st_33 => zi (x1 + (4 : Int32)) 60 (zl (wAm st_33 4 (x1 + (4 : Int32)) r_32) (fun st_35 => some st_35))))))))
def fX9_clause_126 (x1 : Int32) (x2 : Int32) (x3 : Int32) (y0 : Int32) (y1 : Int32) (st : MS) : Option MS :=
  zi y1 60 (zl (wAm st 4 y1 y0) (fun st_18 => zi (x1 + (3 : Int32)) 60 (zl (wAm st_18 4 (x1 + (3 : Int32)) (0 : Int32)) (fun st_20 => zi (x1 + (4 : Int32)) 60 (zl (wAm st_20 4 (x1 + (4 : Int32)) (1 : Int32)) (fun st_22 => if x2 = 0 then (zb2 (fX9_number (4 : Int32) st_22) (fun r_24 st_25 => if x3 = 0 then (fX9_clause_175 x1 r_24 (x1 + (3 : Int32)) st_25) else (fX9_clause_175 x1 (-r_24) (x1 + (3 : Int32)) st_25))) else (some st_22)))))))
def fX9_clause_106 (x1 : Int32) (x2 : Int32) (x3 : Int32) (y0 : Int32) (y1 : Int32) (st : MS) : Option MS :=
  zl (sFm st 3 (y1 + y0)) (fun st_15 => if x2 = 0 then (fX9_clause_126 x1 x2 x3 (0 : Int32) (x1 + (2 : Int32)) st_15) else (fX9_clause_126 x1 x2 x3 (1 : Int32) (x1 + (2 : Int32)) st_15))
def fX9_clause_91 (x1 : Int32) (x2 : Int32) (y0 : Int32) (st : MS) : Option MS :=
  if y0 = 0 then (fX9_clause_106 x1 x2 y0 (0 : Int32) (st.2.1 3) st) else (fX9_clause_106 x1 x2 y0 (1 : Int32) (st.2.1 3) st)
def fX9_clause_90 (x1 : Int32) (x2 : Int32) (st : MS) : Option MS :=
  fX9_clause_91 x1 x2 (0 : Int32) st
def fX9_clause_71 (x1 : Int32) (x2 : Int32) (st : MS) : Option MS :=
  if x2 = 0 then (zb (fX9_sees (45 : Int32) (45 : Int32) st) (fun r_36 => if r_36 = 0 then (fX9_clause_90 x1 x2 st) else (fX9_clause_91 x1 x2 (1 : Int32) st))) else (fX9_clause_90 x1 x2 st)
def fX9_clause  (a1 : Int32) (st : MS) : Option MS :=
  zb2 (fX9_must (48 : Int32) (51 : Int32) st) (fun r_1 st_2 => zi a1 60 (zl (wAm st_2 4 a1 (r_1 - (48 : Int32))) (fun st_4 => zb2 (fX9_must (97 : Int32) (122 : Int32) st_4) (fun r_5 st_6 => zi (a1 + (1 : Int32)) 60 (zl (wAm st_6 4 (a1 + (1 : Int32)) (r_5 - (97 : Int32))) (fun st_8 => zb (fX9_sees (45 : Int32) (45 : Int32) st_8) (fun r_9 => if r_9 = 0 then (zb2 (fX9_must (61 : Int32) (61 : Int32) st_8) (fun r_11 st_12 => fX9_clause_71 a1 r_9 st_12)) else (zl (sFm st_8 3 ((st_8.2.1 3) + (1 : Int32))) (fun st_38 => fX9_clause_71 a1 r_9 st_38)))))))))
def fX9_replays_23 (x1 : Int32) (x2 : Int32) : Nat → Int32 → MS → Option MS
  | 0, _, _ => none
  | n + 1, x3, st =>
    if (200 : Int32) ≤ x3 then (some st) else (if x2 ≤ x3 then (some st) else (zb (fX9_at x1 ((0 : Int32) + x3) st) (fun r_4 => if r_4 = (1 : Int32) then (zb (fX9_at x1 ((200 : Int32) + x3) st) (fun r_6 => zi r_6 26 (zl (wAm st 5 r_6 x3) (fun st_8 => fX9_replays_23 x1 x2 n (x3 + (1 : Int32)) st_8)))) else (fX9_replays_23 x1 x2 n (x3 + (1 : Int32)) st))))
def fX9_replays_2 (x1 : Int32) (x2 : Int32) : Nat → Int32 → MS → Option MS
  | 0, _, _ => none
  | n + 1, x3, st =>
    if (26 : Int32) ≤ x3 then (fX9_replays_23 x1 x2 FU (0 : Int32) st) else (zi x3 26 (zl (wAm st 5 x3 (-1 : Int32)) (fun st_10 => fX9_replays_2 x1 x2 n (x3 + (1 : Int32)) st_10)))
def fX9_replays  (a1 : Int32) (a2 : Int32) (st : MS) : Option MS :=
  fX9_replays_2 a1 a2 FU (0 : Int32) st
def fX9_isMapped  (a1 : Int32) (a2 : Int32) (st : MS) : Option Int32 :=
  zi a2 26 (if (st.1 5 a2.toNatClampNeg) < 0 then (some ((0 : Int32))) else (zi a2 26 (zb (fX9_at a1 ((800 : Int32) + (st.1 5 a2.toNatClampNeg)) st) (fun r_4 => if r_4 = 0 then (some ((1 : Int32))) else (some ((0 : Int32)))))))
def fX9_mapped_4 (x1 : Int32) (st : MS) : Nat → Int32 → Int32 → Option Int32
  | 0, _, _ => none
  | n + 1, x2, x3 =>
    if (26 : Int32) ≤ x3 then (some x2) else (zb (fX9_isMapped x1 x3 st) (fun r_2 => if r_2 = 0 then (fX9_mapped_4 x1 st n (x2 + (0 : Int32)) (x3 + (1 : Int32))) else (fX9_mapped_4 x1 st n (x2 + (1 : Int32)) (x3 + (1 : Int32)))))
def fX9_mapped  (a1 : Int32) (st : MS) : Option Int32 :=
  fX9_mapped_4 a1 st FU (0 : Int32) (0 : Int32)
def fX9_holes_9 (x1 : Int32) (st : MS) : Nat → Int32 → Int32 → Option Int32
  | 0, _, _ => none
  | n + 1, x2, x3 =>
    zb (fX9_at x1 (1271 : Int32) st) (fun r_2 => if r_2 ≤ x3 then (some x2) else (zb (fX9_at x1 ((0 : Int32) + x3) st) (fun r_4 => zl ((x2 + ((1 : Int32) - r_4))) (fun x_5 => fX9_holes_9 x1 st n x_5 (x3 + (1 : Int32))))))
def fX9_holes  (a1 : Int32) (st : MS) : Option Int32 :=
  zb (fX9_base a1 (0 : Int32) st) (fun r_1 => fX9_holes_9 a1 st FU (0 : Int32) r_1)
def fX9_from_36 (x1 : Int32) (x3 : Int32) (st : MS) : Nat → Int64 → Option Int32
  | 0, _ => none
  | n + 1, x4 =>
    if (lg_cmp x4 (0 : Int64)) < 0 then (some ((-5 : Int32))) else (if 0 ≤ (lg_cmp x4 (201 : Int64)) then (some ((-5 : Int32))) else (zb (fX9_isThere x1 x4.toInt32 st) (fun r_5 => if r_5 = 0 then (fX9_from_36 x1 x3 st n (x4 + x3.toInt64)) else (some x4.toInt32))))
def fX9_from_18 (st : MS) (x1 : Int32) (x3 : Int32) (x4 : Int64) : Option Int32 :=
  if 0 ≤ x3 then (fX9_from_36 x1 x3 st FU x4) else (if (lg_cmp x4 (200 : Int64)) ≤ 0 then (fX9_from_36 x1 x3 st FU x4) else (fX9_from_36 x1 x3 st FU (200 : Int64)))
def fX9_from  (a1 : Int32) (a2 : Int32) (a3 : Int32) (st : MS) : Option Int32 :=
  if a3 ≤ 0 then (fX9_from_18 st a1 a3 a2.toInt64) else (if 0 ≤ (lg_cmp a2.toInt64 (0 : Int64)) then (fX9_from_18 st a1 a3 a2.toInt64) else (fX9_from_18 st a1 a3 (0 : Int64)))
def fX9_of  (a1 : Int32) (a2 : Int32) (st : MS) : Option (Int32 × MS) :=
  zb (fX9_isLog a1) (fun r_1 => if r_1 = 0 then (some ((-1 : Int32), st)) else (zb (fX9_in a2 (0 : Int32) (10 : Int32)) (fun r_3 => if r_3 = 0 then (some ((-1 : Int32), st)) else (if a2 = (0 : Int32) then (zb (fX9_all a1 st) (fun r_6 => some (r_6, st))) else if a2 = (1 : Int32) then (zb (fX9_base a1 (0 : Int32) st) (fun r_8 => some (r_8, st))) else if a2 = (2 : Int32) then (zb (fX9_at a1 (1271 : Int32) st) (fun r_10 => some (r_10, st))) else if a2 = (3 : Int32) then (zb (fX9_at a1 (1270 : Int32) st) (fun r_12 => some (r_12, st))) else if a2 = (4 : Int32) then (zb (fX9_weighs a1 (0 : Int32) (200 : Int32) st) (fun r_14 => some (r_14, st))) else if a2 = (5 : Int32) then (zb (fX9_holes a1 st) (fun r_16 => some (r_16, st))) else if a2 = (6 : Int32) then (zb (fX9_replays a1 (200 : Int32) st) (fun st_18 => zb (fX9_mapped a1 st_18) (fun r_19 => some (r_19, st_18)))) else if a2 = (7 : Int32) then (zb (fX9_at a1 (1272 : Int32) st) (fun r_21 => if 0 ≤ r_21 then (zb (fX9_at a1 (1272 : Int32) st) (fun r_23 => some (r_23, st))) else (some ((-5 : Int32), st)))) else if a2 = (8 : Int32) then (zb (fX9_at a1 (1273 : Int32) st) (fun r_25 => some (r_25, st))) else if a2 = (9 : Int32) then (zb (fX9_from a1 (0 : Int32) (1 : Int32) st) (fun r_27 => some (r_27, st))) else (zb (fX9_from a1 (200 : Int32) (-1 : Int32) st) (fun r_28 => some (r_28, st)))))))
def fX9_record_48 (st : MS) (x1 : Int32) (x2 : Int32) (x3 : Int32) (y0 : Int32) : Option Int64 :=
  if x3 = (0 : Int32) then (zb (fX9_at x1 ((200 : Int32) + x2) st) (fun r_10 => some r_10.toInt64)) else if x3 = (1 : Int32) then (zb (fX9_at x1 ((400 : Int32) + x2) st) (fun r_12 => some r_12.toInt64)) else if x3 = (2 : Int32) then (zb (fX9_at x1 ((600 : Int32) + x2) st) (fun r_14 => some r_14.toInt64)) else if x3 = (3 : Int32) then (if y0 = 0 then (some ((0 : Int64))) else (some ((1 : Int64)))) else if x3 = (4 : Int32) then (if y0 = 0 then (zb (fX9_at x1 ((1000 : Int32) + x2) st) (fun r_19 => some r_19.toInt64)) else (some ((-9223372036854775808 : Int64)))) else (zb (fX9_segmentOf x1 x2 st) (fun r_20 => some r_20.toInt64))
def fX9_record  (a1 : Int32) (a2 : Int32) (a3 : Int32) (st : MS) : Option Int64 :=
  zb (fX9_isLog a1) (fun r_1 => if r_1 = 0 then (some ((-9223372036854775808 : Int64))) else (zb (fX9_isThere a1 a2 st) (fun r_3 => if r_3 = 0 then (some ((-9223372036854775808 : Int64))) else (zb (fX9_in a3 (0 : Int32) (5 : Int32)) (fun r_5 => if r_5 = 0 then (some ((-9223372036854775808 : Int64))) else (zb (fX9_at a1 ((800 : Int32) + a2) st) (fun r_7 => if r_7 = (1 : Int32) then (fX9_record_48 st a1 a2 a3 (1 : Int32)) else (fX9_record_48 st a1 a2 a3 (0 : Int32)))))))))
def fX9_segment  (a1 : Int32) (a2 : Int32) (a3 : Int32) (st : MS) : Option Int32 :=
  zb (fX9_isLog a1) (fun r_1 => if r_1 = 0 then (some ((-1 : Int32))) else (zb (fX9_at a1 (1270 : Int32) st) (fun r_3 => zb (fX9_in a2 (0 : Int32) (r_3 - (1 : Int32))) (fun r_4 => if r_4 = 0 then (some ((-1 : Int32))) else (zb (fX9_in a3 (0 : Int32) (3 : Int32)) (fun r_6 => if r_6 = 0 then (some ((-1 : Int32))) else (if a3 = 0 then (zb (fX9_base a1 a2 st) (fun r_15 => some r_15)) else (if a3 = (1 : Int32) then (zb (fX9_manyIn a1 a2 st) (fun r_14 => some r_14)) else (if a3 = (2 : Int32) then (zb (fX9_weightIn a1 a2 st) (fun r_13 => some r_13)) else (zb (fX9_at a1 (1270 : Int32) st) (fun r_11 => if r_11 ≤ (a2 + (1 : Int32)) then (some ((0 : Int32))) else (some ((1 : Int32))))))))))))))
def fX9_valueIn  (a1 : Int32) (a2 : Int32) (a3 : Int32) (st : MS) : Option (Int64 × MS) :=
  zb (fX9_replays a1 a2 st) (fun st_1 => zb (fX9_isMapped a1 a3 st_1) (fun r_2 => if r_2 = 0 then (some ((-9223372036854775808 : Int64), st_1)) else (zi a3 26 (zb (fX9_at a1 ((1000 : Int32) + (st_1.1 5 a3.toNatClampNeg)) st_1) (fun r_5 => some (r_5.toInt64, st_1))))))
def fX9_value  (a1 : Int32) (a2 : Int32) (st : MS) : Option (Int64 × MS) :=
  zb (fX9_isLog a1) (fun r_1 => if r_1 = 0 then (some ((-9223372036854775808 : Int64), st)) else (zb (fX9_in a2 (0 : Int32) (25 : Int32)) (fun r_3 => if r_3 = 0 then (some ((-9223372036854775808 : Int64), st)) else (zb2 (fX9_valueIn a1 (200 : Int32) a2 st) (fun r_5 st_6 => some (r_5, st_6))))))
def fX9_replay  (a1 : Int32) (a2 : Int32) (a3 : Int32) (st : MS) : Option (Int64 × MS) :=
  zb (fX9_isLog a1) (fun r_1 => if r_1 = 0 then (some ((-9223372036854775808 : Int64), st)) else (zb (fX9_in a3 (-1 : Int32) (25 : Int32)) (fun r_3 => if r_3 = 0 then (some ((-9223372036854775808 : Int64), st)) else (if 0 ≤ a2 then (if a3 < 0 then (zb (fX9_replays a1 a2 st) (fun st_7 => zb (fX9_mapped a1 st_7) (fun r_8 => some (r_8.toInt64, st_7)))) else (zb2 (fX9_valueIn a1 a2 a3 st) (fun r_9 st_10 => some (r_9, st_10)))) else (some ((-9223372036854775808 : Int64), st))))))
def fX9_near_28 (st : MS) (y0 : Int32) (y1 : Int32) (y2 : Int32) : Option Int32 :=
  zb (fX9_from y2 y1 y0 st) (fun r_6 => some r_6)
def fX9_near  (a1 : Int32) (a2 : Int32) (a3 : Int32) (st : MS) : Option Int32 :=
  zb (fX9_isLog a1) (fun r_1 => if r_1 = 0 then (some ((-1 : Int32))) else (zb (fX9_in a3 (0 : Int32) (1 : Int32)) (fun r_3 => if r_3 = 0 then (some ((-1 : Int32))) else (if a3 = 0 then (fX9_near_28 st (-1 : Int32) a2 a1) else (fX9_near_28 st (1 : Int32) a2 a1)))))
def fX9_isAhead  (a1 : Int32) (a2 : Int32) (a3 : Int32) (st : MS) : Option Int32 :=
  zb (fX9_at a1 ((400 : Int32) + a2) st) (fun r_1 => zb (fX9_at a1 ((400 : Int32) + a3) st) (fun r_2 => zb (fX9_at a1 ((600 : Int32) + a3) st) (fun r_3 => zb (fX9_at a1 ((600 : Int32) + a2) st) (fun r_4 => if (r_1 - r_2) = 0 then (if (r_3 - r_4) = 0 then (if a3 ≤ a2 then (some ((0 : Int32))) else (some ((1 : Int32)))) else (if 0 ≤ (r_3 - r_4) then (some ((0 : Int32))) else (some ((1 : Int32))))) else (if 0 ≤ (r_1 - r_2) then (some ((0 : Int32))) else (some ((1 : Int32))))))))
def fX9_oldest_82 (x1 : Int32) (x2 : Int32) (st : MS) (K15 : Int32 → Option Int32) (x3 : Int32) (x4 : Int32) : Option Int32 :=
  zb (fX9_isThere x1 x3 st) (fun r_6 => if r_6 = 0 then (K15 (x3 + (1 : Int32))) else (if x4 = x2 then (some x3) else (K15 (x3 + (1 : Int32)))))
def fX9_oldest_28 (x1 : Int32) (x2 : Int32) (x3 : Int32) (st : MS) (K15 : Int32 → Option Int32) : Nat → Int32 → Int32 → Option Int32
  | 0, _, _ => none
  | n + 1, x4, x5 =>
    if (200 : Int32) ≤ x5 then (fX9_oldest_82 x1 x2 st K15 x3 x4) else (zb (fX9_isThere x1 x3 st) (fun r_9 => if r_9 = 0 then (fX9_oldest_82 x1 x2 st K15 x3 x4) else (zb (fX9_isThere x1 x5 st) (fun r_11 => if r_11 = 0 then (fX9_oldest_28 x1 x2 x3 st K15 n (x4 + (0 : Int32)) (x5 + (1 : Int32))) else (zb (fX9_isAhead x1 x5 x3 st) (fun r_13 => if r_13 = 0 then (fX9_oldest_28 x1 x2 x3 st K15 n (x4 + (0 : Int32)) (x5 + (1 : Int32))) else (fX9_oldest_28 x1 x2 x3 st K15 n (x4 + (1 : Int32)) (x5 + (1 : Int32)))))))))
def fX9_oldest_15 (x1 : Int32) (x2 : Int32) (st : MS) : Nat → Int32 → Option Int32
  | 0, _ => none
  | n + 1, x3 =>
    if (200 : Int32) ≤ x3 then (some ((-5 : Int32))) else (fX9_oldest_28 x1 x2 x3 st (fX9_oldest_15 x1 x2 st n) FU (0 : Int32) (0 : Int32))
def fX9_oldest  (a1 : Int32) (a2 : Int32) (st : MS) : Option Int32 :=
  zb (fX9_isLog a1) (fun r_1 => if r_1 = 0 then (some ((-1 : Int32))) else (if 0 ≤ a2 then (fX9_oldest_15 a1 a2 st FU (0 : Int32)) else (some ((-1 : Int32)))))
def fX9_would_46 (y0 : Int32) (st : MS) : Option (Int32 × MS) :=
  zb (fX9_copy 1 0 st) (fun st_9 => some (y0, st_9))
def fX9_would  (a1 : Int32) (a2 : Int32) (st : MS) : Option (Int32 × MS) :=
  zb (fX9_isLog a1) (fun r_1 => if r_1 = 0 then (some ((-1 : Int32), st)) else (zb (fX9_in a2 (0 : Int32) (1 : Int32)) (fun r_3 => if r_3 = 0 then (some ((-1 : Int32), st)) else (zb (fX9_copy 0 1 st) (fun st_5 => if a2 = 0 then (zb2 (fX9_compacted a1 st_5) (fun r_10 st_11 => fX9_would_46 r_10 st_11)) else (zb2 (fX9_retained a1 st_5) (fun r_7 st_8 => fX9_would_46 r_7 st_8)))))))
def fX9_need_84 (x1 : Int32) (x2 : Int32) (K40 : Int32 → Int32 → MS → Option (Int32 × MS)) (x4 : Int32) (y0 : Int32) (st : MS) : Option (Int32 × MS) :=
  zb (fX9_copy 1 0 st) (fun st_14 => K40 y0 (x4 + (1 : Int32)) st_14)
def fX9_need_40 (x1 : Int32) (x2 : Int32) : Nat → Int32 → Int32 → MS → Option (Int32 × MS)
  | 0, _, _, _ => none
  | n + 1, x3, x4, st =>
    if (200 : Int32) < x4 then (some (x3, st)) else (if 0 ≤ x3 then (some (x3, st)) else (zi (5098 : Int32) 5140 (zl (wAm st 0 (5098 : Int32) x4) (fun st_9 => zb2 (fX9_retained x1 st_9) (fun r_10 st_11 => zb (fX9_all x1 st_11) (fun r_12 => if r_12 < x2 then (fX9_need_84 x1 x2 (fX9_need_40 x1 x2 n) x4 (-5 : Int32) st_11) else (fX9_need_84 x1 x2 (fX9_need_40 x1 x2 n) x4 x4 st_11)))))))
def fX9_need  (a1 : Int32) (a2 : Int32) (st : MS) : Option (Int32 × MS) :=
  zb (fX9_isLog a1) (fun r_1 => if r_1 = 0 then (some ((-1 : Int32), st)) else (zb (fX9_in a2 (0 : Int32) (200 : Int32)) (fun r_3 => if r_3 = 0 then (some ((-2 : Int32), st)) else (zb (fX9_copy 0 1 st) (fun st_5 => fX9_need_40 a1 a2 FU (-5 : Int32) (0 : Int32) st_5)))))
def fX9_isIn  (a1 : Int32) (st : MS) : Option Int32 :=
  zi (5101 : Int32) 5140 (if (((st.1 0 (5101 : Int32).toNatClampNeg) >>> (a1 &&& 31)) &&& (1 : Int32)) = (1 : Int32) then (some ((1 : Int32))) else (some ((0 : Int32))))
def fX9_membersIn_4 (st : MS) : Nat → Int32 → Int32 → Option Int32
  | 0, _, _ => none
  | n + 1, x1, x2 =>
    if (4 : Int32) ≤ x2 then (some x1) else (zb (fX9_isIn x2 st) (fun r_2 => if r_2 = 0 then (fX9_membersIn_4 st n (x1 + (0 : Int32)) (x2 + (1 : Int32))) else (fX9_membersIn_4 st n (x1 + (1 : Int32)) (x2 + (1 : Int32)))))
def fX9_membersIn   (st : MS) : Option Int32 :=
  fX9_membersIn_4 st FU (0 : Int32) (0 : Int32)
def fX9_logsOf_4 (x1 : Int32) (st : MS) : Nat → Int32 → Int32 → Option Int32
  | 0, _, _ => none
  | n + 1, x2, x3 =>
    if (4 : Int32) ≤ x3 then (some x2) else (zb (fX9_at x3 (1272 : Int32) st) (fun r_2 => if r_2 = x1 then (zl ((x2 ||| ((1 : Int32) <<< (x3 &&& 31)))) (fun x_4 => fX9_logsOf_4 x1 st n x_4 (x3 + (1 : Int32)))) else (fX9_logsOf_4 x1 st n (x2 ||| (0 : Int32)) (x3 + (1 : Int32)))))
def fX9_logsOf  (a1 : Int32) (st : MS) : Option Int32 :=
  fX9_logsOf_4 a1 st FU (0 : Int32) (0 : Int32)
def fX9_bits_4 : Nat → Int32 → Int32 → Option Int32
  | 0, _, _ => none
  | n + 1, x1, x2 =>
    if x2 = 0 then (some x1) else (zl ((x2 &&& (x2 - (1 : Int32)))) (fun x_2 => fX9_bits_4 n (x1 + (1 : Int32)) x_2))
def fX9_bits  (a1 : Int32) : Option Int32 :=
  fX9_bits_4 FU (0 : Int32) a1
def fX9_lets_5 (x1 : Int32) : Nat → Int32 → Int32 → MS → Option MS
  | 0, _, _, _ => none
  | n + 1, x3, x4, st =>
    if (4 : Int32) ≤ x4 then (some st) else (zb (fX9_at x4 (1272 : Int32) st) (fun r_2 => if r_2 = x1 then (if x3 = 0 then (zb (fX9_sets x4 (1272 : Int32) (-1 : Int32) st) (fun st_5 => fX9_lets_5 x1 n x3 (x4 + (1 : Int32)) st_5)) else (fX9_lets_5 x1 n (x3 + (-1 : Int32)) (x4 + (1 : Int32)) st)) else (fX9_lets_5 x1 n x3 (x4 + (1 : Int32)) st)))
def fX9_lets  (a1 : Int32) (a2 : Int32) (st : MS) : Option MS :=
  fX9_lets_5 a1 FU a2 (0 : Int32) st
def fX9_least_4 (st : MS) : Nat → Int32 → Int32 → Option Int32
  | 0, _, _ => none
  | n + 1, x1, x2 =>
    if (4 : Int32) ≤ x2 then (some x1) else (zb (fX9_isIn x2 st) (fun r_2 => if r_2 = 0 then (fX9_least_4 st n x1 (x2 + (1 : Int32))) else (if x1 < 0 then (fX9_least_4 st n x2 (x2 + (1 : Int32))) else (zb (fX9_logsOf x2 st) (fun r_5 => zb (fX9_bits r_5) (fun r_6 => zb (fX9_logsOf x1 st) (fun r_7 => zb (fX9_bits r_7) (fun r_8 => if r_8 ≤ r_6 then (fX9_least_4 st n x1 (x2 + (1 : Int32))) else (fX9_least_4 st n x2 (x2 + (1 : Int32)))))))))))
def fX9_least   (st : MS) : Option Int32 :=
  fX9_least_4 st FU (-1 : Int32) (0 : Int32)
def fX9_shares_188 : Nat → Int32 → Int32 → MS → Option (Int32 × MS)
  | 0, _, _, _ => none
  | n + 1, x4, x5, st =>
    if (4 : Int32) ≤ x5 then (some (x4, st)) else (zb (fX9_at x5 (1272 : Int32) st) (fun r_9 => zi x5 4 (if r_9 = (st.1 6 x5.toNatClampNeg) then (fX9_shares_188 n (x4 + (0 : Int32)) (x5 + (1 : Int32)) st) else (fX9_shares_188 n (x4 + (1 : Int32)) (x5 + (1 : Int32)) st))))
def fX9_shares_148 (x4 : Int32) : Nat → Int32 → MS → Option (Int32 × MS)
  | 0, _, _ => none
  | n + 1, x5, st =>
    if (4 : Int32) ≤ x5 then (fX9_shares_188 FU x4 (0 : Int32) st) else (zb (fX9_at x5 (1272 : Int32) st) (fun r_12 => if 0 ≤ r_12 then (fX9_shares_148 x4 n (x5 + (1 : Int32)) st) else (zb (fX9_least st) (fun r_14 => zb (fX9_sets x5 (1272 : Int32) r_14 st) (fun st_15 => fX9_shares_148 x4 n (x5 + (1 : Int32)) st_15)))))
def fX9_shares_121 (x1 : Int32) (x2 : Int32) (K84 : Int32 → Int32 → MS → Option (Int32 × MS)) (x3 : Int32) (x4 : Int32) (y0 : Int32) (y1 : Int32) (st : MS) : Option (Int32 × MS) :=
  zb (fX9_lets y1 y0 st) (fun st_21 => if x3 ≤ 0 then (K84 (x3 - (0 : Int32)) (x4 + (1 : Int32)) st_21) else (K84 (x3 - (1 : Int32)) (x4 + (1 : Int32)) st_21))
def fX9_shares_84 (x1 : Int32) (x2 : Int32) : Nat → Int32 → Int32 → MS → Option (Int32 × MS)
  | 0, _, _, _ => none
  | n + 1, x3, x4, st =>
    if (4 : Int32) ≤ x4 then (fX9_shares_148 (0 : Int32) FU (0 : Int32) st) else (if x1 ≤ 0 then (fX9_shares_148 (0 : Int32) FU (0 : Int32) st) else (zb (fX9_logsOf x4 st) (fun r_17 => zb (fX9_bits r_17) (fun r_18 => if r_18 ≤ x2 then (fX9_shares_84 x1 x2 n x3 (x4 + (1 : Int32)) st) else (if x3 ≤ 0 then (fX9_shares_121 x1 x2 (fX9_shares_84 x1 x2 n) x3 x4 x2 x4 st) else (fX9_shares_121 x1 x2 (fX9_shares_84 x1 x2 n) x3 x4 (x2 + (1 : Int32)) x4 st))))))
def fX9_shares_74 (x1 : Int32) (y0 : Int32) (st : MS) : Option (Int32 × MS) :=
  zl (((4 : Int32) - (y0 * x1))) (fun x_5 => fX9_shares_84 x1 y0 FU x_5 (0 : Int32) st)
def fX9_shares_2 : Nat → Int32 → MS → Option (Int32 × MS)
  | 0, _, _ => none
  | n + 1, x1, st =>
    if (4 : Int32) ≤ x1 then (zb (fX9_membersIn st) (fun r_2 => if r_2 = 0 then (fX9_shares_74 r_2 (0 : Int32) st) else (zz r_2 (fX9_shares_74 r_2 ((4 : Int32) / r_2) st)))) else (zb (fX9_at x1 (1272 : Int32) st) (fun r_23 => zi x1 4 (zl (wAm st 6 x1 r_23) (fun st_25 => zi x1 4 (if (st_25.1 6 x1.toNatClampNeg) < 0 then (fX9_shares_2 n (x1 + (1 : Int32)) st_25) else (zi x1 4 (zb (fX9_isIn (st_25.1 6 x1.toNatClampNeg) st_25) (fun r_29 => if r_29 = 0 then (zb (fX9_sets x1 (1272 : Int32) (-1 : Int32) st_25) (fun st_31 => fX9_shares_2 n (x1 + (1 : Int32)) st_31)) else (fX9_shares_2 n (x1 + (1 : Int32)) st_25)))))))))
def fX9_shares   (st : MS) : Option (Int32 × MS) :=
  fX9_shares_2 FU (0 : Int32) st
def fX9_join  (a1 : Int32) (st : MS) : Option (Int32 × MS) :=
  zb (fX9_isLog a1) (fun r_1 => if r_1 = 0 then (some ((-1 : Int32), st)) else (zb (fX9_isIn a1 st) (fun r_3 => if r_3 = 0 then (zi (5101 : Int32) 5140 (zi (5101 : Int32) 5140 (zl (wAm st 0 (5101 : Int32) ((st.1 0 (5101 : Int32).toNatClampNeg) ||| ((1 : Int32) <<< (a1 &&& 31)))) (fun st_7 => zb2 (fX9_shares st_7) (fun r_8 st_9 => some (r_8, st_9)))))) else (some ((-3 : Int32), st)))))
def fX9_leave  (a1 : Int32) (st : MS) : Option (Int32 × MS) :=
  zb (fX9_isLog a1) (fun r_1 => if r_1 = 0 then (some ((-1 : Int32), st)) else (zb (fX9_isIn a1 st) (fun r_3 => if r_3 = 0 then (some ((-3 : Int32), st)) else (zi (5101 : Int32) 5140 (zi (5101 : Int32) 5140 (zl (wAm st 0 (5101 : Int32) ((st.1 0 (5101 : Int32).toNatClampNeg) &&& (((1 : Int32) <<< (a1 &&& 31)) ^^^ (-1 : Int32)))) (fun st_7 => zb2 (fX9_shares st_7) (fun r_8 st_9 => some (r_8, st_9)))))))))
def fX9_polled_38 (x1 : Int32) (K2 : Int32 → MS → Option (Int32 × MS)) (x2 : Int32) (y0 : Int32) (st : MS) : Option (Int32 × MS) :=
  if y0 < 0 then (K2 (x2 + (1 : Int32)) st) else (zb (fX9_sets x2 (1273 : Int32) (y0 + (1 : Int32)) st) (fun st_5 => zi (5100 : Int32) 5140 (zi (5100 : Int32) 5140 (zl (wAm st_5 0 (5100 : Int32) ((st_5.1 0 (5100 : Int32).toNatClampNeg) + (1 : Int32))) (fun st_8 => some ((((1000 : Int32) * x2) + y0), st_8))))))
def fX9_polled_2 (x1 : Int32) : Nat → Int32 → MS → Option (Int32 × MS)
  | 0, _, _ => none
  | n + 1, x2, st =>
    if (4 : Int32) ≤ x2 then (some ((-5 : Int32), st)) else (zb (fX9_at x2 (1272 : Int32) st) (fun r_2 => if r_2 = x1 then (zb (fX9_at x2 (1273 : Int32) st) (fun r_9 => zb (fX9_from x2 r_9 (1 : Int32) st) (fun r_10 => fX9_polled_38 x1 (fX9_polled_2 x1 n) x2 r_10 st))) else (fX9_polled_38 x1 (fX9_polled_2 x1 n) x2 (-5 : Int32) st)))
def fX9_polled  (a1 : Int32) (st : MS) : Option (Int32 × MS) :=
  fX9_polled_2 a1 FU (0 : Int32) st
def fX9_poll  (a1 : Int32) (st : MS) : Option (Int32 × MS) :=
  zb (fX9_isLog a1) (fun r_1 => if r_1 = 0 then (some ((-1 : Int32), st)) else (zb (fX9_isIn a1 st) (fun r_3 => if r_3 = 0 then (some ((-3 : Int32), st)) else (zb2 (fX9_polled a1 st) (fun r_5 st_6 => some (r_5, st_6))))))
def fX9_seek  (a1 : Int32) (a2 : Int32) (st : MS) : Option (Int32 × MS) :=
  zb (fX9_isLog a1) (fun r_1 => if r_1 = 0 then (some ((-1 : Int32), st)) else (zb (fX9_at a1 (1271 : Int32) st) (fun r_3 => zb (fX9_in a2 (0 : Int32) r_3) (fun r_4 => if r_4 = 0 then (some ((-2 : Int32), st)) else (zb (fX9_at a1 (1273 : Int32) st) (fun r_6 => zb (fX9_sets a1 (1273 : Int32) a2 st) (fun st_7 => some (r_6, st_7))))))))
def fX9_lag_19 (x1 : Int32) (x3 : Int32) (st : MS) (K4 : Int32 → Int32 → Option Int32) : Nat → Int32 → Int32 → Option Int32
  | 0, _, _ => none
  | n + 1, x2, x4 =>
    if (200 : Int32) ≤ x4 then (K4 x2 (x3 + (1 : Int32))) else (zb (fX9_at x3 (1272 : Int32) st) (fun r_4 => if r_4 = x1 then (zb (fX9_at x3 ((0 : Int32) + x4) st) (fun r_6 => fX9_lag_19 x1 x3 st K4 n (x2 + r_6) (x4 + (1 : Int32)))) else (K4 x2 (x3 + (1 : Int32)))))
def fX9_lag_4 (x1 : Int32) (st : MS) : Nat → Int32 → Int32 → Option Int32
  | 0, _, _ => none
  | n + 1, x2, x3 =>
    if (4 : Int32) ≤ x3 then (some x2) else (zb (fX9_at x3 (1273 : Int32) st) (fun r_2 => fX9_lag_19 x1 x3 st (fX9_lag_4 x1 st n) FU x2 r_2))
def fX9_lag  (a1 : Int32) (st : MS) : Option Int32 :=
  fX9_lag_4 a1 st FU (0 : Int32) (0 : Int32)
def fX9_member  (a1 : Int32) (a2 : Int32) (st : MS) : Option Int32 :=
  zb (fX9_isLog a1) (fun r_1 => if r_1 = 0 then (some ((-1 : Int32))) else (zb (fX9_in a2 (0 : Int32) (2 : Int32)) (fun r_3 => if r_3 = 0 then (some ((-1 : Int32))) else (if a2 = 0 then (zb (fX9_isIn a1 st) (fun r_9 => if r_9 = 0 then (some ((0 : Int32))) else (some ((1 : Int32))))) else (if a2 = (1 : Int32) then (zb (fX9_logsOf a1 st) (fun r_8 => some r_8)) else (zb (fX9_lag a1 st) (fun r_7 => some r_7)))))))
def fX9_told  (a1 : Int32) (st : MS) : Option Int32 :=
  zb (fX9_in a1 (0 : Int32) (5 : Int32)) (fun r_1 => if r_1 = 0 then (some ((-1 : Int32))) else (zi ((5096 : Int32) + a1) 5140 (some ((st.1 0 ((5096 : Int32) + a1).toNatClampNeg)))))
def fX9_common_4 : Nat → Int32 → Int32 → Option Int32
  | 0, _, _ => none
  | n + 1, x2, x3 =>
    if x3 = 0 then (some x2) else (zz x3 (fX9_common_4 n x3 (x2 - x2 / x3 * x3)))
def fX9_common  (a1 : Int32) (a2 : Int32) : Option Int32 :=
  fX9_common_4 FU a1 a2
def fX9_odds_67 (x1 : Int32) (x2 : Int32) (K36 : Int32 → Int32 → MS → Option (Int64 × MS)) (x4 : Int32) (y0 : Int32) (y1 : Int32) (st : MS) : Option (Int64 × MS) :=
  zb (fX9_copy 1 0 st) (fun st_16 => K36 (y1 + y0) (x4 + (5 : Int32)) st_16)
def fX9_odds_36 (x1 : Int32) (x2 : Int32) : Nat → Int32 → Int32 → MS → Option (Int64 × MS)
  | 0, _, _, _ => none
  | n + 1, x3, x4, st =>
    if (100 : Int32) ≤ x4 then (zb (fX9_common x3 (20 : Int32)) (fun r_7 => if x2 = 0 then (zz r_7 (some ((x3 / r_7).toInt64, st))) else (zz r_7 (some (((20 : Int32) / r_7).toInt64, st))))) else (zi (5098 : Int32) 5140 (zl (wAm st 0 (5098 : Int32) x4) (fun st_12 => zb2 (fX9_retained x1 st_12) (fun r_13 st_14 => if r_13 = 0 then (fX9_odds_67 x1 x2 (fX9_odds_36 x1 x2 n) x4 (1 : Int32) x3 st_14) else (fX9_odds_67 x1 x2 (fX9_odds_36 x1 x2 n) x4 (0 : Int32) x3 st_14)))))
def fX9_odds  (a1 : Int32) (a2 : Int32) (st : MS) : Option (Int64 × MS) :=
  zb (fX9_isLog a1) (fun r_1 => if r_1 = 0 then (some ((-9223372036854775808 : Int64), st)) else (zb (fX9_in a2 (0 : Int32) (1 : Int32)) (fun r_3 => if r_3 = 0 then (some ((-9223372036854775808 : Int64), st)) else (zb (fX9_copy 0 1 st) (fun st_5 => fX9_odds_36 a1 a2 FU (0 : Int32) (0 : Int32) st_5)))))
def fX9_plan_57 (x1 : Int32) (x2 : Int32) (st : MS) : Option (Int32 × MS) :=
  zi (5102 : Int32) 5140 (if (st.1 0 (5102 : Int32).toNatClampNeg) = (10 : Int32) then (some ((-4 : Int32), st)) else (zi (5102 : Int32) 5140 (zi ((5103 : Int32) + ((2 : Int32) * (st.1 0 (5102 : Int32).toNatClampNeg))) 5140 (zl (wAm st 0 ((5103 : Int32) + ((2 : Int32) * (st.1 0 (5102 : Int32).toNatClampNeg))) x1) (fun st_10 => zi (5102 : Int32) 5140 (zi (((5103 : Int32) + ((2 : Int32) * (st_10.1 0 (5102 : Int32).toNatClampNeg))) + (1 : Int32)) 5140 (zl (wAm st_10 0 (((5103 : Int32) + ((2 : Int32) * (st_10.1 0 (5102 : Int32).toNatClampNeg))) + (1 : Int32)) x2) (fun st_13 => zi (5102 : Int32) 5140 (zi (5102 : Int32) 5140 (zl (wAm st_13 0 (5102 : Int32) ((st_13.1 0 (5102 : Int32).toNatClampNeg) + (1 : Int32))) (fun st_16 => zi (5102 : Int32) 5140 (some ((st_16.1 0 (5102 : Int32).toNatClampNeg), st_16)))))))))))))
def fX9_plan_39 (x1 : Int32) (x2 : Int32) (st : MS) : Option (Int32 × MS) :=
  if x1 = (3 : Int32) then (zb (fX9_in x2 (0 : Int32) (99 : Int32)) (fun r_18 => if r_18 = 0 then (some ((-2 : Int32), st)) else (fX9_plan_57 x1 x2 st))) else (fX9_plan_57 x1 x2 st)
def fX9_plan  (a1 : Int32) (a2 : Int32) (st : MS) : Option (Int32 × MS) :=
  if a1 = (-1 : Int32) then (zi (5102 : Int32) 5140 (zl (wAm st 0 (5102 : Int32) (0 : Int32)) (fun st_23 => some ((0 : Int32), st_23)))) else (zb (fX9_in a1 (0 : Int32) (3 : Int32)) (fun r_2 => if r_2 = 0 then (some ((-1 : Int32), st)) else (if (3 : Int32) ≤ a1 then (fX9_plan_39 a1 a2 st) else (zb (fX9_isLog a2) (fun r_20 => if r_20 = 0 then (some ((-1 : Int32), st)) else (fX9_plan_39 a1 a2 st))))))
def fX9_does  (a1 : Int32) (a2 : Int32) (st : MS) : Option MS :=
  if a1 = 0 then (zb2 (fX9_compacted a2 st) (fun r_13 st_14 => some st_14)) else (if a1 = (1 : Int32) then (zb2 (fX9_retained a2 st) (fun r_11 st_12 => some st_12)) else (if a1 = (3 : Int32) then (zi (5096 : Int32) 5140 (zi (5096 : Int32) 5140 (zl (wAm st 0 (5096 : Int32) ((st.1 0 (5096 : Int32).toNatClampNeg) + a2)) (fun st_10 => some st_10)))) else (zb (fX9_isIn a2 st) (fun r_4 => if r_4 = 0 then (some st) else (zb2 (fX9_polled a2 st) (fun r_6 st_7 => some st_7))))))
def fX9_ends_91 (y0 : Int32) (st : MS) : Option (Int32 × MS) :=
  zb (fX9_copy 1 0 st) (fun st_8 => some (y0, st_8))
def fX9_ends_24 (x1 : Int32) : Nat → Int32 → MS → Option (Int32 × MS)
  | 0, _, _ => none
  | n + 1, x2, st =>
    zi (5102 : Int32) 5140 (if (st.1 1 (5102 : Int32).toNatClampNeg) ≤ x2 then (if x1 = 0 then (zb (fX9_allLogs st) (fun r_9 => fX9_ends_91 r_9 st)) else (zi (5100 : Int32) 5140 (fX9_ends_91 (st.1 0 (5100 : Int32).toNatClampNeg) st))) else (zi ((5103 : Int32) + ((2 : Int32) * x2)) 5140 (zi (((5103 : Int32) + ((2 : Int32) * x2)) + (1 : Int32)) 5140 (zb (fX9_does (st.1 1 ((5103 : Int32) + ((2 : Int32) * x2)).toNatClampNeg) (st.1 1 (((5103 : Int32) + ((2 : Int32) * x2)) + (1 : Int32)).toNatClampNeg) st) (fun st_12 => fX9_ends_24 x1 n (x2 + (1 : Int32)) st_12)))))
def fX9_ends  (a1 : Int32) (st : MS) : Option (Int32 × MS) :=
  zb (fX9_in a1 (0 : Int32) (1 : Int32)) (fun r_1 => if r_1 = 0 then (some ((-1 : Int32), st)) else (zb (fX9_copy 0 1 st) (fun st_3 => fX9_ends_24 a1 FU (0 : Int32) st_3)))
def fX9_book  (a1 : Int32) (a2 : Int32) (st : MS) : Option (Int32 × MS) :=
  if a1 = (-1 : Int32) then (zi (5123 : Int32) 5140 (zl (wAm st 0 (5123 : Int32) (0 : Int32)) (fun st_19 => some ((0 : Int32), st_19)))) else (zb (fX9_isLog a1) (fun r_2 => if r_2 = 0 then (some ((-1 : Int32), st)) else (zb (fX9_in a2 (0 : Int32) (200 : Int32)) (fun r_4 => if r_4 = 0 then (some ((-2 : Int32), st)) else (zi (5123 : Int32) 5140 (if (st.1 0 (5123 : Int32).toNatClampNeg) = (8 : Int32) then (some ((-4 : Int32), st)) else (zi (5123 : Int32) 5140 (zi ((5124 : Int32) + ((2 : Int32) * (st.1 0 (5123 : Int32).toNatClampNeg))) 5140 (zl (wAm st 0 ((5124 : Int32) + ((2 : Int32) * (st.1 0 (5123 : Int32).toNatClampNeg))) a1) (fun st_10 => zi (5123 : Int32) 5140 (zi (((5124 : Int32) + ((2 : Int32) * (st_10.1 0 (5123 : Int32).toNatClampNeg))) + (1 : Int32)) 5140 (zl (wAm st_10 0 (((5124 : Int32) + ((2 : Int32) * (st_10.1 0 (5123 : Int32).toNatClampNeg))) + (1 : Int32)) a2) (fun st_13 => zi (5123 : Int32) 5140 (zi (5123 : Int32) 5140 (zl (wAm st_13 0 (5123 : Int32) ((st_13.1 0 (5123 : Int32).toNatClampNeg) + (1 : Int32))) (fun st_16 => zi (5123 : Int32) 5140 (some ((st_16.1 0 (5123 : Int32).toNatClampNeg), st_16))))))))))))))))))
def fX9_looked_2 (st : MS) : Nat → Int32 → Option Int32
  | 0, _ => none
  | n + 1, x1 =>
    zi (5123 : Int32) 5140 (if (st.1 0 (5123 : Int32).toNatClampNeg) ≤ x1 then (some ((-5 : Int32))) else (zi ((5124 : Int32) + ((2 : Int32) * x1)) 5140 (zb (fX9_base (st.1 0 ((5124 : Int32) + ((2 : Int32) * x1)).toNatClampNeg) (0 : Int32) st) (fun r_4 => zi (((5124 : Int32) + ((2 : Int32) * x1)) + (1 : Int32)) 5140 (if r_4 = (st.1 0 (((5124 : Int32) + ((2 : Int32) * x1)) + (1 : Int32)).toNatClampNeg) then (fX9_looked_2 st n (x1 + (1 : Int32))) else (some x1))))))
def fX9_looked   (st : MS) : Option Int32 :=
  fX9_looked_2 st FU (0 : Int32)
def fX9_keep_97 (x1 : Int32) (x2 : Int32) (x3 : Int32) (K42 : Int32 → MS → Option (Int32 × MS)) (x4 : Int32) (st : MS) : Option (Int32 × MS) :=
  zi ((4 : Int32) * (st.2.1 2)) 240 (zl (wAm st 7 ((4 : Int32) * (st.2.1 2)) x4) (fun st_14 => zb (fX9_at x1 ((200 : Int32) + x4) st_14) (fun r_15 => zi (((4 : Int32) * (st_14.2.1 2)) + (1 : Int32)) 240 (zl (wAm st_14 7 (((4 : Int32) * (st_14.2.1 2)) + (1 : Int32)) r_15) (fun st_17 => zb (fX9_at x1 ((800 : Int32) + x4) st_17) (fun r_18 => zi (((4 : Int32) * (st_17.2.1 2)) + (2 : Int32)) 240 (zl (wAm st_17 7 (((4 : Int32) * (st_17.2.1 2)) + (2 : Int32)) r_18) (fun st_20 => zb (fX9_at x1 ((1000 : Int32) + x4) st_20) (fun r_21 => zi (((4 : Int32) * (st_20.2.1 2)) + (3 : Int32)) 240 (zl (wAm st_20 7 (((4 : Int32) * (st_20.2.1 2)) + (3 : Int32)) r_21) (fun st_23 => zl (sFm st_23 2 ((st_23.2.1 2) + (1 : Int32))) (fun st_24 => K42 (x4 + (1 : Int32)) st_24))))))))))))
def fX9_keep_42 (x1 : Int32) (x2 : Int32) (x3 : Int32) : Nat → Int32 → MS → Option (Int32 × MS)
  | 0, _, _ => none
  | n + 1, x4, st =>
    if (200 : Int32) ≤ x4 then (some ((st.2.1 2), st)) else (zb (fX9_at x1 ((0 : Int32) + x4) st) (fun r_9 => if r_9 = (1 : Int32) then (if (st.2.1 2) = x3 then (some ((-13 : Int32), st)) else (if x2 = (1 : Int32) then (zb (fX9_at x1 ((800 : Int32) + x4) st) (fun r_25 => if r_25 = (1 : Int32) then (some ((-16 : Int32), st)) else (fX9_keep_97 x1 x2 x3 (fX9_keep_42 x1 x2 x3 n) x4 st))) else (fX9_keep_97 x1 x2 x3 (fX9_keep_42 x1 x2 x3 n) x4 st))) else (fX9_keep_42 x1 x2 x3 n (x4 + (1 : Int32)) st)))
def fX9_keep  (a1 : Int32) (a2 : Int32) (a3 : Int32) (st : MS) : Option (Int32 × MS) :=
  zb (fX9_isLog a1) (fun r_1 => if r_1 = 0 then (some ((-1 : Int32), st)) else (zb (fX9_in a2 (0 : Int32) (1 : Int32)) (fun r_3 => if r_3 = 0 then (some ((-2 : Int32), st)) else (if a3 ≤ (60 : Int32) then (if 0 ≤ a3 then (zl (sFm st 2 (0 : Int32)) (fun st_7 => fX9_keep_42 a1 a2 a3 FU (0 : Int32) st_7)) else (some ((-14 : Int32), st))) else (some ((-2 : Int32), st))))))
def fX9_kept_52 (st : MS) (x1 : Int32) (x2 : Int32) : Option Int64 :=
  zi (((4 : Int32) * x1) + x2) 240 (some ((st.1 7 (((4 : Int32) * x1) + x2).toNatClampNeg).toInt64))
def fX9_kept  (a1 : Int32) (a2 : Int32) (st : MS) : Option Int64 :=
  zb (fX9_in a1 (0 : Int32) ((st.2.1 2) - (1 : Int32))) (fun r_1 => if r_1 = 0 then (some ((-9223372036854775808 : Int64))) else (zb (fX9_in a2 (0 : Int32) (3 : Int32)) (fun r_3 => if r_3 = 0 then (some ((-9223372036854775808 : Int64))) else (if a2 = (3 : Int32) then (zi (((4 : Int32) * a1) + (2 : Int32)) 240 (if (st.1 7 (((4 : Int32) * a1) + (2 : Int32)).toNatClampNeg) = (1 : Int32) then (some ((-9223372036854775808 : Int64))) else (fX9_kept_52 st a1 a2))) else (fX9_kept_52 st a1 a2)))))
def fX9_isTape  (a1 : Int32) : Option Int32 :=
  zb (fX9_in a1 (0 : Int32) (5 : Int32)) (fun r_1 => zq r_1 (some r_1))
def fX9_judge_44 (x1 : Int32) (x2 : Int32) (x3 : Int32) (st : MS) : Nat → Int32 → Int32 → Option Int32
  | 0, _, _ => none
  | n + 1, x4, x5 =>
    if (200 : Int32) ≤ x5 then (some ((-5 : Int32))) else (zb (fX9_at x1 ((0 : Int32) + x5) st) (fun r_8 => if r_8 = (1 : Int32) then (zi x2 6 (if (st.1 8 x2.toNatClampNeg) < 0 then (some (((100 : Int32) + x4))) else (if x3 < 0 then (some (((100 : Int32) + x4))) else (zi x2 6 (if x3 < ((st.1 9 x2.toNatClampNeg) - x4) then (zi x2 6 (zi (x3 + x4) 60 (if (lg_cmp (st.2.2 x2.toNatClampNeg (x3 + x4).toNatClampNeg) x5.toInt64) = 0 then (fX9_judge_44 x1 x2 x3 st n (x4 + (1 : Int32)) (x5 + (1 : Int32))) else (some x4)))) else (some (((100 : Int32) + x4)))))))) else (fX9_judge_44 x1 x2 x3 st n x4 (x5 + (1 : Int32)))))
def fX9_judge  (a1 : Int32) (a2 : Int32) (a3 : Int32) (st : MS) : Option Int32 :=
  zb (fX9_isLog a1) (fun r_1 => if r_1 = 0 then (some ((-1 : Int32))) else (zb (fX9_isTape a2) (fun r_3 => if r_3 = 0 then (some ((-1 : Int32))) else (zi a2 6 (if (st.1 8 a2.toNatClampNeg) < 0 then (fX9_judge_44 a1 a2 a3 st FU (0 : Int32) (0 : Int32)) else (zi a2 6 (if (st.1 8 a2.toNatClampNeg) = (1 : Int32) then (fX9_judge_44 a1 a2 a3 st FU (0 : Int32) (0 : Int32)) else (some ((-12 : Int32))))))))))
def fX9_image   (st : MS) : Option (Int32 × MS) :=
  zb (fX9_copy 0 2 st) (fun st_1 => zl (sFm st_1 0 (1 : Int32)) (fun st_2 => zb (fX9_allLogs st_2) (fun r_3 => some (r_3, st_2))))
def fX9_undo   (st : MS) : Option (Int32 × MS) :=
  if (st.2.1 0) = 0 then (some ((-3 : Int32), st)) else (zb (fX9_copy 2 0 st) (fun st_2 => zb (fX9_allLogs st_2) (fun r_3 => some (r_3, st_2))))
def fX9_count  (a1 : Int32) (st : MS) : Option Int32 :=
  if a1 = (0 : Int32) then (zb (fX9_allLogs st) (fun r_2 => some r_2)) else if a1 = (1 : Int32) then (zb (fX9_membersIn st) (fun r_4 => some r_4)) else if a1 = (2 : Int32) then (zi (5102 : Int32) 5140 (some ((st.1 0 (5102 : Int32).toNatClampNeg)))) else if a1 = (3 : Int32) then (zi (5123 : Int32) 5140 (some ((st.1 0 (5123 : Int32).toNatClampNeg)))) else if a1 = (4 : Int32) then (some ((st.2.1 1))) else (some ((-2 : Int32)))
def fX9_tape_67 (x1 : Int32) : Nat → Int32 → MS → Option (Int32 × MS)
  | 0, _, _ => none
  | n + 1, x4, st =>
    if (60 : Int32) ≤ x4 then (some ((1 : Int32), st)) else (zi x1 6 (zi x4 60 (zl (wLm st x1.toNatClampNeg x4 (0 : Int64)) (fun st_15 => fX9_tape_67 x1 n (x4 + (1 : Int32)) st_15))))
def fX9_tape_63 (x1 : Int32) (y0 : Int32) (y1 : Int32) (st : MS) : Option (Int32 × MS) :=
  zi y1 6 (zl (wAm st 9 y1 y0) (fun st_11 => fX9_tape_67 x1 FU (0 : Int32) st_11))
def fX9_tape_42 (x1 : Int32) (x2 : Int32) (x3 : Int32) (st : MS) : Option (Int32 × MS) :=
  zi x1 6 (zl (wAm st 8 x1 x2) (fun st_8 => if 0 ≤ x2 then (fX9_tape_63 x1 x3 x1 st_8) else (fX9_tape_63 x1 (0 : Int32) x1 st_8)))
def fX9_tape_31 (x1 : Int32) (x2 : Int32) (x3 : Int32) (st : MS) : Option (Int32 × MS) :=
  if x2 < 0 then (fX9_tape_42 x1 x2 x3 st) else (if 0 ≤ x3 then (fX9_tape_42 x1 x2 x3 st) else (some ((-14 : Int32), st)))
def fX9_tape  (a1 : Int32) (a2 : Int32) (a3 : Int32) (st : MS) : Option (Int32 × MS) :=
  zb (fX9_isTape a1) (fun r_1 => if r_1 = 0 then (some ((-1 : Int32), st)) else (zb (fX9_in a2 (-1 : Int32) (4 : Int32)) (fun r_3 => if r_3 = 0 then (some ((-2 : Int32), st)) else (if a2 < 0 then (fX9_tape_31 a1 a2 a3 st) else (if a3 ≤ (60 : Int32) then (fX9_tape_31 a1 a2 a3 st) else (some ((-2 : Int32), st)))))))
def fX9_fit  (a1 : Int32) (a2 : Int64) : Option Int64 :=
  if a1 = (0 : Int32) then (some a2.toInt32.toInt8.toInt32.toInt64) else if a1 = (1 : Int32) then (some a2.toInt32.toInt16.toInt32.toInt64) else if a1 = (2 : Int32) then (some a2.toInt32.toInt64) else if a1 = (3 : Int32) then (some a2) else (if (lg_cmp a2 (0 : Int64)) = 0 then (some ((0 : Int64))) else (some ((1 : Int64))))
def fX9_item  (a1 : Int32) (a2 : Int32) (a3 : Int64) (st : MS) : Option (Int32 × MS) :=
  zb (fX9_isTape a1) (fun r_1 => if r_1 = 0 then (some ((-1 : Int32), st)) else (zi a1 6 (if 0 ≤ (st.1 8 a1.toNatClampNeg) then (zi a1 6 (zb (fX9_in a2 (0 : Int32) ((st.1 9 a1.toNatClampNeg) - (1 : Int32))) (fun r_6 => if r_6 = 0 then (some ((-13 : Int32), st)) else (zi a1 6 (zi a1 6 (zb (fX9_fit (st.1 8 a1.toNatClampNeg) a3) (fun r_10 => zi a2 60 (zl (wLm st a1.toNatClampNeg a2 r_10) (fun st_12 => some ((1 : Int32), st_12)))))))))) else (some ((-11 : Int32), st)))))
def fX9_peek  (a1 : Int32) (a2 : Int32) (st : MS) : Option Int64 :=
  zb (fX9_isTape a1) (fun r_1 => if r_1 = 0 then (some ((-9223372036854775808 : Int64))) else (zi a1 6 (if (st.1 8 a1.toNatClampNeg) < 0 then (some ((-9223372036854775808 : Int64))) else (zi a1 6 (zb (fX9_in a2 (0 : Int32) ((st.1 9 a1.toNatClampNeg) - (1 : Int32))) (fun r_6 => if r_6 = 0 then (some ((-9223372036854775808 : Int64))) else (zi a1 6 (zi a2 60 (some ((st.2.2 a1.toNatClampNeg a2.toNatClampNeg)))))))))))
def fX9_shift_158 (x3 : Int32) (x4 : Int32) (x5 : Int32) : Nat → Int32 → MS → Option (Int32 × MS)
  | 0, _, _ => none
  | n + 1, x6, st =>
    if x5 ≤ x6 then (some (x5, st)) else (zi x3 6 (zi x6 60 (zi (x4 + x6) 60 (zl (wLm st x3.toNatClampNeg (x4 + x6) (st.2.2 6 x6.toNatClampNeg)) (fun st_28 => fX9_shift_158 x3 x4 x5 n (x6 + (1 : Int32)) st_28)))))
def fX9_shift_124 (x1 : Int32) (x2 : Int32) (x3 : Int32) (x4 : Int32) (x5 : Int32) : Nat → Int32 → MS → Option (Int32 × MS)
  | 0, _, _ => none
  | n + 1, x6, st =>
    if x5 ≤ x6 then (fX9_shift_158 x3 x4 x5 FU (0 : Int32) st) else (zi x1 6 (zi (x2 + x6) 60 (zi x6 60 (zl (wLm st 6 x6 (st.2.2 x1.toNatClampNeg (x2 + x6).toNatClampNeg)) (fun st_32 => fX9_shift_124 x1 x2 x3 x4 x5 n (x6 + (1 : Int32)) st_32)))))
def fX9_shift  (a1 : Int32) (a2 : Int32) (a3 : Int32) (a4 : Int32) (a5 : Int32) (st : MS) : Option (Int32 × MS) :=
  zb (fX9_isTape a1) (fun r_1 => if r_1 = 0 then (some ((-1 : Int32), st)) else (zb (fX9_isTape a3) (fun r_3 => if r_3 = 0 then (some ((-1 : Int32), st)) else (zi a1 6 (if (st.1 8 a1.toNatClampNeg) < 0 then (some ((-11 : Int32), st)) else (zi a3 6 (if 0 ≤ (st.1 8 a3.toNatClampNeg) then (zi a1 6 (zi a3 6 (if (st.1 8 a1.toNatClampNeg) = (st.1 8 a3.toNatClampNeg) then (if a5 < 0 then (some ((-13 : Int32), st)) else (if a2 < 0 then (some ((-13 : Int32), st)) else (if a4 < 0 then (some ((-13 : Int32), st)) else (zi a1 6 (if (st.1 9 a1.toNatClampNeg) < a5 then (some ((-13 : Int32), st)) else (zi a3 6 (if (st.1 9 a3.toNatClampNeg) < a5 then (some ((-13 : Int32), st)) else (zi a1 6 (if ((st.1 9 a1.toNatClampNeg) - a5) < a2 then (some ((-13 : Int32), st)) else (zi a3 6 (if a4 ≤ ((st.1 9 a3.toNatClampNeg) - a5) then (fX9_shift_124 a1 a2 a3 a4 a5 FU (0 : Int32) st) else (some ((-13 : Int32), st))))))))))))) else (some ((-12 : Int32), st))))) else (some ((-11 : Int32), st)))))))))
