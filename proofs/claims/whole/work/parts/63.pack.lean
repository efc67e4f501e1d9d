/-! ===== floats: packing ===== -/
theorem rnd_val {f : FP.Core.Fmt} {s : Bool} {c d : Nat} {q r e : Int} (h1 : e ≤ q) (h2 : e ≤ r) (h : FP.Core.inUnits c q e = FP.Core.inUnits d r e) : FP.Core.round f (.fin s c q) = FP.Core.round f (.fin s d r) := by
  rw [← FP.Core.round_inUnits s c h1, ← FP.Core.round_inUnits s d h2, h]
theorem done1 : FP.Core.val64 4607182418800017408 = .fin false (2 ^ 52) (-52) := by decide +kernel
theorem dsub1 {T : Nat} (hT : T < 2 ^ 52) : ∃ (c : Nat) (q : Int) (k : Nat), FP.Core.val64 (FP.dsub (dN 1023 T) 4607182418800017408) = .fin false c q ∧ k = 1022 ∧ FP.Core.inUnits c q (-1074) = T * 2 ^ k := by
  show ∃ (c : Nat) (q : Int) (k : Nat), FP.Core.val64 (FP.Core.dsub (dN 1023 T) 4607182418800017408) = .fin false c q ∧ _
  rw [FP.Core.val64_dsub, dN_val (by omega) (by omega) hT, done1]
  have hu : FP.Core.sumUnits false (2 ^ 52 + T) (((1023 : Nat) : Int) - 1075) true (2 ^ 52) (-52) (-52) = (T : Int) := by
    unfold FP.Core.sumUnits FP.Core.inUnits FP.Core.signed
    rw [show ((((1023 : Nat) : Int) - 1075) - (-52)).toNat = 0 by omega, show ((-52 : Int) - (-52)).toNat = 0 by omega, Nat.pow_zero, Nat.mul_one, Nat.mul_one, if_neg (by decide), if_pos rfl]
    omega
  have he : FP.Core.exactSum (.fin false (2 ^ 52 + T) (((1023 : Nat) : Int) - 1075)) (FP.Core.negate (.fin false (2 ^ 52) (-52))) = .fin false T (-52) := by
    show FP.Core.Datum.fin (FP.Core.sumSign false true (FP.Core.sumUnits false (2 ^ 52 + T) (((1023 : Nat) : Int) - 1075) true (2 ^ 52) (-52) (min (((1023 : Nat) : Int) - 1075) (-52)))) (FP.Core.sumUnits false (2 ^ 52 + T) (((1023 : Nat) : Int) - 1075) true (2 ^ 52) (-52) (min (((1023 : Nat) : Int) - 1075) (-52))).natAbs (min (((1023 : Nat) : Int) - 1075) (-52)) = _
    rw [show min (((1023 : Nat) : Int) - 1075) (-52) = -52 by omega, hu]
    have hs : FP.Core.sumSign false true (T : Int) = false := by
      unfold FP.Core.sumSign
      by_cases h0 : (T : Int) = 0
      · rw [if_pos h0]; rfl
      · rw [if_neg h0]
        exact decide_eq_false (by omega)
    rw [hs, Int.natAbs_natCast]
  rw [he]
  obtain ⟨c, q, e1, e2⟩ := FP.Core.round_exact FP.Core.good_b64 false (c := T) (q := -52) (show T < 2 ^ 53 by omega) (by decide) (by decide)
  refine ⟨c, q, ((-52 : Int) - (-1074)).toNat, e1, by omega, ?_⟩
  rw [FP.Core.qmin_b64] at e2
  rw [e2]
  rfl
theorem dpow {T t fr : Nat} {b : UInt64} (hfr : fr ≤ 52) (hb : FP.Core.val64 b = .fin false (2 ^ 52) ((fr : Int) - 52)) (ht : T = t * 2 ^ (52 - fr)) (hT : T < 2 ^ 52) : FP.dmul (FP.dsub (dN 1023 T) 4607182418800017408) b = FP.l2d (lN t) ∧ t < 2 ^ 52 := by
  have htl : t < 2 ^ 52 := by
    have := Nat.le_mul_of_pos_right t (Nat.two_pow_pos (52 - fr))
    omega
  refine ⟨?_, htl⟩
  obtain ⟨c, q, k, e1, hk, e2⟩ := dsub1 hT
  have hq := (FP.Core.val64_fits (FP.dsub (dN 1023 T) 4607182418800017408))
  rw [e1] at hq
  have hq1 := hq.2.1
  rw [FP.Core.qmin_b64] at hq1
  have hn : FP.Core.val64 (FP.l2d (lN t)) ≠ .nan := (FP.Core.l2d_fin (lN t)).ne_nan
  refine (FP.Core.val64_inj hn ?_).symm
  show FP.Core.val64 (FP.Core.l2d (lN t)) = FP.Core.val64 (FP.Core.dmul (FP.dsub (dN 1023 T) 4607182418800017408) b)
  have hlt : (lN t).toInt = (t : Int) := pk_lT (by omega)
  rw [FP.Core.val64_l2d, FP.Core.val64_dmul, e1, hb, hlt]
  have ho : FP.Core.ofInt (t : Int) = .fin false t 0 := by
    unfold FP.Core.ofInt
    rw [Int.natAbs_natCast, decide_eq_false (by omega)]
  rw [ho]
  show FP.Core.round FP.Core.b64 (.fin false t 0) = FP.Core.round FP.Core.b64 (.fin false (c * 2 ^ 52) (q + ((fr : Int) - 52)))
  refine rnd_val (e := -1174) (by omega) (by omega) ?_
  unfold FP.Core.inUnits at e2 ⊢
  obtain ⟨u, hu⟩ : ∃ u : Nat, (q - (-1074)).toNat = u := ⟨_, rfl⟩
  rw [hu] at e2
  obtain ⟨m, hm⟩ : ∃ m : Nat, ((0 : Int) - (-1174)).toNat = m := ⟨_, rfl⟩
  obtain ⟨v, hv⟩ : ∃ v : Nat, v = 52 := ⟨_, rfl⟩
  rw [hm, show (q + ((fr : Int) - 52) - (-1174)).toNat = u + (fr + 48) by omega, ← hv, Nat.pow_add, Nat.mul_mul_mul_comm, e2, ht, ← hv, ← Nat.pow_add, Nat.mul_assoc t, ← Nat.pow_add, Nat.mul_assoc t, ← Nat.pow_add]
  congr 2
  omega
theorem lN_bv {n : Nat} (h : n < 2 ^ 64) : (lN n).toBitVec.toNat = n := Nat.mod_eq_of_lt h
theorem lN_ext {x : Int64} {n : Nat} (h : n < 2 ^ 64) (e : x.toBitVec.toNat = n) : x = lN n := by
  apply Int64.toBitVec_inj.mp
  apply BitVec.eq_of_toNat_eq
  rw [e, lN_bv h]
theorem lN_pack {y t k : Nat} (s : Int64) (hs : (s.toBitVec.smod 64).toNat = k) (ht : t < 2 ^ k) (h : y * 2 ^ k + t < 2 ^ 63) : (lN y <<< s) ||| lN t = lN (y * 2 ^ k + t) := by
  have hy : y ≤ y * 2 ^ k := Nat.le_mul_of_pos_right y (Nat.two_pow_pos k)
  apply lN_ext (by omega)
  rw [Int64.toBitVec_or, BitVec.toNat_or, lN_bv (by omega)]
  have h1 : (lN y <<< s).toBitVec.toNat = y * 2 ^ k := by
    show (((lN y).toBitVec) <<< (s.toBitVec.smod 64).toNat).toNat = _
    rw [hs, BitVec.toNat_shiftLeft, Nat.shiftLeft_eq, lN_bv (by omega)]
    exact Nat.mod_eq_of_lt (by omega)
  rw [h1, Nat.mul_comm y (2 ^ k)]
  exact (Nat.two_pow_add_eq_or_of_lt ht y).symm
theorem pk78_f {t y : Nat} (ht : t < 2 ^ 23) (hy : y < 256) : fX0_packed_78 23 (dN 1023 (t * 2 ^ 29)) (nI y) = some (lN (y * 2 ^ 23 + t)) := by
  have hT : t * 2 ^ 29 < 2 ^ 52 := by omega
  have hz : y * 2 ^ 23 + t < 2 ^ 63 := by
    have h1 : y * 2 ^ 23 ≤ 256 * 2 ^ 23 := Nat.mul_le_mul_right _ (by omega)
    have h2 : 256 * 2 ^ 23 + 2 ^ 23 < 2 ^ 63 := by decide
    exact Nat.lt_of_le_of_lt (Nat.add_le_add h1 (Nat.le_of_lt ht)) h2
  have hl : FP.Core.val64 (FP.l2d ((1 : Int64) <<< ((23 : Int32).toInt64 &&& 63))) = .fin false (2 ^ 52) (((23 : Nat) : Int) - 52) := by decide +kernel
  have hs : (((23 : Int32).toInt64 &&& 63).toBitVec.smod 64).toNat = 23 := by decide +kernel
  have hp := lN_pack (y := y) (t := t) (k := 23) ((23 : Int32).toInt64 &&& 63) hs ht hz
  obtain ⟨e1, e2⟩ := dpow (t := t) (fr := 23) (by omega) hl rfl hT
  obtain ⟨c, q, k, f1, -, -⟩ := dsub1 hT
  unfold fX0_packed_78
  rw [zl_d, e1, zn64_ok (by rw [f1]; exact fin_nn), zn64_ok ((FP.Core.l2d_fin (lN t)).ne_nan), show FP.d2l (FP.l2d (lN t)) = lN t from FP.Core.d2l_l2d (by rw [pk_lT (by omega)]; omega), nI_l (by omega)]
  exact congrArg some hp
theorem pk78_d {t y : Nat} (ht : t < 2 ^ 52) (hy : y < 2047) : fX0_packed_78 52 (dN 1023 t) (nI y) = some (lN (y * 2 ^ 52 + t)) := by
  have hl : FP.Core.val64 (FP.l2d ((1 : Int64) <<< ((52 : Int32).toInt64 &&& 63))) = .fin false (2 ^ 52) (((52 : Nat) : Int) - 52) := by decide +kernel
  obtain ⟨e1, e2⟩ := dpow (T := t) (t := t) (fr := 52) (by omega) hl (by rw [Nat.sub_self, Nat.pow_zero, Nat.mul_one]) ht
  obtain ⟨c, q, k, f1, -, -⟩ := dsub1 ht
  unfold fX0_packed_78
  rw [zl_d, e1, zn64_ok (by rw [f1]; exact fin_nn), zn64_ok ((FP.Core.l2d_fin (lN t)).ne_nan), show FP.d2l (FP.l2d (lN t)) = lN t from FP.Core.d2l_l2d (by rw [pk_lT (by omega)]; omega), nI_l (by omega), lN_pack (k := 52) _ (by decide +kernel) ht (by omega)]
theorem pk9_lt {fr x : Int32} {E T : Nat} (h1 : 1 ≤ E) (h2 : E < 1024) (hT : T < 2 ^ 52) : fX0_packed_9 fr FU (dN E T) x 0 = fX0_packed_46 fr FU (dN E T) x 0 := by
  obtain ⟨n9, hn9⟩ : ∃ n9, FU = n9 + 1 := ⟨9999, rfl⟩
  have h : ∀ k, fX0_packed_9 fr (k + 1) (dN E T) x 0 = fX0_packed_46 fr FU (dN E T) x 0 := fun k => by
    rw [fX0_packed_9, if_pos ((dcmp_two h1 (by omega) hT).mpr h2), ite_self]
  have := h n9
  rw [← hn9] at this
  exact this
theorem packed_f {e t : Nat} (h1 : 1 ≤ e) (h2 : e ≤ 254) (ht : t < 2 ^ 23) : fX0_packed (dN (e + 896) (t * 2 ^ 29)) 23 127 = some (lN (e * 2 ^ 23 + t)) := by
  have hT : t * 2 ^ 29 < 2 ^ 52 := by omega
  unfold fX0_packed
  by_cases h : 127 ≤ e
  · have a1 := pk9 (fr := 23) hT (e - 127) FU (e + 896) 0 127 (by omega) (fu_lt (by omega)) (by omega)
    have a2 := pk46 (fr := 23) hT 0 FU 1023 0 e (by omega) (by omega) (fu_lt (by omega)) (by omega)
    rw [show 127 + (e - 127) = e + 0 by omega] at a1
    exact a1.trans (a2.trans (pk78_f ht (by omega)))
  · have a2 := pk46 (fr := 23) hT (127 - e) FU (e + 896) 0 e (by omega) (by omega) (fu_lt (by omega)) (by omega)
    rw [show e + (127 - e) = 127 by omega] at a2
    exact (pk9_lt (x := nI 127) (by omega) (by omega) hT).trans (a2.trans (pk78_f ht (by omega)))
theorem packed_d {E T : Nat} (h1 : 1 ≤ E) (h2 : E ≤ 2046) (hT : T < 2 ^ 52) : fX0_packed (dN E T) 52 1023 = some (lN (E * 2 ^ 52 + T)) := by
  unfold fX0_packed
  by_cases h : 1023 ≤ E
  · have a1 := pk9 (fr := 52) hT (E - 1023) FU E 0 1023 (by omega) (fu_lt (by omega)) (by omega)
    have a2 := pk46 (fr := 52) hT 0 FU 1023 0 E (by omega) (by omega) (fu_lt (by omega)) (by omega)
    rw [show 1023 + (E - 1023) = E + 0 by omega] at a1
    exact a1.trans (a2.trans (pk78_d hT (by omega)))
  · have a2 := pk46 (fr := 52) hT (1023 - E) FU E 0 E (by omega) (by omega) (fu_lt (by omega)) (by omega)
    rw [show E + (1023 - E) = 1023 by omega] at a2
    exact (pk9_lt (x := nI 1023) (by omega) (by omega) hT).trans (a2.trans (pk78_d hT (by omega)))
