/-! ===== floats: a value's float, its rank ===== -/
theorem bv_u (v : Int32) : v.toBitVec.toNat = v.toUInt32.toNat := rfl
theorem u_lt (v : Int32) : v.toUInt32.toNat < 2 ^ 32 := v.toUInt32.toNat_lt
theorem v_nI (v : Int32) : v = nI v.toUInt32.toNat := by
  apply Int32.toBitVec_inj.mp
  apply BitVec.eq_of_toNat_eq
  show v.toBitVec.toNat = v.toUInt32.toNat % 2 ^ 32
  exact (Nat.mod_eq_of_lt (u_lt v)).symm
theorem v_ext {u v : Int32} (h : u.toUInt32.toNat = v.toUInt32.toNat) : u = v := by rw [v_nI u, v_nI v, h]
theorem isF {v : Int32} (h : VF v) : fX0_isFinite v = some (if v.toUInt32.toNat % 2 ^ 31 < 255 * 2 ^ 23 then 1 else 0) := by
  unfold fX0_isFinite
  have hl := u_lt v
  by_cases hm : v.toUInt32.toNat % 2 ^ 31 < 255 * 2 ^ 23
  · rw [if_pos hm, if_neg]
    intro e
    have e2 : v.toUInt32.toNat &&& 2139095040 = 2139095040 := by
      have := congrArg (fun z : Int32 => z.toBitVec.toNat) e
      have h2 : (v &&& (2139095040 : Int32)).toBitVec.toNat = v.toUInt32.toNat &&& 2139095040 := by
        rw [Int32.toBitVec_and, BitVec.toNat_and, bv_u]
        rfl
      rw [← h2]
      exact this
    have e3 : (v.toUInt32.toNat &&& 2139095040) / 2 ^ 23 = (v.toUInt32.toNat / 2 ^ 23) &&& (2139095040 / 2 ^ 23) := Nat.and_div_two_pow ..
    rw [e2, show 2139095040 / 2 ^ 23 = 2 ^ 8 - 1 from rfl, Nat.and_two_pow_sub_one_eq_mod] at e3
    omega
  · rw [if_neg hm, if_pos]
    rcases h with rfl | h | h | h
    · decide +kernel
    · have : v = 2139095040 ∨ v = -8388608 := by
        by_cases q : v.toUInt32.toNat < 2 ^ 31
        · left
          exact v_ext (by rw [show (2139095040 : Int32).toUInt32.toNat = 2139095040 by decide +kernel]; omega)
        · right
          exact v_ext (by rw [show (-8388608 : Int32).toUInt32.toNat = 4286578688 by decide +kernel]; omega)
      rcases this with rfl | rfl <;> decide +kernel
    · omega
    · omega
theorem sni {v : Int32} (h : VF v) : vn_sni2f v = false := by
  rcases h with rfl | h
  · decide +kernel
  · have hm : v.toUInt32.toNat % 2 ^ 31 ≤ 2139095040 := by omega
    unfold vn_sni2f
    have : ¬ (v.toUInt32 &&& 0x7fffffff > 0x7f800000) := fun q => by
      have q2 : (0x7f800000 : UInt32) < v.toUInt32 &&& 0x7fffffff := q
      rw [UInt32.lt_iff_toNat_lt, mask32] at q2
      have : (0x7f800000 : UInt32).toNat = 2139095040 := by decide
      omega
    rw [decide_eq_false this]
    rfl
theorem i2f_fN {t : Nat} (ht : t < 2 ^ 23) : FP.i2f (nI (2 ^ 23 + t)) = fN 150 t := by
  refine (FP.Core.val32_inj (fN_nn (by omega) (by omega) ht) ?_).symm
  have hf := FP.Core.val32_fits (fN 150 t)
  rw [fN_val (by omega) (by omega) ht] at hf ⊢
  show _ = FP.Core.val32 (FP.Core.i2f (nI (2 ^ 23 + t)))
  rw [FP.Core.val32_i2f, nI_toInt (by omega)]
  have ho : FP.Core.ofInt ((2 ^ 23 + t : Nat) : Int) = .fin false (2 ^ 23 + t) 0 := by
    unfold FP.Core.ofInt
    rw [Int.natAbs_natCast, decide_eq_false (by omega)]
  rw [ho]
  refine (FP.Core.roundRatio_exact (s := false) FP.Core.good_b32 (by decide) hf ?_).symm
  rw [show ((0 : Int) - (((150 : Nat) : Int) - 150)).toNat = 0 by omega, show ((((150 : Nat) : Int) - 150) - 0).toNat = 0 by omega, Nat.pow_zero, Nat.mul_one, Nat.mul_one]
theorem fo26a {x0 x1 : Int32} {t : Nat} (ht : t < 2 ^ 23) : ∀ (d n k E : Nat), k + d = 150 → d < E → E ≤ 150 → d < n → fX0_floatOf_26 x0 x1 n (fN E t) (nI k) = fX0_floatOf_48 x0 x1 FU (fN (E - d) t) 150 := by
  intro d
  induction d with
  | zero =>
    intro n k E h1 h2 h3 h4
    obtain ⟨q9, rfl⟩ : ∃ q9, n = q9 + 1 := ⟨n - 1, by omega⟩
    rw [fX0_floatOf_26, if_pos (show (150 : Int32) ≤ nI k from nI_le (a := 150) (by omega) (by omega))]
    rfl
  | succ d ih =>
    intro n k E h1 h2 h3 h4
    obtain ⟨q9, rfl⟩ : ∃ q9, n = q9 + 1 := ⟨n - 1, by omega⟩
    rw [fX0_floatOf_26, if_neg (show ¬ (150 : Int32) ≤ nI k from nI_ge (b := 150) (by omega) (by omega)), fN_pow (E' := E - 1) fhalf (by omega) (by omega) (by omega) (by omega) (by omega) ht, zn32_ok (fN_nn (by omega) (by omega) ht), zl_d, nI_1, ih q9 (k + 1) (E - 1) (by omega) (by omega) (by omega) (by omega), show E - 1 - d = E - (d + 1) by omega]
theorem fo26b {x0 x1 x2 : Int32} {y : UInt32} {k : Nat} (hk : 150 ≤ k) (hk2 : k < 1000) : fX0_floatOf_26 x0 x1 FU y (nI k) = fX0_floatOf_48 x0 x1 FU y 150 := by
  obtain ⟨n9, hn9⟩ : ∃ n9, FU = n9 + 1 := ⟨9999, rfl⟩
  have h : ∀ j, fX0_floatOf_26 x0 x1 (j + 1) y (nI k) = fX0_floatOf_48 x0 x1 FU y 150 := fun j => by
    rw [fX0_floatOf_26, if_pos (show (150 : Int32) ≤ nI k from nI_le (a := 150) hk (by omega))]
  have := h n9
  rw [← hn9] at this
  exact this
theorem fo48 {x0 : Int32} {e t : Nat} (ht : t < 2 ^ 23) (he : e ≤ 254) : ∀ (d n k E : Nat), k + d = e → 1 ≤ E → E + d ≤ 254 → d < n → fX0_floatOf_48 x0 (nI e) n (fN E t) (nI k) = (if 0 ≤ x0 then some (fN (E + d) t) else some (FP.fneg (fN (E + d) t))) := by
  intro d
  induction d with
  | zero =>
    intro n k E h1 h2 h3 h4
    obtain ⟨q9, rfl⟩ : ∃ q9, n = q9 + 1 := ⟨n - 1, by omega⟩
    rw [fX0_floatOf_48, if_pos (nI_le (by omega) (by omega))]
    rfl
  | succ d ih =>
    intro n k E h1 h2 h3 h4
    obtain ⟨q9, rfl⟩ : ∃ q9, n = q9 + 1 := ⟨n - 1, by omega⟩
    rw [fX0_floatOf_48, if_neg (nI_ge (by omega) (by omega)), fN_pow (E' := E + 1) ftwo (by omega) (by omega) (by omega) (by omega) (by omega) ht, zn32_ok (fN_nn (by omega) (by omega) ht), zl_d, nI_1, ih q9 (k + 1) (E + 1) (by omega) (by omega) (by omega) (by omega), show E + 1 + d = E + (d + 1) by omega]
theorem fo48z {x0 : Int32} {e : Nat} {y : UInt32} (he : e ≤ 150) : fX0_floatOf_48 x0 (nI e) FU y 150 = (if 0 ≤ x0 then some y else some (FP.fneg y)) := by
  obtain ⟨n9, hn9⟩ : ∃ n9, FU = n9 + 1 := ⟨9999, rfl⟩
  have h : ∀ j, fX0_floatOf_48 x0 (nI e) (j + 1) y 150 = (if 0 ≤ x0 then some y else some (FP.fneg y)) := fun j => by
    rw [fX0_floatOf_48, if_pos (show nI e ≤ (150 : Int32) from nI_le (b := 150) he (by omega))]
  have := h n9
  rw [← hn9] at this
  exact this
theorem neg_u (v : Int32) : (0 ≤ v) ↔ v.toUInt32.toNat < 2 ^ 31 := by
  rw [Int32.le_iff_toInt_le, show (0 : Int32).toInt = 0 by decide, show v.toInt = v.toBitVec.toInt from rfl, BitVec.toInt_eq_toNat_cond, bv_u]
  have := u_lt v
  split <;> omega
theorem fof_e (v : Int32) : ((v.toUInt32 >>> ((23 : Int32).toUInt32 &&& Int32.toUInt32 31)).toInt32 &&& (255 : Int32)) = nI (v.toUInt32.toNat / 2 ^ 23 % 256) := by
  have h1 := pk_ushr v 23 23 (by decide +kernel)
  have h2 := pk_and (v.toUInt32 >>> ((23 : Int32).toUInt32 &&& Int32.toUInt32 31)).toInt32 (m := 255) 8 (by decide +kernel)
  rw [h2, h1, bv_u]
theorem fof_n {v : Int32} (h1 : 2 ^ 23 ≤ v.toUInt32.toNat % 2 ^ 31) (h2 : v.toUInt32.toNat % 2 ^ 31 < 255 * 2 ^ 23) : fX0_floatOf v = some v.toUInt32 := by
  have hl := u_lt v
  obtain ⟨e, he⟩ : ∃ e, v.toUInt32.toNat / 2 ^ 23 % 256 = e := ⟨_, rfl⟩
  obtain ⟨t, ht⟩ : ∃ t, v.toUInt32.toNat % 2 ^ 23 = t := ⟨_, rfl⟩
  have he1 : 1 ≤ e ∧ e ≤ 254 := by omega
  have ht1 : t < 2 ^ 23 := by omega
  have ha : (v &&& (8388607 : Int32)) ||| (8388608 : Int32) = nI (2 ^ 23 + t) := by
    rw [pk_and v (m := 8388607) 23 (by decide +kernel), bv_u, ht]
    apply Int32.toBitVec_inj.mp
    apply BitVec.eq_of_toNat_eq
    rw [Int32.toBitVec_or, BitVec.toNat_or, pk_tn (by omega), pk_tn (by omega), show (8388608 : Int32).toBitVec.toNat = 2 ^ 23 * 1 by decide +kernel, Nat.or_comm]
    have := Nat.two_pow_add_eq_or_of_lt (i := 23) ht1 1
    rw [← this, Nat.mul_one]
  have hend : (if 0 ≤ v then some (fN e t) else some (FP.fneg (fN e t))) = some v.toUInt32 := by
    by_cases q : 0 ≤ v
    · have q2 := (neg_u v).mp q
      rw [if_pos q]
      congr 1
      exact u32_ext (by rw [fN_nat (by omega) ht1]; omega)
    · have q2 : ¬ v.toUInt32.toNat < 2 ^ 31 := fun r => q ((neg_u v).mpr r)
      rw [if_neg q]
      congr 1
      exact u32_ext (by rw [fneg_nat, fN_nat (by omega) ht1]; omega)
  unfold fX0_floatOf
  rw [zl_d, fof_e, he, if_neg (nI_ne0 (by omega) (by omega)), zl_d, ha, i2f_fN ht1]
  by_cases hc : e ≤ 150
  · have a1 := fo26a (x0 := v) (x1 := nI e) ht1 (150 - e) FU e 150 (by omega) (by omega) (by omega) (fu_lt (by omega))
    rw [a1, fo48z hc, show 150 - (150 - e) = e by omega]
    exact hend
  · have a1 := fo48 (x0 := v) ht1 he1.2 (e - 150) FU 150 150 (by omega) (by omega) (by omega) (fu_lt (by omega))
    have a1' : fX0_floatOf_48 v (nI e) FU (fN 150 t) 150 = _ := a1
    rw [fo26b (x2 := 0) (by omega) (by omega), a1', show 150 + (e - 150) = e by omega]
    exact hend
theorem fof_0 {v : Int32} (h : v.toUInt32.toNat % 2 ^ 31 = 0) : fX0_floatOf v = some 0 := by
  have hl := u_lt v
  unfold fX0_floatOf
  rw [zl_d, fof_e, show v.toUInt32.toNat / 2 ^ 23 % 256 = 0 by omega, if_pos (by rfl)]
/-- the rank of a value's bits, as a whole number -/
def rkz (v : Int32) : Int := if v.toUInt32.toNat < 2 ^ 31 then (v.toUInt32.toNat : Int) else 2 ^ 31 - 1 - (v.toUInt32.toNat : Int)
theorem rank_z (v : Int32) : ∃ r, fX0_rank v = some r ∧ r.toInt = rkz v := by
  have hl := u_lt v
  unfold fX0_rank rkz
  have hv : v.toInt = if v.toUInt32.toNat < 2 ^ 31 then (v.toUInt32.toNat : Int) else (v.toUInt32.toNat : Int) - 2 ^ 32 := by
    rw [show v.toInt = v.toBitVec.toInt from rfl, BitVec.toInt_eq_toNat_cond, bv_u]
    split <;> split <;> omega
  by_cases q : v.toUInt32.toNat < 2 ^ 31
  · rw [if_pos ((neg_u v).mpr q), if_pos q]
    rw [if_pos q] at hv
    exact ⟨v, rfl, hv⟩
  · rw [if_neg (fun r => q ((neg_u v).mp r)), if_neg q]
    refine ⟨_, rfl, ?_⟩
    have hx : (v ^^^ (2147483647 : Int32)).toBitVec.toNat = 2 ^ 31 + (2 ^ 32 - 1 - v.toUInt32.toNat) := by
      rw [Int32.toBitVec_xor, BitVec.toNat_xor, bv_u, show (2147483647 : Int32).toBitVec.toNat = 2 ^ 31 - 1 by decide +kernel]
      have h1 : (v.toUInt32.toNat ^^^ (2 ^ 31 - 1)) % 2 ^ 31 = (v.toUInt32.toNat % 2 ^ 31) ^^^ (2 ^ 31 - 1) := by
        rw [Nat.xor_mod_two_pow, Nat.mod_eq_of_lt (show 2 ^ 31 - 1 < 2 ^ 31 by omega)]
      have h2 : (v.toUInt32.toNat ^^^ (2 ^ 31 - 1)) / 2 ^ 31 = v.toUInt32.toNat / 2 ^ 31 := by
        rw [Nat.xor_div_two_pow, Nat.div_eq_of_lt (show 2 ^ 31 - 1 < 2 ^ 31 by omega), Nat.xor_zero]
      have h3 : (v.toUInt32.toNat % 2 ^ 31) ^^^ (2 ^ 31 - 1) = 2 ^ 31 - 1 - v.toUInt32.toNat % 2 ^ 31 := by
        have hlt : v.toUInt32.toNat % 2 ^ 31 < 2 ^ 31 := Nat.mod_lt _ (by omega)
        have e := BitVec.toNat_not (x := BitVec.ofNat 31 (v.toUInt32.toNat % 2 ^ 31))
        rw [BitVec.toNat_ofNat, Nat.mod_eq_of_lt hlt] at e
        rw [← e, ← BitVec.xor_allOnes, BitVec.toNat_xor, BitVec.toNat_allOnes, BitVec.toNat_ofNat, Nat.mod_eq_of_lt hlt]
      rw [h3] at h1
      omega
    rw [show (v ^^^ (2147483647 : Int32)).toInt = (v ^^^ (2147483647 : Int32)).toBitVec.toInt from rfl, BitVec.toInt_eq_toNat_cond, hx, if_neg (by omega)]
    omega
