/-! ===== floats: bits, quotients ===== -/
theorem nat_xor31 {a : Nat} (h : a < 2 ^ 32) : a ^^^ 2 ^ 31 = (a + 2 ^ 31) % 2 ^ 32 := by
  have h1 : (a ^^^ 2 ^ 31) % 2 ^ 31 = a % 2 ^ 31 := by rw [Nat.xor_mod_two_pow, Nat.mod_self, Nat.xor_zero]
  have h2 : (a ^^^ 2 ^ 31) / 2 ^ 31 = (a / 2 ^ 31) ^^^ 1 := by rw [Nat.xor_div_two_pow, Nat.div_self (Nat.two_pow_pos 31)]
  have h3 : a / 2 ^ 31 = 0 ∨ a / 2 ^ 31 = 1 := by omega
  generalize a ^^^ 2 ^ 31 = t at h1 h2
  rcases h3 with h3 | h3
  · rw [h3] at h2
    have h2 : t / 2 ^ 31 = 1 := h2
    omega
  · rw [h3] at h2
    have h2 : t / 2 ^ 31 = 0 := h2
    omega
theorem nat_xor63 {a : Nat} (h : a < 2 ^ 64) : a ^^^ 2 ^ 63 = (a + 2 ^ 63) % 2 ^ 64 := by
  have h1 : (a ^^^ 2 ^ 63) % 2 ^ 63 = a % 2 ^ 63 := by rw [Nat.xor_mod_two_pow, Nat.mod_self, Nat.xor_zero]
  have h2 : (a ^^^ 2 ^ 63) / 2 ^ 63 = (a / 2 ^ 63) ^^^ 1 := by rw [Nat.xor_div_two_pow, Nat.div_self (Nat.two_pow_pos 63)]
  have h3 : a / 2 ^ 63 = 0 ∨ a / 2 ^ 63 = 1 := by omega
  generalize a ^^^ 2 ^ 63 = t at h1 h2
  rcases h3 with h3 | h3
  · rw [h3] at h2
    have h2 : t / 2 ^ 63 = 1 := h2
    omega
  · rw [h3] at h2
    have h2 : t / 2 ^ 63 = 0 := h2
    omega
theorem fneg_nat (x : UInt32) : (FP.fneg x).toNat = (x.toNat + 2 ^ 31) % 2 ^ 32 := by
  unfold FP.fneg
  rw [UInt32.toNat_xor, show (0x80000000 : UInt32).toNat = 2 ^ 31 by decide]
  exact nat_xor31 x.toNat_lt
theorem dneg_nat (x : UInt64) : (FP.dneg x).toNat = (x.toNat + 2 ^ 63) % 2 ^ 64 := by
  unfold FP.dneg
  rw [UInt64.toNat_xor, show (0x8000000000000000 : UInt64).toNat = 2 ^ 63 by decide]
  exact nat_xor63 x.toNat_lt
theorem u32_ext {x y : UInt32} (h : x.toNat = y.toNat) : x = y := UInt32.toNat_inj.mp h
theorem u64_ext {x y : UInt64} (h : x.toNat = y.toNat) : x = y := UInt64.toNat_inj.mp h
theorem i32_of (x : UInt32) : x.toInt32 = nI x.toNat := by
  apply Int32.toBitVec_inj.mp
  apply BitVec.eq_of_toNat_eq
  show x.toBitVec.toNat = x.toNat % 2 ^ 32
  exact (Nat.mod_eq_of_lt x.toNat_lt).symm
theorem i64_of (x : UInt64) : x.toInt64 = lN x.toNat := by
  apply Int64.toBitVec_inj.mp
  apply BitVec.eq_of_toNat_eq
  show x.toBitVec.toNat = x.toNat % 2 ^ 64
  exact (Nat.mod_eq_of_lt x.toNat_lt).symm
theorem or_min32 {m : Nat} (h : m < 2 ^ 31) : nI m ||| (-2147483648 : Int32) = nI (2 ^ 31 + m) := by
  apply Int32.toBitVec_inj.mp
  apply BitVec.eq_of_toNat_eq
  rw [Int32.toBitVec_or, BitVec.toNat_or, pk_tn (by omega), pk_tn (by omega), show (-2147483648 : Int32).toBitVec.toNat = 2 ^ 31 * 1 by decide +kernel, Nat.or_comm]
  have := Nat.two_pow_add_eq_or_of_lt (i := 31) h 1
  rw [← this, Nat.mul_one]
theorem or_min64 {m : Nat} (h : m < 2 ^ 63) : lN m ||| (-9223372036854775808 : Int64) = lN (2 ^ 63 + m) := by
  apply Int64.toBitVec_inj.mp
  apply BitVec.eq_of_toNat_eq
  rw [Int64.toBitVec_or, BitVec.toNat_or, lN_bv (by omega), lN_bv (by omega), show (-9223372036854775808 : Int64).toBitVec.toNat = 2 ^ 63 * 1 by decide +kernel, Nat.or_comm]
  have := Nat.two_pow_add_eq_or_of_lt (i := 63) h 1
  rw [← this, Nat.mul_one]
theorem v32_0 : FP.Core.val32 0 ≠ .nan := by decide +kernel
theorem v64_0 : FP.Core.val64 0 ≠ .nan := by decide +kernel
theorem fk0 : FP.Core.fkey 0 = 0 := by decide +kernel
theorem dk0 : FP.Core.dkey 0 = 0 := by decide +kernel
theorem bof_n {x : UInt32} (h1 : 2 ^ 23 ≤ x.toNat % 2 ^ 31) (h2 : x.toNat % 2 ^ 31 < 255 * 2 ^ 23) : fX0_bitsOfFloat x = some x.toInt32 := by
  have hn : FP.Core.val32 x ≠ .nan := (FP.Core.ne_nan32 x).mpr (by omega)
  have kl := FP.Core.fcmp_lt_key hn v32_0
  have ke := FP.Core.fcmp_eq_key hn v32_0
  rw [fk0] at kl ke
  have hlt := x.toNat_lt
  obtain ⟨e, he⟩ : ∃ e, x.toNat % 2 ^ 31 / 2 ^ 23 = e := ⟨_, rfl⟩
  obtain ⟨t, ht⟩ : ∃ t, x.toNat % 2 ^ 31 % 2 ^ 23 = t := ⟨_, rfl⟩
  have he1 : 1 ≤ e ∧ e ≤ 254 := by omega
  have ht1 : t < 2 ^ 23 := by omega
  have hm : x.toNat % 2 ^ 31 = e * 2 ^ 23 + t := by omega
  have hpk : fX0_packed (FP.f2d (fN e t)) 23 127 = some (lN (e * 2 ^ 23 + t)) := by
    rw [f2d_fN he1.1 he1.2 ht1]
    exact packed_f he1.1 he1.2 ht1
  have hdn : FP.Core.val64 (FP.f2d (fN e t)) ≠ .nan := by
    rw [f2d_fN he1.1 he1.2 ht1]
    exact dN_nn (by omega) (by omega) (by omega)
  unfold fX0_bitsOfFloat fX0_bitsOfFloat_22
  by_cases hs : x.toNat < 2 ^ 31
  · have hx : x = fN e t := u32_ext (by rw [fN_nat (by omega) ht1]; omega)
    have hk : FP.Core.fkey x = (x.toNat : Int) := if_neg (by omega)
    rw [hk] at kl ke
    have n1 : ¬ Op.cmpValue (FP.fcmp x 0) CmpOp.l = 0 := fun q => by have := ke.mp ((cv_l_eq _).mp q); omega
    have n2 : 0 ≤ Op.cmpValue (FP.fcmp x 0) CmpOp.g := (cv_g_ge _).mpr (fun q => by have := kl.mp q; omega)
    rw [← hx] at hpk hdn
    rw [if_neg n1, if_pos n2, zn64_ok hdn, hpk, zb_s, if_pos n2, lN_i, i32_of]
    congr 2
    omega
  · have hx : FP.fneg x = fN e t := u32_ext (by rw [fneg_nat, fN_nat (by omega) ht1]; omega)
    have hk : FP.Core.fkey x = ((2 ^ 31 : Nat) : Int) - (x.toNat : Int) := if_pos (by omega)
    rw [hk] at kl ke
    have n1 : ¬ Op.cmpValue (FP.fcmp x 0) CmpOp.l = 0 := fun q => by have := ke.mp ((cv_l_eq _).mp q); omega
    have n2 : ¬ 0 ≤ Op.cmpValue (FP.fcmp x 0) CmpOp.g := fun q => (cv_g_ge _).mp q (kl.mpr (by omega))
    rw [if_neg n1, if_neg n2, hx, zn64_ok hdn, hpk, zb_s, if_neg n2, lN_i, or_min32 (by omega), i32_of]
    congr 2
    omega
theorem bof_0 : fX0_bitsOfFloat 0 = some 0 := by decide +kernel
theorem bod_n {x : UInt64} (h1 : 2 ^ 52 ≤ x.toNat % 2 ^ 63) (h2 : x.toNat % 2 ^ 63 < 2047 * 2 ^ 52) : fX0_bitsOfDouble x = some x.toInt64 := by
  have hn : FP.Core.val64 x ≠ .nan := (FP.Core.ne_nan x).mpr (by omega)
  have kl := FP.Core.dcmp_lt_key hn v64_0
  have ke := FP.Core.dcmp_eq_key hn v64_0
  rw [dk0] at kl ke
  have hlt := x.toNat_lt
  obtain ⟨e, he⟩ : ∃ e, x.toNat % 2 ^ 63 / 2 ^ 52 = e := ⟨_, rfl⟩
  obtain ⟨t, ht⟩ : ∃ t, x.toNat % 2 ^ 63 % 2 ^ 52 = t := ⟨_, rfl⟩
  have he1 : 1 ≤ e ∧ e ≤ 2046 := by omega
  have ht1 : t < 2 ^ 52 := by omega
  have hm : x.toNat % 2 ^ 63 = e * 2 ^ 52 + t := by omega
  have hpk : fX0_packed (dN e t) 52 1023 = some (lN (e * 2 ^ 52 + t)) := packed_d he1.1 he1.2 ht1
  unfold fX0_bitsOfDouble fX0_bitsOfDouble_20
  by_cases hs : x.toNat < 2 ^ 63
  · have hx : x = dN e t := u64_ext (by rw [dN_nat (by omega) ht1]; omega)
    have hk : FP.Core.dkey x = (x.toNat : Int) := if_neg (by omega)
    rw [hk] at kl ke
    have n1 : ¬ Op.cmpValue (FP.dcmp x 0) CmpOp.l = 0 := fun q => by have := ke.mp ((cv_l_eq _).mp q); omega
    have n2 : 0 ≤ Op.cmpValue (FP.dcmp x 0) CmpOp.g := (cv_g_ge _).mpr (fun q => by have := kl.mp q; omega)
    rw [← hx] at hpk
    rw [if_neg n1, if_pos n2, hpk, zb_s, if_pos n2, i64_of]
    congr 2
    omega
  · have hx : FP.dneg x = dN e t := u64_ext (by rw [dneg_nat, dN_nat (by omega) ht1]; omega)
    have hk : FP.Core.dkey x = ((2 ^ 63 : Nat) : Int) - (x.toNat : Int) := if_pos (by omega)
    rw [hk] at kl ke
    have n1 : ¬ Op.cmpValue (FP.dcmp x 0) CmpOp.l = 0 := fun q => by have := ke.mp ((cv_l_eq _).mp q); omega
    have n2 : ¬ 0 ≤ Op.cmpValue (FP.dcmp x 0) CmpOp.g := fun q => (cv_g_ge _).mp q (kl.mpr (by omega))
    rw [if_neg n1, if_neg n2, hx, hpk, zb_s, if_neg n2, or_min64 (by omega), i64_of]
    congr 2
    omega
theorem bod_0 : fX0_bitsOfDouble 0 = some 0 := by decide +kernel
/-- what the library's members answer -/
theorem ftb_n {x : UInt32} (h : FP.Core.val32 x ≠ .nan) : fJxf58ca_floatToIntBits_5c35a x = some x.toInt32 := by
  have hc : FP.fcmp x x = some .eq := (FP.Core.fcmp_eq_key h h).mpr rfl
  unfold fJxf58ca_floatToIntBits_5c35a fJxf58ca_isNaN_12338
  rw [if_pos ((cv_l_eq _).mpr hc), zb_s, i00]
theorem ftb_nan {x : UInt32} (h : FP.Core.val32 x = .nan) : fJxf58ca_floatToIntBits_5c35a x = some 2143289344 := by
  have hc : ¬ FP.fcmp x x = some .eq := fun q => (FP.Core.fcmp_some q).1 h
  unfold fJxf58ca_floatToIntBits_5c35a fJxf58ca_isNaN_12338
  rw [if_neg (fun q => hc ((cv_l_eq _).mp q)), zb_s, i10]
theorem dtb_n {x : UInt64} (h : FP.Core.val64 x ≠ .nan) : fJxe99ae_doubleToLongBits_ccdee x = some x.toInt64 := by
  have hc : FP.dcmp x x = some .eq := (FP.Core.dcmp_eq_key h h).mpr rfl
  unfold fJxe99ae_doubleToLongBits_ccdee fJxe99ae_isNaN_b9ae7
  rw [if_pos ((cv_l_eq _).mpr hc), zb_s, i00]
theorem dtb_nan {x : UInt64} (h : FP.Core.val64 x = .nan) : fJxe99ae_doubleToLongBits_ccdee x = some 9221120237041090560 := by
  have hc : ¬ FP.dcmp x x = some .eq := fun q => (FP.Core.dcmp_some q).1 h
  unfold fJxe99ae_doubleToLongBits_ccdee fJxe99ae_isNaN_b9ae7
  rw [if_neg (fun q => hc ((cv_l_eq _).mp q)), zb_s, i10]
theorem i2f_fin {a : Int32} (h : a ≠ 0) : ∃ (s : Bool) (c : Nat) (q : Int), FP.Core.val32 (FP.i2f a) = .fin s c q ∧ s = decide (a < 0) ∧ c ≠ 0 ∧ 2 ^ 23 * 2 ^ 126 ≤ c * 2 ^ (q + 149).toNat ∧ c * 2 ^ (q + 149).toNat ≤ 2 ^ 23 * 2 ^ 159 ∧ -149 ≤ q ∧ q ≤ 104 := by
  obtain ⟨s, c, q, e⟩ := FP.Core.i2f_fin a
  have hb := FP.Core.i2f_big (FP.Core.int32_ne h)
  have hm := FP.Core.i2f_mag a
  have hz := FP.Core.zmag_toNat32 (a := FP.Core.i2f a) (by rw [e]; exact fin_nn)
  have hf := FP.Core.val32_fits (FP.Core.i2f a)
  rw [e] at hz hf
  have u1 : FP.Core.unitsOf FP.Core.b32 (127 * FP.Core.b32.tails) = FP.Core.b32.tails * 2 ^ (127 - 1) := FP.Core.unitsOf_start (by omega)
  have u2 : FP.Core.unitsOf FP.Core.b32 (160 * FP.Core.b32.tails) = FP.Core.b32.tails * 2 ^ (160 - 1) := FP.Core.unitsOf_start (by omega)
  rw [FP.Core.tails_b32] at u1 u2
  have hz' : c * 2 ^ (q + 149).toNat = FP.Core.unitsOf FP.Core.b32 ((FP.Core.i2f a).toNat % 2 ^ 31) := by
    rw [← hz]
    show _ = c * 2 ^ (q - FP.Core.b32.qmin).toNat
    rw [FP.Core.qmin_b32]
    congr 2
  have l1 := (FP.Core.unitsOf_le_iff (f := FP.Core.b32)).mpr hb.1
  have l2 := (FP.Core.unitsOf_le_iff (f := FP.Core.b32)).mpr (Nat.le_of_lt hm)
  have hq1 := hf.2.1
  have hq2 := hf.2.2.1
  rw [FP.Core.qmin_b32] at hq1
  rw [show FP.Core.b32.qmax = 104 by decide] at hq2
  refine ⟨s, c, q, e, ?_, ?_, ?_, ?_, hq1, hq2⟩
  · have hs := FP.Core.sgn_roundRatio FP.Core.b32 (decide (a.toInt < 0)) a.toInt.natAbs 1 0
    have hv : FP.Core.val32 (FP.Core.i2f a) = FP.Core.roundRatio FP.Core.b32 (decide (a.toInt < 0)) a.toInt.natAbs 1 0 := FP.Core.val32_i2f a
    rw [← hv, e] at hs
    have hs' : s = decide (a.toInt < 0) := hs
    rw [hs', decide_eq_decide, Int32.lt_iff_toInt_lt]
    exact Iff.rfl
  · intro hc
    rw [hc, Nat.zero_mul] at hz'
    have := FP.Core.unitsOf_eq_zero.mp hz'.symm
    omega
  · rw [hz', show 2 ^ 23 * 2 ^ 126 = FP.Core.unitsOf FP.Core.b32 (127 * 2 ^ 23) from u1.symm]
    exact l1
  · rw [hz', show 2 ^ 23 * 2 ^ 159 = FP.Core.unitsOf FP.Core.b32 (160 * 2 ^ 23) from u2.symm]
    exact l2
theorem div_lo {c d u v w : Nat} (hw : w + v = u + 600) (hc : 2 ^ 23 * 2 ^ 126 ≤ c * 2 ^ u) (hd : d * 2 ^ v ≤ 2 ^ 23 * 2 ^ 159) : 2 ^ 23 * 2 ^ 93 * 2 ^ 451 * d ≤ c * 2 ^ w := by
  refine Nat.le_of_mul_le_mul_right (c := 2 ^ v) ?_ (Nat.two_pow_pos v)
  have h1 : c * 2 ^ w * 2 ^ v = c * 2 ^ u * 2 ^ 600 := by
    rw [Nat.mul_assoc, ← Nat.pow_add, hw, Nat.pow_add, Nat.mul_assoc]
  have h2 := Nat.mul_le_mul_left (2 ^ 23 * 2 ^ 93 * 2 ^ 451) hd
  have h3 := Nat.mul_le_mul_right (2 ^ 600) hc
  rw [h1, Nat.mul_assoc _ d]
  refine Nat.le_trans h2 (Nat.le_trans (Nat.le_of_eq ?_) h3)
  rw [← Nat.pow_add, ← Nat.pow_add, ← Nat.pow_add, ← Nat.pow_add, ← Nat.pow_add, ← Nat.pow_add]
theorem fdiv_i {a b : Int32} (ha : a ≠ 0) (hb : b ≠ 0) : 94 * 2 ^ 23 ≤ (FP.fdiv (FP.i2f a) (FP.i2f b)).toNat % 2 ^ 31 ∧ (FP.fdiv (FP.i2f a) (FP.i2f b)).toNat % 2 ^ 31 < 161 * 2 ^ 23 := by
  have hbb := FP.Core.i2f_big (FP.Core.int32_ne hb)
  constructor
  · obtain ⟨s, c, q, e1, -, c0, c1, c2, c3, c4⟩ := i2f_fin ha
    obtain ⟨t, d, r, f1, -, d0, d1, d2, d3, d4⟩ := i2f_fin hb
    have hv : FP.Core.decode FP.Core.b32 (FP.fdiv (FP.i2f a) (FP.i2f b)).toNat = FP.Core.roundRatio FP.Core.b32 (s != t) c d (q - r) := by
      show FP.Core.val32 (FP.Core.fdiv (FP.i2f a) (FP.i2f b)) = _
      rw [FP.Core.val32_fdiv, e1, f1]
      show (if d = 0 then (if c = 0 then FP.Core.Datum.nan else .inf (s != t)) else FP.Core.roundRatio FP.Core.b32 (s != t) c d (q - r)) = _
      rw [if_neg d0]
    have hg := FP.Core.mag_ge FP.Core.good_b32 (m := 94 * 2 ^ 23) (e0 := -600) hv (by omega) (by decide) (by omega) (by decide) ?_
    · rw [FP.Core.mag_toNat32] at hg
      exact hg
    · have u1 : FP.Core.unitsOf FP.Core.b32 (94 * FP.Core.b32.tails) = FP.Core.b32.tails * 2 ^ (94 - 1) := FP.Core.unitsOf_start (by omega)
      rw [FP.Core.tails_b32] at u1
      rw [u1, FP.Core.qmin_b32]
      exact div_lo (c := c) (d := d) (u := (q + 149).toNat) (v := (r + 149).toNat) (w := (q - r - (-600)).toNat) (by omega) c1 d2
  · have := FP.Core.fdiv_mag (FP.Core.i2f_mag a) hbb.1 hbb.2 (by omega) (by omega)
    exact this
/-- what values there are -/
def VF (v : Int32) : Prop := v = 2143289344 ∨ v.toUInt32.toNat % 2 ^ 31 = 2139095040 ∨ v.toUInt32.toNat % 2 ^ 31 = 0 ∨ (94 * 2 ^ 23 ≤ v.toUInt32.toNat % 2 ^ 31 ∧ v.toUInt32.toNat % 2 ^ 31 < 161 * 2 ^ 23)
theorem i2f_0 : FP.i2f 0 = 0 := by decide +kernel
theorem quot_eq (x y : Int32) : ∃ v, fX0_quotient x y = some v ∧ fX9_valueOf x y = some v ∧ VF v := by
  unfold fX0_quotient fX9_valueOf
  by_cases hy : y = 0
  · subst hy
    by_cases hx : x = 0
    · subst hx
      exact ⟨2143289344, by rw [if_pos rfl, if_pos rfl], by decide +kernel, Or.inl rfl⟩
    · obtain ⟨s, c, q, e1, e2, c0, -⟩ := i2f_fin hx
      have hv : FP.Core.val32 (FP.fdiv (FP.i2f x) (FP.i2f 0)) = .inf s := by
        show FP.Core.val32 (FP.Core.fdiv (FP.i2f x) (FP.i2f 0)) = _
        rw [FP.Core.val32_fdiv, e1, i2f_0, show FP.Core.val32 0 = .fin false 0 (-149) by decide +kernel]
        show (if 0 = 0 then (if c = 0 then FP.Core.Datum.nan else .inf (s != false)) else FP.Core.roundRatio FP.Core.b32 (s != false) c 0 (q - -149)) = _
        rw [if_pos rfl, if_neg c0]
        cases s <;> rfl
      have hw := FP.Core.val32_inf s
      have hx2 : FP.fdiv (FP.i2f x) (FP.i2f 0) = (if s then 4286578688 else 2139095040) := FP.Core.val32_inj (by rw [hv]; exact fun h => by cases h) (by rw [hv, hw])
      rw [if_pos rfl, if_neg hx, ftb_n (by rw [hv]; exact fun h => by cases h), zb_s, hx2, e2]
      by_cases hl : x < 0
      · rw [if_pos (Int32.le_of_lt hl), decide_eq_true hl]
        exact ⟨_, rfl, by decide +kernel, Or.inr (Or.inl (by decide +kernel))⟩
      · rw [if_neg (fun q => by
          rcases Int32.le_iff_lt_or_eq.mp q with r | r
          · exact hl r
          · exact hx r), decide_eq_false hl]
        exact ⟨_, rfl, by decide +kernel, Or.inr (Or.inl (by decide +kernel))⟩
  · by_cases hx : x = 0
    · subst hx
      obtain ⟨t, d, r, f1, f2, d0, -⟩ := i2f_fin hy
      have hv : FP.Core.val32 (FP.fdiv (FP.i2f 0) (FP.i2f y)) = .fin t 0 FP.Core.b32.qmin := by
        show FP.Core.val32 (FP.Core.fdiv (FP.i2f 0) (FP.i2f y)) = _
        rw [FP.Core.val32_fdiv, f1, i2f_0, show FP.Core.val32 0 = .fin false 0 (-149) by decide +kernel]
        show (if d = 0 then (if 0 = 0 then FP.Core.Datum.nan else .inf (false != t)) else FP.Core.roundRatio FP.Core.b32 (false != t) 0 d (-149 - r)) = _
        rw [if_neg d0]
        unfold FP.Core.roundRatio
        rw [if_pos rfl]
        cases t <;> rfl
      have hw := FP.Core.val32_zero2 t
      have hx2 : FP.fdiv (FP.i2f 0) (FP.i2f y) = (if t then 2147483648 else 0) := FP.Core.val32_inj (by rw [hv]; exact fin_nn) (by rw [hv, hw])
      rw [if_neg hy, if_pos rfl, ftb_n (by rw [hv]; exact fin_nn), zb_s, hx2, f2]
      by_cases hl : y < 0
      · rw [if_neg (fun q => absurd hl (Int32.not_lt.mpr q)), decide_eq_true hl]
        exact ⟨_, rfl, by decide +kernel, Or.inr (Or.inr (Or.inl (by decide +kernel)))⟩
      · rw [if_pos (Int32.not_lt.mp hl), decide_eq_false hl]
        exact ⟨_, rfl, by decide +kernel, Or.inr (Or.inr (Or.inl (by decide +kernel)))⟩
    · obtain ⟨l1, l2⟩ := fdiv_i hx hy
      have hn : FP.Core.val32 (FP.fdiv (FP.i2f x) (FP.i2f y)) ≠ .nan := (FP.Core.ne_nan32 _).mpr (by omega)
      rw [if_neg hy, if_neg hx, zn32_ok hn, bof_n (by omega) (by omega), zb_s, ftb_n hn, zb_s]
      refine ⟨_, rfl, rfl, Or.inr (Or.inr (Or.inr ?_))⟩
      rw [show ∀ z : UInt32, z.toInt32.toUInt32 = z from fun z => rfl]
      exact ⟨l1, l2⟩
theorem hq_all : ∀ x y : Int32, ∃ v, fX0_quotient x y = some v ∧ fX9_valueOf x y = some v := fun x y => by
  obtain ⟨v, h1, h2, -⟩ := quot_eq x y
  exact ⟨v, h1, h2⟩
theorem VAL.f {v : Int32} (h : VAL v) : VF v := by
  obtain ⟨x, y, h⟩ := h
  obtain ⟨u, h1, -, h3⟩ := quot_eq x y
  rw [h] at h1
  cases h1
  exact h3
