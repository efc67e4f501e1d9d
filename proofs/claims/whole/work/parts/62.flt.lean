/-! ===== floats: normal numbers by their fields ===== -/
theorem cv_l_lt (o : Option Ordering) : (Op.cmpValue o CmpOp.l < 0) ↔ (o = some .lt ∨ o = none) := by
  rcases o with _ | (_ | _ | _) <;> decide
theorem cv_l_le (o : Option Ordering) : (Op.cmpValue o CmpOp.l ≤ 0) ↔ ¬ o = some .gt := by
  rcases o with _ | (_ | _ | _) <;> decide
theorem cv_l_eq (o : Option Ordering) : (Op.cmpValue o CmpOp.l = 0) ↔ o = some .eq := by
  rcases o with _ | (_ | _ | _) <;> decide
theorem cv_g_ge (o : Option Ordering) : (0 ≤ Op.cmpValue o CmpOp.g) ↔ ¬ o = some .lt := by
  rcases o with _ | (_ | _ | _) <;> decide
def dN (E T : Nat) : UInt64 := UInt64.ofNat (E * 2 ^ 52 + T)
def fN (E T : Nat) : UInt32 := UInt32.ofNat (E * 2 ^ 23 + T)
theorem dN_nat {E T : Nat} (h2 : E ≤ 2047) (hT : T < 2 ^ 52) : (dN E T).toNat = E * 2 ^ 52 + T := by
  unfold dN
  rw [UInt64.toNat_ofNat_of_lt' (show _ < 2 ^ 64 by omega)]
theorem fN_nat {E T : Nat} (h2 : E ≤ 255) (hT : T < 2 ^ 23) : (fN E T).toNat = E * 2 ^ 23 + T := by
  unfold fN
  rw [UInt32.toNat_ofNat_of_lt' (show _ < 2 ^ 32 by omega)]
theorem dN_val {E T : Nat} (h1 : 1 ≤ E) (h2 : E ≤ 2046) (hT : T < 2 ^ 52) : FP.Core.val64 (dN E T) = .fin false (2 ^ 52 + T) ((E : Int) - 1075) := by
  unfold FP.Core.val64
  rw [dN_nat (by omega) hT]
  have e : E * 2 ^ 52 + T = FP.Core.assemble FP.Core.b64 false E T := by
    unfold FP.Core.assemble
    rw [FP.Core.tails_b64, show false.toNat = 0 from rfl, Nat.zero_mul, Nat.zero_add]
  have he : FP.Core.b64.exps = 2048 := by decide
  rw [e, FP.Core.decode_assemble FP.Core.b64 false E T (by rw [he]; omega) (by rw [FP.Core.tails_b64]; exact hT), he, if_neg (by omega), if_neg (by omega), FP.Core.tails_b64, FP.Core.qmin_b64]
  congr 1
  omega
theorem fN_val {E T : Nat} (h1 : 1 ≤ E) (h2 : E ≤ 254) (hT : T < 2 ^ 23) : FP.Core.val32 (fN E T) = .fin false (2 ^ 23 + T) ((E : Int) - 150) := by
  unfold FP.Core.val32
  rw [fN_nat (by omega) hT]
  have e : E * 2 ^ 23 + T = FP.Core.assemble FP.Core.b32 false E T := by
    unfold FP.Core.assemble
    rw [FP.Core.tails_b32, show false.toNat = 0 from rfl, Nat.zero_mul, Nat.zero_add]
  have he : FP.Core.b32.exps = 256 := by decide
  rw [e, FP.Core.decode_assemble FP.Core.b32 false E T (by rw [he]; omega) (by rw [FP.Core.tails_b32]; exact hT), he, if_neg (by omega), if_neg (by omega), FP.Core.tails_b32, FP.Core.qmin_b32]
  congr 1
  omega
theorem fin_nn {s : Bool} {c : Nat} {q : Int} : (FP.Core.Datum.fin s c q) ≠ .nan := fun h => by cases h
theorem dN_nn {E T : Nat} (h1 : 1 ≤ E) (h2 : E ≤ 2046) (hT : T < 2 ^ 52) : FP.Core.val64 (dN E T) ≠ .nan := by rw [dN_val h1 h2 hT]; exact fin_nn
theorem fN_nn {E T : Nat} (h1 : 1 ≤ E) (h2 : E ≤ 254) (hT : T < 2 ^ 23) : FP.Core.val32 (fN E T) ≠ .nan := by rw [fN_val h1 h2 hT]; exact fin_nn
theorem zn64_ok {α : Type} {x : UInt64} {K : Option α} (h : FP.Core.val64 x ≠ .nan) : zn64 x K = K := by
  unfold zn64
  refine if_pos ?_
  rw [UInt64.le_iff_toNat_le, FP.Core.mask_toNat]
  exact (FP.Core.ne_nan x).mp h
theorem mask32 (x : UInt32) : (x &&& 0x7fffffff).toNat = x.toNat % 2 ^ 31 := by
  rw [UInt32.toNat_and]
  exact Nat.and_two_pow_sub_one_eq_mod x.toNat 31
theorem zn32_ok {α : Type} {x : UInt32} {K : Option α} (h : FP.Core.val32 x ≠ .nan) : zn32 x K = K := by
  unfold zn32
  refine if_pos ?_
  rw [UInt32.le_iff_toNat_le, mask32]
  exact (FP.Core.ne_nan32 x).mp h
/-- times a power of two -/
theorem dN_pow {E E' T : Nat} {b : UInt64} {k : Int} (hb : FP.Core.val64 b = .fin false (2 ^ 52) (k - 52)) (h1 : 1 ≤ E) (h2 : E ≤ 2046) (h3 : 1 ≤ E') (h4 : E' ≤ 2046) (hk : (E' : Int) = E + k) (hT : T < 2 ^ 52) : FP.dmul (dN E T) b = dN E' T := by
  refine (FP.Core.val64_inj (dN_nn h3 h4 hT) ?_).symm
  have hf := FP.Core.val64_fits (dN E' T)
  rw [dN_val h3 h4 hT] at hf ⊢
  show _ = FP.Core.val64 (FP.Core.dmul (dN E T) b)
  rw [FP.Core.val64_dmul, dN_val h1 h2 hT, hb]
  refine (FP.Core.roundRatio_exact (s := false) FP.Core.good_b64 (by decide) hf ?_).symm
  rw [show ((E : Int) - 1075 + (k - 52) - ((E' : Int) - 1075)).toNat = 0 by omega, show ((E' : Int) - 1075 - ((E : Int) - 1075 + (k - 52))).toNat = 52 by omega, Nat.pow_zero, Nat.mul_one, Nat.mul_one]
theorem fN_pow {E E' T : Nat} {b : UInt32} {k : Int} (hb : FP.Core.val32 b = .fin false (2 ^ 23) (k - 23)) (h1 : 1 ≤ E) (h2 : E ≤ 254) (h3 : 1 ≤ E') (h4 : E' ≤ 254) (hk : (E' : Int) = E + k) (hT : T < 2 ^ 23) : FP.fmul (fN E T) b = fN E' T := by
  refine (FP.Core.val32_inj (fN_nn h3 h4 hT) ?_).symm
  have hf := FP.Core.val32_fits (fN E' T)
  rw [fN_val h3 h4 hT] at hf ⊢
  show _ = FP.Core.val32 (FP.Core.fmul (fN E T) b)
  rw [FP.Core.val32_fmul, fN_val h1 h2 hT, hb]
  refine (FP.Core.roundRatio_exact (s := false) FP.Core.good_b32 (by decide) hf ?_).symm
  rw [show ((E : Int) - 150 + (k - 23) - ((E' : Int) - 150)).toNat = 0 by omega, show ((E' : Int) - 150 - ((E : Int) - 150 + (k - 23))).toNat = 23 by omega, Nat.pow_zero, Nat.mul_one, Nat.mul_one]
theorem dhalf : FP.Core.val64 4602678819172646912 = .fin false (2 ^ 52) ((-1 : Int) - 52) := by decide +kernel
theorem dtwo : FP.Core.val64 4611686018427387904 = .fin false (2 ^ 52) ((1 : Int) - 52) := by decide +kernel
theorem fhalf : FP.Core.val32 1056964608 = .fin false (2 ^ 23) ((-1 : Int) - 23) := by decide +kernel
theorem ftwo : FP.Core.val32 1073741824 = .fin false (2 ^ 23) ((1 : Int) - 23) := by decide +kernel
theorem notNaN_fN {E T : Nat} (h1 : 1 ≤ E) (h2 : E ≤ 254) (hT : T < 2 ^ 23) : FP.Core.fIsNaN (fN E T) = false := (FP.Core.notNaN_iff32 _).mpr (fN_nn h1 h2 hT)
theorem f2d_fN {E T : Nat} (h1 : 1 ≤ E) (h2 : E ≤ 254) (hT : T < 2 ^ 23) : FP.f2d (fN E T) = dN (E + 896) (T * 2 ^ 29) := by
  unfold FP.f2d
  rw [notNaN_fN h1 h2 hT, if_neg (by decide)]
  refine (FP.Core.val64_inj (dN_nn (by omega) (by omega) (by omega)) ?_).symm
  have hf := FP.Core.val64_fits (dN (E + 896) (T * 2 ^ 29))
  rw [dN_val (by omega) (by omega) (by omega)] at hf ⊢
  rw [FP.Core.val64_f2d, fN_val h1 h2 hT]
  refine (FP.Core.roundRatio_exact (s := false) FP.Core.good_b64 (by decide) hf ?_).symm
  rw [show ((E : Int) - 150 - (((E + 896 : Nat) : Int) - 1075)).toNat = 29 by omega, show ((((E + 896 : Nat) : Int) - 1075) - ((E : Int) - 150)).toNat = 0 by omega, Nat.pow_zero, Nat.mul_one, Nat.mul_one, Nat.add_mul]
/-- of non-negative doubles the order is that of the bits -/
theorem dN_key {E T : Nat} (h2 : E ≤ 2046) (hT : T < 2 ^ 52) : FP.Core.dkey (dN E T) = ((E * 2 ^ 52 + T : Nat) : Int) := by
  unfold FP.Core.dkey
  rw [dN_nat (by omega) hT, if_neg (by omega)]
theorem dcmp_two {E T : Nat} (h1 : 1 ≤ E) (h2 : E ≤ 2046) (hT : T < 2 ^ 52) : (Op.cmpValue (FP.dcmp (dN E T) (4611686018427387904 : UInt64)) CmpOp.l < 0) ↔ E < 1024 := by
  have hv : FP.Core.val64 4611686018427387904 ≠ .nan := by rw [dtwo]; exact fin_nn
  have hk : FP.Core.dkey 4611686018427387904 = (1024 * 2 ^ 52 : Int) := by decide +kernel
  have h := FP.Core.dcmp_lt_key (dN_nn h1 h2 hT) hv
  rw [dN_key h2 hT, hk] at h
  rw [cv_l_lt]
  constructor
  · intro q
    rcases q with q | q
    · have := h.mp q
      omega
    · have h3 := FP.Core.dcmp_key (dN_nn h1 h2 hT) hv
      have q' : FP.Core.dcmp (dN E T) 4611686018427387904 = none := q
      rw [q'] at h3
      cases h3
  · intro q
    exact Or.inl (h.mpr (by omega))
theorem dcmp_one {E T : Nat} (h1 : 1 ≤ E) (h2 : E ≤ 2046) (hT : T < 2 ^ 52) : (0 ≤ Op.cmpValue (FP.dcmp (dN E T) (4607182418800017408 : UInt64)) CmpOp.g) ↔ 1023 ≤ E := by
  have hv : FP.Core.val64 4607182418800017408 ≠ .nan := by decide +kernel
  have hk : FP.Core.dkey 4607182418800017408 = (1023 * 2 ^ 52 : Int) := by decide +kernel
  have h := FP.Core.dcmp_lt_key (dN_nn h1 h2 hT) hv
  rw [dN_key h2 hT, hk] at h
  rw [cv_g_ge]
  constructor
  · intro q
    exact Decidable.byContradiction (fun e => q (h.mpr (by omega)))
  · intro q e
    have := h.mp e
    omega
theorem pk9 {fr : Int32} {T : Nat} (hT : T < 2 ^ 52) : ∀ (d n E i y : Nat), E = 1023 + d → d < n → i + d ≤ 1023 → fX0_packed_9 fr n (dN E T) (nI y) (nI i) = fX0_packed_46 fr FU (dN 1023 T) (nI (y + d)) 0 := by
  intro d
  induction d with
  | zero =>
    intro n E i y h1 h2 h3
    obtain ⟨q9, rfl⟩ : ∃ q9, n = q9 + 1 := ⟨n - 1, by omega⟩
    rw [fX0_packed_9, h1, if_pos ((dcmp_two (by omega) (by omega) hT).mpr (by omega)), ite_self]
    rfl
  | succ d ih =>
    intro n E i y h1 h2 h3
    obtain ⟨q9, rfl⟩ : ∃ q9, n = q9 + 1 := ⟨n - 1, by omega⟩
    rw [fX0_packed_9, if_neg (show ¬ (1023 : Int32) ≤ nI i from nI_ge (b := 1023) (by omega) (by omega)), if_neg (fun q => by have := (dcmp_two (by omega) (by omega) hT).mp q; omega), dN_pow (E' := 1023 + d) dhalf (by omega) (by omega) (by omega) (by omega) (by omega) hT, zn64_ok (dN_nn (by omega) (by omega) hT), zl_d, nI_1, nI_1, ih q9 (1023 + d) (i + 1) (y + 1) rfl (by omega) (by omega), show y + 1 + d = y + (d + 1) by omega]
theorem pk46 {fr : Int32} {T : Nat} (hT : T < 2 ^ 52) : ∀ (d n E i y : Nat), E + d = 1023 → 1 ≤ E → d < n → i + d ≤ 1023 → fX0_packed_46 fr n (dN E T) (nI (y + d)) (nI i) = fX0_packed_78 fr (dN 1023 T) (nI y) := by
  intro d
  induction d with
  | zero =>
    intro n E i y h1 h0 h2 h3
    obtain ⟨q9, rfl⟩ : ∃ q9, n = q9 + 1 := ⟨n - 1, by omega⟩
    rw [fX0_packed_46, show E = 1023 by omega, if_pos ((dcmp_one (by omega) (by omega) hT).mpr (by omega)), ite_self]
    rfl
  | succ d ih =>
    intro n E i y h1 h0 h2 h3
    obtain ⟨q9, rfl⟩ : ∃ q9, n = q9 + 1 := ⟨n - 1, by omega⟩
    rw [fX0_packed_46, if_neg (show ¬ (1023 : Int32) ≤ nI i from nI_ge (b := 1023) (by omega) (by omega)), if_neg (fun q => by have := (dcmp_one (by omega) (by omega) hT).mp q; omega), dN_pow (E' := E + 1) dtwo (by omega) (by omega) (by omega) (by omega) (by omega) hT, zn64_ok (dN_nn (by omega) (by omega) hT), zl_d, nI_1, show y + (d + 1) = (y + d) + 1 by omega, pk_m1, ih q9 (E + 1) (i + 1) y (by omega) (by omega) (by omega) (by omega)]
