/-! ===== floats: sums keep their grid ===== -/
theorem grid_u {f : FP.Core.Fmt} (hf : FP.Core.Good f) {n g c : Nat} {s : Bool} {q : Int} (hn : FP.Core.decode f n = FP.Core.round f (.fin s c q)) (hq : f.qmin ≤ q) (hfin : FP.Core.mag f n < FP.Core.infBits f) (hg : g + 2 ≤ f.exps - 1) (hg2 : f.qmin + (g : Int) ≤ f.qmax) (hd : 2 ^ g ∣ FP.Core.inUnits c q f.qmin) : 2 ^ g ∣ FP.Core.unitsOf f (FP.Core.mag f n) := by
  obtain ⟨j, hj⟩ := hd
  have ht := FP.Core.tails_pos f
  have hp : 2 ≤ f.p := hf.2
  by_cases h : j < 2 ^ f.p
  · have hi : FP.Core.inUnits j (f.qmin + g) f.qmin = 2 ^ g * j := by
      unfold FP.Core.inUnits
      rw [show (f.qmin + (g : Int) - f.qmin).toNat = g by omega, Nat.mul_comm]
    obtain ⟨c', q', e1, e2⟩ := FP.Core.round_exact hf s (c := j) (q := f.qmin + g) h (by omega) hg2
    rw [rnd_val (e := f.qmin) (d := j) (r := f.qmin + g) hq (by omega) (by rw [hj, hi]), e1] at hn
    have hz := FP.Core.zmag_decode hf (n := n) (Nat.le_of_lt hfin)
    rw [hn] at hz
    rw [← hz]
    show 2 ^ g ∣ FP.Core.inUnits c' q' f.qmin
    rw [e2, hi]
    exact ⟨j, rfl⟩
  · have hu : FP.Core.unitsOf f ((g + 2) * f.tails) = f.tails * 2 ^ (g + 2 - 1) := FP.Core.unitsOf_start (by omega)
    have hm : (g + 2) * f.tails ≤ FP.Core.mag f n := by
      refine FP.Core.mag_ge hf (s := s) (A := c) (B := 1) (e := q) (e0 := f.qmin) hn (by omega) (Int.le_refl _) hq (Nat.mul_le_mul_right _ hg) ?_
      rw [hu, hj, Int.sub_self, Int.toNat_zero, Nat.pow_zero, Nat.mul_one, Nat.mul_one, show f.tails = 2 ^ (f.p - 1) from rfl, ← Nat.pow_add, show f.p - 1 + (g + 2 - 1) = g + f.p by omega, Nat.pow_add]
      exact Nat.mul_le_mul_left _ (Nat.le_of_not_lt h)
    have h3 : g + 2 ≤ FP.Core.mag f n / f.tails := (Nat.le_div_iff_mul_le ht).mpr hm
    have h4 : ¬ FP.Core.mag f n < f.tails := fun k => by
      rw [Nat.div_eq_of_lt k] at h3
      omega
    unfold FP.Core.unitsOf
    rw [if_neg h4]
    exact Nat.dvd_trans (Nat.pow_dvd_pow 2 (by omega)) (Nat.dvd_mul_left _ _)
theorem sum_grid {f : FP.Core.Fmt} (hf : FP.Core.Good f) {n g c d : Nat} {s t : Bool} {q r : Int} (hn : FP.Core.decode f n = FP.Core.round f (FP.Core.exactSum (.fin s c q) (.fin t d r))) (fx : FP.Core.fits f (.fin s c q)) (fy : FP.Core.fits f (.fin t d r)) (hfin : FP.Core.mag f n < FP.Core.infBits f) (hg : g + 2 ≤ f.exps - 1) (hg2 : f.qmin + (g : Int) ≤ f.qmax) (hx : 2 ^ g ∣ FP.Core.zmag f (.fin s c q)) (hy : 2 ^ g ∣ FP.Core.zmag f (.fin t d r)) : 2 ^ g ∣ FP.Core.unitsOf f (FP.Core.mag f n) ∧ (FP.Core.mag f n = 0 → FP.Core.sgn (FP.Core.decode f n) = true → s = true ∧ FP.Core.zmag f (.fin s c q) = 0) := by
  obtain ⟨sg, v, e, p1, p2, p3⟩ := FP.Core.sum_units fx fy
  have hdv : ∀ (b : Bool) (z : Nat), 2 ^ g ∣ z → ((2 ^ g : Nat) : Int) ∣ FP.Core.signed b z := fun b z h => by
    unfold FP.Core.signed
    split
    · exact Int.dvd_neg.mpr (Int.natCast_dvd_natCast.mpr h)
    · exact Int.natCast_dvd_natCast.mpr h
  have hs : ((2 ^ g : Nat) : Int) ∣ FP.Core.signed sg (FP.Core.inUnits v e f.qmin) := by
    rw [p3]
    exact Int.dvd_add (hdv _ _ hx) (hdv _ _ hy)
  have hs2 := Int.ofNat_dvd_left.mp hs
  rw [FP.Core.natAbs_signed] at hs2
  have hn' := hn
  rw [p1] at hn'
  refine ⟨grid_u hf hn' p2 hfin hg hg2 hs2, fun h0 h1 => ?_⟩
  have hv : FP.Core.inUnits v e f.qmin = 0 := Nat.eq_zero_of_not_pos fun hp => by
    have u1 : FP.Core.unitsOf f 1 = 1 := by
      unfold FP.Core.unitsOf
      have : 1 < f.tails := Nat.one_lt_two_pow (by have : 2 ≤ f.p := hf.2; omega)
      rw [if_pos this]
    have := FP.Core.mag_ge hf (s := sg) (m := 1) (A := v) (B := 1) (e := e) (e0 := f.qmin) hn' (by omega) (Int.le_refl _) p2 (Nat.le_trans (by omega) (Nat.le_mul_of_pos_right (f.exps - 1) (FP.Core.tails_pos f))) (by
      rw [u1, Int.sub_self, Int.toNat_zero, Nat.pow_zero]
      exact hp)
    omega
  have hv0 : v = 0 := by
    unfold FP.Core.inUnits at hv
    rcases Nat.mul_eq_zero.mp hv with k | k
    · exact k
    · have := Nat.two_pow_pos (e - f.qmin).toNat
      omega
  have hsg : sg = true := by
    have h2 : FP.Core.sgn (FP.Core.decode f n) = sg := by
      rw [hn']
      exact FP.Core.sgn_roundRatio f sg v 1 e
    rw [← h2, h1]
  have hi : (FP.Core.Datum.fin (FP.Core.sumSign s t (FP.Core.sumUnits s c q t d r (min q r))) (FP.Core.sumUnits s c q t d r (min q r)).natAbs (min q r)) = .fin sg v e := p1
  injection hi with i1 i2 i3
  rw [hv0] at i2
  have hU := Int.natAbs_eq_zero.mp i2
  rw [hU, hsg] at i1
  have i4 : (s && t) = true := i1
  obtain ⟨rfl, rfl⟩ : s = true ∧ t = true := by
    cases s <;> cases t <;> first | exact ⟨rfl, rfl⟩ | cases i4
  refine ⟨rfl, ?_⟩
  rw [hv] at p3
  have p4 : FP.Core.signed sg 0 = -((FP.Core.zmag f (.fin true c q) : Nat) : Int) + -((FP.Core.zmag f (.fin true d r) : Nat) : Int) := p3
  have p5 : FP.Core.signed sg 0 = 0 := by cases sg <;> rfl
  rw [p5] at p4
  omega
/-- a running sum of k values -/
def g10 : Nat := 1018
theorem g10_a : g10 + 2 ≤ FP.Core.b64.exps - 1 := by decide
theorem g10_b : FP.Core.b64.qmin + (g10 : Int) ≤ FP.Core.b64.qmax := by decide
def GF (k : Nat) (S : UInt32) : Prop := S.toNat % 2 ^ 31 < (161 + 2 * k) * 8388608 ∧ 2 ^ 93 ∣ FP.Core.unitsOf FP.Core.b32 (S.toNat % 2 ^ 31) ∧ S ≠ 2147483648
def GD (k : Nat) (S : UInt64) : Prop := S.toNat % 2 ^ 63 < (1057 + 2 * k) * 4503599627370496 ∧ 2 ^ g10 ∣ FP.Core.unitsOf FP.Core.b64 (S.toNat % 2 ^ 63) ∧ S ≠ 9223372036854775808
theorem GF.up {k : Nat} {S : UInt32} (h : GF k S) : GF (k + 1) S := ⟨Nat.lt_of_lt_of_le h.1 (Nat.mul_le_mul_right _ (by omega)), h.2⟩
theorem GD.up {k : Nat} {S : UInt64} (h : GD k S) : GD (k + 1) S := ⟨Nat.lt_of_lt_of_le h.1 (Nat.mul_le_mul_right _ (by omega)), h.2⟩
theorem GF.nn {k : Nat} {S : UInt32} (h : GF k S) (hk : k ≤ 26) : FP.Core.val32 S ≠ .nan := (FP.Core.ne_nan32 S).mpr (by have := h.1; omega)
theorem GD.nn {k : Nat} {S : UInt64} (h : GD k S) (hk : k ≤ 26) : FP.Core.val64 S ≠ .nan := (FP.Core.ne_nan S).mpr (by have := h.1; omega)
theorem GF.step {k : Nat} {S v : UInt32} (h : GF k S) (hk : k < 26) (h1 : v.toNat % 2 ^ 31 < 161 * 2 ^ 23) (h2 : 2 ^ 93 ∣ FP.Core.unitsOf FP.Core.b32 (v.toNat % 2 ^ 31)) : GF (k + 1) (FP.fadd S v) := by
  obtain ⟨g1, g2, g3⟩ := h
  have m1 : (FP.fadd S v).toNat % 2 ^ 31 < (161 + 2 * k + 2) * 8388608 := FP.Core.fadd_mag (K := 161 + 2 * k) g1 (Nat.lt_of_lt_of_le h1 (Nat.mul_le_mul_right _ (by omega))) (by omega)
  obtain ⟨s, c, q, e1⟩ := FP.Core.fin_of_lt32 (K := 161 + 2 * k) g1 (by omega)
  obtain ⟨t, d, r, e2⟩ := FP.Core.fin_of_lt32 h1 (by omega)
  have n1 : FP.Core.val32 S ≠ .nan := by rw [e1]; exact fin_nn
  have n2 : FP.Core.val32 v ≠ .nan := by rw [e2]; exact fin_nn
  have z1 := FP.Core.zmag_toNat32 n1
  have z2 := FP.Core.zmag_toNat32 n2
  have f1 := FP.Core.val32_fits S
  have f2 := FP.Core.val32_fits v
  have hv : FP.Core.val32 (FP.fadd S v) = FP.Core.round FP.Core.b32 (FP.Core.exactSum (FP.Core.val32 S) (FP.Core.val32 v)) := FP.Core.val32_fadd S v
  have n3 : FP.Core.val32 (FP.fadd S v) ≠ .nan := (FP.Core.ne_nan32 _).mpr (by omega)
  have hsg := FP.Core.sgn_bits32 n3
  have hs0 := FP.Core.sgn_bits32 n1
  rw [e1] at z1 f1 hs0 hv
  rw [e2] at z2 f2 hv
  obtain ⟨r1, r2⟩ := sum_grid (g := 93) FP.Core.good_b32 (n := (FP.fadd S v).toNat) hv f1 f2 (by rw [FP.Core.mag_toNat32, FP.Core.infBits_b32]; omega) (by decide) (by decide) (by rw [z1]; exact g2) (by rw [z2]; exact h2)
  rw [FP.Core.mag_toNat32] at r1 r2
  refine ⟨by omega, r1, fun e => ?_⟩
  rw [e] at r2 hsg
  obtain ⟨r3, r4⟩ := r2 (by decide) (by
    show FP.Core.sgn (FP.Core.val32 2147483648) = true
    rw [hsg]
    decide)
  rw [z1] at r4
  have r5 := FP.Core.unitsOf_eq_zero.mp r4
  rw [r3] at hs0
  have hs1 : decide (2 ^ 31 ≤ S.toNat) = true := hs0.symm
  have hs2 := of_decide_eq_true hs1
  refine g3 (u32_ext ?_)
  have := S.toNat_lt
  rw [show (2147483648 : UInt32).toNat = 2147483648 by decide]
  omega
theorem GD.step {k : Nat} {S v : UInt64} (h : GD k S) (hk : k < 26) (h1 : v.toNat % 2 ^ 63 < 1057 * 2 ^ 52) (h2 : 2 ^ g10 ∣ FP.Core.unitsOf FP.Core.b64 (v.toNat % 2 ^ 63)) : GD (k + 1) (FP.dadd S v) := by
  obtain ⟨g1, g2, g3⟩ := h
  have m1 : (FP.dadd S v).toNat % 2 ^ 63 < (1057 + 2 * k + 2) * 4503599627370496 := FP.Core.dadd_mag (K := 1057 + 2 * k) g1 (Nat.lt_of_lt_of_le h1 (Nat.mul_le_mul_right _ (by omega))) (by omega)
  obtain ⟨s, c, q, e1⟩ := FP.Core.fin_of_lt (K := 1057 + 2 * k) g1 (by omega)
  obtain ⟨t, d, r, e2⟩ := FP.Core.fin_of_lt h1 (by omega)
  have n1 : FP.Core.val64 S ≠ .nan := by rw [e1]; exact fin_nn
  have n2 : FP.Core.val64 v ≠ .nan := by rw [e2]; exact fin_nn
  have z1 := FP.Core.zmag_bits n1
  have z2 := FP.Core.zmag_bits n2
  have f1 := FP.Core.val64_fits S
  have f2 := FP.Core.val64_fits v
  have hv : FP.Core.val64 (FP.dadd S v) = FP.Core.round FP.Core.b64 (FP.Core.exactSum (FP.Core.val64 S) (FP.Core.val64 v)) := FP.Core.val64_dadd S v
  have n3 : FP.Core.val64 (FP.dadd S v) ≠ .nan := (FP.Core.ne_nan _).mpr (by omega)
  have hsg := FP.Core.sgn_bits n3
  have hs0 := FP.Core.sgn_bits n1
  rw [e1] at z1 f1 hs0 hv
  rw [e2] at z2 f2 hv
  obtain ⟨r1, r2⟩ := sum_grid (g := g10) FP.Core.good_b64 (n := (FP.dadd S v).toNat) hv f1 f2 (by rw [FP.Core.mag_toNat64, FP.Core.infBits_b64]; omega) g10_a g10_b (by rw [z1]; exact g2) (by rw [z2]; exact h2)
  rw [FP.Core.mag_toNat64] at r1 r2
  refine ⟨by omega, r1, fun e => ?_⟩
  rw [e] at r2 hsg
  obtain ⟨r3, r4⟩ := r2 (by decide) (by
    show FP.Core.sgn (FP.Core.val64 9223372036854775808) = true
    rw [hsg]
    decide)
  rw [z1] at r4
  have r5 := FP.Core.unitsOf_eq_zero.mp r4
  rw [r3] at hs0
  have hs1 : decide (2 ^ 63 ≤ S.toNat) = true := hs0.symm
  have hs2 := of_decide_eq_true hs1
  refine g3 (u64_ext ?_)
  have := S.toNat_lt
  rw [show (9223372036854775808 : UInt64).toNat = 9223372036854775808 by decide]
  omega
theorem GF_z : GF 0 0 := ⟨by decide, by rw [show FP.Core.unitsOf FP.Core.b32 ((0 : UInt32).toNat % 2 ^ 31) = 0 by decide]; exact Nat.dvd_zero _, by decide⟩
theorem GD_z : GD 0 0 := ⟨by decide, by rw [show FP.Core.unitsOf FP.Core.b64 ((0 : UInt64).toNat % 2 ^ 63) = FP.Core.unitsOf FP.Core.b64 0 from rfl, FP.Core.unitsOf_zero]; exact Nat.dvd_zero _, by decide⟩
/-- a running sum is zero or normal -/
theorem GF.norm {k : Nat} {S : UInt32} (h : GF k S) (hz : S ≠ 0) : 2 ^ 23 ≤ S.toNat % 2 ^ 31 := by
  obtain ⟨g1, g2, g3⟩ := h
  have hl := S.toNat_lt
  have hm : S.toNat % 2 ^ 31 ≠ 0 := fun e => by
    by_cases q : S.toNat < 2 ^ 31
    · exact hz (u32_ext (by rw [show (0 : UInt32).toNat = 0 from rfl]; omega))
    · exact g3 (u32_ext (by rw [show (2147483648 : UInt32).toNat = 2147483648 by decide]; omega))
  have hu : FP.Core.unitsOf FP.Core.b32 (S.toNat % 2 ^ 31) ≠ 0 := fun e => hm (FP.Core.unitsOf_eq_zero.mp e)
  have hp := Nat.le_of_dvd (Nat.pos_of_ne_zero hu) g2
  have u1 : FP.Core.unitsOf FP.Core.b32 (1 * FP.Core.b32.tails) = FP.Core.b32.tails * 2 ^ (1 - 1) := FP.Core.unitsOf_start (by omega)
  rw [FP.Core.tails_b32, Nat.one_mul] at u1
  refine (FP.Core.unitsOf_le_iff (f := FP.Core.b32)).mp ?_
  rw [u1]
  exact Nat.le_trans (by decide) hp
theorem GD.big {k : Nat} {S : UInt64} (h : GD k S) (hz : S ≠ 0) : 2 ^ g10 ≤ FP.Core.unitsOf FP.Core.b64 (S.toNat % 2 ^ 63) := by
  obtain ⟨g1, g2, g3⟩ := h
  have hl := S.toNat_lt
  have hm : S.toNat % 2 ^ 63 ≠ 0 := fun e => by
    by_cases q : S.toNat < 2 ^ 63
    · exact hz (u64_ext (by rw [show (0 : UInt64).toNat = 0 from rfl]; omega))
    · exact g3 (u64_ext (by rw [show (9223372036854775808 : UInt64).toNat = 9223372036854775808 by decide]; omega))
  have hu : FP.Core.unitsOf FP.Core.b64 (S.toNat % 2 ^ 63) ≠ 0 := fun e => hm (FP.Core.unitsOf_eq_zero.mp e)
  exact Nat.le_of_dvd (Nat.pos_of_ne_zero hu) g2
