/-! ===== floats: the mean ===== -/
theorem f2d_g {v : UInt32} (h1 : 94 * 2 ^ 23 ≤ v.toNat % 2 ^ 31) (h2 : v.toNat % 2 ^ 31 < 161 * 2 ^ 23) : (FP.f2d v).toNat % 2 ^ 63 < 1057 * 2 ^ 52 ∧ 2 ^ g10 ∣ FP.Core.unitsOf FP.Core.b64 ((FP.f2d v).toNat % 2 ^ 63) := by
  obtain ⟨x, hx⟩ : ∃ x : Nat, x = 925 := ⟨_, rfl⟩
  obtain ⟨s, c, q, e⟩ := FP.Core.fin_of_lt32 h2 (by omega)
  rw [f2c (by rw [e]; exact fin_nn)]
  have hz := FP.Core.zmag_toNat32 (a := v) (by rw [e]; exact fin_nn)
  have hf := FP.Core.val32_fits v
  rw [e] at hz hf
  have hq1 := hf.2.1
  have hq2 := hf.2.2.1
  have hc : c < 2 ^ 24 := hf.1
  rw [FP.Core.qmin_b32] at hq1
  rw [show FP.Core.b32.qmax = 104 by decide] at hq2
  have qd : FP.Core.b64.qmin = -1074 := by decide
  obtain ⟨c', q', r1, r2⟩ := FP.Core.round_exact FP.Core.good_b64 s (c := c) (q := q) (Nat.lt_of_lt_of_le hc (Nat.pow_le_pow_right (by omega) (by decide))) (by rw [qd]; omega) (by rw [show FP.Core.b64.qmax = 971 by decide]; omega)
  have hv : FP.Core.val64 (FP.Core.f2d v) = .fin s c' q' := by
    rw [show FP.Core.val64 (FP.Core.f2d v) = FP.Core.round FP.Core.b64 (FP.Core.val32 v) from FP.Core.val64_f2d v, e, r1]
  have hz2 := FP.Core.zmag_bits (a := FP.Core.f2d v) (by rw [hv]; exact fin_nn)
  rw [hv] at hz2
  have hz3 : FP.Core.inUnits c q FP.Core.b64.qmin = FP.Core.unitsOf FP.Core.b64 ((FP.Core.f2d v).toNat % 2 ^ 63) := by
    rw [← hz2, ← r2]
    rfl
  have hz4 : c * 2 ^ (q + 149).toNat = FP.Core.unitsOf FP.Core.b32 (v.toNat % 2 ^ 31) := by
    rw [← hz]
    show _ = c * 2 ^ (q - FP.Core.b32.qmin).toNat
    rw [FP.Core.qmin_b32]
    congr 2
  have hz5 : FP.Core.unitsOf FP.Core.b64 ((FP.Core.f2d v).toNat % 2 ^ 63) = FP.Core.unitsOf FP.Core.b32 (v.toNat % 2 ^ 31) * 2 ^ x := by
    rw [← hz3, ← hz4]
    unfold FP.Core.inUnits
    rw [qd, Nat.mul_assoc, ← Nat.pow_add, show (q - -1074).toNat = (q + 149).toNat + x by omega]
  have u1 : FP.Core.unitsOf FP.Core.b32 (161 * FP.Core.b32.tails) = FP.Core.b32.tails * 2 ^ (161 - 1) := FP.Core.unitsOf_start (by omega)
  have u2 : FP.Core.unitsOf FP.Core.b64 (1057 * FP.Core.b64.tails) = FP.Core.b64.tails * 2 ^ (1057 - 1) := FP.Core.unitsOf_start (by omega)
  rw [FP.Core.tails_b32] at u1
  rw [FP.Core.tails_b64] at u2
  constructor
  · refine (FP.Core.unitsOf_lt_iff (f := FP.Core.b64)).mp ?_
    have l1 := FP.Core.unitsOf_lt (f := FP.Core.b32) h2
    rw [u1] at l1
    rw [hz5, u2]
    refine Nat.lt_of_lt_of_le (Nat.mul_lt_mul_of_pos_right l1 (Nat.two_pow_pos x)) (Nat.le_of_eq ?_)
    rw [← Nat.pow_add, ← Nat.pow_add, ← Nat.pow_add, hx]
  · rw [hz5, show g10 = 93 + x by rw [hx]; rfl, Nat.pow_add]
    exact Nat.mul_dvd_mul_right (un32 h1) _
theorem f2d_0 : FP.f2d 0 = 0 := by decide +kernel
theorem f2d_n : FP.f2d FP.Core.fzeroNeg = FP.Core.dzeroNeg := by decide +kernel
def R64 (k : Nat) (S : UInt64) (o : Int32) (Sm : UInt64) : Prop := GD k S ∧ ((o = 0 ∧ Sm = S) ∨ OR o (FP.Core.val64 Sm))
theorem GD.add0 {k : Nat} {S : UInt64} (h : GD k S) (hk : k ≤ 26) : FP.dadd S 0 = S := FP.Core.dadd_zero (h.nn hk) h.2.2
theorem GD.addn {k : Nat} {S : UInt64} (h : GD k S) (hk : k ≤ 26) : FP.dadd S FP.Core.dzeroNeg = S := FP.Core.dadd_zeroNeg (h.nn hk)
theorem R64.skip {k : Nat} {S Sm : UInt64} {o : Int32} (h : R64 k S o Sm) (hk : k < 26) : R64 (k + 1) (FP.dadd S (FP.f2d 0)) o Sm := by
  rw [f2d_0, h.1.add0 (by omega)]
  exact ⟨h.1.up, h.2⟩
theorem sm_nn {v : Int32} : FP.Core.val64 (FP.f2d (sm v)) ≠ .nan := by
  have h : FP.Core.val32 (sm v) ≠ .nan := by
    unfold sm
    split
    · rename_i h
      exact (FP.Core.ne_nan32 _).mpr (by omega)
    · exact v32_0
  rw [f2c h]
  exact (FP.Core.notNaN_iff _).mp (FP.Core.f2d_out ((FP.Core.notNaN_iff32 _).mpr h))
theorem R64.go {k : Nat} {S Sm : UInt64} {o v : Int32} (h : R64 k S o Sm) (hk : k < 26) (hv : VF v) : R64 (k + 1) (FP.dadd S (FP.f2d (sm v))) (od2 o v) (FP.dadd Sm (FP.f2d v.toUInt32)) := by
  obtain ⟨h1, h2⟩ := h
  have hfa : FP.Core.val64 (FP.dadd Sm (FP.f2d v.toUInt32)) = FP.Core.round FP.Core.b64 (FP.Core.exactSum (FP.Core.val64 Sm) (FP.Core.val64 (FP.f2d v.toUInt32))) := FP.Core.val64_dadd _ _
  by_cases hf : v.toUInt32.toNat % 2 ^ 31 < 255 * 2 ^ 23
  · have hg : GD (k + 1) (FP.dadd S (FP.f2d (sm v))) ∧ FP.dadd S (FP.f2d (sm v)) = FP.dadd S (FP.f2d v.toUInt32) := by
      rcases hv.fin hf with h0 | h0
      · have hs : sm v = 0 := if_neg (by omega)
        rw [hs, f2d_0, h1.add0 (by omega)]
        refine ⟨h1.up, ?_⟩
        rcases fz_val h0 with e | e
        · rw [e, f2d_0, h1.add0 (by omega)]
        · rw [e, f2d_n, h1.addn (by omega)]
      · have hs : sm v = v.toUInt32 := if_pos ⟨by omega, by omega⟩
        obtain ⟨y1, y2⟩ := f2d_g h0.1 h0.2
        rw [hs]
        exact ⟨h1.step hk y1 y2, rfl⟩
    refine ⟨hg.1, ?_⟩
    rcases h2 with ⟨rfl, rfl⟩ | h2
    · exact Or.inl ⟨if_pos hf, hg.2.symm⟩
    · right
      rw [hfa]
      exact or_step h2 hv.kd64
  · have hs : sm v = 0 := if_neg (by omega)
    rw [hs, f2d_0, h1.add0 (by omega)]
    refine ⟨h1.up, Or.inr ?_⟩
    rw [hfa]
    rcases h2 with ⟨rfl, rfl⟩ | h2
    · obtain ⟨s, c, q, e⟩ := FP.Core.fin_of_lt (K := 1057 + 2 * k) h1.1 (by omega)
      rw [e]
      exact or_new hv.kd64 hf
    · exact or_step h2 hv.kd64
theorem div_lo2 {c d u v w A B E X : Nat} (hw : w + v = u + X) (hc : 2 ^ A ≤ c * 2 ^ u) (hd : d * 2 ^ v ≤ 2 ^ B) (h : E + B ≤ A + X) : 2 ^ E * d ≤ c * 2 ^ w := by
  refine Nat.le_of_mul_le_mul_right (c := 2 ^ v) ?_ (Nat.two_pow_pos v)
  have h1 : c * 2 ^ w * 2 ^ v = c * 2 ^ u * 2 ^ X := by
    rw [Nat.mul_assoc, ← Nat.pow_add, hw, Nat.pow_add, Nat.mul_assoc]
  have h2 := Nat.mul_le_mul_left (2 ^ E) hd
  have h3 := Nat.mul_le_mul_right (2 ^ X) hc
  rw [h1, Nat.mul_assoc _ d]
  refine Nat.le_trans h2 (Nat.le_trans ?_ h3)
  rw [← Nat.pow_add, ← Nat.pow_add]
  exact Nat.pow_le_pow_right (by omega) h
theorem val64_inf (s : Bool) : FP.Core.val64 (if s then 18442240474082181120 else 9218868437227405312) = .inf s := by cases s <;> decide +kernel
theorem i2d_pos {n : Nat} (h1 : 1 ≤ n) (h2 : n ≤ 26) : ∃ (d : Nat) (r : Int), FP.Core.val64 (FP.i2d (nI n)) = .fin false d r ∧ d ≠ 0 ∧ -1074 ≤ r ∧ r ≤ 971 ∧ FP.Core.inUnits d r (-1074) ≤ 2 ^ (52 + g10 + 37) := by
  obtain ⟨t, d, r, e⟩ := FP.Core.i2d_fin (nI n)
  have hne : (nI n).toInt ≠ 0 := by rw [nI_toInt (by omega)]; omega
  have hb := FP.Core.i2d_big hne
  have hm := FP.Core.i2d_mag (nI n)
  have hz := FP.Core.zmag_bits (a := FP.Core.i2d (nI n)) (by rw [e]; exact fin_nn)
  have hf := FP.Core.val64_fits (FP.Core.i2d (nI n))
  rw [e] at hz hf
  have hq1 := hf.2.1
  have hq2 := hf.2.2.1
  rw [show FP.Core.b64.qmin = -1074 by decide] at hq1
  rw [show FP.Core.b64.qmax = 971 by decide] at hq2
  have hs : t = false := by
    have hs := FP.Core.sgn_roundRatio FP.Core.b64 (decide ((nI n).toInt < 0)) (nI n).toInt.natAbs 1 0
    have hv : FP.Core.val64 (FP.Core.i2d (nI n)) = FP.Core.roundRatio FP.Core.b64 (decide ((nI n).toInt < 0)) (nI n).toInt.natAbs 1 0 := FP.Core.val64_i2d (nI n)
    rw [← hv, e] at hs
    have hs' : t = decide ((nI n).toInt < 0) := hs
    rw [hs']
    exact decide_eq_false (by rw [nI_toInt (by omega)]; omega)
  subst hs
  have hz' : FP.Core.inUnits d r (-1074) = FP.Core.unitsOf FP.Core.b64 ((FP.Core.i2d (nI n)).toNat % 2 ^ 63) := hz
  refine ⟨d, r, e, fun h0 => ?_, hq1, hq2, ?_⟩
  · rw [h0] at hz'
    unfold FP.Core.inUnits at hz'
    rw [Nat.zero_mul] at hz'
    have := FP.Core.unitsOf_eq_zero.mp hz'.symm
    omega
  · have u2 : FP.Core.unitsOf FP.Core.b64 (1056 * FP.Core.b64.tails) = FP.Core.b64.tails * 2 ^ (1056 - 1) := FP.Core.unitsOf_start (by omega)
    rw [FP.Core.tails_b64] at u2
    have l1 := FP.Core.unitsOf_lt (f := FP.Core.b64) hm
    rw [u2, ← Nat.pow_add] at l1
    rw [hz']
    exact Nat.le_trans (Nat.le_of_lt l1) (Nat.pow_le_pow_right (by omega) (by decide))
theorem R64.fin {S Sm : UInt64} {o : Int32} {n : Nat} (h : R64 26 S o Sm) (h1 : 1 ≤ n) (h2 : n ≤ 26) : ∃ r, (o = 0 → FP.Core.val64 (FP.ddiv S (FP.i2d (nI n))) ≠ .nan ∧ fX0_bitsOfDouble (FP.ddiv S (FP.i2d (nI n))) = some r) ∧ (o ≠ 0 → fX0_widened o = some r) ∧ fJxe99ae_doubleToLongBits_ccdee (FP.ddiv Sm (FP.i2d (nI n))) = some r := by
  obtain ⟨g, hh⟩ := h
  obtain ⟨d, r, e2, d0, r1, r2, r3⟩ := i2d_pos h1 h2
  have hv : ∀ z : UInt64, FP.Core.val64 (FP.ddiv z (FP.i2d (nI n))) = FP.Core.quotient FP.Core.b64 (FP.Core.val64 z) (.fin false d r) := fun z => by
    rw [← e2]
    exact FP.Core.val64_ddiv z _
  rcases hh with ⟨rfl, rfl⟩ | hh
  · obtain ⟨s, c, q, e1⟩ := FP.Core.fin_of_lt (K := 1057 + 2 * 26) g.1 (by omega)
    have hv2 : FP.Core.val64 (FP.ddiv Sm (FP.i2d (nI n))) = FP.Core.roundRatio FP.Core.b64 (s != false) c d (q - r) := by
      rw [hv, e1]
      show (if d = 0 then (if c = 0 then FP.Core.Datum.nan else .inf (s != false)) else FP.Core.roundRatio FP.Core.b64 (s != false) c d (q - r)) = _
      rw [if_neg d0]
    by_cases hz : Sm = 0
    · have e3 : FP.Core.val64 Sm = .fin false 0 FP.Core.b64.qmin := by rw [hz]; decide +kernel
      rw [e1] at e3
      injection e3 with i1 i2 i3
      rw [i1, i2] at hv2
      have hv3 : FP.Core.val64 (FP.ddiv Sm (FP.i2d (nI n))) = FP.Core.val64 0 := by
        rw [hv2, show FP.Core.val64 0 = .fin false 0 FP.Core.b64.qmin by decide +kernel]
        unfold FP.Core.roundRatio
        rw [if_pos rfl]
        rfl
      have hv4 : FP.ddiv Sm (FP.i2d (nI n)) = 0 := FP.Core.val64_inj (by rw [hv3]; exact v64_0) hv3
      rw [hv4]
      refine ⟨0, fun _ => ⟨v64_0, bod_0⟩, fun k => absurd rfl k, ?_⟩
      rw [dtb_n v64_0]
      decide +kernel
    · have hb := g.big hz
      have hbb := FP.Core.i2d_big (v := nI n) (by rw [nI_toInt (by omega)]; omega)
      have hup : (FP.ddiv Sm (FP.i2d (nI n))).toNat % 2 ^ 63 < 2047 * 2 ^ 52 := by
        have := FP.Core.ddiv_mag (K := 1057 + 2 * 26) (L := 1023) g.1 hbb.1 hbb.2 (by omega) (by omega)
        exact Nat.lt_of_lt_of_le this (Nat.mul_le_mul_right _ (by omega))
      have hz1 := FP.Core.zmag_bits (a := Sm) (by rw [e1]; exact fin_nn)
      have hf := FP.Core.val64_fits Sm
      rw [e1] at hz1 hf
      have hq1 := hf.2.1
      have hq2 := hf.2.2.1
      rw [show FP.Core.b64.qmin = -1074 by decide] at hq1
      rw [show FP.Core.b64.qmax = 971 by decide] at hq2
      rw [← hz1] at hb
      have hb' : 2 ^ g10 ≤ c * 2 ^ (q - -1074).toNat := hb
      have r3' : d * 2 ^ (r - -1074).toNat ≤ 2 ^ (52 + g10 + 37) := r3
      have hlo : 1 * 2 ^ 52 ≤ (FP.ddiv Sm (FP.i2d (nI n))).toNat % 2 ^ 63 := by
        have hg := FP.Core.mag_ge FP.Core.good_b64 (m := 1 * 2 ^ 52) (e0 := -5000) (n := (FP.ddiv Sm (FP.i2d (nI n))).toNat) hv2 (by omega) (by decide) (by omega) (by decide) ?_
        · rw [FP.Core.mag_toNat64] at hg
          exact hg
        · have u1 : FP.Core.unitsOf FP.Core.b64 (1 * FP.Core.b64.tails) = FP.Core.b64.tails * 2 ^ (1 - 1) := FP.Core.unitsOf_start (by omega)
          rw [FP.Core.tails_b64] at u1
          rw [u1, show FP.Core.b64.qmin = -1074 by decide, ← Nat.pow_add, ← Nat.pow_add]
          exact div_lo2 (X := 5000) (u := (q - -1074).toNat) (v := (r - -1074).toNat) (by omega) hb' r3' (by decide)
      have hn : FP.Core.val64 (FP.ddiv Sm (FP.i2d (nI n))) ≠ .nan := (FP.Core.ne_nan _).mpr (by omega)
      exact ⟨_, fun _ => ⟨hn, bod_n (by omega) hup⟩, fun k => absurd rfl k, dtb_n hn⟩
  · have h0 := hh.ne0
    rcases hh with ⟨rfl, h3⟩ | ⟨s, rfl, h3⟩
    · refine ⟨9221120237041090560, fun k => absurd k h0, fun _ => by decide +kernel, dtb_nan ?_⟩
      rw [hv, h3]
      rfl
    · have hv3 : FP.Core.val64 (FP.ddiv Sm (FP.i2d (nI n))) = .inf s := by
        rw [hv, h3]
        cases s <;> rfl
      have hx2 : FP.ddiv Sm (FP.i2d (nI n)) = (if s then 18442240474082181120 else 9218868437227405312) := FP.Core.val64_inj (by rw [hv3]; exact fun h => by cases h) (by rw [hv3, val64_inf])
      rw [dtb_n (by rw [hv3]; exact fun h => by cases h), hx2]
      refine ⟨_, fun k => absurd k h0, fun _ => ?_, rfl⟩
      cases s <;> decide +kernel
