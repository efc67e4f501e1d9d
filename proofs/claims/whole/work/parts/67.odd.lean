/-! ===== floats: what is not a number, and what is not finite ===== -/
def ib (s : Bool) : Int32 := if s then -8388608 else 2139095040
/-- a value and the datum that stands for it -/
def KD (v : Int32) (d : FP.Core.Datum) : Prop := (v = 2143289344 ∧ d = .nan) ∨ (∃ s, v = ib s ∧ d = .inf s) ∨ (v.toUInt32.toNat % 2 ^ 31 < 255 * 2 ^ 23 ∧ ∃ s c q, d = .fin s c q)
def OR (o : Int32) (d : FP.Core.Datum) : Prop := (o = 2143289344 ∧ d = .nan) ∨ (∃ s, o = ib s ∧ d = .inf s)
theorem ib_nat (s : Bool) : (ib s).toUInt32.toNat % 2 ^ 31 = 2139095040 := by cases s <;> decide +kernel
theorem nan_nat : (2143289344 : Int32).toUInt32.toNat % 2 ^ 31 = 2143289344 := by decide +kernel
theorem ib_ne0 (s : Bool) : ib s ≠ 0 := by cases s <;> decide +kernel
theorem ib_ne (s : Bool) : ib s ≠ 2143289344 := by cases s <;> decide +kernel
theorem ib_inj {s t : Bool} (h : ib s = ib t) : s = t := by
  cases s <;> cases t <;> first | rfl | exact absurd h (by decide +kernel)
theorem OR.ne0 {o : Int32} {d : FP.Core.Datum} (h : OR o d) : o ≠ 0 := by
  rcases h with ⟨rfl, -⟩ | ⟨s, rfl, -⟩
  · decide +kernel
  · exact ib_ne0 s
theorem vf_ib {v : Int32} (h : v.toUInt32.toNat % 2 ^ 31 = 2139095040) : ∃ s, v = ib s := by
  have hl := u_lt v
  by_cases q : v.toUInt32.toNat < 2 ^ 31
  · exact ⟨false, v_ext (by rw [show (ib false).toUInt32.toNat = 2139095040 by decide +kernel]; omega)⟩
  · exact ⟨true, v_ext (by rw [show (ib true).toUInt32.toNat = 4286578688 by decide +kernel]; omega)⟩
theorem ib_val (s : Bool) : FP.Core.val32 (ib s).toUInt32 = .inf s := by cases s <;> decide +kernel
theorem nan_val : FP.Core.val32 (2143289344 : Int32).toUInt32 = .nan := by decide +kernel
theorem VF.fin {v : Int32} (h : VF v) (hf : v.toUInt32.toNat % 2 ^ 31 < 255 * 2 ^ 23) : v.toUInt32.toNat % 2 ^ 31 = 0 ∨ (94 * 2 ^ 23 ≤ v.toUInt32.toNat % 2 ^ 31 ∧ v.toUInt32.toNat % 2 ^ 31 < 161 * 2 ^ 23) := by
  rcases h with rfl | h | h | h
  · rw [nan_nat] at hf
    omega
  · omega
  · exact Or.inl h
  · exact Or.inr h
theorem VF.odd {v : Int32} (h : VF v) (hf : ¬ v.toUInt32.toNat % 2 ^ 31 < 255 * 2 ^ 23) : v = 2143289344 ∨ ∃ s, v = ib s := by
  rcases h with h | h | h | h
  · exact Or.inl h
  · exact Or.inr (vf_ib h)
  · omega
  · omega
theorem VF.kd {v : Int32} (h : VF v) : KD v (FP.Core.val32 v.toUInt32) := by
  by_cases hf : v.toUInt32.toNat % 2 ^ 31 < 255 * 2 ^ 23
  · exact Or.inr (Or.inr ⟨hf, FP.Core.fin_of_lt32 hf (by omega)⟩)
  · rcases h.odd hf with rfl | ⟨s, rfl⟩
    · exact Or.inl ⟨rfl, nan_val⟩
    · exact Or.inr (Or.inl ⟨s, rfl, ib_val s⟩)
theorem f2c {a : UInt32} (h : FP.Core.val32 a ≠ .nan) : FP.f2d a = FP.Core.f2d a := FP.f2d_core ((FP.Core.notNaN_iff32 a).mpr h)
theorem VF.kd64 {v : Int32} (h : VF v) : KD v (FP.Core.val64 (FP.f2d v.toUInt32)) := by
  rcases h.kd with ⟨rfl, h2⟩ | ⟨s, rfl, h2⟩ | ⟨h1, h2⟩
  · exact Or.inl ⟨rfl, by decide +kernel⟩
  · exact Or.inr (Or.inl ⟨s, rfl, by cases s <;> decide +kernel⟩)
  · obtain ⟨s, c, q, e⟩ := h2
    rw [f2c (by rw [e]; exact fin_nn)]
    exact Or.inr (Or.inr ⟨h1, FP.Core.f2d_fin ⟨s, c, q, e⟩⟩)
/-- the fold of what is odd -/
def od2 (o v : Int32) : Int32 := if v.toUInt32.toNat % 2 ^ 31 < 255 * 2 ^ 23 then o else if o = 0 then v else if o = v then o else 2143289344
theorem or_step {f : FP.Core.Fmt} {o v : Int32} {d dv : FP.Core.Datum} (h : OR o d) (hv : KD v dv) : OR (od2 o v) (FP.Core.round f (FP.Core.exactSum d dv)) := by
  have h0 := h.ne0
  unfold od2
  rcases hv with ⟨rfl, rfl⟩ | ⟨t, rfl, rfl⟩ | ⟨h1, t, c, q, rfl⟩
  · rw [if_neg (by rw [nan_nat]; omega), if_neg h0]
    refine Or.inl ⟨by split <;> first | assumption | rfl, ?_⟩
    rcases h with ⟨-, rfl⟩ | ⟨s, -, rfl⟩ <;> rfl
  · rw [if_neg (by rw [ib_nat]; omega), if_neg h0]
    rcases h with ⟨rfl, rfl⟩ | ⟨s, rfl, rfl⟩
    · exact Or.inl ⟨by split <;> rfl, rfl⟩
    · by_cases e : s = t
      · subst e
        rw [if_pos rfl]
        refine Or.inr ⟨s, rfl, ?_⟩
        show FP.Core.round f (if s = s then .inf s else .nan) = _
        rw [if_pos rfl]
        rfl
      · rw [if_neg (fun k => e (ib_inj k))]
        refine Or.inl ⟨rfl, ?_⟩
        show FP.Core.round f (if s = t then .inf s else .nan) = _
        rw [if_neg e]
        rfl
  · rw [if_pos h1]
    rcases h with ⟨h2, rfl⟩ | ⟨s, h2, rfl⟩
    · exact Or.inl ⟨h2, rfl⟩
    · exact Or.inr ⟨s, h2, rfl⟩
theorem or_new {f : FP.Core.Fmt} {v : Int32} {dv : FP.Core.Datum} {s : Bool} {c : Nat} {q : Int} (hv : KD v dv) (hf : ¬ v.toUInt32.toNat % 2 ^ 31 < 255 * 2 ^ 23) : OR (od2 0 v) (FP.Core.round f (FP.Core.exactSum (.fin s c q) dv)) := by
  unfold od2
  rw [if_neg hf, if_pos rfl]
  rcases hv with ⟨rfl, rfl⟩ | ⟨t, rfl, rfl⟩ | ⟨h1, -⟩
  · exact Or.inl ⟨rfl, rfl⟩
  · exact Or.inr ⟨t, rfl, rfl⟩
  · exact absurd h1 hf
/-- a value as a summand -/
def sm (v : Int32) : UInt32 := if 2 ^ 23 ≤ v.toUInt32.toNat % 2 ^ 31 ∧ v.toUInt32.toNat % 2 ^ 31 < 255 * 2 ^ 23 then v.toUInt32 else 0
theorem un32 {m : Nat} (h : 94 * 2 ^ 23 ≤ m) : 2 ^ 93 ∣ FP.Core.unitsOf FP.Core.b32 m := by
  have h4 : ¬ m < FP.Core.b32.tails := by
    rw [FP.Core.tails_b32]
    omega
  unfold FP.Core.unitsOf
  rw [if_neg h4, FP.Core.tails_b32]
  exact Nat.dvd_trans (Nat.pow_dvd_pow 2 (by omega)) (Nat.dvd_mul_left _ _)
theorem fz_val {v : Int32} (h : v.toUInt32.toNat % 2 ^ 31 = 0) : v.toUInt32 = 0 ∨ v.toUInt32 = FP.Core.fzeroNeg := by
  have hl := u_lt v
  by_cases q : v.toUInt32.toNat < 2 ^ 31
  · exact Or.inl (u32_ext (by rw [show (0 : UInt32).toNat = 0 from rfl]; omega))
  · exact Or.inr (u32_ext (by rw [show FP.Core.fzeroNeg.toNat = 2 ^ 31 by decide +kernel]; omega))
/-- the float sum, the class's and the model's -/
def R32 (k : Nat) (S : UInt32) (o : Int32) (Sm : UInt32) : Prop := GF k S ∧ ((o = 0 ∧ Sm = S) ∨ OR o (FP.Core.val32 Sm))
theorem GF.add0 {k : Nat} {S : UInt32} (h : GF k S) (hk : k ≤ 26) : FP.fadd S 0 = S := FP.Core.fadd_zero (h.nn hk) h.2.2
theorem GF.addn {k : Nat} {S : UInt32} (h : GF k S) (hk : k ≤ 26) : FP.fadd S FP.Core.fzeroNeg = S := FP.Core.fadd_zeroNeg (h.nn hk)
theorem R32.skip {k : Nat} {S Sm : UInt32} {o : Int32} (h : R32 k S o Sm) (hk : k < 26) : R32 (k + 1) (FP.fadd S 0) o Sm := by
  rw [h.1.add0 (by omega)]
  exact ⟨h.1.up, h.2⟩
theorem R32.go {k : Nat} {S Sm : UInt32} {o v : Int32} (h : R32 k S o Sm) (hk : k < 26) (hv : VF v) : R32 (k + 1) (FP.fadd S (sm v)) (od2 o v) (FP.fadd Sm v.toUInt32) := by
  obtain ⟨h1, h2⟩ := h
  have hfa : FP.Core.val32 (FP.fadd Sm v.toUInt32) = FP.Core.round FP.Core.b32 (FP.Core.exactSum (FP.Core.val32 Sm) (FP.Core.val32 v.toUInt32)) := FP.Core.val32_fadd _ _
  by_cases hf : v.toUInt32.toNat % 2 ^ 31 < 255 * 2 ^ 23
  · have hg : GF (k + 1) (FP.fadd S (sm v)) ∧ FP.fadd S (sm v) = FP.fadd S v.toUInt32 := by
      rcases hv.fin hf with h0 | h0
      · have hs : sm v = 0 := if_neg (by omega)
        rw [hs, h1.add0 (by omega)]
        refine ⟨h1.up, ?_⟩
        rcases fz_val h0 with e | e
        · rw [e, h1.add0 (by omega)]
        · rw [e, h1.addn (by omega)]
      · have hs : sm v = v.toUInt32 := if_pos ⟨by omega, by omega⟩
        rw [hs]
        exact ⟨h1.step hk h0.2 (un32 h0.1), rfl⟩
    refine ⟨hg.1, ?_⟩
    rcases h2 with ⟨rfl, rfl⟩ | h2
    · exact Or.inl ⟨if_pos hf, hg.2.symm⟩
    · right
      rw [hfa]
      exact or_step h2 hv.kd
  · have hs : sm v = 0 := if_neg (by omega)
    rw [hs, h1.add0 (by omega)]
    refine ⟨h1.up, Or.inr ?_⟩
    rw [hfa]
    rcases h2 with ⟨rfl, rfl⟩ | h2
    · obtain ⟨s, c, q, e⟩ := FP.Core.fin_of_lt32 (K := 161 + 2 * k) h1.1 (by omega)
      rw [e]
      exact or_new hv.kd hf
    · exact or_step h2 hv.kd
theorem R32.nn {k : Nat} {S Sm : UInt32} {o : Int32} (h : R32 k S o Sm) (hk : k ≤ 26) : FP.Core.val32 S ≠ .nan := h.1.nn hk
theorem R32.fin {S Sm : UInt32} {o : Int32} (h : R32 26 S o Sm) : ∃ r, (if o = 0 then (zb (fX0_bitsOfFloat S) (fun r_5 => some r_5)) else some o) = some r ∧ fJxf58ca_floatToIntBits_5c35a Sm = some r := by
  obtain ⟨h1, h2⟩ := h
  rcases h2 with ⟨rfl, rfl⟩ | h2
  · rw [if_pos rfl]
    by_cases e : Sm = 0
    · subst e
      refine ⟨0, by rw [bof_0, zb_s], ?_⟩
      rw [ftb_n (by decide +kernel)]
      decide +kernel
    · refine ⟨Sm.toInt32, ?_, ftb_n (h1.nn (by omega))⟩
      rw [bof_n (h1.norm e) (by have := h1.1; omega), zb_s]
  · rw [if_neg h2.ne0]
    refine ⟨o, rfl, ?_⟩
    rcases h2 with ⟨rfl, h3⟩ | ⟨s, rfl, h3⟩
    · exact ftb_nan h3
    · rw [ftb_n (by rw [h3]; exact fun h => by cases h)]
      have hw := FP.Core.val32_inf s
      have hx2 : Sm = (if s then 4286578688 else 2139095040) := FP.Core.val32_inj (by rw [h3]; exact fun h => by cases h) (by rw [h3, hw])
      rw [hx2]
      cases s <;> decide +kernel
