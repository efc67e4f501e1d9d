/-! ===== floats: the order ===== -/
theorem ti_u (v : Int32) : v.toInt = if v.toUInt32.toNat < 2 ^ 31 then (v.toUInt32.toNat : Int) else (v.toUInt32.toNat : Int) - 2 ^ 32 := by
  have hl := u_lt v
  rw [show v.toInt = v.toBitVec.toInt from rfl, BitVec.toInt_eq_toNat_cond, bv_u]
  split <;> split <;> omega
theorem vbk (v : Int32) : v.toUInt32.toInt32 = v := rfl
theorem ftb_any (x : UInt32) : ∃ r, fJxf58ca_floatToIntBits_5c35a x = some r := by
  by_cases h : FP.Core.val32 x = .nan
  · exact ⟨_, ftb_nan h⟩
  · exact ⟨_, ftb_n h⟩
theorem cmp_any (x y : UInt32) : ∃ r, fJxf58ca_compare_66c2b x y = some r := by
  obtain ⟨r1, h1⟩ := ftb_any x
  obtain ⟨r2, h2⟩ := ftb_any y
  unfold fJxf58ca_compare_66c2b
  rw [h1, zb_s, h2, zb_s]
  repeat' split
  all_goals exact ⟨_, rfl⟩
theorem VF.cs {v : Int32} (h : VF v) : v = 2143289344 ∨ (v.toUInt32.toNat % 2 ^ 31 ≤ 2139095040 ∧ FP.Core.val32 v.toUInt32 ≠ .nan) := by
  rcases h with h | h | h | h
  · exact Or.inl h
  · exact Or.inr ⟨by omega, (FP.Core.ne_nan32 _).mpr (by omega)⟩
  · exact Or.inr ⟨by omega, (FP.Core.ne_nan32 _).mpr (by omega)⟩
  · exact Or.inr ⟨by omega, (FP.Core.ne_nan32 _).mpr (by omega)⟩
theorem VF.ftb {v : Int32} (h : VF v) : fJxf58ca_floatToIntBits_5c35a v.toUInt32 = some v := by
  rcases h.cs with rfl | ⟨-, h⟩
  · exact ftb_nan nan_val
  · rw [ftb_n h, vbk]
theorem fkey_z (v : Int32) : FP.Core.fkey v.toUInt32 = if 2 ^ 31 ≤ v.toUInt32.toNat then ((2 ^ 31 : Nat) : Int) - (v.toUInt32.toNat : Int) else (v.toUInt32.toNat : Int) := rfl
theorem nan_u : (2143289344 : Int32).toUInt32.toNat = 2143289344 := by decide +kernel
theorem cmp_none {x y : UInt32} (h : FP.Core.val32 x = .nan ∨ FP.Core.val32 y = .nan) : FP.fcmp x y = none := by
  cases e : FP.fcmp x y with
  | none => rfl
  | some o =>
    have := FP.Core.fcmp_some e
    rcases h with h | h
    · exact absurd h this.1
    · exact absurd h this.2
theorem cmp_rk {a b : Int32} (ha : VF a) (hb : VF b) : ∃ r, fJxf58ca_compare_66c2b a.toUInt32 b.toUInt32 = some r ∧ ((0 ≤ r) ↔ rkz b ≤ rkz a) ∧ ((r ≤ 0) ↔ rkz a ≤ rkz b) := by
  have la := u_lt a
  have lb := u_lt b
  have g1 : (0 : Int32) ≤ 1 := by decide
  have g2 : ¬ (1 : Int32) ≤ 0 := by decide
  have g3 : ¬ (0 : Int32) ≤ -1 := by decide
  have g4 : (-1 : Int32) ≤ 0 := by decide
  have g5 : (0 : Int32) ≤ 0 := by decide
  have hbits : ∀ o, FP.fcmp a.toUInt32 b.toUInt32 = o → ¬ o = some .lt → ¬ o = some .gt → fJxf58ca_compare_66c2b a.toUInt32 b.toUInt32 = some (if a = b then 0 else if b ≤ a then 1 else -1) := fun o ho h1 h2 => by
    unfold fJxf58ca_compare_66c2b
    rw [ho, if_pos ((cv_g_ge o).mpr h1), if_pos ((cv_l_le o).mpr h2), ha.ftb, zb_s, hb.ftb, zb_s]
    repeat' split
    all_goals rfl
  have fin2 : (a = b ∨ (a ≠ b ∧ ((b ≤ a ∧ rkz b < rkz a) ∨ (¬ b ≤ a ∧ rkz a < rkz b)))) → ∃ r, some (if a = b then (0 : Int32) else if b ≤ a then 1 else -1) = some r ∧ ((0 ≤ r) ↔ rkz b ≤ rkz a) ∧ ((r ≤ 0) ↔ rkz a ≤ rkz b) := fun h => by
    rcases h with h | ⟨h, ⟨h1, h2⟩ | ⟨h1, h2⟩⟩
    · subst h
      rw [if_pos rfl]
      exact ⟨0, rfl, iff_of_true g5 (Int.le_refl _), iff_of_true g5 (Int.le_refl _)⟩
    · rw [if_neg h, if_pos h1]
      exact ⟨1, rfl, iff_of_true g1 (by omega), iff_of_false g2 (by omega)⟩
    · rw [if_neg h, if_neg h1]
      exact ⟨-1, rfl, iff_of_false g3 (by omega), iff_of_true g4 (by omega)⟩
  rcases ha.cs with rfl | ⟨a1, a2⟩
  · rw [hbits none (cmp_none (Or.inl nan_val)) (fun k => by cases k) (fun k => by cases k)]
    refine fin2 ?_
    rcases hb.cs with rfl | ⟨b1, b2⟩
    · exact Or.inl rfl
    · refine Or.inr ⟨fun e => ?_, Or.inl ⟨?_, ?_⟩⟩
      · rw [← e, nan_u] at b1
        omega
      · rw [Int32.le_iff_toInt_le, ti_u b, ti_u 2143289344, nan_u]
        split <;> split <;> omega
      · unfold rkz
        rw [nan_u]
        split <;> split <;> omega
  · rcases hb.cs with rfl | ⟨b1, b2⟩
    · rw [hbits none (cmp_none (Or.inr nan_val)) (fun k => by cases k) (fun k => by cases k)]
      refine fin2 (Or.inr ⟨fun e => ?_, Or.inr ⟨?_, ?_⟩⟩)
      · rw [e, nan_u] at a1
        omega
      · rw [Int32.le_iff_toInt_le, ti_u a, ti_u 2143289344, nan_u]
        split <;> split <;> omega
      · unfold rkz
        rw [nan_u]
        split <;> split <;> omega
    · have kl := FP.Core.fcmp_lt_key a2 b2
      have ke := FP.Core.fcmp_eq_key a2 b2
      have kg := FP.Core.fcmp_gt_key a2 b2
      rw [fkey_z, fkey_z] at kl ke kg
      have hr : ∀ v : Int32, rkz v = if v.toUInt32.toNat < 2 ^ 31 then (v.toUInt32.toNat : Int) else 2 ^ 31 - 1 - (v.toUInt32.toNat : Int) := fun v => rfl
      cases e : FP.fcmp a.toUInt32 b.toUInt32 with
      | none =>
        exfalso
        have n1 : ¬ FP.fcmp a.toUInt32 b.toUInt32 = some .lt := by rw [e]; exact fun k => by cases k
        have n2 : ¬ FP.fcmp a.toUInt32 b.toUInt32 = some .eq := by rw [e]; exact fun k => by cases k
        have n3 : ¬ FP.fcmp a.toUInt32 b.toUInt32 = some .gt := by rw [e]; exact fun k => by cases k
        rw [kl] at n1
        rw [ke] at n2
        rw [kg] at n3
        omega
      | some o =>
        cases o with
        | lt =>
          have k1 := kl.mp e
          refine ⟨-1, ?_, iff_of_false g3 ?_, iff_of_true g4 ?_⟩
          · unfold fJxf58ca_compare_66c2b
            rw [e, if_neg (fun q => (cv_g_ge _).mp q rfl)]
          · rw [hr, hr]
            split at k1 <;> split at k1 <;> split <;> split <;> omega
          · rw [hr, hr]
            split at k1 <;> split at k1 <;> split <;> split <;> omega
        | gt =>
          have k1 := kg.mp e
          refine ⟨1, ?_, iff_of_true g1 ?_, iff_of_false g2 ?_⟩
          · unfold fJxf58ca_compare_66c2b
            rw [e, if_pos ((cv_g_ge _).mpr (fun q => by cases q)), if_neg (fun q => (cv_l_le _).mp q rfl)]
          · rw [hr, hr]
            split at k1 <;> split at k1 <;> split <;> split <;> omega
          · rw [hr, hr]
            split at k1 <;> split at k1 <;> split <;> split <;> omega
        | eq =>
          have k1 := ke.mp e
          rw [hbits _ e (fun q => by cases q) (fun q => by cases q)]
          refine fin2 ?_
          by_cases hab : a = b
          · exact Or.inl hab
          · have hne : a.toUInt32.toNat ≠ b.toUInt32.toNat := fun q => hab (v_ext q)
            refine Or.inr ⟨hab, ?_⟩
            rw [Int32.le_iff_toInt_le, ti_u a, ti_u b, hr, hr]
            split at k1 <;> split at k1 <;> omega
