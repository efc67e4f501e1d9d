/-! ===== the nearest record; which segment ===== -/
theorem llit (k : Nat) : (OfNat.ofNat k : Int64) = lN k := Eq.trans rfl rfl
def dnx (a : AB) : Nat → Int32
  | 0 => -5
  | k + 1 => if k < 200 ∧ a.1 0 k ≠ 0 then nI k else dnx a k
def unx (a : AB) : Nat → Nat → Int32
  | 0, _ => -5
  | d + 1, o => if o < 200 ∧ a.1 0 o ≠ 0 then nI o else unx a d (o + 1)
theorem nI_m1lt {e j : Nat} (he : e < 2 ^ 31) (hj : j < 2 ^ 31) : (nI e + (-1) < nI j) ↔ e ≤ j := by
  cases e with
  | zero =>
    rw [Int32.lt_iff_toInt_lt, nI_toInt hj, show (nI 0 + (-1)).toInt = -1 by decide]
    omega
  | succ k => rw [pk_m1, nI_ltI (by omega) hj]; omega
theorem nI_m1neg {e : Nat} (he : e < 2 ^ 31) : (nI e + (-1) < 0) ↔ e = 0 := by
  cases e with
  | zero => simp only [iff_true]; decide
  | succ k => rw [pk_m1, nI_lt0 (by omega)]; simp
theorem lN_m1 (k : Nat) : lN (k + 1) + (-1) = lN k := by
  rw [← lN_1, Int64.add_assoc, show (1 : Int64) + (-1) = 0 by decide, Int64.add_zero]
section NEAR
variable {a : AB} {L : CS} {M : MS} {w i : Nat}
theorem dnx_tail (hA : AI a w) : ∀ r, dnx a (a.1 6 0 + r) = dnx a (a.1 6 0) := by
  intro r
  induction r with
  | zero => rfl
  | succ r ih =>
    rw [← ih]
    show (if a.1 6 0 + r < 200 ∧ a.1 0 (a.1 6 0 + r) ≠ 0 then nI (a.1 6 0 + r) else dnx a (a.1 6 0 + r)) = _
    rw [if_neg (fun h => h.2 ((hA.2.2.2.1 _ h.1).2.2.2.2.1 (by omega)))]
theorem dnx_min (hA : AI a w) (k : Nat) : dnx a k = dnx a (min k (a.1 6 0)) := by
  by_cases h : k ≤ a.1 6 0
  · rw [Nat.min_eq_left h]
  · rw [Nat.min_eq_right (by omega)]
    have := dnx_tail hA (k - a.1 6 0)
    rw [show a.1 6 0 + (k - a.1 6 0) = k by omega] at this
    exact this
theorem unx_past (hA : AI a w) : ∀ d o, a.1 6 0 ≤ o → unx a d o = -5 := by
  intro d
  induction d with
  | zero => intro o _; rfl
  | succ d ih =>
    intro o ho
    show (if o < 200 ∧ a.1 0 o ≠ 0 then nI o else unx a d (o + 1)) = _
    rw [if_neg (fun h => h.2 ((hA.2.2.2.1 _ h.1).2.2.2.2.1 (by omega))), ih _ (by omega)]
theorem unx_tail (hA : AI a w) : ∀ d o r, o + d = a.1 6 0 → unx a (d + r) o = unx a d o := by
  intro d
  induction d with
  | zero => intro o r ho; rw [unx_past hA _ _ (by omega)]; rfl
  | succ d ih =>
    intro o r ho
    rw [show d + 1 + r = (d + r) + 1 by omega]
    show (if o < 200 ∧ a.1 0 o ≠ 0 then nI o else unx a (d + r) (o + 1)) = (if o < 200 ∧ a.1 0 o ≠ 0 then nI o else unx a d (o + 1))
    rw [ih (o + 1) r (by omega)]
theorem c_before_l (hC : CR a L) (hA : AI a w) : ∀ (k n : Nat), k < n → k ≤ a.1 6 0 → fX3_atOrBefore_11 L n (nI k + (-1)) = some (dnx a k) := by
  have he := hA.2.1
  intro k
  induction k with
  | zero =>
    intro n h1 h2
    obtain ⟨m, rfl⟩ : ∃ m, n = m + 1 := ⟨n - 1, by omega⟩
    rw [fX3_atOrBefore_11, if_pos ((nI_m1neg (by omega)).mpr rfl)]
    rfl
  | succ k ih =>
    intro n h1 h2
    obtain ⟨m, rfl⟩ : ∃ m, n = m + 1 := ⟨n - 1, by omega⟩
    have hf := (hC.1 k (by omega)).1
    have hf2 := (hA.2.2.2.1 k (by omega)).1
    rw [fX3_atOrBefore_11, pk_m1, if_neg (nI_pos (by omega)), zi_ok (by omega) (by omega), nI_clamp (by omega), hf, ih _ (by omega) (by omega)]
    show (if nI (a.1 0 k) = 0 then _ else _) = some (if k < 200 ∧ a.1 0 k ≠ 0 then nI k else dnx a k)
    by_cases h0 : a.1 0 k = 0
    · rw [if_pos ((nI_eq0 (by omega)).mpr h0), if_neg (fun h => h.2 h0)]
    · rw [if_neg (fun h => h0 ((nI_eq0 (by omega)).mp h)), if_pos ⟨by omega, h0⟩]
theorem c_before (hC : CR a L) (hA : AI a w) (x : Int32) : fX3_atOrBefore x L = some (if x < 0 then -5 else dnx a (x.toNatClampNeg + 1)) := by
  have he := hA.2.1
  unfold fX3_atOrBefore
  rw [zl_d, hC.2.2.1, Int32.sub_eq_add_neg]
  by_cases hx : x < 0
  · rw [if_pos hx]
    have hneg : (if nI (a.1 6 0) + -1 < x then nI (a.1 6 0) + -1 else x) < 0 := by
      split
      · exact Int32.lt_trans (by assumption) hx
      · exact hx
    obtain ⟨m, hm⟩ : ∃ m, FU = m + 1 := ⟨9999, rfl⟩
    rw [hm, fX3_atOrBefore_11, if_pos hneg]
  · obtain ⟨j, hj, rfl⟩ := nI_of hx
    rw [if_neg hx, nI_clamp hj, dnx_min hA]
    by_cases h : a.1 6 0 ≤ j
    · rw [if_pos ((nI_m1lt (by omega) hj).mpr h), c_before_l hC hA _ _ (fu_lt (by omega)) (Nat.le_refl _), Nat.min_eq_right (by omega)]
    · rw [if_neg (fun q => h ((nI_m1lt (by omega) hj).mp q)), ← pk_m1 j, c_before_l hC hA _ _ (fu_lt (by omega)) (by omega), Nat.min_eq_left (by omega)]
theorem m_before_l (hi : i < 4) (hM : MR a (M.1 0) (i * 1274)) : ∀ (k n : Nat), k < n → k ≤ 201 → fX9_from_36 (nI i) (-1) M n (lN k + (-1)) = some (dnx a k) := by
  intro k
  induction k with
  | zero =>
    intro n h1 h2
    obtain ⟨m, rfl⟩ : ∃ m, n = m + 1 := ⟨n - 1, by omega⟩
    rw [fX9_from_36, if_pos (by decide)]
    rfl
  | succ k ih =>
    intro n h1 h2
    obtain ⟨m, rfl⟩ : ∃ m, n = m + 1 := ⟨n - 1, by omega⟩
    rw [fX9_from_36, lN_m1]
    simp only [lg_cmp_lt, lg_cmp_ge, llit]
    rw [if_neg (by rw [lN_lt (by omega) (by omega)]; omega), if_neg (by rw [lN_le (by omega) (by omega)]; omega), lN_i, m_there hi hM (by omega), zb_s, show (-1 : Int32).toInt64 = -1 by decide, ih _ (by omega) (by omega)]
    show _ = some (if k < 200 ∧ a.1 0 k ≠ 0 then nI k else dnx a k)
    by_cases h0 : k < 200 ∧ a.1 0 k ≠ 0
    · rw [if_pos h0, if_pos h0, if_neg (by decide)]
    · rw [if_neg h0, if_neg h0, if_pos rfl]
theorem m_before (hi : i < 4) (hM : MR a (M.1 0) (i * 1274)) (hA : AI a w) (x : Int32) : fX9_from (nI i) x (-1) M = some (if x < 0 then -5 else dnx a (x.toNatClampNeg + 1)) := by
  have he := hA.2.1
  unfold fX9_from fX9_from_18
  rw [if_pos (by decide), if_neg (by decide)]
  simp only [lg_cmp_le, llit]
  by_cases hx : x < 0
  · have hx2 : x.toInt64 < 0 := by
      rw [Int64.lt_iff_toInt_lt, Int32.toInt_toInt64]
      exact Int32.lt_iff_toInt_lt.mp hx
    rw [if_pos hx]
    have h200 : x.toInt64 ≤ lN 200 := by
      rw [Int64.le_iff_toInt_le, lN_toInt (by omega)]
      have := Int64.lt_iff_toInt_lt.mp hx2
      have h0 : (0 : Int64).toInt = 0 := by decide
      omega
    obtain ⟨m, hm⟩ : ∃ m, FU = m + 1 := ⟨9999, rfl⟩
    rw [if_pos h200, hm, fX9_from_36, if_pos ((lg_cmp_lt _ _).mpr hx2)]
  · obtain ⟨j, hj, rfl⟩ := nI_of hx
    rw [if_neg hx, nI_clamp hj, nI_l hj]
    by_cases h : j ≤ 200
    · rw [if_pos ((lN_le hj (by omega)).mpr h), ← lN_m1, m_before_l hi hM _ _ (fu_lt (by omega)) (by omega)]
    · rw [if_neg (fun q => h ((lN_le hj (by omega)).mp q)), ← lN_m1, m_before_l hi hM _ _ (fu_lt (by omega)) (by omega), dnx_min hA, dnx_min hA (j + 1), Nat.min_eq_right (by omega), Nat.min_eq_right (by omega)]
theorem c_behind_l (hC : CR a L) (hA : AI a w) : ∀ (d n o : Nat), o + d = a.1 6 0 → d < n → fX3_atOrBehind_6 L n (nI o) = some (unx a d o) := by
  have he := hA.2.1
  have hE := hC.2.2.1
  intro d
  induction d with
  | zero =>
    intro n o h1 h2
    obtain ⟨m, rfl⟩ : ∃ m, n = m + 1 := ⟨n - 1, by omega⟩
    rw [fX3_atOrBehind_6, hE, if_pos ((nI_leI (by omega) (by omega)).mpr (by omega))]
    rfl
  | succ d ih =>
    intro n o h1 h2
    obtain ⟨m, rfl⟩ : ∃ m, n = m + 1 := ⟨n - 1, by omega⟩
    have hf := (hC.1 o (by omega)).1
    have hf2 := (hA.2.2.2.1 o (by omega)).1
    rw [fX3_atOrBehind_6, hE]
    simp (disch := omega) only [nlit, zl_d, zb_s, zb2_s, nI_leI, nI_ltI, nI_eq, nI_add, nI_clamp, zi_ok, hf]
    rw [if_neg (by omega), ih _ _ (by omega) (by omega)]
    show _ = some (if o < 200 ∧ a.1 0 o ≠ 0 then nI o else unx a d (o + 1))
    by_cases h0 : a.1 0 o = 0
    · rw [if_pos h0, if_neg (fun h => h.2 h0)]
    · rw [if_neg h0, if_pos ⟨by omega, h0⟩]
theorem c_behind (hC : CR a L) (hA : AI a w) (x : Int32) : fX3_atOrBehind x L = some (unx a 201 (if x < 0 then 0 else x.toNatClampNeg)) := by
  have he := hA.2.1
  unfold fX3_atOrBehind
  rw [zl_d]
  by_cases hx : x < 0
  · rw [if_pos hx, if_pos hx, show (0 : Int32) = nI 0 from rfl, c_behind_l hC hA (a.1 6 0) _ _ (by omega) (fu_lt (by omega)), show 201 = a.1 6 0 + (201 - a.1 6 0) by omega, unx_tail hA _ _ _ (by omega)]
  · obtain ⟨j, hj, rfl⟩ := nI_of hx
    rw [if_neg hx, if_neg hx, nI_clamp hj]
    by_cases h : j ≤ a.1 6 0
    · rw [c_behind_l hC hA (a.1 6 0 - j) _ _ (by omega) (fu_lt (by omega)), show 201 = (a.1 6 0 - j) + (201 - (a.1 6 0 - j)) by omega, unx_tail hA _ _ _ (by omega)]
    · obtain ⟨m, hm⟩ : ∃ m, FU = m + 1 := ⟨9999, rfl⟩
      rw [hm, fX3_atOrBehind_6, hC.2.2.1, if_pos ((nI_leI (by omega) hj).mpr (by omega)), unx_past hA _ _ (by omega)]
theorem m_behind_l (hi : i < 4) (hM : MR a (M.1 0) (i * 1274)) : ∀ (d n o : Nat), o + d = 201 → d < n → fX9_from_36 (nI i) (nI 1) M n (lN o) = some (unx a d o) := by
  intro d
  induction d with
  | zero =>
    intro n o h1 h2
    obtain ⟨m, rfl⟩ : ∃ m, n = m + 1 := ⟨n - 1, by omega⟩
    rw [fX9_from_36]
    simp only [lg_cmp_lt, lg_cmp_ge, llit]
    rw [if_neg (by rw [lN_lt (by omega) (by omega)]; omega), if_pos (by rw [lN_le (by omega) (by omega)]; omega)]
    rfl
  | succ d ih =>
    intro n o h1 h2
    obtain ⟨m, rfl⟩ : ∃ m, n = m + 1 := ⟨n - 1, by omega⟩
    rw [fX9_from_36]
    simp only [lg_cmp_lt, lg_cmp_ge, llit]
    rw [if_neg (by rw [lN_lt (by omega) (by omega)]; omega), if_neg (by rw [lN_le (by omega) (by omega)]; omega), lN_i, m_there hi hM (by omega), zb_s, nI_l (by omega), lN_add, ih _ _ (by omega) (by omega)]
    show _ = some (if o < 200 ∧ a.1 0 o ≠ 0 then nI o else unx a d (o + 1))
    by_cases h0 : o < 200 ∧ a.1 0 o ≠ 0
    · rw [if_pos h0, if_pos h0, if_neg (by decide)]
    · rw [if_neg h0, if_neg h0, if_pos rfl]
theorem m_behind (hi : i < 4) (hM : MR a (M.1 0) (i * 1274)) (hA : AI a w) (x : Int32) : fX9_from (nI i) x (nI 1) M = some (unx a 201 (if x < 0 then 0 else x.toNatClampNeg)) := by
  have he := hA.2.1
  have key : ∀ j, j ≤ 201 → unx a (201 - j) j = unx a 201 j := fun j hj => by
    by_cases h : j ≤ a.1 6 0
    · rw [show 201 = (a.1 6 0 - j) + (201 - (a.1 6 0 - j)) by omega, unx_tail hA _ _ _ (by omega), show (a.1 6 0 - j) + (201 - (a.1 6 0 - j)) - j = (a.1 6 0 - j) + (201 - a.1 6 0) by omega, unx_tail hA _ _ _ (by omega)]
    · rw [unx_past hA _ _ (by omega), unx_past hA _ _ (by omega)]
  unfold fX9_from fX9_from_18
  have h1 : ∀ (A B : Option Int32), (if (0 : Int32) ≤ nI 1 then A else B) = A := fun _ _ => if_pos (by decide)
  rw [if_neg (by decide)]
  simp only [lg_cmp_ge, h1]
  by_cases hx : x < 0
  · have hx2 : x.toInt64 < 0 := by
      rw [Int64.lt_iff_toInt_lt, Int32.toInt_toInt64]
      exact Int32.lt_iff_toInt_lt.mp hx
    rw [if_pos hx, if_neg (Int64.not_le.mpr hx2), show (0 : Int64) = lN 0 from rfl, m_behind_l hi hM 201 _ _ (by omega) (fu_lt (by omega))]
  · obtain ⟨j, hj, rfl⟩ := nI_of hx
    rw [if_neg hx, nI_clamp hj, nI_l hj, if_pos (by rw [show (0 : Int64) = lN 0 from rfl, lN_le (by omega) hj]; omega)]
    by_cases h : j ≤ 201
    · rw [m_behind_l hi hM (201 - j) _ _ (by omega) (fu_lt (by omega)), key j h]
    · obtain ⟨m, hm⟩ : ∃ m, FU = m + 1 := ⟨9999, rfl⟩
      rw [hm, fX9_from_36]
      simp only [lg_cmp_lt, lg_cmp_ge, llit]
      rw [if_neg (by rw [lN_lt (by omega) (by omega)]; omega), if_pos (by rw [lN_le (by omega) (by omega)]; omega), unx_past hA _ _ (by omega)]
theorem segOf_l (hC : CR a L) (hi : i < 4) (hM : MR a (M.1 0) (i * 1274)) (hA : AI a w) (x : Int32) : ∀ (d n1 n2 k : Nat), k + d + 1 = a.1 6 1 → d < n1 → d < n2 → ∃ r, r < 100 ∧ fX3_segmentOf_2 x L n1 (nI k) = some (nI r) ∧ fX9_segmentOf_2 (nI i) x M n2 (nI k) = some (nI r) := by
  have hfew := hA.few
  have hN := hC.2.2.2
  intro d
  induction d with
  | zero =>
    intro n1 n2 k h1 h2 h3
    obtain ⟨m1, rfl⟩ : ∃ m, n1 = m + 1 := ⟨n1 - 1, by omega⟩
    obtain ⟨m2, rfl⟩ : ∃ m, n2 = m + 1 := ⟨n2 - 1, by omega⟩
    refine ⟨k, by omega, ?_, ?_⟩
    · rw [fX3_segmentOf_2, hN]
      simp (disch := omega) only [nlit, zl_d, zb_s, zb2_s, nI_leI, nI_ltI, nI_eq, nI_add, nI_clamp, zi_ok, pk_sub]
      rw [if_pos (by omega)]
    · rw [fX9_segmentOf_2]
      simp (disch := omega) only [nlit, zl_d, zb_s, zb2_s, nI_leI, nI_ltI, nI_eq, nI_add, nI_clamp, zi_ok, m_parts hi hM]
      rw [if_pos (by omega)]
  | succ d ih =>
    intro n1 n2 k h1 h2 h3
    obtain ⟨m1, rfl⟩ : ∃ m, n1 = m + 1 := ⟨n1 - 1, by omega⟩
    obtain ⟨m2, rfl⟩ : ∃ m, n2 = m + 1 := ⟨n2 - 1, by omega⟩
    have hB := hC.2.1 (k + 1) (by omega)
    obtain ⟨r, e0, e1, e2⟩ := ih m1 m2 (k + 1) (by omega) (by omega) (by omega)
    by_cases hx : x < nI (a.1 5 (k + 1))
    · refine ⟨k, by omega, ?_, ?_⟩
      · rw [fX3_segmentOf_2, hN]
        simp (disch := omega) only [nlit, zl_d, zb_s, zb2_s, nI_leI, nI_ltI, nI_eq, nI_add, nI_clamp, zi_ok, pk_sub, hB]
        rw [if_neg (by omega), if_pos hx]
      · rw [fX9_segmentOf_2]
        simp (disch := omega) only [nlit, zl_d, zb_s, zb2_s, nI_leI, nI_ltI, nI_eq, nI_add, nI_clamp, zi_ok, m_parts hi hM]
        rw [if_neg (by omega), m_base hi hM hA (by omega), zb_s, if_pos hx]
    · refine ⟨r, e0, ?_, ?_⟩
      · rw [fX3_segmentOf_2, hN]
        simp (disch := omega) only [nlit, zl_d, zb_s, zb2_s, nI_leI, nI_ltI, nI_eq, nI_add, nI_clamp, zi_ok, pk_sub, hB]
        rw [if_neg (by omega), if_neg hx, e1]
      · rw [fX9_segmentOf_2]
        simp (disch := omega) only [nlit, zl_d, zb_s, zb2_s, nI_leI, nI_ltI, nI_eq, nI_add, nI_clamp, zi_ok, m_parts hi hM]
        rw [if_neg (by omega), m_base hi hM hA (by omega), zb_s, if_neg hx, e2]
theorem segOf (hC : CR a L) (hi : i < 4) (hM : MR a (M.1 0) (i * 1274)) (hA : AI a w) (x : Int32) : ∃ r, fX3_segmentOf x L = some (nI r) ∧ fX9_segmentOf (nI i) x M = some (nI r) := by
  have hfew := hA.few
  have hn := hA.2.2.1
  obtain ⟨r, -, e⟩ := segOf_l hC hi hM hA x (a.1 6 1 - 1) FU FU 0 (by omega) (fu_lt (by omega)) (fu_lt (by omega))
  exact ⟨r, e⟩
end NEAR
