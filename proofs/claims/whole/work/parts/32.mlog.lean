/-! ===== the model's log, read ===== -/
theorem in_any (x lo hi : Int32) : fX9_in x lo hi = some (if lo ≤ x ∧ x ≤ hi then 1 else 0) := by
  unfold fX9_in
  by_cases h1 : x < lo
  · rw [if_pos h1, if_neg (fun h => absurd h1 (Int32.not_lt.mpr h.1))]
  · by_cases h2 : hi < x
    · rw [if_neg h1, if_pos h2, if_neg (fun h => absurd h2 (Int32.not_lt.mpr h.2))]
    · rw [if_neg h1, if_neg h2, if_pos ⟨Int32.not_lt.mp h1, Int32.not_lt.mp h2⟩]
def mS (M : MS) (j : Nat) (v : Int32) : MS := sAm M 0 (upd (M.1 0) j v)
theorem mS_g (M : MS) (j : Nat) (v : Int32) : (mS M j v).1 0 = upd (M.1 0) j v := va_up_self M.1 0 (upd (M.1 0) j v)
theorem mS_k (M : MS) (j : Nat) (v : Int32) {k : Nat} (h : k ≠ 0) : (mS M j v).1 k = M.1 k := va_up_ne M.1 (upd (M.1 0) j v) h
theorem mS_2 (M : MS) (j : Nat) (v : Int32) : (mS M j v).2 = M.2 := rfl
theorem wAm_S (M : MS) {j : Nat} (v : Int32) (h : j < 2 ^ 31) : wAm M 0 (nI j) v = mS M j v := by
  unfold wAm mS
  rw [nI_clamp h]
section MLOG
variable {a : AB} {M : MS} {w i : Nat}
theorem m_at (M : MS) {i x : Nat} (hi : i < 4) (hx : x < 1274) : fX9_at (nI i) (nI x) M = some (M.1 0 (i * 1274 + x)) := by
  unfold fX9_at
  simp (disch := omega) only [nlit, zl_d, zb_s, zb2_s, nI_leI, nI_ltI, nI_eq, nI_add, nI_clamp, zi_ok, pk_mul]
theorem m_sets (M : MS) {i x : Nat} (v : Int32) (hi : i < 4) (hx : x < 1274) : fX9_sets (nI i) (nI x) v M = some (mS M (i * 1274 + x) v) := by
  unfold fX9_sets
  simp (disch := omega) only [nlit, zl_d, zb_s, zb2_s, nI_leI, nI_ltI, nI_eq, nI_add, nI_clamp, zi_ok, pk_mul, wAm_S]
theorem m_there (hi : i < 4) (hM : MR a (M.1 0) (i * 1274)) {o : Nat} (ho : o < 2 ^ 31) : fX9_isThere (nI i) (nI o) M = some (if o < 200 ∧ a.1 0 o ≠ 0 then 1 else 0) := by
  unfold fX9_isThere
  rw [in_any]
  simp (disch := omega) only [nlit, zl_d, zb_s, zb2_s, nI_leI, nI_ltI, nI_eq, nI_add, nI_clamp, zi_ok, Nat.zero_le, true_and]
  by_cases h : o ≤ 199
  · have h1 := (hM.1 o (by omega)).1
    have h2 := hb_le a o
    rw [if_pos h, if_neg (by decide)]
    simp (disch := omega) only [nlit, zl_d, zb_s, zb2_s, nI_leI, nI_ltI, nI_eq, nI_add, nI_clamp, zi_ok, Nat.zero_add, m_at, h1]
    unfold hb
    by_cases h0 : a.1 0 o = 0
    · simp [h0]
    · simp [h0, show o < 200 by omega]
  · rw [if_neg h, if_pos rfl, if_neg (fun h => by omega)]
theorem m_base (hi : i < 4) (hM : MR a (M.1 0) (i * 1274)) (hA : AI a w) {k : Nat} (hk : k < a.1 6 1) : fX9_base (nI i) (nI k) M = some (nI (a.1 5 k)) := by
  have hf := hA.few
  have hB := hM.2.1 k hk
  unfold fX9_base
  simp (disch := omega) only [nlit, zl_d, zb_s, zb2_s, nI_leI, nI_ltI, nI_eq, nI_add, nI_clamp, zi_ok, m_at, hB]
theorem m_parts (hi : i < 4) (hM : MR a (M.1 0) (i * 1274)) : fX9_at (nI i) (nI 1270) M = some (nI (a.1 6 1)) := by
  rw [m_at _ hi (by omega), hM.2.2.1]
theorem m_end (hi : i < 4) (hM : MR a (M.1 0) (i * 1274)) : fX9_at (nI i) (nI 1271) M = some (nI (a.1 6 0)) := by
  rw [m_at _ hi (by omega), hM.2.2.2]
theorem m_endOf (hi : i < 4) (hM : MR a (M.1 0) (i * 1274)) (hA : AI a w) {k : Nat} (hk : k < a.1 6 1) : fX9_endOf (nI i) (nI k) M = some (nI (se a k)) := by
  have hf := hA.few
  unfold fX9_endOf se
  simp (disch := omega) only [nlit, zl_d, zb_s, zb2_s, nI_leI, nI_ltI, nI_eq, nI_add, nI_clamp, zi_ok, m_parts hi hM, m_end hi hM]
  by_cases h : k + 1 < a.1 6 1
  · rw [if_neg (by omega), if_pos h, m_base hi hM hA h, zb_s]
  · rw [if_pos (by omega), if_neg h]
theorem m_many_l (hi : i < 4) (hM : MR a (M.1 0) (i * 1274)) (hA : AI a w) {k : Nat} (hk : k < a.1 6 1) : ∀ (d n acc o : Nat), o + d = se a k → d < n → acc + d < 2 ^ 31 → fX9_manyIn_10 (nI i) (nI k) M n (nI acc) (nI o) = some (nI (acc + sg (hb a) o d)) := by
  have he := hA.2.1
  have hs := hA.sele (k := k)
  intro d
  induction d with
  | zero =>
    intro n acc o h1 h2 h3
    obtain ⟨m, rfl⟩ : ∃ m, n = m + 1 := ⟨n - 1, by omega⟩
    rw [fX9_manyIn_10, m_endOf hi hM hA hk]
    simp (disch := omega) only [nlit, zl_d, zb_s, zb2_s, nI_leI, nI_ltI, nI_eq, nI_add, nI_clamp, zi_ok]
    rw [if_pos (by omega)]
    rfl
  | succ d ih =>
    intro n acc o h1 h2 h3
    obtain ⟨m, rfl⟩ : ∃ m, n = m + 1 := ⟨n - 1, by omega⟩
    have hf := (hM.1 o (by omega)).1
    have hf2 := hb_le a o
    rw [fX9_manyIn_10, m_endOf hi hM hA hk]
    simp (disch := omega) only [nlit, zl_d, zb_s, zb2_s, nI_leI, nI_ltI, nI_eq, nI_add, nI_clamp, zi_ok, Nat.zero_add, m_at, hf]
    rw [if_neg (by omega), ih _ _ _ (by omega) (by omega) (by omega), sg_s, Nat.add_assoc]
theorem m_many (hi : i < 4) (hM : MR a (M.1 0) (i * 1274)) (hA : AI a w) {k : Nat} (hk : k < a.1 6 1) : fX9_manyIn (nI i) (nI k) M = some (nI (sg (hb a) (a.1 5 k) (se a k - a.1 5 k))) := by
  have he := hA.2.1
  have hs := hA.sele (k := k)
  have hs2 := hA.bse hk
  unfold fX9_manyIn
  rw [m_base hi hM hA hk]
  simp (disch := omega) only [nlit, zl_d, zb_s, zb2_s, nI_leI, nI_ltI, nI_eq, nI_add, nI_clamp, zi_ok]
  rw [m_many_l hi hM hA hk (se a k - a.1 5 k) _ 0 _ (by omega) (fu_lt (by omega)) (by omega), Nat.zero_add]
theorem m_wei_l (hi : i < 4) (hM : MR a (M.1 0) (i * 1274)) (hA : AI a w) {h : Nat} (hh : h ≤ 200) : ∀ (d n acc o : Nat), o + d = h → d < n → acc + 9 * d < 2 ^ 31 → fX9_weighs_6 (nI i) (nI h) M n (nI acc) (nI o) = some (nI (acc + sg (wb a) o d)) := by
  intro d
  induction d with
  | zero =>
    intro n acc o h1 h2 h3
    obtain ⟨m, rfl⟩ : ∃ m, n = m + 1 := ⟨n - 1, by omega⟩
    rw [fX9_weighs_6]
    simp (disch := omega) only [nlit, zl_d, zb_s, zb2_s, nI_leI, nI_ltI, nI_eq, nI_add, nI_clamp, zi_ok]
    rw [if_pos (by omega)]
    rfl
  | succ d ih =>
    intro n acc o h1 h2 h3
    obtain ⟨m, rfl⟩ : ∃ m, n = m + 1 := ⟨n - 1, by omega⟩
    have hf := (hM.1 o (by omega)).1
    have hs := (hM.1 o (by omega)).2.2.2.1
    have hf2 := hb_le a o
    have hs2 := (hA.2.2.2.1 o (by omega)).2.2.2.1
    rw [fX9_weighs_6]
    simp (disch := omega) only [nlit, zl_d, zb_s, zb2_s, nI_leI, nI_ltI, nI_eq, nI_add, nI_clamp, zi_ok, Nat.zero_add, m_at, hf, hs]
    rw [if_neg (by omega), ih _ _ _ (by omega) (by omega) (by omega), ih _ _ _ (by omega) (by omega) (by omega), sg_s]
    unfold wb hb
    by_cases h0 : a.1 0 o = 0 <;> simp [h0, Nat.add_assoc]
theorem m_weighs (hi : i < 4) (hM : MR a (M.1 0) (i * 1274)) (hA : AI a w) {lo h : Nat} (hl : lo ≤ h) (hh : h ≤ 200) : fX9_weighs (nI i) (nI lo) (nI h) M = some (nI (sg (wb a) lo (h - lo))) := by
  unfold fX9_weighs
  simp (disch := omega) only [nlit, zl_d, zb_s, zb2_s, nI_leI, nI_ltI, nI_eq, nI_add, nI_clamp, zi_ok]
  rw [m_wei_l hi hM hA hh (h - lo) _ 0 _ (by omega) (fu_lt (by omega)) (by omega), Nat.zero_add]
theorem m_weightIn (hi : i < 4) (hM : MR a (M.1 0) (i * 1274)) (hA : AI a w) {k : Nat} (hk : k < a.1 6 1) : fX9_weightIn (nI i) (nI k) M = some (nI (sg (wb a) (a.1 5 k) (se a k - a.1 5 k))) := by
  have he := hA.2.1
  have hs := hA.sele (k := k)
  unfold fX9_weightIn
  rw [m_base hi hM hA hk, zb_s, m_endOf hi hM hA hk, zb_s, m_weighs hi hM hA (hA.bse hk) (by omega), zb_s]
theorem m_all_l (hi : i < 4) (hM : MR a (M.1 0) (i * 1274)) : ∀ (d n acc o : Nat), o + d = 200 → d < n → acc + d < 2 ^ 31 → fX9_all_4 (nI i) M n (nI acc) (nI o) = some (nI (acc + sg (hb a) o d)) := by
  intro d
  induction d with
  | zero =>
    intro n acc o h1 h2 h3
    obtain ⟨m, rfl⟩ : ∃ m, n = m + 1 := ⟨n - 1, by omega⟩
    rw [fX9_all_4]
    simp (disch := omega) only [nlit, zl_d, zb_s, zb2_s, nI_leI, nI_ltI, nI_eq, nI_add, nI_clamp, zi_ok]
    rw [if_pos (by omega)]
    rfl
  | succ d ih =>
    intro n acc o h1 h2 h3
    obtain ⟨m, rfl⟩ : ∃ m, n = m + 1 := ⟨n - 1, by omega⟩
    have hf := (hM.1 o (by omega)).1
    have hf2 := hb_le a o
    rw [fX9_all_4]
    simp (disch := omega) only [nlit, zl_d, zb_s, zb2_s, nI_leI, nI_ltI, nI_eq, nI_add, nI_clamp, zi_ok, Nat.zero_add, m_at, hf]
    rw [if_neg (by omega), ih _ _ _ (by omega) (by omega) (by omega), sg_s, Nat.add_assoc]
theorem sg_tail {f : Nat → Nat} {lo e h : Nat} (h1 : lo ≤ e) (h2 : e ≤ h) (hz : ∀ o, e ≤ o → o < h → f o = 0) : sg f lo (h - lo) = sg f lo (e - lo) := by
  rw [sg_split f h1 h2, sg_zero (h - e) e (fun i h3 h4 => hz i h3 (by omega)), Nat.add_zero]
theorem AI.hb0 (hA : AI a w) {o : Nat} (h : a.1 6 0 ≤ o) (h2 : o < 200) : hb a o = 0 := if_pos ((hA.2.2.2.1 o h2).2.2.2.2.1 h)
theorem AI.wb0 (hA : AI a w) {o : Nat} (h : a.1 6 0 ≤ o) (h2 : o < 200) : wb a o = 0 := if_pos ((hA.2.2.2.1 o h2).2.2.2.2.1 h)
theorem AI.hbS (hA : AI a w) {o : Nat} (h : o < a.1 5 0) : hb a o = 0 := if_pos ((hA.2.2.2.1 o (by have := hA.2.1; have := hA.ble (k := 0) hA.2.2.1; omega)).2.2.2.2.2.1 h)
theorem AI.wbS (hA : AI a w) {o : Nat} (h : o < a.1 5 0) : wb a o = 0 := if_pos ((hA.2.2.2.1 o (by have := hA.2.1; have := hA.ble (k := 0) hA.2.2.1; omega)).2.2.2.2.2.1 h)
theorem AI.wb9 (hA : AI a w) {o : Nat} (h : o < 200) : wb a o ≤ 9 := by
  unfold wb
  have := (hA.2.2.2.1 o h).2.2.2.1
  split <;> omega
theorem m_all (hi : i < 4) (hM : MR a (M.1 0) (i * 1274)) (hA : AI a w) : fX9_all (nI i) M = some (nI (sg (hb a) 0 (a.1 6 0))) := by
  unfold fX9_all
  simp (disch := omega) only [nlit, zl_d, zb_s, zb2_s, nI_leI, nI_ltI, nI_eq, nI_add, nI_clamp, zi_ok]
  rw [m_all_l hi hM 200 _ 0 _ (by omega) (fu_lt (by omega)) (by omega), Nat.zero_add]
  have h := sg_tail (f := hb a) (lo := 0) (e := a.1 6 0) (h := 200) (Nat.zero_le _) hA.2.1 (fun o h1 h2 => hA.hb0 h1 h2)
  exact congrArg (fun x => some (nI x)) h
theorem m_holes_l (hi : i < 4) (hM : MR a (M.1 0) (i * 1274)) (hA : AI a w) : ∀ (d n acc o : Nat), o + d = a.1 6 0 → d < n → acc + d < 2 ^ 31 → fX9_holes_9 (nI i) M n (nI acc) (nI o) = some (nI (acc + (d - sg (hb a) o d))) := by
  have he := hA.2.1
  intro d
  induction d with
  | zero =>
    intro n acc o h1 h2 h3
    obtain ⟨m, rfl⟩ : ∃ m, n = m + 1 := ⟨n - 1, by omega⟩
    rw [fX9_holes_9]
    simp (disch := omega) only [nlit, zl_d, zb_s, zb2_s, nI_leI, nI_ltI, nI_eq, nI_add, nI_clamp, zi_ok, m_end hi hM]
    rw [if_pos (by omega)]
    rfl
  | succ d ih =>
    intro n acc o h1 h2 h3
    obtain ⟨m, rfl⟩ : ∃ m, n = m + 1 := ⟨n - 1, by omega⟩
    have hf := (hM.1 o (by omega)).1
    have hf2 := hb_le a o
    have hf3 := sg_le (f := hb a) (c := 1) d (o + 1) (fun i _ _ => hb_le a i)
    rw [fX9_holes_9]
    simp (disch := omega) only [nlit, zl_d, zb_s, zb2_s, nI_leI, nI_ltI, nI_eq, nI_add, nI_clamp, zi_ok, Nat.zero_add, m_end hi hM, m_at, hf, pk_sub]
    rw [if_neg (by omega), ih _ _ _ (by omega) (by omega) (by omega), sg_s, show acc + (1 - hb a o) + (d - sg (hb a) (o + 1) d) = acc + (d + 1 - (hb a o + sg (hb a) (o + 1) d)) by omega]
theorem m_holes (hi : i < 4) (hM : MR a (M.1 0) (i * 1274)) (hA : AI a w) : fX9_holes (nI i) M = some (nI (a.1 6 0 - a.1 5 0 - sg (hb a) 0 (a.1 6 0))) := by
  have he := hA.2.1
  have hb0 := hA.ble (k := 0) hA.2.2.1
  unfold fX9_holes
  simp (disch := omega) only [nlit, zl_d, zb_s, zb2_s, nI_leI, nI_ltI, nI_eq, nI_add, nI_clamp, zi_ok]
  rw [m_base hi hM hA hA.2.2.1, zb_s, m_holes_l hi hM hA (a.1 6 0 - a.1 5 0) _ 0 _ (by omega) (fu_lt (by omega)) (by omega), Nat.zero_add]
  have h := sg_split (hb a) (o := 0) (m := a.1 5 0) (h := a.1 6 0) (Nat.zero_le _) hb0
  rw [sg_zero (a.1 5 0 - 0) 0 (fun i _ h2 => hA.hbS (by omega)), Nat.zero_add] at h
  exact congrArg (fun x => some (nI (a.1 6 0 - a.1 5 0 - x))) h.symm
end MLOG
