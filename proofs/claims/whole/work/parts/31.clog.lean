/-! ===== the class's log, read ===== -/
section CLOG
variable {a : AB} {L : CS} {w : Nat}
theorem c_rec_l (hC : CR a L) (hA : AI a w) {hi : Nat} (hh : hi ≤ a.1 6 0) : ∀ (d n acc o : Nat), o + d = hi → d < n → acc + d < 2 ^ 31 → fX3_recordsIn_9 (nI hi) L n (nI acc) (nI o) = some (nI (acc + sg (hb a) o d)) := by
  have he := hA.2.1
  intro d
  induction d with
  | zero =>
    intro n acc o h1 h2 h3
    obtain ⟨m, rfl⟩ : ∃ m, n = m + 1 := ⟨n - 1, by omega⟩
    rw [fX3_recordsIn_9]
    simp (disch := omega) only [nlit, zl_d, zb_s, zb2_s, nI_leI, nI_ltI, nI_eq, nI_add, nI_clamp, zi_ok]
    rw [if_pos (by omega)]
    rfl
  | succ d ih =>
    intro n acc o h1 h2 h3
    obtain ⟨m, rfl⟩ : ∃ m, n = m + 1 := ⟨n - 1, by omega⟩
    have hf := (hC.1 o (by omega)).1
    have hf2 := (hA.2.2.2.1 o (by omega)).1
    have hE := hC.2.2.1
    rw [fX3_recordsIn_9]
    simp (disch := omega) only [nlit, zl_d, zb_s, zb2_s, nI_leI, nI_ltI, nI_eq, nI_add, nI_clamp, zi_ok, hE, hf]
    rw [if_neg (by omega), if_neg (by omega), ih _ _ _ (by omega) (by omega) (by omega), ih _ _ _ (by omega) (by omega) (by omega), sg_s]
    unfold hb
    split <;> simp [Nat.add_assoc]
theorem c_rec (hC : CR a L) (hA : AI a w) {lo hi : Nat} (hl : lo ≤ hi) (hh : hi ≤ a.1 6 0) : fX3_recordsIn (nI lo) (nI hi) L = some (nI (sg (hb a) lo (hi - lo))) := by
  have he := hA.2.1
  unfold fX3_recordsIn
  simp (disch := omega) only [nlit, zl_d, zb_s, zb2_s, nI_leI, nI_ltI, nI_eq, nI_add, nI_clamp, zi_ok]
  rw [if_neg (by omega), c_rec_l hC hA hh (hi - lo) _ 0 lo (by omega) (fu_lt (by omega)) (by omega), Nat.zero_add]
theorem c_siz_l (hC : CR a L) (hA : AI a w) {hi : Nat} (hh : hi ≤ a.1 6 0) : ∀ (d n acc o : Nat), o + d = hi → d < n → acc + 9 * d < 2 ^ 31 → fX3_sizesIn_9 (nI hi) L n (nI acc) (nI o) = some (nI (acc + sg (wb a) o d)) := by
  have he := hA.2.1
  intro d
  induction d with
  | zero =>
    intro n acc o h1 h2 h3
    obtain ⟨m, rfl⟩ : ∃ m, n = m + 1 := ⟨n - 1, by omega⟩
    rw [fX3_sizesIn_9]
    simp (disch := omega) only [nlit, zl_d, zb_s, zb2_s, nI_leI, nI_ltI, nI_eq, nI_add, nI_clamp, zi_ok]
    rw [if_pos (by omega)]
    rfl
  | succ d ih =>
    intro n acc o h1 h2 h3
    obtain ⟨m, rfl⟩ : ∃ m, n = m + 1 := ⟨n - 1, by omega⟩
    have hf := (hC.1 o (by omega)).1
    have hs := (hC.1 o (by omega)).2.2.2.1
    have hf2 := (hA.2.2.2.1 o (by omega)).1
    have hs2 := (hA.2.2.2.1 o (by omega)).2.2.2.1
    have hE := hC.2.2.1
    rw [fX3_sizesIn_9]
    simp (disch := omega) only [nlit, zl_d, zb_s, zb2_s, nI_leI, nI_ltI, nI_eq, nI_add, nI_clamp, zi_ok, hE, hf, hs]
    rw [if_neg (by omega), if_neg (by omega), ih _ _ _ (by omega) (by omega) (by omega), ih _ _ _ (by omega) (by omega) (by omega), sg_s]
    unfold wb
    split <;> simp [Nat.add_assoc]
theorem c_siz (hC : CR a L) (hA : AI a w) {lo hi : Nat} (hl : lo ≤ hi) (hh : hi ≤ a.1 6 0) : fX3_sizesIn (nI lo) (nI hi) L = some (nI (sg (wb a) lo (hi - lo))) := by
  have he := hA.2.1
  unfold fX3_sizesIn
  simp (disch := omega) only [nlit, zl_d, zb_s, zb2_s, nI_leI, nI_ltI, nI_eq, nI_add, nI_clamp, zi_ok]
  rw [if_neg (by omega), c_siz_l hC hA hh (hi - lo) _ 0 lo (by omega) (fu_lt (by omega)) (by omega), Nat.zero_add]
theorem c_records (hC : CR a L) (hA : AI a w) : fX3_records L = some (nI (sg (hb a) 0 (a.1 6 0))) := by
  unfold fX3_records
  rw [zb_id, hC.2.2.1]
  exact c_rec hC hA (Nat.zero_le _) (Nat.le_refl _)
theorem c_start (hC : CR a L) (hA : AI a w) : fX3_start L = some (nI (a.1 5 0)) := by
  have hn := hA.2.2.1
  have hB := hC.2.1 0 (by omega)
  unfold fX3_start
  simp (disch := omega) only [nlit, zl_d, zb_s, zb2_s, nI_leI, nI_ltI, nI_eq, nI_add, nI_clamp, zi_ok, hB]
theorem c_closed (hC : CR a L) (hA : AI a w) {k : Nat} (hk : k < 2 ^ 30) : fX3_isClosed (nI k) L = some (if k + 1 < a.1 6 1 then 1 else 0) := by
  have hn := hA.2.2.1
  have hf := hA.few
  have hN := hC.2.2.2
  unfold fX3_isClosed
  simp (disch := omega) only [nlit, zl_d, zb_s, zb2_s, nI_leI, nI_ltI, nI_eq, nI_add, nI_clamp, zi_ok, hN, pk_sub]
  by_cases h : k + 1 < a.1 6 1
  · rw [if_pos h, if_neg (by omega)]
  · rw [if_neg h, if_pos (by omega)]
theorem c_send (hC : CR a L) (hA : AI a w) {k : Nat} (hk : k < a.1 6 1) : fX3_segmentEnd (nI k) L = some (nI (se a k)) := by
  have hf := hA.few
  have hE := hC.2.2.1
  unfold fX3_segmentEnd se
  rw [c_closed hC hA (by omega), zb_s]
  by_cases h : k + 1 < a.1 6 1
  · have hB := hC.2.1 (k + 1) h
    rw [if_pos h, if_neg (by decide), if_pos h]
    simp (disch := omega) only [nlit, zl_d, zb_s, zb2_s, nI_leI, nI_ltI, nI_eq, nI_add, nI_clamp, zi_ok, hB]
  · rw [if_neg h, if_pos rfl, if_neg h, hE]
theorem c_has (hC : CR a L) (hA : AI a w) {o : Nat} (ho : o < 2 ^ 31) : fX3_has (nI o) L = some (if o < 200 ∧ a.1 0 o ≠ 0 then 1 else 0) := by
  have he := hA.2.1
  have hE := hC.2.2.1
  unfold fX3_has
  simp (disch := omega) only [nlit, zl_d, zb_s, zb2_s, nI_leI, nI_ltI, nI_eq, nI_add, nI_clamp, zi_ok, hE]
  rw [if_neg (by omega)]
  by_cases h : o < a.1 6 0
  · have hf := (hC.1 o (by omega)).1
    have hf2 := (hA.2.2.2.1 o (by omega)).1
    rw [if_neg (by omega)]
    simp (disch := omega) only [nlit, zl_d, zb_s, zb2_s, nI_leI, nI_ltI, nI_eq, nI_add, nI_clamp, zi_ok, hf]
    by_cases h0 : a.1 0 o = 0
    · rw [if_pos h0, if_neg (fun h => h.2 h0)]
    · rw [if_neg h0, if_pos ⟨by omega, h0⟩]
  · rw [if_pos (by omega), if_neg (fun k => k.2 ((hA.2.2.2.1 o k.1).2.2.2.2.1 (by omega)))]
end CLOG
