/-! ===== a log's map: what both read ===== -/
section MAPF
variable {a : AB} {L : CS} {M : MS} {w i m : Nat}
def Vk (a : AB) (m key : Nat) : Int32 := a.2 (lst a key m - 1)
def od (a : AB) (m : Nat) : Nat → Int32
  | 0 => 0
  | k + 1 => if mpd a m k = true then od2 (od a m k) (Vk a m k) else od a m k
theorem od_s (k : Nat) : od a m (k + 1) = if mpd a m k = true then od2 (od a m k) (Vk a m k) else od a m k := rfl
theorem vk_f (hA : AI a w) (hm : m ≤ a.1 6 0) {key : Nat} (h : mpd a m key = true) : VF (Vk a m key) := by
  have he := hA.2.1
  obtain ⟨h1, h2, h3⟩ := lst_ok (a := a) key m (mpd_lt h).1
  exact (hA.2.2.2.1 (lst a key m - 1) (by omega)).2.2.2.2.2.2.2.f
theorem c_at6 (hC : CR a L) (hA : AI a w) (hL : CL a m L) (hm : m ≤ a.1 6 0) {key : Nat} (hk : key < 26) (h : mpd a m key = true) : ∃ p, p < 200 ∧ L.1 6 (nI key).toNatClampNeg = nI p ∧ L.1 4 p = Vk a m key := by
  have he := hA.2.1
  have h0 := (mpd_lt h).1
  obtain ⟨h1, h2, h3⟩ := lst_ok (a := a) key m h0
  refine ⟨lst a key m - 1, by omega, ?_, (hC.1 (lst a key m - 1) (by omega)).2.2.2.2⟩
  rw [nI_clamp (by omega), hL key hk, cd5, if_neg h0]
theorem c_summand (hC : CR a L) (hA : AI a w) (hL : CL a m L) (hm : m ≤ a.1 6 0) {key : Nat} (hk : key < 26) : fX3_summand (nI key) L = some (if mpd a m key = true then sm (Vk a m key) else 0) := by
  unfold fX3_summand fX3_summand_29 fX3_summand_30
  rw [c_mapped hC hA hL hm hk, zb_s]
  by_cases h : mpd a m key = true
  · obtain ⟨p, hp, e1, e2⟩ := c_at6 hC hA hL hm hk h
    have hv := vk_f hA hm h
    rw [if_pos h, if_pos h, i10, zi_ok hk (by omega), e1, zi_ok hp (by omega), nI_clamp (by omega), e2, isF hv, zb_s]
    by_cases hf : (Vk a m key).toUInt32.toNat % 2 ^ 31 < 255 * 2 ^ 23
    · rw [if_pos hf, i10, i10, zi_ok hk (by omega), zi_ok hp (by omega)]
      rcases hv.fin hf with h0 | h0
      · rw [fof_0 h0, zb_s]
        congr 1
        exact (if_neg (by omega)).symm
      · rw [fof_n (by omega) (by omega), zb_s]
        congr 1
        exact (if_pos ⟨by omega, by omega⟩).symm
    · rw [if_neg hf, i00, i00]
      congr 1
      exact (if_neg (by omega)).symm
  · rw [if_neg h, if_neg h, i00, i00]
theorem c_odd_l (hC : CR a L) (hA : AI a w) (hL : CL a m L) (hm : m ≤ a.1 6 0) : ∀ (d n k : Nat), k + d = 26 → d < n → fX3_oddSum_4 L n (od a m k) (nI k) = some (od a m 26) := by
  intro d
  induction d with
  | zero =>
    intro n k h1 h2
    obtain ⟨q9, rfl⟩ : ∃ q9, n = q9 + 1 := ⟨n - 1, by omega⟩
    rw [fX3_oddSum_4, if_pos (show (26 : Int32) ≤ nI k from nI_le (a := 26) (by omega) (by omega)), show k = 26 by omega]
  | succ d ih =>
    intro n k h1 h2
    obtain ⟨q9, rfl⟩ : ∃ q9, n = q9 + 1 := ⟨n - 1, by omega⟩
    have hk : k < 26 := by omega
    have hi2 := ih q9 (k + 1) (by omega) (by omega)
    rw [fX3_oddSum_4, if_neg (show ¬ (26 : Int32) ≤ nI k from nI_ge (b := 26) (by omega) (by omega)), c_mapped hC hA hL hm hk, zb_s, nI_1 k]
    by_cases h : mpd a m k = true
    · obtain ⟨p, hp, e1, e2⟩ := c_at6 hC hA hL hm hk h
      have hv := vk_f hA hm h
      rw [od_s, if_pos h] at hi2
      rw [if_pos h, i10, zi_ok hk (by omega), e1, zi_ok hp (by omega), nI_clamp (by omega), e2, isF hv, zb_s]
      by_cases hf : (Vk a m k).toUInt32.toNat % 2 ^ 31 < 255 * 2 ^ 23
      · have ho : od2 (od a m k) (Vk a m k) = od a m k := if_pos hf
        rw [ho] at hi2
        rw [if_pos hf, i10]
        exact hi2
      · have ho : od2 (od a m k) (Vk a m k) = (if od a m k = 0 then Vk a m k else if od a m k = Vk a m k then od a m k else 2143289344) := if_neg hf
        rw [ho] at hi2
        rw [if_neg hf, i00, zi_ok hk (by omega), zi_ok hp (by omega), zl_d]
        by_cases h0 : od a m k = 0
        · rw [if_pos h0] at hi2 ⊢
          exact hi2
        · rw [if_neg h0] at hi2 ⊢
          unfold fX0_oddSum
          by_cases he : od a m k = Vk a m k
          · rw [if_pos he] at hi2 ⊢
            rw [zb_s]
            exact hi2
          · rw [if_neg he] at hi2 ⊢
            rw [zb_s]
            exact hi2
    · rw [od_s, if_neg h] at hi2
      rw [if_neg h, i00]
      exact hi2
theorem c_odd (hC : CR a L) (hA : AI a w) (hL : CL a m L) (hm : m ≤ a.1 6 0) : fX3_oddSum L = some (od a m 26) := c_odd_l hC hA hL hm 26 FU 0 (by omega) (fu_lt (by omega))
theorem zs_ok {α : Type} {v : Int32} {K : Option α} (h : VF v) : zs v K = K := by
  unfold zs
  rw [if_pos (sni h)]
theorem m_vat (hi : i < 4) (hM : MR a (M.1 0) (i * 1274)) (hA : AI a w) (hL : ML a m M) (hm : m ≤ a.1 6 0) {key : Nat} (hk : key < 26) (h : mpd a m key = true) : fX9_valueAt (nI i) (nI key) M = some (Vk a m key).toUInt32 := by
  have he := hA.2.1
  have h0 := (mpd_lt h).1
  obtain ⟨h1, h2, h3⟩ := lst_ok (a := a) key m h0
  have hv := (hM.1 (lst a key m - 1) (by omega)).2.2.2.2.2
  unfold fX9_valueAt
  rw [zi_ok hk (by omega), nI_clamp (by omega), hL key hk, cd1, if_neg h0, show (1000 : Int32) = nI 1000 from rfl, nI_add, m_at _ hi (by omega), zb_s, hv]
  exact zs_ok (vk_f hA hm h)
def bst (x2 : Int32) (v x7 : UInt32) (x8 c : Int32) : UInt32 := if x8 = 0 then v else if x2 = 2 then (if 0 ≤ c then x7 else v) else (if c ≤ 0 then x7 else v)
theorem m_skip (hi : i < 4) (hM : MR a (M.1 0) (i * 1274)) (hA : AI a w) (hL : ML a m M) (hm : m ≤ a.1 6 0) {k n : Nat} (hk : k < 26) (h : ¬ mpd a m k = true) {x2 x3 x8 : Int32} {x4 x7 : UInt32} {x5 : UInt64} : fX9_map_69 (nI i) x2 x3 (n + 1) x4 x5 x7 x8 (nI k) M = fX9_map_69 (nI i) x2 x3 n x4 x5 x7 x8 (nI (k + 1)) M := by
  rw [fX9_map_69, if_neg (show ¬ (26 : Int32) ≤ nI k from nI_ge (b := 26) (by omega) (by omega)), m_mapped hi hM hA hL hm hk, zb_s, if_neg h, i00, nI_1]
theorem m_go (hi : i < 4) (hM : MR a (M.1 0) (i * 1274)) (hA : AI a w) (hL : ML a m M) (hm : m ≤ a.1 6 0) {k n : Nat} (hk : k < 26) (h : mpd a m k = true) {x2 x3 x8 c : Int32} {x4 x7 : UInt32} {x5 : UInt64} (hc : fJxf58ca_compare_66c2b (Vk a m k).toUInt32 x7 = some c) : fX9_map_69 (nI i) x2 x3 (n + 1) x4 x5 x7 x8 (nI k) M = fX9_map_69 (nI i) x2 x3 n (FP.fadd x4 (Vk a m k).toUInt32) (FP.dadd x5 (FP.f2d (Vk a m k).toUInt32)) (bst x2 (Vk a m k).toUInt32 x7 x8 c) 1 (nI (k + 1)) M := by
  rw [fX9_map_69, if_neg (show ¬ (26 : Int32) ≤ nI k from nI_ge (b := 26) (by omega) (by omega)), m_mapped hi hM hA hL hm hk, zb_s, if_pos h, i10, m_vat hi hM hA hL hm hk h, zb_s, zl_d, hc, zb_s]
  unfold fX9_map_142 bst
  rw [nI_1]
  by_cases h8 : x8 = 0
  · rw [if_pos h8, if_pos h8]
  · rw [if_neg h8, if_neg h8]
    by_cases h2 : x2 = 2
    · rw [if_pos h2, if_pos h2]
      by_cases hq : 0 ≤ c
      · rw [if_pos hq, if_pos hq]
      · rw [if_neg hq, if_neg hq]
    · rw [if_neg h2, if_neg h2]
      by_cases hq : c ≤ 0
      · rw [if_pos hq, if_pos hq]
      · rw [if_neg hq, if_neg hq]
theorem mb_none : ∀ (d k : Nat), sg (mb a m) k d = 0 → ∀ j, k ≤ j → j < k + d → ¬ mpd a m j = true := by
  intro d
  induction d with
  | zero => intro k _ j h1 h2; omega
  | succ d ih =>
    intro k h0 j h1 h2
    rw [sg_s] at h0
    by_cases e : j = k
    · subst e
      intro q
      have : mb a m j = 1 := if_pos q
      omega
    · exact ih (k + 1) (by omega) j (by omega) (by omega)
theorem mb_some : ∀ (d k : Nat), (∀ j, k ≤ j → j < k + d → ¬ mpd a m j = true) → sg (mb a m) k d = 0 := by
  intro d
  induction d with
  | zero => intro k _; rfl
  | succ d ih =>
    intro k h
    have : mb a m k = 0 := if_neg (h k (by omega) (by omega))
    rw [sg_s, this, ih (k + 1) (fun j h1 h2 => h j (by omega) (by omega))]
theorem mb_cap : ∀ (d k : Nat), sg (mb a m) k d ≤ d := by
  intro d
  induction d with
  | zero => intro k; exact Nat.le_refl _
  | succ d ih =>
    intro k
    have h1 := ih (k + 1)
    have h2 := mb_le (a := a) m k
    rw [sg_s]
    omega
theorem od_none : ∀ k, (∀ j, j < k → ¬ mpd a m j = true) → od a m k = 0 := by
  intro k
  induction k with
  | zero => intro _; rfl
  | succ k ih =>
    intro h
    rw [od_s, if_neg (h k (by omega)), ih (fun j hj => h j (by omega))]
end MAPF
