/-! ===== a log's map: sum, mean, least, greatest ===== -/
section MAPS
variable {a : AB} {L : CS} {M : MS} {w i m : Nat}
theorem sim_sum (hC : CR a L) (hA : AI a w) (hL : CL a m L) (hm : m ≤ a.1 6 0) (hi : i < 4) (hM : MR a (M.1 0) (i * 1274)) (hL2 : ML a m M) {x3 : Int32} : ∀ (d n1 n2 k : Nat) (S Sm : UInt32) (x5 : UInt64) (x7 : UInt32) (x8 : Int32), k + d = 26 → d < n1 → d < n2 → R32 k S (od a m k) Sm → ∃ r : Int32, fX3_mapSum_12 n1 S (nI k) L = some (r, L) ∧ fX9_map_69 (nI i) 1 x3 n2 Sm x5 x7 x8 (nI k) M = some (r.toInt64, M) := by
  intro d
  induction d with
  | zero =>
    intro n1 n2 k S Sm x5 x7 x8 h1 h2 h3 hR
    obtain ⟨m1, rfl⟩ : ∃ m, n1 = m + 1 := ⟨n1 - 1, by omega⟩
    obtain ⟨m2, rfl⟩ : ∃ m, n2 = m + 1 := ⟨n2 - 1, by omega⟩
    obtain rfl : k = 26 := by omega
    obtain ⟨r, r1, r2⟩ := hR.fin
    refine ⟨r, ?_, ?_⟩
    · rw [fX3_mapSum_12, if_pos (show (26 : Int32) ≤ nI 26 by decide), c_odd hC hA hL hm, zb_s]
      by_cases h0 : od a m 26 = 0
      · rw [if_pos h0] at r1 ⊢
        rw [zb_id] at r1
        rw [r1, zb_s]
      · rw [if_neg h0] at r1 ⊢
        injection r1 with r1
        rw [r1]
    · rw [fX9_map_69, if_pos (show (26 : Int32) ≤ nI 26 by decide), if_pos rfl, r2, zb_s]
  | succ d ih =>
    intro n1 n2 k S Sm x5 x7 x8 h1 h2 h3 hR
    obtain ⟨m1, rfl⟩ : ∃ m, n1 = m + 1 := ⟨n1 - 1, by omega⟩
    obtain ⟨m2, rfl⟩ : ∃ m, n2 = m + 1 := ⟨n2 - 1, by omega⟩
    have hk : k < 26 := by omega
    rw [fX3_mapSum_12, if_neg (show ¬ (26 : Int32) ≤ nI k from nI_ge (b := 26) (by omega) (by omega)), c_summand hC hA hL hm hk, zb_s, nI_1]
    by_cases h : mpd a m k = true
    · obtain ⟨c, hc⟩ := cmp_any (Vk a m k).toUInt32 x7
      have hR2 := hR.go hk (vk_f hA hm h)
      rw [if_pos h, m_go hi hM hA hL2 hm hk h hc, zn32_ok (hR2.nn (by omega))]
      exact ih m1 m2 (k + 1) _ _ _ _ _ (by omega) (by omega) (by omega) (by rw [od_s, if_pos h]; exact hR2)
    · have hR2 := hR.skip hk
      rw [if_neg h, m_skip hi hM hA hL2 hm hk h, zn32_ok (hR2.nn (by omega))]
      exact ih m1 m2 (k + 1) _ _ _ _ _ (by omega) (by omega) (by omega) (by rw [od_s, if_neg h]; exact hR2)
theorem sim_mean (hC : CR a L) (hA : AI a w) (hL : CL a m L) (hm : m ≤ a.1 6 0) (hi : i < 4) (hM : MR a (M.1 0) (i * 1274)) (hL2 : ML a m M) {nn : Nat} (q1 : 1 ≤ nn) (q2 : nn ≤ 26) : ∀ (d n1 n2 k : Nat) (S Sm : UInt64) (x4 : UInt32) (x7 : UInt32) (x8 : Int32), k + d = 26 → d < n1 → d < n2 → R64 k S (od a m k) Sm → ∃ r : Int64, (od a m 26 = 0 → fX3_mapMean_42 (nI nn) n1 S (nI k) L = some (r, L)) ∧ (od a m 26 ≠ 0 → fX0_widened (od a m 26) = some r) ∧ fX9_map_69 (nI i) 4 (nI nn) n2 x4 Sm x7 x8 (nI k) M = some (r, M) := by
  intro d
  induction d with
  | zero =>
    intro n1 n2 k S Sm x5 x7 x8 h1 h2 h3 hR
    obtain ⟨m1, rfl⟩ : ∃ m, n1 = m + 1 := ⟨n1 - 1, by omega⟩
    obtain ⟨m2, rfl⟩ : ∃ m, n2 = m + 1 := ⟨n2 - 1, by omega⟩
    obtain rfl : k = 26 := by omega
    obtain ⟨r, r1, r2, r3⟩ := hR.fin q1 q2
    refine ⟨r, fun h0 => ?_, r2, ?_⟩
    · obtain ⟨r4, r5⟩ := r1 h0
      rw [fX3_mapMean_42, if_pos (show (26 : Int32) ≤ nI 26 by decide), zn64_ok r4, r5, zb_s]
    · rw [fX9_map_69, if_pos (show (26 : Int32) ≤ nI 26 by decide), if_neg (by decide), if_pos rfl, r3, zb_s]
  | succ d ih =>
    intro n1 n2 k S Sm x5 x7 x8 h1 h2 h3 hR
    obtain ⟨m1, rfl⟩ : ∃ m, n1 = m + 1 := ⟨n1 - 1, by omega⟩
    obtain ⟨m2, rfl⟩ : ∃ m, n2 = m + 1 := ⟨n2 - 1, by omega⟩
    have hk : k < 26 := by omega
    rw [fX3_mapMean_42, if_neg (show ¬ (26 : Int32) ≤ nI k from nI_ge (b := 26) (by omega) (by omega)), c_summand hC hA hL hm hk, zb_s, zl_d, nI_1]
    by_cases h : mpd a m k = true
    · obtain ⟨c, hc⟩ := cmp_any (Vk a m k).toUInt32 x7
      have hR2 := hR.go hk (vk_f hA hm h)
      rw [if_pos h, m_go hi hM hA hL2 hm hk h hc, zn64_ok sm_nn, zn64_ok (hR2.1.nn (by omega))]
      exact ih m1 m2 (k + 1) _ _ _ _ _ (by omega) (by omega) (by omega) (by rw [od_s, if_pos h]; exact hR2)
    · have hR2 := hR.skip hk
      rw [if_neg h, m_skip hi hM hA hL2 hm hk h, zn64_ok (by rw [f2d_0]; exact v64_0), zn64_ok (hR2.1.nn (by omega))]
      exact ih m1 m2 (k + 1) _ _ _ _ _ (by omega) (by omega) (by omega) (by rw [od_s, if_neg h]; exact hR2)
/-- the best so far, the class's and the model's -/
def RB (a : AB) (m k : Nat) (x1 : Int64) (x7 : UInt32) (x8 : Int32) : Prop := (x8 = 0 ∧ x1 = -9223372036854775808 ∧ ∀ j, j < k → ¬ mpd a m j = true) ∨ (x8 = 1 ∧ ∃ b, VF b ∧ x1 = b.toInt64 ∧ x7 = b.toUInt32)
theorem lg_ne {b : Int32} : ¬ lg_cmp b.toInt64 (-9223372036854775808 : Int64) = 0 := by
  have h : b.toInt64 ≠ (-9223372036854775808 : Int64) := fun e => by
    have h2 := congrArg Int64.toInt e
    rw [Int32.toInt_toInt64, show (-9223372036854775808 : Int64).toInt = -9223372036854775808 by decide +kernel] at h2
    have := Int32.le_toInt b
    omega
  unfold lg_cmp
  rw [if_neg h]
  split <;> decide
theorem rk_at (hC : CR a L) (hA : AI a w) (hL : CL a m L) (hm : m ≤ a.1 6 0) {key : Nat} (hk : key < 26) (h : mpd a m key = true) : ∃ r, fX3_rankAt (nI key) L = some r ∧ r.toInt = rkz (Vk a m key) := by
  obtain ⟨p, hp, e1, e2⟩ := c_at6 hC hA hL hm hk h
  obtain ⟨r, r1, r2⟩ := rank_z (Vk a m key)
  refine ⟨r, ?_, r2⟩
  unfold fX3_rankAt
  rw [zi_ok hk (by omega), e1, zi_ok hp (by omega), nI_clamp (by omega), e2, r1, zb_s]
theorem sim_lea (hC : CR a L) (hA : AI a w) (hL : CL a m L) (hm : m ≤ a.1 6 0) (hi : i < 4) (hM : MR a (M.1 0) (i * 1274)) (hL2 : ML a m M) {x3 : Int32} (hs : ∃ j, j < 26 ∧ mpd a m j = true) : ∀ (d n1 n2 k : Nat) (x1 : Int64) (x4 : UInt32) (x5 : UInt64) (x7 : UInt32) (x8 : Int32), k + d = 26 → d < n1 → d < n2 → RB a m k x1 x7 x8 → ∃ r : Int64, fX3_mapLeast_14 n1 x1 (nI k) L = some (r, L) ∧ fX9_map_69 (nI i) 2 x3 n2 x4 x5 x7 x8 (nI k) M = some (r, M) := by
  intro d
  induction d with
  | zero =>
    intro n1 n2 k x1 x4 x5 x7 x8 h1 h2 h3 hR
    obtain ⟨m1, rfl⟩ : ∃ m, n1 = m + 1 := ⟨n1 - 1, by omega⟩
    obtain ⟨m2, rfl⟩ : ∃ m, n2 = m + 1 := ⟨n2 - 1, by omega⟩
    obtain rfl : k = 26 := by omega
    rcases hR with ⟨-, -, hn⟩ | ⟨-, b, hb, rfl, rfl⟩
    · obtain ⟨j, j1, j2⟩ := hs
      exact absurd j2 (hn j j1)
    · refine ⟨b.toInt64, ?_, ?_⟩
      · rw [fX3_mapLeast_14, if_pos (show (26 : Int32) ≤ nI 26 by decide)]
      · rw [fX9_map_69, if_pos (show (26 : Int32) ≤ nI 26 by decide), if_neg (by decide), if_neg (by decide), hb.ftb, zb_s]
  | succ d ih =>
    intro n1 n2 k x1 x4 x5 x7 x8 h1 h2 h3 hR
    obtain ⟨m1, rfl⟩ : ∃ m, n1 = m + 1 := ⟨n1 - 1, by omega⟩
    obtain ⟨m2, rfl⟩ : ∃ m, n2 = m + 1 := ⟨n2 - 1, by omega⟩
    have hk : k < 26 := by omega
    rw [fX3_mapLeast_14, if_neg (show ¬ (26 : Int32) ≤ nI k from nI_ge (b := 26) (by omega) (by omega)), c_mapped hC hA hL hm hk, zb_s, nI_1]
    by_cases h : mpd a m k = true
    · have hv := vk_f hA hm h
      obtain ⟨p, hp, e1, e2⟩ := c_at6 hC hA hL hm hk h
      have hset : fX3_mapLeast_49 (fX3_mapLeast_14 m1) (nI k) L = fX3_mapLeast_14 m1 (Vk a m k).toInt64 (nI (k + 1)) L := by
        unfold fX3_mapLeast_49
        rw [zi_ok hk (by omega), e1, zi_ok hp (by omega), zl_d, nI_clamp (by omega), e2, nI_1]
      have hnew : RB a m (k + 1) (Vk a m k).toInt64 (Vk a m k).toUInt32 1 := Or.inr ⟨rfl, _, hv, rfl, rfl⟩
      rw [if_pos h, i10, hset]
      rcases hR with ⟨rfl, rfl, hn⟩ | ⟨rfl, b, hb, rfl, rfl⟩
      · obtain ⟨c, hc⟩ := cmp_any (Vk a m k).toUInt32 x7
        rw [m_go hi hM hA hL2 hm hk h hc, if_pos (lg_same _)]
        exact ih m1 m2 (k + 1) _ _ _ _ _ (by omega) (by omega) (by omega) hnew
      · obtain ⟨c, hc, c1, c2⟩ := cmp_rk hv hb
        obtain ⟨r1, r2, r3⟩ := rk_at hC hA hL hm hk h
        obtain ⟨s1, s2, s3⟩ := rank_z b
        rw [m_go hi hM hA hL2 hm hk h hc, if_neg lg_ne, r2, zb_s, show b.toInt64.toInt32 = b from Int32.toInt32_toInt64 b, s2, zb_s]
        have hb2 : bst 2 (Vk a m k).toUInt32 b.toUInt32 1 c = if 0 ≤ c then b.toUInt32 else (Vk a m k).toUInt32 := by
          unfold bst
          rw [i10, if_pos rfl]
        rw [hb2]
        by_cases hq : rkz b ≤ rkz (Vk a m k)
        · rw [if_pos (show s1 ≤ r1 from Int32.le_iff_toInt_le.mpr (by rw [r3, s3]; exact hq)), if_pos (c1.mpr hq)]
          exact ih m1 m2 (k + 1) _ _ _ _ _ (by omega) (by omega) (by omega) (Or.inr ⟨rfl, b, hb, rfl, rfl⟩)
        · rw [if_neg (show ¬ s1 ≤ r1 from fun z => hq (by have := Int32.le_iff_toInt_le.mp z; rw [r3, s3] at this; exact this)), if_neg (fun z => hq (c1.mp z))]
          exact ih m1 m2 (k + 1) _ _ _ _ _ (by omega) (by omega) (by omega) hnew
    · rw [if_neg h, i00, m_skip hi hM hA hL2 hm hk h]
      refine ih m1 m2 (k + 1) _ _ _ _ _ (by omega) (by omega) (by omega) ?_
      rcases hR with ⟨g1, g2, hn⟩ | hR
      · refine Or.inl ⟨g1, g2, fun j hj => ?_⟩
        by_cases e : j = k
        · rw [e]; exact h
        · exact hn j (by omega)
      · exact Or.inr hR
theorem sim_gre (hC : CR a L) (hA : AI a w) (hL : CL a m L) (hm : m ≤ a.1 6 0) (hi : i < 4) (hM : MR a (M.1 0) (i * 1274)) (hL2 : ML a m M) {x3 : Int32} (hs : ∃ j, j < 26 ∧ mpd a m j = true) : ∀ (d n1 n2 k : Nat) (x1 : Int64) (x4 : UInt32) (x5 : UInt64) (x7 : UInt32) (x8 : Int32), k + d = 26 → d < n1 → d < n2 → RB a m k x1 x7 x8 → ∃ r : Int64, fX3_mapGreatest_14 n1 x1 (nI k) L = some (r, L) ∧ fX9_map_69 (nI i) 3 x3 n2 x4 x5 x7 x8 (nI k) M = some (r, M) := by
  intro d
  induction d with
  | zero =>
    intro n1 n2 k x1 x4 x5 x7 x8 h1 h2 h3 hR
    obtain ⟨m1, rfl⟩ : ∃ m, n1 = m + 1 := ⟨n1 - 1, by omega⟩
    obtain ⟨m2, rfl⟩ : ∃ m, n2 = m + 1 := ⟨n2 - 1, by omega⟩
    obtain rfl : k = 26 := by omega
    rcases hR with ⟨-, -, hn⟩ | ⟨-, b, hb, rfl, rfl⟩
    · obtain ⟨j, j1, j2⟩ := hs
      exact absurd j2 (hn j j1)
    · refine ⟨b.toInt64, ?_, ?_⟩
      · rw [fX3_mapGreatest_14, if_pos (show (26 : Int32) ≤ nI 26 by decide)]
      · rw [fX9_map_69, if_pos (show (26 : Int32) ≤ nI 26 by decide), if_neg (by decide), if_neg (by decide), hb.ftb, zb_s]
  | succ d ih =>
    intro n1 n2 k x1 x4 x5 x7 x8 h1 h2 h3 hR
    obtain ⟨m1, rfl⟩ : ∃ m, n1 = m + 1 := ⟨n1 - 1, by omega⟩
    obtain ⟨m2, rfl⟩ : ∃ m, n2 = m + 1 := ⟨n2 - 1, by omega⟩
    have hk : k < 26 := by omega
    rw [fX3_mapGreatest_14, if_neg (show ¬ (26 : Int32) ≤ nI k from nI_ge (b := 26) (by omega) (by omega)), c_mapped hC hA hL hm hk, zb_s, nI_1]
    by_cases h : mpd a m k = true
    · have hv := vk_f hA hm h
      obtain ⟨p, hp, e1, e2⟩ := c_at6 hC hA hL hm hk h
      have hset : fX3_mapGreatest_49 (fX3_mapGreatest_14 m1) (nI k) L = fX3_mapGreatest_14 m1 (Vk a m k).toInt64 (nI (k + 1)) L := by
        unfold fX3_mapGreatest_49
        rw [zi_ok hk (by omega), e1, zi_ok hp (by omega), zl_d, nI_clamp (by omega), e2, nI_1]
      have hnew : RB a m (k + 1) (Vk a m k).toInt64 (Vk a m k).toUInt32 1 := Or.inr ⟨rfl, _, hv, rfl, rfl⟩
      rw [if_pos h, i10, hset]
      rcases hR with ⟨rfl, rfl, hn⟩ | ⟨rfl, b, hb, rfl, rfl⟩
      · obtain ⟨c, hc⟩ := cmp_any (Vk a m k).toUInt32 x7
        rw [m_go hi hM hA hL2 hm hk h hc, if_pos (lg_same _)]
        exact ih m1 m2 (k + 1) _ _ _ _ _ (by omega) (by omega) (by omega) hnew
      · obtain ⟨c, hc, c1, c2⟩ := cmp_rk hv hb
        obtain ⟨r1, r2, r3⟩ := rk_at hC hA hL hm hk h
        obtain ⟨s1, s2, s3⟩ := rank_z b
        rw [m_go hi hM hA hL2 hm hk h hc, if_neg lg_ne, r2, zb_s, show b.toInt64.toInt32 = b from Int32.toInt32_toInt64 b, s2, zb_s]
        have hb2 : bst 3 (Vk a m k).toUInt32 b.toUInt32 1 c = if c ≤ 0 then b.toUInt32 else (Vk a m k).toUInt32 := by
          unfold bst
          rw [i10, if_neg (by decide)]
        rw [hb2]
        by_cases hq : rkz (Vk a m k) ≤ rkz b
        · rw [if_pos (show r1 ≤ s1 from Int32.le_iff_toInt_le.mpr (by rw [r3, s3]; exact hq)), if_pos (c2.mpr hq)]
          exact ih m1 m2 (k + 1) _ _ _ _ _ (by omega) (by omega) (by omega) (Or.inr ⟨rfl, b, hb, rfl, rfl⟩)
        · rw [if_neg (show ¬ r1 ≤ s1 from fun z => hq (by have := Int32.le_iff_toInt_le.mp z; rw [r3, s3] at this; exact this)), if_neg (fun z => hq (c2.mp z))]
          exact ih m1 m2 (k + 1) _ _ _ _ _ (by omega) (by omega) (by omega) hnew
    · rw [if_neg h, i00, m_skip hi hM hA hL2 hm hk h]
      refine ih m1 m2 (k + 1) _ _ _ _ _ (by omega) (by omega) (by omega) ?_
      rcases hR with ⟨g1, g2, hn⟩ | hR
      · refine Or.inl ⟨g1, g2, fun j hj => ?_⟩
        by_cases e : j = k
        · rw [e]; exact h
        · exact hn j (by omega)
      · exact Or.inr hR
theorem least_none (hC : CR a L) (hA : AI a w) (hL : CL a m L) (hm : m ≤ a.1 6 0) (hn : ∀ j, j < 26 → ¬ mpd a m j = true) : ∀ (d n k : Nat) (x1 : Int64), k + d = 26 → d < n → fX3_mapLeast_14 n x1 (nI k) L = some (x1, L) ∧ fX3_mapGreatest_14 n x1 (nI k) L = some (x1, L) := by
  intro d
  induction d with
  | zero =>
    intro n k x1 h1 h2
    obtain ⟨q9, rfl⟩ : ∃ q9, n = q9 + 1 := ⟨n - 1, by omega⟩
    obtain rfl : k = 26 := by omega
    rw [fX3_mapLeast_14, fX3_mapGreatest_14, if_pos (show (26 : Int32) ≤ nI 26 by decide), if_pos (show (26 : Int32) ≤ nI 26 by decide)]
    exact ⟨rfl, rfl⟩
  | succ d ih =>
    intro n k x1 h1 h2
    obtain ⟨q9, rfl⟩ : ∃ q9, n = q9 + 1 := ⟨n - 1, by omega⟩
    have hk : k < 26 := by omega
    rw [fX3_mapLeast_14, fX3_mapGreatest_14, if_neg (show ¬ (26 : Int32) ≤ nI k from nI_ge (b := 26) (by omega) (by omega)), if_neg (show ¬ (26 : Int32) ≤ nI k from nI_ge (b := 26) (by omega) (by omega)), c_mapped hC hA hL hm hk, zb_s, zb_s, nI_1, if_neg (hn k hk), i00, i00]
    exact ih q9 (k + 1) x1 (by omega) (by omega)
end MAPS
