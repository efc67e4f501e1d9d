/-! ===== map ===== -/
theorem mp_some {a : AB} {m : Nat} (h : sg (mb a m) 0 26 ≠ 0) : ∃ j, j < 26 ∧ mpd a m j = true := by
  refine Classical.byContradiction fun hn => h (mb_some 26 0 fun j _ h2 q => hn ⟨j, by omega, q⟩)
theorem s_map : S_map Rel := by
  intro a1 a2 K M h
  obtain ⟨A, hS, ht⟩ := h.1
  unfold fX8_map fX9_map
  rcases ck_log a1 with ⟨i, hi, rfl, e1, e2⟩ | ⟨e1, e2⟩
  · have hC := hS.c hi
    have hM := hS.m hi
    have hA := hS.ai hi
    have he := hA.2.1
    obtain ⟨a, ha⟩ : ∃ a, a = A.1 i := ⟨_, rfl⟩
    rw [← ha] at hC hM hA he
    rw [e1, e2, zb_s, zb_s, i10, i10, zi_ok hi (by omega), nI_clamp (by omega)]
    by_cases hs : a2 < 0
    · rw [in_lo hs, zb_s, i00]
      rw [if_neg (show ¬ a2 = (0 : Int32) from fun e => by rw [e] at hs; exact absurd hs (by decide)), if_neg (show ¬ a2 = (1 : Int32) from fun e => by rw [e] at hs; exact absurd hs (by decide)), if_neg (show ¬ a2 = (2 : Int32) from fun e => by rw [e] at hs; exact absurd hs (by decide)), if_neg (show ¬ a2 = (3 : Int32) from fun e => by rw [e] at hs; exact absurd hs (by decide)), if_neg (show ¬ a2 = (4 : Int32) from fun e => by rw [e] at hs; exact absurd hs (by decide))]
      exact ⟨_, K, M, rfl, rfl, h, rfl⟩
    · obtain ⟨k, hk, rfl⟩ := nI_of hs
      by_cases hk4 : k ≤ 4
      · have hin : fX9_in (nI k) 0 4 = some 1 := in_ok (n := 4) hk4 (by omega)
        obtain ⟨L', c1, c2, c3⟩ := c_last hC hA (lim := a.1 6 0) (m := a.1 6 0) (by omega) (by omega)
        obtain ⟨M', d1, d2, d3⟩ := m_last hi hM hA (lim := 200) (m := a.1 6 0) (by omega) (by omega)
        have hM' := d2.MR hM
        have hn := m_msize hi hM' hA d3 (Nat.le_refl _)
        have hcap := mb_cap (a := a) (m := a.1 6 0) 26 0
        have hno : sg (mb a (a.1 6 0)) 0 26 = 0 → ∀ j, j < 26 → ¬ mpd a (a.1 6 0) j = true := fun q j hj => mb_none 26 0 q j (by omega) (by omega)
        have hrel : ∀ L2, CR a L2 → Rel (kLv K (sLg K.1 i L2)) M' := fun L2 hc => h.live ((hS.lst hi (by rw [← ha]; exact hc)).cg (fun j hj => by rw [d2.1 0 (by omega)])) ht d2.oth
        have d1' : fX9_replays (nI i) 200 M = some M' := d1
        rw [hin, zb_s, i10, d1', zb_s, hn, zb_s]
        obtain ⟨cnt, hcnt⟩ : ∃ cnt, cnt = sg (mb a (a.1 6 0)) 0 26 := ⟨_, rfl⟩
        rw [← hcnt] at hn hcap hno ⊢
        have hms : fX3_mapSize ((K.1.1 i).2 0) (K.1.1 i) = some (nI cnt, L') := by
          unfold fX3_mapSize
          rw [hC.2.2.1, c1, zb_s, show (0 : Int32) = nI 0 from rfl, c_msize_l c2 hA c3 (Nat.le_refl _) 26 FU 0 0 (by omega) (fu_lt (by omega)) (by omega), Nat.zero_add, hcnt]
        have hk5 : k = 0 ∨ k = 1 ∨ k = 2 ∨ k = 3 ∨ k = 4 := by omega
        rcases hk5 with rfl | rfl | rfl | rfl | rfl
        · rw [if_pos (show nI 0 = (0 : Int32) from rfl), if_pos (show nI 0 = (0 : Int32) from rfl), hms, zb2_s, zl_d]
          exact ⟨_, _, M', rfl, rfl, hrel L' c2, rfl⟩
        · obtain ⟨r, r1, r2⟩ := sim_sum c2 hA c3 (Nat.le_refl _) hi hM' d3 (x3 := nI cnt) 26 FU FU 0 0 0 0 0 0 (by omega) (fu_lt (by omega)) (fu_lt (by omega)) ⟨GF_z, Or.inl ⟨rfl, rfl⟩⟩
          have r1' : fX3_mapSum_12 FU 0 0 L' = some (r, L') := r1
          have r2' : fX9_map_54 (nI i) (nI 1) (nI cnt) M' = some (r.toInt64, M') := r2
          rw [if_neg (show ¬ nI 1 = (0 : Int32) by decide), if_neg (show ¬ nI 1 = (0 : Int32) by decide), if_pos (show nI 1 = (1 : Int32) from rfl), if_pos (show nI 1 ≤ (1 : Int32) by decide), r2', ite_self]
          unfold fX3_mapSum
          rw [hC.2.2.1, c1, zb_s, r1', zb2_s, zl_d]
          exact ⟨_, _, M', rfl, rfl, hrel L' c2, rfl⟩
        · rw [if_neg (show ¬ nI 2 = (0 : Int32) by decide), if_neg (show ¬ nI 2 = (0 : Int32) by decide), if_neg (show ¬ nI 2 = (1 : Int32) by decide), if_pos (show nI 2 = (2 : Int32) from rfl), if_neg (show ¬ nI 2 ≤ (1 : Int32) by decide)]
          unfold fX3_mapLeast
          rw [hC.2.2.1, c1, zb_s, zl_d]
          by_cases h0 : cnt = 0
          · have q1 : fX3_mapLeast_14 FU (-9223372036854775808) 0 L' = some (-9223372036854775808, L') := (least_none c2 hA c3 (Nat.le_refl _) (hno h0) 26 FU 0 _ (by omega) (fu_lt (by omega))).1
            rw [if_pos (show nI cnt = 0 from (nI_eq0 (by omega)).mpr h0), q1, zb2_s, zl_d]
            exact ⟨_, _, M', rfl, rfl, hrel L' c2, rfl⟩
          · obtain ⟨r, r1, r2⟩ := sim_lea c2 hA c3 (Nat.le_refl _) hi hM' d3 (x3 := nI cnt) (mp_some (by rw [← hcnt]; exact h0)) 26 FU FU 0 (-9223372036854775808) 0 0 0 0 (by omega) (fu_lt (by omega)) (fu_lt (by omega)) (Or.inl ⟨rfl, rfl, fun j hj => absurd hj (by omega)⟩)
            have r1' : fX3_mapLeast_14 FU (-9223372036854775808) 0 L' = some (r, L') := r1
            have r2' : fX9_map_54 (nI i) (nI 2) (nI cnt) M' = some (r, M') := r2
            rw [if_neg (show ¬ nI cnt = 0 from fun q => h0 ((nI_eq0 (by omega)).mp q)), r1', r2', zb2_s, zl_d]
            exact ⟨_, _, M', rfl, rfl, hrel L' c2, rfl⟩
        · rw [if_neg (show ¬ nI 3 = (0 : Int32) by decide), if_neg (show ¬ nI 3 = (0 : Int32) by decide), if_neg (show ¬ nI 3 = (1 : Int32) by decide), if_neg (show ¬ nI 3 = (2 : Int32) by decide), if_pos (show nI 3 = (3 : Int32) from rfl), if_neg (show ¬ nI 3 ≤ (1 : Int32) by decide)]
          unfold fX3_mapGreatest
          rw [hC.2.2.1, c1, zb_s, zl_d]
          by_cases h0 : cnt = 0
          · have q1 : fX3_mapGreatest_14 FU (-9223372036854775808) 0 L' = some (-9223372036854775808, L') := (least_none c2 hA c3 (Nat.le_refl _) (hno h0) 26 FU 0 _ (by omega) (fu_lt (by omega))).2
            rw [if_pos (show nI cnt = 0 from (nI_eq0 (by omega)).mpr h0), q1, zb2_s, zl_d]
            exact ⟨_, _, M', rfl, rfl, hrel L' c2, rfl⟩
          · obtain ⟨r, r1, r2⟩ := sim_gre c2 hA c3 (Nat.le_refl _) hi hM' d3 (x3 := nI cnt) (mp_some (by rw [← hcnt]; exact h0)) 26 FU FU 0 (-9223372036854775808) 0 0 0 0 (by omega) (fu_lt (by omega)) (fu_lt (by omega)) (Or.inl ⟨rfl, rfl, fun j hj => absurd hj (by omega)⟩)
            have r1' : fX3_mapGreatest_14 FU (-9223372036854775808) 0 L' = some (r, L') := r1
            have r2' : fX9_map_54 (nI i) (nI 3) (nI cnt) M' = some (r, M') := r2
            rw [if_neg (show ¬ nI cnt = 0 from fun q => h0 ((nI_eq0 (by omega)).mp q)), r1', r2', zb2_s, zl_d]
            exact ⟨_, _, M', rfl, rfl, hrel L' c2, rfl⟩
        · rw [if_neg (show ¬ nI 4 = (0 : Int32) by decide), if_neg (show ¬ nI 4 = (0 : Int32) by decide), if_neg (show ¬ nI 4 = (1 : Int32) by decide), if_neg (show ¬ nI 4 = (2 : Int32) by decide), if_neg (show ¬ nI 4 = (3 : Int32) by decide), if_pos (show nI 4 = (4 : Int32) from rfl), if_neg (show ¬ nI 4 ≤ (1 : Int32) by decide)]
          unfold fX3_mapMean
          rw [hms, zb2_s, c_odd c2 hA c3 (Nat.le_refl _), zb_s]
          by_cases h0 : cnt = 0
          · rw [od_none 26 (hno h0), i00, if_pos (show nI cnt = 0 from (nI_eq0 (by omega)).mpr h0), if_pos (show nI cnt = 0 from (nI_eq0 (by omega)).mpr h0)]
            unfold fX3_mapMean_22
            rw [i00, zb2_s, zl_d]
            exact ⟨_, _, M', rfl, rfl, hrel L' c2, rfl⟩
          · obtain ⟨r, r1, r2, r3⟩ := sim_mean c2 hA c3 (Nat.le_refl _) hi hM' d3 (nn := cnt) (by omega) (by omega) 26 FU FU 0 0 0 0 0 0 (by omega) (fu_lt (by omega)) (fu_lt (by omega)) ⟨GD_z, Or.inl ⟨rfl, rfl⟩⟩
            have r3' : fX9_map_54 (nI i) (nI 4) (nI cnt) M' = some (r, M') := r3
            rw [if_neg (show ¬ nI cnt = 0 from fun q => h0 ((nI_eq0 (by omega)).mp q)), if_neg (show ¬ nI cnt = 0 from fun q => h0 ((nI_eq0 (by omega)).mp q)), r3']
            by_cases ho : od a (a.1 6 0) 26 = 0
            · have r1' : fX3_mapMean_42 (nI cnt) FU 0 0 L' = some (r, L') := r1 ho
              rw [if_pos ho, r1', zb2_s, zl_d]
              exact ⟨_, _, M', rfl, rfl, hrel L' c2, rfl⟩
            · rw [if_neg ho]
              unfold fX3_mapMean_22
              rw [if_neg ho, r2 ho, zb_s, zb2_s, zl_d]
              exact ⟨_, _, M', rfl, rfl, hrel L' c2, rfl⟩
      · rw [in_hi (show (4 : Int32) < nI k from nI_lt (a := 4) (by omega) (by omega)), zb_s, i00]
        have hne : ∀ j, j ≤ 4 → ¬ nI k = nI j := fun j hj q => by
          have := (nI_eq (by omega) (by omega)).mp q
          omega
        rw [if_neg (show ¬ nI k = (0 : Int32) from hne 0 (by omega)), if_neg (show ¬ nI k = (1 : Int32) from hne 1 (by omega)), if_neg (show ¬ nI k = (2 : Int32) from hne 2 (by omega)), if_neg (show ¬ nI k = (3 : Int32) from hne 3 (by omega)), if_neg (show ¬ nI k = (4 : Int32) from hne 4 (by omega))]
        exact ⟨_, K, M, rfl, rfl, h, rfl⟩
  · rw [e1, e2, zb_s, zb_s, i00, i00]
    exact ⟨_, K, M, rfl, rfl, h, rfl⟩
