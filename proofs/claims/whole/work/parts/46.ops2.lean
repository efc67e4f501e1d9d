/-! ===== calls that read ===== -/
theorem ne_lo {x : Int32} (h : x < 0) (k : Nat) (hk : k < 2 ^ 31) : (x = nI k) = False := eq_false (fun e => by rw [e] at h; exact nI_pos hk h)
theorem ne_hi {x : Int32} {n : Nat} (h : nI n < x) (k : Nat) (hk : k ≤ n) (hn : n < 2 ^ 31) : (x = nI k) = False := eq_false (fun e => by
  rw [e] at h
  exact absurd h (nI_nlt hk hn))
theorem nI_m1 {a : Nat} (h : 1 ≤ a) : nI a - 1 = nI (a - 1) := pk_sub (b := 1) h
section OPS2
variable {A : AS} {K : KS} {M : MS} {a : AB} {w i : Nat}
theorem sg_all (hA : AI a w) {f : Nat → Nat} (hz : ∀ o, a.1 6 0 ≤ o → o < 200 → f o = 0) : sg f 0 200 = sg f 0 (a.1 6 0) := sg_tail (f := f) (lo := 0) (e := a.1 6 0) (h := 200) (Nat.zero_le _) hA.2.1 hz
theorem rec_le (hA : AI a w) : sg (hb a) 0 (a.1 6 0) ≤ a.1 6 0 - a.1 5 0 := by
  have hb0 := hA.ble (k := 0) hA.2.2.1
  have h := sg_split (hb a) (o := 0) (m := a.1 5 0) (h := a.1 6 0) (Nat.zero_le _) hb0
  rw [sg_zero (a.1 5 0 - 0) 0 (fun i _ h2 => hA.hbS (by omega)), Nat.zero_add, Nat.sub_zero] at h
  have h2 := sg_le (f := hb a) (c := 1) (a.1 6 0 - a.1 5 0) (a.1 5 0) (fun i _ _ => hb_le a i)
  omega
theorem m_mapped200 (hi : i < 4) (hM : MR a (M.1 0) (i * 1274)) (hA : AI a w) {lim : Nat} (hl : lim < 2 ^ 31) : ∃ M', fX9_replays (nI i) (nI lim) M = some M' ∧ fX9_mapped (nI i) M' = some (nI (sg (mb a (min lim (a.1 6 0))) 0 26)) ∧ F5 M M' := by
  obtain ⟨M', e1, e2, e3⟩ := m_last hi hM hA hl rfl
  exact ⟨M', e1, m_msize hi (e2.MR hM) hA e3 (by omega), e2⟩
theorem s_of : S_of Rel := by
  intro a1 a2 K M h
  obtain ⟨A, hS, ht⟩ := h.1
  unfold fX8_of fX9_of
  rcases ck_log a1 with ⟨i, hi, rfl, e1, e2⟩ | ⟨e1, e2⟩
  · have hC := hS.c hi
    have hM := hS.m hi
    have hA := hS.ai hi
    have he := hA.2.1
    have hn := hA.2.2.1
    have hb0 := hA.ble (k := 0) hA.2.2.1
    rw [e1, e2, zb_s, zb_s, i10, i10, zi_ok hi (by omega), nI_clamp (by omega)]
    rcases rg a2 10 (by omega) with ⟨k, hk, rfl⟩ | hs | ⟨h0, hs, -, -, -⟩
    · have hin : fX9_in (nI k) 0 10 = some 1 := in_ok (n := 10) hk (by omega)
      rw [hin, zb_s, i10]
      have hk11 : k = 0 ∨ k = 1 ∨ k = 2 ∨ k = 3 ∨ k = 4 ∨ k = 5 ∨ k = 6 ∨ k = 7 ∨ k = 8 ∨ k = 9 ∨ k = 10 := by omega
      rcases hk11 with rfl | rfl | rfl | rfl | rfl | rfl | rfl | rfl | rfl | rfl | rfl
      · rw [if_pos (show nI 0 = (0 : Int32) from rfl), if_pos (show nI 0 = (0 : Int32) from rfl)]
        simp (disch := omega) only [nlit, zl_d, zb_s, zb2_s, nI_leI, nI_ltI, nI_eq, nI_add, nI_clamp, zi_ok, c_records hC hA, m_all hi hM hA]
        exact ⟨_, K, M, rfl, rfl, h, rfl⟩
      · rw [if_neg (show ¬ nI 1 = (0 : Int32) by decide), if_neg (show ¬ nI 1 = (0 : Int32) by decide), if_pos (show nI 1 = (1 : Int32) from rfl), if_pos (show nI 1 = (1 : Int32) from rfl)]
        simp (disch := omega) only [nlit, zl_d, zb_s, zb2_s, nI_leI, nI_ltI, nI_eq, nI_add, nI_clamp, zi_ok, c_start hC hA, m_base hi hM hA]
        exact ⟨_, K, M, rfl, rfl, h, rfl⟩
      · rw [if_neg (show ¬ nI 2 = (0 : Int32) by decide), if_neg (show ¬ nI 2 = (0 : Int32) by decide), if_neg (show ¬ nI 2 = (1 : Int32) by decide), if_neg (show ¬ nI 2 = (1 : Int32) by decide), if_pos (show nI 2 = (2 : Int32) from rfl), if_pos (show nI 2 = (2 : Int32) from rfl)]
        simp (disch := omega) only [nlit, zl_d, zb_s, zb2_s, nI_leI, nI_ltI, nI_eq, nI_add, nI_clamp, zi_ok, hC.2.2.1, m_end hi hM]
        exact ⟨_, K, M, rfl, rfl, h, rfl⟩
      · rw [if_neg (show ¬ nI 3 = (0 : Int32) by decide), if_neg (show ¬ nI 3 = (0 : Int32) by decide), if_neg (show ¬ nI 3 = (1 : Int32) by decide), if_neg (show ¬ nI 3 = (1 : Int32) by decide), if_neg (show ¬ nI 3 = (2 : Int32) by decide), if_neg (show ¬ nI 3 = (2 : Int32) by decide), if_pos (show nI 3 = (3 : Int32) from rfl), if_pos (show nI 3 = (3 : Int32) from rfl)]
        simp (disch := omega) only [nlit, zl_d, zb_s, zb2_s, nI_leI, nI_ltI, nI_eq, nI_add, nI_clamp, zi_ok, hC.2.2.2, m_parts hi hM]
        exact ⟨_, K, M, rfl, rfl, h, rfl⟩
      · rw [if_neg (show ¬ nI 4 = (0 : Int32) by decide), if_neg (show ¬ nI 4 = (0 : Int32) by decide), if_neg (show ¬ nI 4 = (1 : Int32) by decide), if_neg (show ¬ nI 4 = (1 : Int32) by decide), if_neg (show ¬ nI 4 = (2 : Int32) by decide), if_neg (show ¬ nI 4 = (2 : Int32) by decide), if_neg (show ¬ nI 4 = (3 : Int32) by decide), if_neg (show ¬ nI 4 = (3 : Int32) by decide), if_pos (show nI 4 = (4 : Int32) from rfl), if_pos (show nI 4 = (4 : Int32) from rfl)]
        simp (disch := omega) only [nlit, zl_d, zb_s, zb2_s, nI_leI, nI_ltI, nI_eq, nI_add, nI_clamp, zi_ok, hC.2.2.1, c_siz hC hA, m_weighs hi hM hA, Nat.sub_zero, sg_all hA (fun o h1 h2 => hA.wb0 h1 h2)]
        exact ⟨_, K, M, rfl, rfl, h, rfl⟩
      · rw [if_neg (show ¬ nI 5 = (0 : Int32) by decide), if_neg (show ¬ nI 5 = (0 : Int32) by decide), if_neg (show ¬ nI 5 = (1 : Int32) by decide), if_neg (show ¬ nI 5 = (1 : Int32) by decide), if_neg (show ¬ nI 5 = (2 : Int32) by decide), if_neg (show ¬ nI 5 = (2 : Int32) by decide), if_neg (show ¬ nI 5 = (3 : Int32) by decide), if_neg (show ¬ nI 5 = (3 : Int32) by decide), if_neg (show ¬ nI 5 = (4 : Int32) by decide), if_neg (show ¬ nI 5 = (4 : Int32) by decide), if_pos (show nI 5 = (5 : Int32) from rfl), if_pos (show nI 5 = (5 : Int32) from rfl)]
        have hr := rec_le hA
        simp (disch := omega) only [nlit, zl_d, zb_s, zb2_s, nI_leI, nI_ltI, nI_eq, nI_add, nI_clamp, zi_ok, hC.2.2.1, c_start hC hA, c_records hC hA, m_holes hi hM hA, pk_sub]
        exact ⟨_, K, M, rfl, rfl, h, rfl⟩
      · rw [if_neg (show ¬ nI 6 = (0 : Int32) by decide), if_neg (show ¬ nI 6 = (0 : Int32) by decide), if_neg (show ¬ nI 6 = (1 : Int32) by decide), if_neg (show ¬ nI 6 = (1 : Int32) by decide), if_neg (show ¬ nI 6 = (2 : Int32) by decide), if_neg (show ¬ nI 6 = (2 : Int32) by decide), if_neg (show ¬ nI 6 = (3 : Int32) by decide), if_neg (show ¬ nI 6 = (3 : Int32) by decide), if_neg (show ¬ nI 6 = (4 : Int32) by decide), if_neg (show ¬ nI 6 = (4 : Int32) by decide), if_neg (show ¬ nI 6 = (5 : Int32) by decide), if_neg (show ¬ nI 6 = (5 : Int32) by decide), if_pos (show nI 6 = (6 : Int32) from rfl), if_pos (show nI 6 = (6 : Int32) from rfl)]
        obtain ⟨L', c1, c2, c3⟩ := mapSize_eq hC hi hM hA (lim := (A.1 i).1 6 0) (m := (A.1 i).1 6 0) (by omega) (by omega)
        obtain ⟨M', d1, d2, d3⟩ := m_mapped200 hi hM hA (lim := 200) (by omega)
        rw [show min 200 ((A.1 i).1 6 0) = (A.1 i).1 6 0 by omega] at d2
        simp (disch := omega) only [nlit, zl_d, zb_s, zb2_s, nI_leI, nI_ltI, nI_eq, nI_add, nI_clamp, zi_ok, hC.2.2.1, c1, d1, d2]
        exact ⟨_, _, M', rfl, rfl, h.live ((hS.lst hi c2).cg (fun j hj => by rw [d3.1 0 (by omega)])) ht d3.oth, rfl⟩
      · rw [if_neg (show ¬ nI 7 = (0 : Int32) by decide), if_neg (show ¬ nI 7 = (0 : Int32) by decide), if_neg (show ¬ nI 7 = (1 : Int32) by decide), if_neg (show ¬ nI 7 = (1 : Int32) by decide), if_neg (show ¬ nI 7 = (2 : Int32) by decide), if_neg (show ¬ nI 7 = (2 : Int32) by decide), if_neg (show ¬ nI 7 = (3 : Int32) by decide), if_neg (show ¬ nI 7 = (3 : Int32) by decide), if_neg (show ¬ nI 7 = (4 : Int32) by decide), if_neg (show ¬ nI 7 = (4 : Int32) by decide), if_neg (show ¬ nI 7 = (5 : Int32) by decide), if_neg (show ¬ nI 7 = (5 : Int32) by decide), if_neg (show ¬ nI 7 = (6 : Int32) by decide), if_neg (show ¬ nI 7 = (6 : Int32) by decide), if_pos (show nI 7 = (7 : Int32) from rfl), if_pos (show nI 7 = (7 : Int32) from rfl)]
        have ho := (hS.1.2.1.1 i hi).2.1
        have ho2 := (hS.2.1.1 i hi).2.1
        have hl := (hS.2.2.1 i hi).2.2.1
        simp (disch := omega) only [nlit, zl_d, zb_s, zb2_s, nI_leI, nI_ltI, nI_eq, nI_add, nI_clamp, zi_ok, m_at, ho, ho2]
        unfold cd5 cd1
        by_cases q : A.2.1 1 i = 0
        · rw [if_pos q, if_pos q, if_neg (by decide)]
          exact ⟨_, K, M, rfl, rfl, h, rfl⟩
        · rw [if_neg q, if_neg q, if_pos (nI_le (Nat.zero_le _) (by omega))]
          exact ⟨_, K, M, rfl, rfl, h, rfl⟩
      · rw [if_neg (show ¬ nI 8 = (0 : Int32) by decide), if_neg (show ¬ nI 8 = (0 : Int32) by decide), if_neg (show ¬ nI 8 = (1 : Int32) by decide), if_neg (show ¬ nI 8 = (1 : Int32) by decide), if_neg (show ¬ nI 8 = (2 : Int32) by decide), if_neg (show ¬ nI 8 = (2 : Int32) by decide), if_neg (show ¬ nI 8 = (3 : Int32) by decide), if_neg (show ¬ nI 8 = (3 : Int32) by decide), if_neg (show ¬ nI 8 = (4 : Int32) by decide), if_neg (show ¬ nI 8 = (4 : Int32) by decide), if_neg (show ¬ nI 8 = (5 : Int32) by decide), if_neg (show ¬ nI 8 = (5 : Int32) by decide), if_neg (show ¬ nI 8 = (6 : Int32) by decide), if_neg (show ¬ nI 8 = (6 : Int32) by decide), if_neg (show ¬ nI 8 = (7 : Int32) by decide), if_neg (show ¬ nI 8 = (7 : Int32) by decide), if_pos (show nI 8 = (8 : Int32) from rfl), if_pos (show nI 8 = (8 : Int32) from rfl)]
        have ho := (hS.1.2.1.1 i hi).2.2
        have ho2 := (hS.2.1.1 i hi).2.2
        simp (disch := omega) only [nlit, zl_d, zb_s, zb2_s, nI_leI, nI_ltI, nI_eq, nI_add, nI_clamp, zi_ok, m_at, ho, ho2]
        exact ⟨_, K, M, rfl, rfl, h, rfl⟩
      · rw [if_neg (show ¬ nI 9 = (0 : Int32) by decide), if_neg (show ¬ nI 9 = (0 : Int32) by decide), if_neg (show ¬ nI 9 = (1 : Int32) by decide), if_neg (show ¬ nI 9 = (1 : Int32) by decide), if_neg (show ¬ nI 9 = (2 : Int32) by decide), if_neg (show ¬ nI 9 = (2 : Int32) by decide), if_neg (show ¬ nI 9 = (3 : Int32) by decide), if_neg (show ¬ nI 9 = (3 : Int32) by decide), if_neg (show ¬ nI 9 = (4 : Int32) by decide), if_neg (show ¬ nI 9 = (4 : Int32) by decide), if_neg (show ¬ nI 9 = (5 : Int32) by decide), if_neg (show ¬ nI 9 = (5 : Int32) by decide), if_neg (show ¬ nI 9 = (6 : Int32) by decide), if_neg (show ¬ nI 9 = (6 : Int32) by decide), if_neg (show ¬ nI 9 = (7 : Int32) by decide), if_neg (show ¬ nI 9 = (7 : Int32) by decide), if_neg (show ¬ nI 9 = (8 : Int32) by decide), if_neg (show ¬ nI 9 = (8 : Int32) by decide), if_pos (show nI 9 = (9 : Int32) from rfl), if_pos (show nI 9 = (9 : Int32) from rfl)]
        simp (disch := omega) only [nlit, zl_d, zb_s, zb2_s, nI_leI, nI_ltI, nI_eq, nI_add, nI_clamp, zi_ok, c_behind hC hA, m_behind hi hM hA]
        exact ⟨_, K, M, rfl, rfl, h, rfl⟩
      · rw [if_neg (show ¬ nI 10 = (0 : Int32) by decide), if_neg (show ¬ nI 10 = (0 : Int32) by decide), if_neg (show ¬ nI 10 = (1 : Int32) by decide), if_neg (show ¬ nI 10 = (1 : Int32) by decide), if_neg (show ¬ nI 10 = (2 : Int32) by decide), if_neg (show ¬ nI 10 = (2 : Int32) by decide), if_neg (show ¬ nI 10 = (3 : Int32) by decide), if_neg (show ¬ nI 10 = (3 : Int32) by decide), if_neg (show ¬ nI 10 = (4 : Int32) by decide), if_neg (show ¬ nI 10 = (4 : Int32) by decide), if_neg (show ¬ nI 10 = (5 : Int32) by decide), if_neg (show ¬ nI 10 = (5 : Int32) by decide), if_neg (show ¬ nI 10 = (6 : Int32) by decide), if_neg (show ¬ nI 10 = (6 : Int32) by decide), if_neg (show ¬ nI 10 = (7 : Int32) by decide), if_neg (show ¬ nI 10 = (7 : Int32) by decide), if_neg (show ¬ nI 10 = (8 : Int32) by decide), if_neg (show ¬ nI 10 = (8 : Int32) by decide), if_neg (show ¬ nI 10 = (9 : Int32) by decide), if_neg (show ¬ nI 10 = (9 : Int32) by decide), if_pos (show nI 10 = (10 : Int32) from rfl)]
        have hm := m_before hi hM hA (nI 200)
        have hc := c_before hC hA (nI ((A.1 i).1 6 0))
        rw [if_neg (nI_pos (by omega)), nI_clamp (by omega), dnx_min hA, show min (200 + 1) ((A.1 i).1 6 0) = (A.1 i).1 6 0 by omega] at hm
        rw [if_neg (nI_pos (by omega)), nI_clamp (by omega), dnx_min hA, show min ((A.1 i).1 6 0 + 1) ((A.1 i).1 6 0) = (A.1 i).1 6 0 by omega] at hc
        have e : (-nI 1 : Int32) = -1 := rfl
        simp (disch := omega) only [nlit, zl_d, zb_s, zb2_s, nI_leI, nI_ltI, nI_eq, nI_add, nI_clamp, zi_ok, hC.2.2.1, hc, e, hm]
        exact ⟨_, K, M, rfl, rfl, h, rfl⟩
    · rw [if_neg (show ¬ a2 = (0 : Int32) from fun e => by rw [e] at hs; exact absurd hs (by decide)), if_neg (show ¬ a2 = (1 : Int32) from fun e => by rw [e] at hs; exact absurd hs (by decide)), if_neg (show ¬ a2 = (2 : Int32) from fun e => by rw [e] at hs; exact absurd hs (by decide)), if_neg (show ¬ a2 = (3 : Int32) from fun e => by rw [e] at hs; exact absurd hs (by decide)), if_neg (show ¬ a2 = (4 : Int32) from fun e => by rw [e] at hs; exact absurd hs (by decide)), if_neg (show ¬ a2 = (5 : Int32) from fun e => by rw [e] at hs; exact absurd hs (by decide)), if_neg (show ¬ a2 = (6 : Int32) from fun e => by rw [e] at hs; exact absurd hs (by decide)), if_neg (show ¬ a2 = (7 : Int32) from fun e => by rw [e] at hs; exact absurd hs (by decide)), if_neg (show ¬ a2 = (8 : Int32) from fun e => by rw [e] at hs; exact absurd hs (by decide)), if_neg (show ¬ a2 = (9 : Int32) from fun e => by rw [e] at hs; exact absurd hs (by decide)), if_neg (show ¬ a2 = (10 : Int32) from fun e => by rw [e] at hs; exact absurd hs (by decide))]
      rw [in_lo hs, zb_s, i00]
      exact ⟨_, K, M, rfl, rfl, h, rfl⟩
    · rw [if_neg (show ¬ a2 = (0 : Int32) from fun e => by rw [e] at hs; exact absurd hs (by decide)), if_neg (show ¬ a2 = (1 : Int32) from fun e => by rw [e] at hs; exact absurd hs (by decide)), if_neg (show ¬ a2 = (2 : Int32) from fun e => by rw [e] at hs; exact absurd hs (by decide)), if_neg (show ¬ a2 = (3 : Int32) from fun e => by rw [e] at hs; exact absurd hs (by decide)), if_neg (show ¬ a2 = (4 : Int32) from fun e => by rw [e] at hs; exact absurd hs (by decide)), if_neg (show ¬ a2 = (5 : Int32) from fun e => by rw [e] at hs; exact absurd hs (by decide)), if_neg (show ¬ a2 = (6 : Int32) from fun e => by rw [e] at hs; exact absurd hs (by decide)), if_neg (show ¬ a2 = (7 : Int32) from fun e => by rw [e] at hs; exact absurd hs (by decide)), if_neg (show ¬ a2 = (8 : Int32) from fun e => by rw [e] at hs; exact absurd hs (by decide)), if_neg (show ¬ a2 = (9 : Int32) from fun e => by rw [e] at hs; exact absurd hs (by decide)), if_neg (show ¬ a2 = (10 : Int32) from fun e => by rw [e] at hs; exact absurd hs (by decide))]
      rw [in_hi (show (10 : Int32) < a2 from hs), zb_s, i00]
      exact ⟨_, K, M, rfl, rfl, h, rfl⟩
  · refine ⟨-1, K, M, ?_, ?_, h, rfl⟩
    · rw [e1, zb_s, i00]
    · rw [e2, zb_s, i00]
theorem s_record : S_record Rel := by
  intro a1 a2 a3 K M h
  obtain ⟨A, hS, ht⟩ := h.1
  unfold fX8_record fX9_record
  rcases ck_log a1 with ⟨i, hi, rfl, e1, e2⟩ | ⟨e1, e2⟩
  · have hC := hS.c hi
    have hM := hS.m hi
    have hA := hS.ai hi
    have he := hA.2.1
    rw [e1, e2, zb_s, zb_s, i10, i10, zi_ok hi (by omega), nI_clamp (by omega)]
    by_cases hx : a2 < 0
    · refine ⟨(-9223372036854775808 : Int64), ?_, ?_, h⟩
      · unfold fX3_has
        rw [if_pos hx, zb_s, i00]
      · unfold fX9_isThere
        rw [in_lo hx, zb_s, i00, zb_s, i00]
    · obtain ⟨o, ho, rfl⟩ := nI_of hx
      rw [c_has hC hA ho, m_there hi hM ho, zb_s, zb_s]
      by_cases hq : o < 200 ∧ (A.1 i).1 0 o ≠ 0
      · rw [if_pos hq, i10, i10, zi_ok hi (by omega)]
        obtain ⟨ho2, hne⟩ := hq
        obtain ⟨c0, c1, c2, c3, c4⟩ := hC.1 o ho2
        obtain ⟨m0, m1, m2, m3, m4, m5⟩ := hM.1 o ho2
        have m4 := m4 hne
        have hf := (hA.2.2.2.1 o ho2).1
        have h48 : ∀ (B : Option Int64), (if nI ((A.1 i).1 0 o - 1) = (1 : Int32) then fX9_record_48 M (nI i) (nI o) a3 (1 : Int32) else fX9_record_48 M (nI i) (nI o) a3 (0 : Int32)) = fX9_record_48 M (nI i) (nI o) a3 (if (A.1 i).1 0 o = 2 then (1 : Int32) else (0 : Int32)) := fun B => by
          by_cases q : (A.1 i).1 0 o = 2
          · rw [if_pos q, if_pos (by rw [q]; rfl)]
          · rw [if_neg q, if_neg (fun e => by have := (nI_eq (b := 1) (by omega) (by omega)).mp e; omega)]
        have hat : fX9_at (nI i) (nI 800 + nI o) M = some (nI ((A.1 i).1 0 o - 1)) := by
          rw [nI_add, m_at _ hi (by omega), m4]
        rcases rg a3 5 (by omega) with ⟨k, hk, rfl⟩ | hs | ⟨h0, hs, -, -, -⟩
        · have hin : fX9_in (nI k) 0 5 = some 1 := in_ok (n := 5) hk (by omega)
          rw [hin, zb_s, i10, show (800 : Int32) = nI 800 from rfl, hat, zb_s, h48 none]
          unfold fX9_record_48
          have hk6 : k = 0 ∨ k = 1 ∨ k = 2 ∨ k = 3 ∨ k = 4 ∨ k = 5 := by omega
          rcases hk6 with rfl | rfl | rfl | rfl | rfl | rfl
          · rw [if_pos (show nI 0 = (0 : Int32) from rfl), if_pos (show nI 0 = (0 : Int32) from rfl)]
            simp (disch := omega) only [nlit, zl_d, zb_s, zb2_s, nI_leI, nI_ltI, nI_eq, nI_add, nI_clamp, zi_ok, c1, m_at, m1]
            exact ⟨_, rfl, rfl, h⟩
          · rw [if_neg (show ¬ nI 1 = (0 : Int32) by decide), if_neg (show ¬ nI 1 = (0 : Int32) by decide), if_pos (show nI 1 = (1 : Int32) from rfl), if_pos (show nI 1 = (1 : Int32) from rfl)]
            simp (disch := omega) only [nlit, zl_d, zb_s, zb2_s, nI_leI, nI_ltI, nI_eq, nI_add, nI_clamp, zi_ok, c2, m_at, m2]
            exact ⟨_, rfl, rfl, h⟩
          · rw [if_neg (show ¬ nI 2 = (0 : Int32) by decide), if_neg (show ¬ nI 2 = (0 : Int32) by decide), if_neg (show ¬ nI 2 = (1 : Int32) by decide), if_neg (show ¬ nI 2 = (1 : Int32) by decide), if_pos (show nI 2 = (2 : Int32) from rfl), if_pos (show nI 2 = (2 : Int32) from rfl)]
            simp (disch := omega) only [nlit, zl_d, zb_s, zb2_s, nI_leI, nI_ltI, nI_eq, nI_add, nI_clamp, zi_ok, c3, m_at, m3]
            exact ⟨_, rfl, rfl, h⟩
          · rw [if_neg (show ¬ nI 3 = (0 : Int32) by decide), if_neg (show ¬ nI 3 = (0 : Int32) by decide), if_neg (show ¬ nI 3 = (1 : Int32) by decide), if_neg (show ¬ nI 3 = (1 : Int32) by decide), if_neg (show ¬ nI 3 = (2 : Int32) by decide), if_neg (show ¬ nI 3 = (2 : Int32) by decide), if_pos (show nI 3 = (3 : Int32) from rfl), if_pos (show nI 3 = (3 : Int32) from rfl)]
            simp (disch := omega) only [nlit, zl_d, zb_s, zb2_s, nI_leI, nI_ltI, nI_eq, nI_add, nI_clamp, zi_ok, c0]
            by_cases q : (A.1 i).1 0 o = 2
            · rw [if_pos q, if_pos q, if_neg (by decide)]
              exact ⟨_, rfl, rfl, h⟩
            · rw [if_neg q, if_neg q, if_pos rfl]
              exact ⟨_, rfl, rfl, h⟩
          · rw [if_neg (show ¬ nI 4 = (0 : Int32) by decide), if_neg (show ¬ nI 4 = (0 : Int32) by decide), if_neg (show ¬ nI 4 = (1 : Int32) by decide), if_neg (show ¬ nI 4 = (1 : Int32) by decide), if_neg (show ¬ nI 4 = (2 : Int32) by decide), if_neg (show ¬ nI 4 = (2 : Int32) by decide), if_neg (show ¬ nI 4 = (3 : Int32) by decide), if_neg (show ¬ nI 4 = (3 : Int32) by decide), if_pos (show nI 4 = (4 : Int32) from rfl), if_pos (show nI 4 = (4 : Int32) from rfl)]
            simp (disch := omega) only [nlit, zl_d, zb_s, zb2_s, nI_leI, nI_ltI, nI_eq, nI_add, nI_clamp, zi_ok, c0, c4, m_at, m5]
            by_cases q : (A.1 i).1 0 o = 2
            · rw [if_pos q, if_pos q, if_neg (by decide)]
              exact ⟨_, rfl, rfl, h⟩
            · rw [if_neg q, if_neg q, if_pos rfl]
              exact ⟨_, rfl, rfl, h⟩
          · rw [if_neg (show ¬ nI 5 = (0 : Int32) by decide), if_neg (show ¬ nI 5 = (0 : Int32) by decide), if_neg (show ¬ nI 5 = (1 : Int32) by decide), if_neg (show ¬ nI 5 = (1 : Int32) by decide), if_neg (show ¬ nI 5 = (2 : Int32) by decide), if_neg (show ¬ nI 5 = (2 : Int32) by decide), if_neg (show ¬ nI 5 = (3 : Int32) by decide), if_neg (show ¬ nI 5 = (3 : Int32) by decide), if_neg (show ¬ nI 5 = (4 : Int32) by decide), if_neg (show ¬ nI 5 = (4 : Int32) by decide), if_pos (show nI 5 = (5 : Int32) from rfl)]
            obtain ⟨r, r1, r2⟩ := segOf hC hi hM hA (nI o)
            simp (disch := omega) only [nlit, zl_d, zb_s, zb2_s, nI_leI, nI_ltI, nI_eq, nI_add, nI_clamp, zi_ok, r1, r2]
            exact ⟨_, rfl, rfl, h⟩
        · refine ⟨(-9223372036854775808 : Int64), ?_, ?_, h⟩
          rotate_left
          · rw [in_lo hs, zb_s, i00]
          · rw [if_neg (show ¬ a3 = (0 : Int32) from fun e => by rw [e] at hs; exact absurd hs (by decide)), if_neg (show ¬ a3 = (1 : Int32) from fun e => by rw [e] at hs; exact absurd hs (by decide)), if_neg (show ¬ a3 = (2 : Int32) from fun e => by rw [e] at hs; exact absurd hs (by decide)), if_neg (show ¬ a3 = (3 : Int32) from fun e => by rw [e] at hs; exact absurd hs (by decide)), if_neg (show ¬ a3 = (4 : Int32) from fun e => by rw [e] at hs; exact absurd hs (by decide)), if_neg (show ¬ a3 = (5 : Int32) from fun e => by rw [e] at hs; exact absurd hs (by decide))]
        · refine ⟨(-9223372036854775808 : Int64), ?_, ?_, h⟩
          rotate_left
          · rw [show (5 : Int32) = nI 5 from rfl, in_hi hs, zb_s, i00]
          · rw [if_neg (show ¬ a3 = (0 : Int32) from fun e => by rw [e] at hs; exact absurd hs (by decide)), if_neg (show ¬ a3 = (1 : Int32) from fun e => by rw [e] at hs; exact absurd hs (by decide)), if_neg (show ¬ a3 = (2 : Int32) from fun e => by rw [e] at hs; exact absurd hs (by decide)), if_neg (show ¬ a3 = (3 : Int32) from fun e => by rw [e] at hs; exact absurd hs (by decide)), if_neg (show ¬ a3 = (4 : Int32) from fun e => by rw [e] at hs; exact absurd hs (by decide)), if_neg (show ¬ a3 = (5 : Int32) from fun e => by rw [e] at hs; exact absurd hs (by decide))]
      · rw [if_neg hq, i00, i00]
        exact ⟨_, rfl, rfl, h⟩
  · refine ⟨(-9223372036854775808 : Int64), ?_, ?_, h⟩
    rotate_left
    · rw [e2, zb_s, i00]
    · rw [e1, zb_s, i00]
theorem s_segment : S_segment Rel := by
  intro a1 a2 a3 K M h
  obtain ⟨A, hS, ht⟩ := h.1
  unfold fX8_segment fX9_segment
  rcases ck_log a1 with ⟨i, hi, rfl, e1, e2⟩ | ⟨e1, e2⟩
  · have hC := hS.c hi
    have hM := hS.m hi
    have hA := hS.ai hi
    have he := hA.2.1
    have hfew := hA.few
    have hn := hA.2.2.1
    have hp := m_parts hi hM
    rw [e1, e2, zb_s, zb_s, i10, i10, show (1270 : Int32) = nI 1270 from rfl, hp, zb_s, nI_m1 hn]
    by_cases hx : a2 < 0
    · refine ⟨(-1 : Int32), ?_, ?_, h⟩
      rotate_left
      · rw [in_lo hx, zb_s, i00]
      · rw [if_pos hx]
    · obtain ⟨k, hk, rfl⟩ := nI_of hx
      rw [if_neg hx, zi_ok hi (by omega), nI_clamp (by omega : i < 2 ^ 31), hC.2.2.2]
      by_cases hq : k < (A.1 i).1 6 1
      · have hB := hC.2.1 k hq
        have hse := c_send hC hA hq
        have hbse := hA.bse hq
        have hsl := hA.sele (k := k)
        rw [in_ok (by omega) (by omega), zb_s, i10, if_pos (nI_lt hq (by omega)), zi_ok hi (by omega)]
        rcases rg a3 3 (by omega) with ⟨j, hj, rfl⟩ | hs | ⟨h0, hs, -, -, -⟩
        · have hin : fX9_in (nI j) 0 3 = some 1 := in_ok (n := 3) hj (by omega)
          rw [hin, zb_s, i10]
          have hj4 : j = 0 ∨ j = 1 ∨ j = 2 ∨ j = 3 := by omega
          rcases hj4 with rfl | rfl | rfl | rfl
          · rw [if_pos (show nI 0 = (0 : Int32) from rfl), if_pos (show nI 0 = (0 : Int32) from rfl)]
            simp (disch := omega) only [nlit, zl_d, zb_s, zb2_s, nI_leI, nI_ltI, nI_eq, nI_add, nI_clamp, zi_ok, hB, m_base hi hM hA]
            exact ⟨_, rfl, rfl, h⟩
          · rw [if_neg (show ¬ nI 1 = (0 : Int32) by decide), if_neg (show ¬ nI 1 = (0 : Int32) by decide), if_pos (show nI 1 = (1 : Int32) from rfl), if_pos (show nI 1 = (1 : Int32) from rfl)]
            simp (disch := omega) only [nlit, zl_d, zb_s, zb2_s, nI_leI, nI_ltI, nI_eq, nI_add, nI_clamp, zi_ok, hB, hse, c_rec hC hA, m_many hi hM hA]
            exact ⟨_, rfl, rfl, h⟩
          · rw [if_neg (show ¬ nI 2 = (0 : Int32) by decide), if_neg (show ¬ nI 2 = (0 : Int32) by decide), if_neg (show ¬ nI 2 = (1 : Int32) by decide), if_neg (show ¬ nI 2 = (1 : Int32) by decide), if_pos (show nI 2 = (2 : Int32) from rfl), if_pos (show nI 2 = (2 : Int32) from rfl)]
            simp (disch := omega) only [nlit, zl_d, zb_s, zb2_s, nI_leI, nI_ltI, nI_eq, nI_add, nI_clamp, zi_ok, hB, hse, c_siz hC hA, m_weightIn hi hM hA]
            exact ⟨_, rfl, rfl, h⟩
          · rw [if_neg (show ¬ nI 3 = (0 : Int32) by decide), if_neg (show ¬ nI 3 = (0 : Int32) by decide), if_neg (show ¬ nI 3 = (1 : Int32) by decide), if_neg (show ¬ nI 3 = (1 : Int32) by decide), if_neg (show ¬ nI 3 = (2 : Int32) by decide), if_neg (show ¬ nI 3 = (2 : Int32) by decide), if_pos (show nI 3 = (3 : Int32) from rfl)]
            have hcl := c_closed hC hA (k := k) (by omega)
            simp (disch := omega) only [nlit, zl_d, zb_s, zb2_s, nI_leI, nI_ltI, nI_eq, nI_add, nI_clamp, zi_ok, hcl]
            by_cases q : k + 1 < (A.1 i).1 6 1
            · rw [if_pos q, if_neg (by decide), if_neg (by omega)]
              exact ⟨_, rfl, rfl, h⟩
            · rw [if_neg q, if_pos rfl, if_pos (by omega)]
              exact ⟨_, rfl, rfl, h⟩
        · refine ⟨(-1 : Int32), ?_, ?_, h⟩
          rotate_left
          · rw [in_lo hs, zb_s, i00]
          · rw [if_neg (show ¬ a3 = (0 : Int32) from fun e => by rw [e] at hs; exact absurd hs (by decide)), if_neg (show ¬ a3 = (1 : Int32) from fun e => by rw [e] at hs; exact absurd hs (by decide)), if_neg (show ¬ a3 = (2 : Int32) from fun e => by rw [e] at hs; exact absurd hs (by decide)), if_neg (show ¬ a3 = (3 : Int32) from fun e => by rw [e] at hs; exact absurd hs (by decide))]
        · refine ⟨(-1 : Int32), ?_, ?_, h⟩
          rotate_left
          · rw [show (3 : Int32) = nI 3 from rfl, in_hi hs, zb_s, i00]
          · rw [if_neg (show ¬ a3 = (0 : Int32) from fun e => by rw [e] at hs; exact absurd hs (by decide)), if_neg (show ¬ a3 = (1 : Int32) from fun e => by rw [e] at hs; exact absurd hs (by decide)), if_neg (show ¬ a3 = (2 : Int32) from fun e => by rw [e] at hs; exact absurd hs (by decide)), if_neg (show ¬ a3 = (3 : Int32) from fun e => by rw [e] at hs; exact absurd hs (by decide))]
      · refine ⟨(-1 : Int32), ?_, ?_, h⟩
        rotate_left
        · rw [in_hi (nI_lt (by omega) (by omega)), zb_s, i00]
        · rw [if_neg (nI_nlt (by omega) (by omega))]
  · refine ⟨(-1 : Int32), ?_, ?_, h⟩
    rotate_left
    · rw [e2, zb_s, i00]
    · rw [e1, zb_s, i00]
theorem s_value : S_value Rel := by
  intro a1 a2 K M h
  obtain ⟨A, hS, ht⟩ := h.1
  unfold fX8_value fX9_value
  rcases ck_log a1 with ⟨i, hi, rfl, e1, e2⟩ | ⟨e1, e2⟩
  · have hC := hS.c hi
    have hM := hS.m hi
    have hA := hS.ai hi
    have he := hA.2.1
    rw [e1, e2, zb_s, zb_s, i10, i10]
    rcases ck_key a2 with ⟨key, hk, rfl, k1, k2⟩ | ⟨k1, k2⟩
    · obtain ⟨L', c1, c2⟩ := c_mval hC hA (lim := (A.1 i).1 6 0) (m := (A.1 i).1 6 0) (by omega) (by omega) hk
      obtain ⟨M', d1, d2⟩ := m_mval hi hM hA (lim := 200) (m := (A.1 i).1 6 0) (by omega) (by omega) hk
      rw [k1, k2, zb_s, zb_s, i10, i10, zi_ok hi (by omega), zi_ok hi (by omega), nI_clamp (by omega), hC.2.2.1, c1, zb2_s, zl_d, show (200 : Int32) = nI 200 from rfl, d1, zb2_s]
      exact ⟨_, _, M', rfl, rfl, h.live ((hS.lst hi c2).cg (fun j hj => by rw [d2.1 0 (by omega)])) ht d2.oth, rfl⟩
    · rw [k1, k2, zb_s, zb_s, i00, i00]
      exact ⟨_, K, M, rfl, rfl, h, rfl⟩
  · rw [e1, e2, zb_s, zb_s, i00, i00]
    exact ⟨_, K, M, rfl, rfl, h, rfl⟩
theorem s_replay : S_replay Rel := by
  intro a1 a2 a3 K M h
  obtain ⟨A, hS, ht⟩ := h.1
  unfold fX8_replay fX9_replay
  rcases ck_log a1 with ⟨i, hi, rfl, e1, e2⟩ | ⟨e1, e2⟩
  · have hC := hS.c hi
    have hM := hS.m hi
    have hA := hS.ai hi
    have he := hA.2.1
    rw [e1, e2, zb_s, zb_s, i10, i10, in_any]
    by_cases hx : a2 < 0
    · rw [if_neg (show ¬ 0 ≤ a2 from fun q => absurd hx (Int32.not_lt.mpr q)), if_neg (show ¬ 0 ≤ a2 from fun q => absurd hx (Int32.not_lt.mpr q)), zb_s, ite_self]
      exact ⟨_, K, M, rfl, rfl, h, rfl⟩
    · obtain ⟨o, ho, rfl⟩ := nI_of hx
      rw [if_pos (nI_pos' ho), if_pos (nI_pos' ho), zb_s]
      by_cases h1 : a3 = -1
      · subst h1
        obtain ⟨L', c1, c2, c3⟩ := mapSize_eq hC hi hM hA (lim := o) ho rfl
        obtain ⟨M', d1, d2, d3⟩ := m_mapped200 hi hM hA (lim := o) ho
        rw [if_pos rfl, if_pos (show (-1 : Int32) ≤ -1 ∧ (-1 : Int32) ≤ 25 by decide), i10, if_pos (show (-1 : Int32) < 0 by decide), zi_ok hi (by omega), nI_clamp (by omega), c1, d1, zb_s, d2, zb_s, zb2_s, zl_d]
        exact ⟨_, _, M', rfl, rfl, h.live ((hS.lst hi c2).cg (fun j hj => by rw [d3.1 0 (by omega)])) ht d3.oth, rfl⟩
      · rw [if_neg h1]
        rcases ck_key a3 with ⟨key, hk, rfl, k1, k2⟩ | ⟨k1, k2⟩
        · obtain ⟨L', c1, c2⟩ := c_mval hC hA (lim := o) ho rfl hk
          obtain ⟨M', d1, d2⟩ := m_mval hi hM hA (lim := o) ho rfl hk
          have hr : (-1 : Int32) ≤ nI key ∧ nI key ≤ 25 := ⟨Int32.le_trans (by decide) (nI_pos' (by omega)), nI_le (b := 25) (by omega) (by omega)⟩
          rw [k1, zb_s, i10, if_pos hr, i10, if_neg (nI_pos (by omega)), zi_ok hi (by omega), nI_clamp (by omega), c1, zb2_s, zl_d, d1, zb2_s]
          exact ⟨_, _, M', rfl, rfl, h.live ((hS.lst hi c2).cg (fun j hj => by rw [d2.1 0 (by omega)])) ht d2.oth, rfl⟩
        · have hr : ¬ ((-1 : Int32) ≤ a3 ∧ a3 ≤ 25) := fun q => by
            rw [in_any] at k2
            by_cases q0 : a3 < 0
            · have q1 := Int32.le_iff_toInt_le.mp q.1
              have q2 := Int32.lt_iff_toInt_lt.mp q0
              have q3 : (-1 : Int32).toInt = -1 := by decide
              have q4 : (0 : Int32).toInt = 0 := by decide
              exact h1 (Int32.toInt_inj.mp (by omega))
            · rw [if_pos ⟨Int32.not_lt.mp q0, q.2⟩] at k2
              exact absurd k2 (by decide)
          rw [k1, zb_s, i00, if_neg hr, i00]
          exact ⟨_, K, M, rfl, rfl, h, rfl⟩
  · rw [e1, e2, zb_s, zb_s, i00, i00]
    exact ⟨_, K, M, rfl, rfl, h, rfl⟩
theorem s_near : S_near Rel := by
  intro a1 a2 a3 K M h
  obtain ⟨A, hS, ht⟩ := h.1
  unfold fX8_near fX9_near
  rcases ck_log a1 with ⟨i, hi, rfl, e1, e2⟩ | ⟨e1, e2⟩
  · have hC := hS.c hi
    have hM := hS.m hi
    have hA := hS.ai hi
    rw [e1, e2, zb_s, zb_s, i10, i10]
    rcases rg a3 1 (by omega) with ⟨k, hk, rfl⟩ | hs | ⟨h0, hs, hs2, -, -⟩
    · rw [show (1 : Int32) = nI 1 from rfl, in_ok hk (by omega), zb_s, i10, if_neg (nI_pos (by omega)), if_pos (nI_le hk (by omega))]
      unfold fX9_near_28
      have hk2 : k = 0 ∨ k = 1 := by omega
      rcases hk2 with rfl | rfl
      · rw [if_pos (show nI 0 = (0 : Int32) from rfl), if_pos (show nI 0 = (0 : Int32) from rfl), zi_ok hi (by omega), nI_clamp (by omega), c_before hC hA, show (-nI 1 : Int32) = -1 from rfl, m_before hi hM hA, zb_s]
        exact ⟨_, rfl, rfl, h⟩
      · rw [if_neg (show ¬ nI 1 = (0 : Int32) by decide), if_neg (show ¬ nI 1 = (0 : Int32) by decide), zi_ok hi (by omega), nI_clamp (by omega), c_behind hC hA, m_behind hi hM hA, zb_s]
        exact ⟨_, rfl, rfl, h⟩
    · rw [in_lo hs, zb_s, i00, if_pos hs]
      exact ⟨_, rfl, rfl, h⟩
    · rw [show (1 : Int32) = nI 1 from rfl, in_hi hs, zb_s, i00, if_neg h0, if_neg hs2]
      exact ⟨_, rfl, rfl, h⟩
  · rw [e1, e2, zb_s, zb_s, i00, i00]
    exact ⟨_, rfl, rfl, h⟩
def FX0 (M M' : MS) : Prop := (∀ k, k ≠ 0 → M'.1 k = M.1 k) ∧ M'.2 = M.2
theorem Fm.x {M M' : MS} {b : Nat} (h : Fm M M' b) : FX0 M M' := ⟨h.1, h.2.1⟩
theorem FX0.rf {M : MS} : FX0 M M := ⟨fun _ _ => rfl, rfl⟩
theorem FX0.tr {M M1 M2 : MS} (h : FX0 M M1) (k : FX0 M1 M2) : FX0 M M2 := ⟨fun j hj => (k.1 j hj).trans (h.1 j hj), k.2.trans h.2⟩
theorem FX0.S {M : MS} {j : Nat} {v : Int32} : FX0 M (mS M j v) := ⟨fun _ hk => mS_k _ _ _ hk, rfl⟩
theorem FX0.oth {M M' : MS} (h : FX0 M M') : Oth M M' := ⟨h.1 2 (by omega), h.1 3 (by omega), h.1 7 (by omega), h.1 8 (by omega), h.1 9 (by omega), by rw [h.2], by rw [h.2], by rw [h.2], by rw [h.2]⟩
/-- the numbers put by -/
def Svd (M M1 : MS) : Prop := Oth M M1 ∧ ∀ j, j < 5140 → M1.1 1 j = M.1 0 j
theorem save (M : MS) : ∃ M1, fX9_copy 0 1 M = some M1 ∧ M1.1 0 = M.1 0 ∧ Svd M M1 := by
  obtain ⟨M1, e1, e2, e3, e4⟩ := m_copy 0 1 (by omega) M
  exact ⟨M1, e1, e3 0 (by omega), ⟨e3 2 (by omega), e3 3 (by omega), e3 7 (by omega), e3 8 (by omega), e3 9 (by omega), by rw [e2], by rw [e2], by rw [e2], by rw [e2]⟩, e4⟩
theorem back {M M1 M2 : MS} (h : Svd M M1) (hx : FX0 M1 M2) : ∃ M3, fX9_copy 1 0 M2 = some M3 ∧ Svd M M3 ∧ ∀ j, j < 5140 → M3.1 0 j = M.1 0 j := by
  obtain ⟨M3, e1, e2, e3, e4⟩ := m_copy 1 0 (by omega) M2
  have hx3 : FX0 M1 M3 := hx.tr ⟨e3, e2⟩
  refine ⟨M3, e1, ⟨h.1.tr hx3.oth, fun j hj => ?_⟩, fun j hj => ?_⟩
  · rw [hx3.1 1 (by omega)]
    exact h.2 j hj
  · rw [e4 j hj, hx.1 1 (by omega)]
    exact h.2 j hj
theorem s_would : S_would Rel := by
  intro a1 a2 K M h
  obtain ⟨A, hS, ht⟩ := h.1
  unfold fX8_would fX9_would
  rcases ck_log a1 with ⟨i, hi, rfl, e1, e2⟩ | ⟨e1, e2⟩
  · have hC := hS.c hi
    have hM := hS.m hi
    have hA := hS.ai hi
    have hb := hS.b
    rw [e1, e2, zb_s, zb_s, i10, i10]
    rcases rg a2 1 (by omega) with ⟨k, hk, rfl⟩ | hs | ⟨h0, hs, hs2, -, -⟩
    · obtain ⟨M1, s1, s2, s3⟩ := save M
      have hS1 : ST A K.1 (M1.1 0) := by rw [s2]; exact hS
      rw [show (1 : Int32) = nI 1 from rfl, in_ok hk (by omega), zb_s, i10, if_neg (nI_pos (by omega)), if_pos (nI_le hk (by omega)), s1, zb_s, zi_ok hi (by omega), nI_clamp (by omega : i < 2 ^ 31), hS.w.1, hS.w.2.1, hS.w.2.2.1, hS.w.2.2.2]
      unfold fX9_would_46
      have hk2 : k = 0 ∨ k = 1 := by omega
      rcases hk2 with rfl | rfl
      · obtain ⟨L', c1, c2⟩ := c_gone hA (gr := A.2.1 7 1) (by omega) hC
        obtain ⟨a', L2, M2, -, d2, -, -, -, d6, -⟩ := compacted_eq (gr := A.2.1 7 1) hi (hS1.c hi) (hS1.m hi) (hS1.ai hi) (by omega) hS1.g.1 hS1.g.2.1
        obtain ⟨M3, b1, b2, b3⟩ := back s3 d6.x
        rw [if_pos (by rfl), if_pos (by rfl), c1, d2, zb2_s, zb2_s, zl_d, b1, zb_s]
        exact ⟨_, _, M3, rfl, rfl, h.live ((hS.lst hi c2).cg b3) ht b2.1, rfl⟩
      · have c1 := c_goneR hC hA (ag := A.2.1 7 3) (kp := A.2.1 7 2) (by omega) (by omega)
        obtain ⟨M2, d1, d2, d3⟩ := m_ret (kp := A.2.1 7 2) (ag := A.2.1 7 3) hi (hS1.m hi) (hS1.ai hi) (by omega) (by omega) hS1.g.1 hS1.g.2.2.2 hS1.g.2.2.1
        obtain ⟨M3, b1, b2, b3⟩ := back s3 d3.x
        rw [if_neg (by decide), if_neg (by decide), c1, d1, zb2_s, zb_s, b1, zb_s]
        exact ⟨_, _, M3, rfl, rfl, h.same (hS.cg b3) ht b2.1, rfl⟩
    · rw [in_lo hs, zb_s, i00, if_pos hs]
      exact ⟨_, K, M, rfl, rfl, h, rfl⟩
    · rw [show (1 : Int32) = nI 1 from rfl, in_hi hs, zb_s, i00, if_neg h0, if_neg hs2]
      exact ⟨_, K, M, rfl, rfl, h, rfl⟩
  · rw [e1, e2, zb_s, zb_s, i00, i00]
    exact ⟨_, K, M, rfl, rfl, h, rfl⟩
end OPS2
