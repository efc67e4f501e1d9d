/-! ===== calls on records ===== -/
theorem VAL0 : VAL 0 := ⟨0, 1, by decide +kernel⟩
section OPS1
variable {A : AS} {K : KS} {M : MS}
theorem rc_eq (h : ST A K.1 (M.1 0)) {form : Nat} (hf : form = 1 ∨ form = 2) {bits : Int32} (hv : VAL bits) (a1 a2 a5 : Int32) :
    (∃ r, r < 0 ∧ ¬ r = 0 ∧ fX8_recordComes a1 a2 (nI form) bits a5 K = some (r, K) ∧ fX9_noRecord a1 a2 a5 M = some r) ∨
    (∃ (i : Nat) (A' : AS) (S' : SS) (M' : MS), i < 4 ∧ a1 = nI i ∧ (A.1 i).1 6 0 < 200 ∧ fX8_recordComes a1 a2 (nI form) bits a5 K = some (nI ((A.1 i).1 6 0), kLv K S') ∧ fX9_noRecord a1 a2 a5 M = some 0 ∧ fX9_comes a1 a2 bits (nI (form - 1)) a5 M = some (nI ((A.1 i).1 6 0), M') ∧ ST A' S' (M'.1 0) ∧ Fm M M' (i * 1274) ∧ A'.2 = A.2) := by
  unfold fX8_recordComes fX9_noRecord
  rcases ck_log a1 with ⟨i, hi, rfl, e1, e2⟩ | ⟨e1, e2⟩
  · rw [e1, e2, zb_s, zb_s, i10, i10]
    rcases ck_key a2 with ⟨key, hk, rfl, k1, k2⟩ | ⟨k1, k2⟩
    · rw [k1, k2, zb_s, zb_s, i10, i10]
      have hbad : ∀ (x : Int32), (x < 1 ∨ ¬ x ≤ 9) → fX9_in x 1 9 = some 0 := fun x hx => by
        rw [in_any, if_neg (fun q => by
          rcases hx with hx | hx
          · exact absurd hx (Int32.not_lt.mpr q.1)
          · exact hx q.2)]
      rcases rg a5 9 (by omega) with ⟨size, hs, rfl⟩ | hs | ⟨-, hs, hs2, -, -⟩
      · by_cases h1 : size = 0
        · left
          refine ⟨-2, by decide, by decide, ?_, ?_⟩
          · rw [if_pos (by rw [h1]; decide)]
          · rw [hbad _ (Or.inl (by rw [h1]; decide)), zb_s, i00]
        · have hC := h.c hi
          have hM := h.m hi
          have hA := h.ai hi
          have he := hA.2.1
          have hin : fX9_in (nI size) 1 9 = some 1 := by
            rw [in_any]
            simp (disch := omega) only [nlit, zl_d, zb_s, zb2_s, nI_leI, nI_ltI, nI_eq, nI_add, nI_clamp, zi_ok, in_any, if_pos, if_neg]
          rw [hin, zb_s, i10]
          have hz : ∀ (α : Type) (x y : Option α), (if nI size < 1 then x else if nI size ≤ 9 then y else x) = y := fun α x y => by
            simp (disch := omega) only [nlit, zl_d, zb_s, zb2_s, nI_leI, nI_ltI, nI_eq, nI_add, nI_clamp, zi_ok, in_any, if_pos, if_neg]
          have hE : fX3_isFull (K.1.1 i) = some (if (A.1 i).1 6 0 < 200 then 0 else 1) := by
            unfold fX3_isFull
            rw [hC.2.2.1]
            by_cases q : (A.1 i).1 6 0 < 200
            · simp (disch := omega) only [nlit, zl_d, zb_s, zb2_s, nI_leI, nI_ltI, nI_eq, nI_add, nI_clamp, zi_ok, in_any, if_pos, if_neg]
            · simp (disch := omega) only [nlit, zl_d, zb_s, zb2_s, nI_leI, nI_ltI, nI_eq, nI_add, nI_clamp, zi_ok, in_any, if_pos, if_neg]
          rw [hz, zi_ok hi (by omega), nI_clamp (by omega), hE, zb_s]
          have hme := m_end hi hM
          rw [show (1271 : Int32) = nI 1271 from rfl, hme, zb_s]
          by_cases hl : (A.1 i).1 6 0 < 200
          · right
            obtain ⟨L', c1, c2⟩ := c_app hC hA hl hf hk ⟨by omega, hs⟩ hv
            obtain ⟨M', m1, m2, m3⟩ := m_comes hi hM hA h.g.1 hl hf hk ⟨by omega, hs⟩ hv
            refine ⟨i, _, sLg K.1 i L', M', hi, rfl, hl, ?_, ?_, m1, h.log hi c2 m2 (apA_I hA hl hf hk ⟨by omega, hs⟩ hv) m3 ?_, m3, rfl⟩
            · rw [if_pos hl, if_pos rfl, h.w.1, c1, zb2_s, zl_d]
            · rw [if_neg]
              rw [show (200 : Int32) = nI 200 from rfl, nI_eq (by omega) (by omega)]
              omega
            · unfold apA
              split
              · rw [cls_e, ap0_e]; omega
              · rw [ap0_e]; omega
          · left
            refine ⟨-4, by decide, by decide, ?_, ?_⟩
            · rw [if_neg hl, if_neg (by decide)]
            · rw [if_pos]
              rw [show (200 : Int32) = nI 200 from rfl, nI_eq (by omega) (by omega)]
              omega
      · left
        refine ⟨-2, by decide, by decide, ?_, ?_⟩
        · rw [if_pos (Int32.lt_trans hs (by decide))]
        · rw [hbad _ (Or.inl (Int32.lt_trans hs (by decide))), zb_s, i00]
      · left
        refine ⟨-2, by decide, by decide, ?_, ?_⟩
        · rw [if_neg (fun q => absurd (Int32.lt_trans hs q) (by decide)), if_neg (show ¬ a5 ≤ 9 from hs2)]
        · rw [hbad _ (Or.inr hs2), zb_s, i00]
    · left
      refine ⟨-1, by decide, by decide, ?_, ?_⟩
      · rw [k1, zb_s, i00]
      · rw [k2, zb_s, i00]
  · left
    refine ⟨-1, by decide, by decide, ?_, ?_⟩
    · rw [e1, zb_s, i00]
    · rw [e2, zb_s, i00]
theorem s_put (hq : ∀ x y : Int32, ∃ v, fX0_quotient x y = some v ∧ fX9_valueOf x y = some v) : S_put Rel := by
  intro a1 a2 a3 a4 a5 K M h
  obtain ⟨A, hS, ht⟩ := h.1
  obtain ⟨v, v1, v2⟩ := hq a3 a4
  unfold fX8_put fX9_put
  rw [v1, v2, zb_s]
  rcases rc_eq hS (form := 1) (Or.inl rfl) (bits := v) ⟨_, _, v1⟩ a1 a2 a5 with ⟨r, r0, r1, e1, e2⟩ | ⟨i, A', S', M', hi, rfl, hl, e1, e2, e3, e4, e5, e6⟩
  · refine ⟨r, K, M, ?_, ?_, h, rfl⟩
    · rw [show (1 : Int32) = nI 1 from rfl, e1, zb2_s]
    · rw [e2, zb_s, if_neg r1]
  · refine ⟨nI ((A.1 i).1 6 0), kLv K S', M', ?_, ?_, h.live e4 (by rw [e6]; exact ht) e5.oth, rfl⟩
    · rw [show (1 : Int32) = nI 1 from rfl, e1, zb2_s]
    · rw [e2, zb_s, i00, zb_s, show (0 : Int32) = nI (1 - 1) from rfl, e3, zb2_s]
theorem s_tomb : S_tomb Rel := by
  intro a1 a2 a3 K M h
  obtain ⟨A, hS, ht⟩ := h.1
  unfold fX8_tomb fX9_tomb
  rcases rc_eq hS (form := 2) (Or.inr rfl) VAL0 a1 a2 a3 with ⟨r, r0, r1, e1, e2⟩ | ⟨i, A', S', M', hi, rfl, hl, e1, e2, e3, e4, e5, e6⟩
  · refine ⟨r, K, M, ?_, ?_, h, rfl⟩
    · rw [show (2 : Int32) = nI 2 from rfl, e1, zb2_s]
    · rw [e2, zb_s, if_neg r1]
  · refine ⟨nI ((A.1 i).1 6 0), kLv K S', M', ?_, ?_, h.live e4 (by rw [e6]; exact ht) e5.oth, rfl⟩
    · rw [show (2 : Int32) = nI 2 from rfl, e1, zb2_s]
    · rw [e2, zb_s, i00, show (1 : Int32) = nI (2 - 1) from rfl, e3, zb2_s]
/-- a number of the store set on both sides -/
theorem ST.num {S : SS} {M : MS} (h : ST A S (M.1 0)) {j v : Nat} (hj : j < 4) (hw : j = 0 → A.2.1 7 0 ≤ v ∧ v < 100000) (h1 : j = 1 → v ≤ 99) (h2 : j = 2 → v ≤ 999) (h3 : j = 3 → v ≤ 999) : ST (aN A 7 j v) (sTm S j (nI v)) ((mS M (5096 + j) (nI v)).1 0) := by
  obtain ⟨⟨c1, c2, c3, c4, c5⟩, ⟨m1, m2, m3, m4, m5, m6, m7, m8⟩, ⟨s1, s2, s3, s4, s5, s6, s7, s8⟩⟩ := h
  have e0 : ∀ k i, k ≠ 7 → (aN A 7 j v).2.1 k i = A.2.1 k i := fun k i hk => aN_n (by omega)
  have e4 : (aN A 7 j v).2.1 7 4 = A.2.1 7 4 := aN_n (by omega)
  have e5 : (aN A 7 j v).2.1 7 5 = A.2.1 7 5 := aN_n (by omega)
  have ef : ∀ k, k ≠ 7 → (aN A 7 j v).2.1 k = A.2.1 k := fun k hk => funext fun i => e0 k i hk
  refine ⟨⟨c1, ?_, ?_, ?_, fun i hi => ?_⟩, ⟨fun i hi => ⟨?_, ?_, ?_⟩, fun i hi => ?_, ?_, ?_, ?_, fun k hk => ?_, ?_, fun k hk => ?_⟩, ⟨fun i hi => ?_, ?_, ?_, ?_, ?_, ?_, fun k hk => ?_, fun k hk => ?_⟩⟩
  · exact ⟨fun m hm => by rw [e0 0 m (by omega), e0 1 m (by omega), e0 2 m (by omega)]; exact c2.1 m hm, c2.2⟩
  · rw [ef 3 (by omega), ef 4 (by omega), e4]; exact c3
  · rw [ef 5 (by omega), ef 6 (by omega), e5]; exact c4
  · show va_up S.2.2.2.2 j (nI v) i = _
    by_cases e : i = j
    · rw [up_s e, aN_s ⟨rfl, e⟩]
    · rw [up_n e, aN_n (by omega)]; exact c5 i hi
  · exact (m1 i hi).1.cg (s1 i hi).1 (fun x hx => by rw [mS_g, upd_n (by omega)])
  · rw [mS_g, upd_n (by omega), e0 1 i (by omega)]; exact (m1 i hi).2.1
  · rw [mS_g, upd_n (by omega), e0 2 i (by omega)]; exact (m1 i hi).2.2
  · rw [mS_g]
    by_cases e : i = j
    · rw [upd_s (by omega), aN_s ⟨rfl, e⟩]
    · rw [upd_n (by omega), aN_n (by omega)]; exact m2 i hi
  · rw [mS_g, upd_n (by omega)]; exact m3
  · rw [mS_g, upd_n (by omega)]
    unfold imk
    rw [ef 0 (by omega)]
    exact m4
  · rw [mS_g, upd_n (by omega), e4]; exact m5
  · rw [e4] at hk
    rw [mS_g, upd_n (by omega), upd_n (by omega), ef 3 (by omega), ef 4 (by omega)]; exact m6 k hk
  · rw [mS_g, upd_n (by omega), e5]; exact m7
  · rw [e5] at hk
    rw [mS_g, upd_n (by omega), upd_n (by omega), ef 5 (by omega), ef 6 (by omega)]; exact m8 k hk
  · obtain ⟨q1, q2, q3, q4, q5⟩ := s1 i hi
    refine ⟨?_, ?_, ?_, ?_, ?_⟩
    · show AI (A.1 i) _
      by_cases e : j = 0
      · rw [aN_s ⟨rfl, e.symm⟩]
        obtain ⟨i1, i2, i3, i4, i5⟩ := q1
        exact ⟨(hw e).2, i2, i3, fun o ho => by
          obtain ⟨j1, j2, j3, j4⟩ := i4 o ho
          exact ⟨j1, j2, by have := (hw e).1; omega, j4⟩, i5⟩
      · rw [aN_n (by omega)]; exact q1
    · rw [ef 0 (by omega)]; exact q2
    · rw [ef 1 (by omega)]; exact q3
    · rw [ef 1 (by omega), ef 0 (by omega)]; exact q4
    · rw [ef 2 (by omega)]; exact q5
  · by_cases e : j = 1
    · rw [aN_s ⟨rfl, e.symm⟩]; exact h1 e
    · rw [aN_n (by omega)]; exact s2
  · by_cases e : j = 2
    · rw [aN_s ⟨rfl, e.symm⟩]; exact h2 e
    · rw [aN_n (by omega)]; exact s3
  · by_cases e : j = 3
    · rw [aN_s ⟨rfl, e.symm⟩]; exact h3 e
    · rw [aN_n (by omega)]; exact s4
  · rw [e4]; exact s5
  · rw [e5]; exact s6
  · rw [e4] at hk
    rw [ef 3 (by omega), ef 4 (by omega)]; exact s7 k hk
  · rw [e5] at hk
    rw [ef 5 (by omega), ef 6 (by omega)]; exact s8 k hk
theorem s_tick : S_tick Rel := by
  intro a1 K M h
  obtain ⟨A, hS, ht⟩ := h.1
  have hw := hS.w.1
  have hg := hS.g.1
  unfold fX8_tick fX9_tick
  rcases rg a1 99 (by omega) with ⟨k, hk, rfl⟩ | hs | ⟨h0, hs, hs2, -, -⟩
  · rw [show (99 : Int32) = nI 99 from rfl, in_ok hk (by omega), zb_s, i10, hw, if_neg (nI_pos (by omega)), if_pos (nI_le hk (by omega))]
    simp (disch := omega) only [nlit, zl_d, zb_s, zb2_s, nI_leI, nI_ltI, nI_eq, nI_add, nI_clamp, zi_ok, hg]
    by_cases hl : A.2.1 7 0 + k ≤ 9999
    · rw [if_pos hl, if_pos hl]
      refine ⟨nI (A.2.1 7 0 + k), kLv K (sTm K.1 0 (nI (A.2.1 7 0 + k))), mS M 5096 (nI (A.2.1 7 0 + k)), ?_, ?_, h.live (hS.num (j := 0) (v := A.2.1 7 0 + k) (by omega) (by omega) (by omega) (by omega) (by omega)) (by rw [aN_s ⟨rfl, rfl⟩]; exact hl) Oth.rf.S, rfl⟩
      · show some (va_up K.1.2.2.2.2 0 (nI (A.2.1 7 0 + k)) 0, _) = _
        rw [va_up_self]
      · rw [wAm_S _ _ (by omega), mS_g, upd_s rfl]
    · rw [if_neg hl, if_neg hl]
      exact ⟨_, K, M, rfl, rfl, h, rfl⟩
  · refine ⟨-2, K, M, ?_, ?_, h, rfl⟩
    · rw [if_pos hs]
    · rw [in_lo hs, zb_s, i00]
  · refine ⟨-2, K, M, ?_, ?_, h, rfl⟩
    · rw [if_neg h0, if_neg (show ¬ a1 ≤ 99 from hs2)]
    · rw [in_hi (show (99 : Int32) < a1 from hs), zb_s, i00]
theorem s_set : S_set Rel := by
  intro a1 a2 K M h
  obtain ⟨A, hS, ht⟩ := h.1
  obtain ⟨w0, w1, w2, w3⟩ := hS.w
  obtain ⟨g0, g1, g2, g3⟩ := hS.g
  have go : ∀ (j n : Nat) (B : Option (Int32 × KS)) , (j = 1 ∧ n = 99 ∨ j = 2 ∧ n = 999 ∨ j = 3 ∧ n = 999) → B = (if a2 < 0 then (some ((-2 : Int32), K)) else (if a2 ≤ nI n then (zl (kLv K (sTm K.1 j a2)) (fun st_3 => some ((K.1.2.2.2.2 j), st_3))) else (some ((-2 : Int32), K)))) → ∃ (r : Int32) (K' : KS) (M' : MS), zb2 B (fun r st => some (r, st)) = some (r, K') ∧ fX9_set_25 (nI (j - 1)) a2 (nI n) 0 a2 M = some (r, M') ∧ Rel K' M' ∧ K'.2.2.2.2 = K.2.2.2.2 := by
    intro j n B hj hB
    rw [hB]
    have hwj := hS.1.2.2.2.2 j (by omega)
    have hgj := hS.2.1.2.1 j (by omega)
    unfold fX9_set_25
    rcases rg a2 n (by omega) with ⟨k, hk, rfl⟩ | hs | ⟨h0, hs, hs2, -, -⟩
    · rw [in_ok hk (by omega), zb_s, i10, if_neg (nI_pos (by omega)), if_pos (nI_le hk (by omega)), hwj]
      simp (disch := omega) only [nlit, zl_d, zb_s, zb2_s, nI_leI, nI_ltI, nI_eq, nI_add, nI_clamp, zi_ok]
      rw [show 5097 + (j - 1) = 5096 + j by omega, hgj, wAm_S _ _ (by omega)]
      exact ⟨_, _, _, rfl, rfl, h.live (hS.num (j := j) (v := k) (by omega) (by omega) (by omega) (by omega) (by omega)) (by rw [aN_n (by omega)]; exact ht) Oth.rf.S, rfl⟩
    · refine ⟨-2, K, M, ?_, ?_, h, rfl⟩
      · rw [if_pos hs, zb2_s]
      · rw [in_lo hs, zb_s, i00]
    · refine ⟨-2, K, M, ?_, ?_, h, rfl⟩
      · rw [if_neg h0, if_neg hs2, zb2_s]
      · rw [in_hi hs, zb_s, i00]
  unfold fX8_set fX9_set
  rcases rg a1 2 (by omega) with ⟨k, hk, rfl⟩ | hs | ⟨h0, hs, hs2, -, hz⟩
  · rw [show (2 : Int32) = nI 2 from rfl, in_ok hk (by omega), zb_s, i10]
    have hk3 : k = 0 ∨ k = 1 ∨ k = 2 := by omega
    rcases hk3 with rfl | rfl | rfl
    · rw [if_pos (by rfl), if_pos (by rfl)]
      exact go 1 99 _ (by omega) rfl
    · rw [if_neg (by decide), if_pos (by rfl), if_neg (by decide)]
      exact go 2 999 _ (by omega) rfl
    · rw [if_neg (by decide), if_neg (by decide), if_pos (by rfl), if_neg (by decide)]
      exact go 3 999 _ (by omega) rfl
  · refine ⟨-1, K, M, ?_, ?_, h, rfl⟩
    · rw [if_neg (fun e => by rw [e] at hs; exact absurd hs (by decide)), if_neg (fun e => by rw [e] at hs; exact absurd hs (by decide)), if_neg (fun e => by rw [e] at hs; exact absurd hs (by decide))]
    · rw [in_lo hs, zb_s, i00]
  · refine ⟨-1, K, M, ?_, ?_, h, rfl⟩
    · rw [if_neg (fun e => by rw [e] at hs; exact absurd hs (by decide)), if_neg (fun e => by rw [e] at hs; exact absurd hs (by decide)), if_neg (fun e => by rw [e] at hs; exact absurd hs (by decide))]
    · rw [show (2 : Int32) = nI 2 from rfl, in_hi hs, zb_s, i00]
theorem s_compact : S_compact Rel := by
  intro a1 K M h
  obtain ⟨A, hS, ht⟩ := h.1
  unfold fX8_compact fX9_compact
  rcases ck_log a1 with ⟨i, hi, rfl, e1, e2⟩ | ⟨e1, e2⟩
  · have hb := hS.b
    obtain ⟨a', L', M', c1, c2, c3, c4, c5, c6, c7⟩ := compacted_eq (gr := A.2.1 7 1) hi (hS.c hi) (hS.m hi) (hS.ai hi) (by omega) hS.g.1 hS.g.2.1
    refine ⟨nI (sg (gb (A.1 i) (A.2.1 7 0) (A.2.1 7 1)) 0 ((A.1 i).1 5 ((A.1 i).1 6 1 - 1))), kLv K (sLg K.1 i L'), M', ?_, ?_, h.live (hS.log hi c3 c4 c5 c6 (by omega)) ht c6.oth, rfl⟩
    · rw [e1, zb_s, i10, zi_ok hi (by omega), nI_clamp (by omega), hS.w.1, hS.w.2.1, c1, zb2_s, zl_d]
    · rw [e2, zb_s, i10, c2, zb2_s]
  · refine ⟨-1, K, M, ?_, ?_, h, rfl⟩
    · rw [e1, zb_s, i00]
    · rw [e2, zb_s, i00]
theorem rt_end (a : AB) (j : Nat) : (rt a j).1 6 0 = a.1 6 0 := rt_e j
theorem s_retain : S_retain Rel := by
  intro a1 K M h
  obtain ⟨A, hS, ht⟩ := h.1
  unfold fX8_retain fX9_retain
  rcases ck_log a1 with ⟨i, hi, rfl, e1, e2⟩ | ⟨e1, e2⟩
  · have hbd := hS.b
    obtain ⟨L', c1, c2⟩ := c_ret (kp := A.2.1 7 2) (ag := A.2.1 7 3) (hS.c hi) (hS.ai hi) (by omega) (by omega)
    obtain ⟨M', d1, d2, d3⟩ := m_ret (kp := A.2.1 7 2) (ag := A.2.1 7 3) hi (hS.m hi) (hS.ai hi) (by omega) (by omega) hS.g.1 hS.g.2.2.2 hS.g.2.2.1
    refine ⟨nI (sg (hb (A.1 i)) 0 ((A.1 i).1 5 (gN (A.1 i) (A.2.1 7 2) (A.2.1 7 0) (A.2.1 7 3)))), kLv K (sLg K.1 i L'), M', ?_, ?_, h.live (hS.log hi c2 d2 (rt_I (hS.ai hi) (gN_lt (hS.ai hi))) d3 (by rw [rt_end]; omega)) ht d3.oth, rfl⟩
    · rw [e1, zb_s, i10, zi_ok hi (by omega), nI_clamp (by omega), hS.w.1, hS.w.2.2.1, hS.w.2.2.2, c1, zb2_s, zl_d]
    · rw [e2, zb_s, i10, d1, zb2_s]
  · refine ⟨-1, K, M, ?_, ?_, h, rfl⟩
    · rw [e1, zb_s, i00]
    · rw [e2, zb_s, i00]
end OPS1
