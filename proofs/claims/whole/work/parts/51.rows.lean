/-! ===== the plan, the book (written by gen51.py) ===== -/
def aP (A : AS) (x y : Nat) : AS := (A.1, fun k => if k = 3 then va_up (A.2.1 3) (A.2.1 7 4) x else if k = 4 then va_up (A.2.1 4) (A.2.1 7 4) y else if k = 7 then va_up (A.2.1 7) 4 (A.2.1 7 4 + 1) else A.2.1 k, A.2.2)
theorem aP_k {A : AS} {x y k : Nat} (h1 : k ≠ 3) (h2 : k ≠ 4) (h3 : k ≠ 7) : (aP A x y).2.1 k = A.2.1 k := by
  show (if k = 3 then _ else if k = 4 then _ else if k = 7 then _ else A.2.1 k) = _
  rw [if_neg h1, if_neg h2, if_neg h3]
theorem aP_1 {A : AS} {x y : Nat} : (aP A x y).2.1 3 = va_up (A.2.1 3) (A.2.1 7 4) x := rfl
theorem aP_2 {A : AS} {x y : Nat} : (aP A x y).2.1 4 = va_up (A.2.1 4) (A.2.1 7 4) y := rfl
theorem aP_7 {A : AS} {x y : Nat} : (aP A x y).2.1 7 = va_up (A.2.1 7) 4 (A.2.1 7 4 + 1) := rfl
theorem aP_row {A : AS} {S : SS} {M : MS} (h : ST A S (M.1 0)) (hs : A.2.1 7 4 < 10) {x y : Nat} (hx : x ≤ 3) (hy : y ≤ 99) (hxy : x < 3 → y < 4) : ∃ R', fX4_takeRow 10 (nI x) (nI y) S.2.2.1 = some (nI (A.2.1 7 4 + 1), R') ∧ ST (aP A x y) (sPl S R') ((mS (mS (mS M (5103 + 2 * A.2.1 7 4) (nI x)) (5103 + 2 * A.2.1 7 4 + 1) (nI y)) 5102 (nI (A.2.1 7 4 + 1))).1 0) := by
  refine ⟨sF (wA (wA S.2.2.1 0 (nI (A.2.1 7 4)) (nI x)) 1 (nI (A.2.1 7 4)) (nI y)) 0 (nI (A.2.1 7 4 + 1)), ?_, ?_⟩
  · have hz := h.1.2.2.1.2
    unfold fX4_takeRow
    rw [hz, zi_ok hs (by omega), zl_d, wA_2, hz, zi_ok hs (by omega), zl_d, zl_d, wA_2, wA_2, hz, nI_1, sF_2, up_s rfl]
  · obtain ⟨⟨c1, c2, c3, c4, c5⟩, ⟨m1, m2, m3, m4, m5, m6, m7, m8⟩, ⟨s1, s2, s3, s4, s5, s6, s7, s8⟩⟩ := h
    have e7 : ∀ j, j ≠ 4 → (aP A x y).2.1 7 j = A.2.1 7 j := fun j hj => by rw [aP_7, up_n hj]
    have e7c : (aP A x y).2.1 7 4 = A.2.1 7 4 + 1 := by rw [aP_7, up_s rfl]
    have hg : ∀ j, j ≠ 5103 + 2 * A.2.1 7 4 → j ≠ 5103 + 2 * A.2.1 7 4 + 1 → j ≠ 5102 → (mS (mS (mS M (5103 + 2 * A.2.1 7 4) (nI x)) (5103 + 2 * A.2.1 7 4 + 1) (nI y)) 5102 (nI (A.2.1 7 4 + 1))).1 0 j = M.1 0 j := fun j h1 h2 h3 => by
      rw [mS_g, upd_n h3, mS_g, upd_n h2, mS_g, upd_n h1]
    have hgn : (mS (mS (mS M (5103 + 2 * A.2.1 7 4) (nI x)) (5103 + 2 * A.2.1 7 4 + 1) (nI y)) 5102 (nI (A.2.1 7 4 + 1))).1 0 5102 = nI (A.2.1 7 4 + 1) := by
      rw [mS_g, upd_s rfl]
    have hg1 : (mS (mS (mS M (5103 + 2 * A.2.1 7 4) (nI x)) (5103 + 2 * A.2.1 7 4 + 1) (nI y)) 5102 (nI (A.2.1 7 4 + 1))).1 0 (5103 + 2 * A.2.1 7 4) = nI x := by
      rw [mS_g, upd_n (by omega), mS_g, upd_n (by omega), mS_g, upd_s rfl]
    have hg2 : (mS (mS (mS M (5103 + 2 * A.2.1 7 4) (nI x)) (5103 + 2 * A.2.1 7 4 + 1) (nI y)) 5102 (nI (A.2.1 7 4 + 1))).1 0 (5103 + 2 * A.2.1 7 4 + 1) = nI y := by
      rw [mS_g, upd_n (by omega), mS_g, upd_s rfl]
    generalize (mS (mS (mS M (5103 + 2 * A.2.1 7 4) (nI x)) (5103 + 2 * A.2.1 7 4 + 1) (nI y)) 5102 (nI (A.2.1 7 4 + 1))).1 0 = g at hg hgn hg1 hg2 ⊢
    have hRC : RC ((aP A x y).2.1 3) ((aP A x y).2.1 4) ((aP A x y).2.1 7 4) (sF (wA (wA S.2.2.1 0 (nI (A.2.1 7 4)) (nI x)) 1 (nI (A.2.1 7 4)) (nI y)) 0 (nI (A.2.1 7 4 + 1))) := by
      refine ⟨fun k hk => ?_, ?_⟩
      · rw [e7c] at hk
        have f0 : (sF (wA (wA S.2.2.1 0 (nI (A.2.1 7 4)) (nI x)) 1 (nI (A.2.1 7 4)) (nI y)) 0 (nI (A.2.1 7 4 + 1))).1 0 = upd (S.2.2.1.1 0) (A.2.1 7 4) (nI x) := by rw [sF_1, wA_1, up_n (by omega), wA_1, up_s rfl, nI_clamp (by omega)]
        have f1 : (sF (wA (wA S.2.2.1 0 (nI (A.2.1 7 4)) (nI x)) 1 (nI (A.2.1 7 4)) (nI y)) 0 (nI (A.2.1 7 4 + 1))).1 1 = upd (S.2.2.1.1 1) (A.2.1 7 4) (nI y) := by rw [sF_1, wA_1, up_s rfl, nI_clamp (by omega), wA_1, up_n (by omega)]
        rw [f0, f1, aP_1, aP_2]
        by_cases e : k = A.2.1 7 4
        · rw [upd_s e, upd_s e, up_s e, up_s e]; exact ⟨rfl, rfl⟩
        · rw [upd_n e, upd_n e, up_n e, up_n e]; exact c3.1 k (by omega)
      · rw [sF_2, up_s rfl, e7c]
    refine ⟨⟨c1, ?_, ?_, ?_, fun j hj => ?_⟩, ⟨fun i hi => ⟨?_, ?_, ?_⟩, fun i hi => ?_, ?_, ?_, ?_, fun k hk => ?_, ?_, fun k hk => ?_⟩, ⟨fun i hi => ?_, ?_, ?_, ?_, ?_, ?_, fun k hk => ?_, fun k hk => ?_⟩⟩
    · exact ⟨fun m hm => by rw [aP_k (by omega) (by omega) (by omega), aP_k (by omega) (by omega) (by omega), aP_k (by omega) (by omega) (by omega)]; exact c2.1 m hm, c2.2⟩
    · exact hRC
    · rw [aP_k (k := 5) (by omega) (by omega) (by omega), aP_k (k := 6) (by omega) (by omega) (by omega), e7 5 (by omega)]; exact c4
    · rw [e7 j (by omega)]; exact c5 j hj
    · exact (m1 i hi).1.cg (s1 i hi).1 (fun x hx => hg _ (by omega) (by omega) (by omega))
    · rw [hg _ (by omega) (by omega) (by omega), aP_k (by omega) (by omega) (by omega)]; exact (m1 i hi).2.1
    · rw [hg _ (by omega) (by omega) (by omega), aP_k (by omega) (by omega) (by omega)]; exact (m1 i hi).2.2
    · rw [hg _ (by omega) (by omega) (by omega), e7 i (by omega)]; exact m2 i hi
    · rw [hg _ (by omega) (by omega) (by omega)]; exact m3
    · rw [hg _ (by omega) (by omega) (by omega)]
      unfold imk
      rw [aP_k (by omega) (by omega) (by omega)]
      exact m4
    · rw [hgn, e7c]
    · rw [e7c] at hk
      rw [aP_1, aP_2]
      by_cases e : k = A.2.1 7 4
      · subst e
        rw [up_s rfl, up_s rfl, hg1, hg2]; exact ⟨rfl, rfl⟩
      · rw [up_n e, up_n e, hg _ (by omega) (by omega) (by omega), hg _ (by omega) (by omega) (by omega)]; exact m6 k (by omega)
    · rw [hg _ (by omega) (by omega) (by omega), e7 5 (by omega)]; exact m7
    · rw [e7 5 (by omega)] at hk
      rw [aP_k (k := 5) (by omega) (by omega) (by omega), aP_k (k := 6) (by omega) (by omega) (by omega), hg _ (by omega) (by omega) (by omega), hg _ (by omega) (by omega) (by omega)]; exact m8 k hk
    · obtain ⟨q1, q2, q3, q4, q5⟩ := s1 i hi
      rw [e7 0 (by omega), aP_k (k := 0) (by omega) (by omega) (by omega), aP_k (k := 1) (by omega) (by omega) (by omega), aP_k (k := 2) (by omega) (by omega) (by omega)]
      exact ⟨q1, q2, q3, q4, q5⟩
    · rw [e7 1 (by omega)]; exact s2
    · rw [e7 2 (by omega)]; exact s3
    · rw [e7 3 (by omega)]; exact s4
    · rw [e7c]; omega
    · rw [e7 5 (by omega)]; exact s6
    · rw [e7c] at hk
      rw [aP_1, aP_2]
      by_cases e : k = A.2.1 7 4
      · rw [up_s e, up_s e]; exact ⟨hx, hy, hxy⟩
      · rw [up_n e, up_n e]; exact s7 k (by omega)
    · rw [e7 5 (by omega)] at hk
      rw [aP_k (k := 5) (by omega) (by omega) (by omega), aP_k (k := 6) (by omega) (by omega) (by omega)]; exact s8 k hk
theorem aP_nil {A : AS} {S : SS} {M : MS} (h : ST A S (M.1 0)) : ST (aN A 7 4 0) (sPl S (sF S.2.2.1 0 0)) ((mS M 5102 0).1 0) := by
  obtain ⟨⟨c1, c2, c3, c4, c5⟩, ⟨m1, m2, m3, m4, m5, m6, m7, m8⟩, ⟨s1, s2, s3, s4, s5, s6, s7, s8⟩⟩ := h
  have ef : ∀ k, k ≠ 7 → (aN A 7 4 0).2.1 k = A.2.1 k := fun k hk => funext fun i => aN_n (by omega)
  have e7 : ∀ j, j ≠ 4 → (aN A 7 4 0).2.1 7 j = A.2.1 7 j := fun j hj => aN_n (by omega)
  have e7c : (aN A 7 4 0).2.1 7 4 = 0 := aN_s ⟨rfl, rfl⟩
  have hg : ∀ j, j ≠ 5102 → (mS M 5102 0).1 0 j = M.1 0 j := fun j h3 => by rw [mS_g, upd_n h3]
  have hgn : (mS M 5102 0).1 0 5102 = 0 := by rw [mS_g, upd_s rfl]
  have hRC : ∀ f s, RC f s ((aN A 7 4 0).2.1 7 4) (sF S.2.2.1 0 0) := fun f s => by
    rw [e7c]
    exact ⟨fun k hk => absurd hk (by omega), by rw [sF_2, up_s rfl]; rfl⟩
  refine ⟨⟨c1, ?_, ?_, ?_, fun j hj => ?_⟩, ⟨fun i hi => ⟨?_, ?_, ?_⟩, fun i hi => ?_, ?_, ?_, ?_, fun k hk => ?_, ?_, fun k hk => ?_⟩, ⟨fun i hi => ?_, ?_, ?_, ?_, ?_, ?_, fun k hk => ?_, fun k hk => ?_⟩⟩
  · exact ⟨fun m hm => by rw [ef 0 (by omega), ef 1 (by omega), ef 2 (by omega)]; exact c2.1 m hm, c2.2⟩
  · exact hRC _ _
  · rw [ef 5 (by omega), ef 6 (by omega), e7 5 (by omega)]; exact c4
  · rw [e7 j (by omega)]; exact c5 j hj
  · exact (m1 i hi).1.cg (s1 i hi).1 (fun x hx => hg _ (by omega))
  · rw [hg _ (by omega), ef 1 (by omega)]; exact (m1 i hi).2.1
  · rw [hg _ (by omega), ef 2 (by omega)]; exact (m1 i hi).2.2
  · rw [hg _ (by omega), e7 i (by omega)]; exact m2 i hi
  · rw [hg _ (by omega)]; exact m3
  · rw [hg _ (by omega)]
    unfold imk
    rw [ef 0 (by omega)]
    exact m4
  · rw [hgn, e7c]; rfl
  · rw [e7c] at hk; exact absurd hk (by omega)
  · rw [hg _ (by omega), e7 5 (by omega)]; exact m7
  · rw [e7 5 (by omega)] at hk
    rw [ef 5 (by omega), ef 6 (by omega), hg _ (by omega), hg _ (by omega)]; exact m8 k hk
  · obtain ⟨q1, q2, q3, q4, q5⟩ := s1 i hi
    rw [e7 0 (by omega), ef 0 (by omega), ef 1 (by omega), ef 2 (by omega)]
    exact ⟨q1, q2, q3, q4, q5⟩
  · rw [e7 1 (by omega)]; exact s2
  · rw [e7 2 (by omega)]; exact s3
  · rw [e7 3 (by omega)]; exact s4
  · rw [e7c]; omega
  · rw [e7 5 (by omega)]; exact s6
  · rw [e7c] at hk; exact absurd hk (by omega)
  · rw [e7 5 (by omega)] at hk
    rw [ef 5 (by omega), ef 6 (by omega)]; exact s8 k hk

def aB (A : AS) (x y : Nat) : AS := (A.1, fun k => if k = 5 then va_up (A.2.1 5) (A.2.1 7 5) x else if k = 6 then va_up (A.2.1 6) (A.2.1 7 5) y else if k = 7 then va_up (A.2.1 7) 5 (A.2.1 7 5 + 1) else A.2.1 k, A.2.2)
theorem aB_k {A : AS} {x y k : Nat} (h1 : k ≠ 5) (h2 : k ≠ 6) (h3 : k ≠ 7) : (aB A x y).2.1 k = A.2.1 k := by
  show (if k = 5 then _ else if k = 6 then _ else if k = 7 then _ else A.2.1 k) = _
  rw [if_neg h1, if_neg h2, if_neg h3]
theorem aB_1 {A : AS} {x y : Nat} : (aB A x y).2.1 5 = va_up (A.2.1 5) (A.2.1 7 5) x := rfl
theorem aB_2 {A : AS} {x y : Nat} : (aB A x y).2.1 6 = va_up (A.2.1 6) (A.2.1 7 5) y := rfl
theorem aB_7 {A : AS} {x y : Nat} : (aB A x y).2.1 7 = va_up (A.2.1 7) 5 (A.2.1 7 5 + 1) := rfl
theorem aB_row {A : AS} {S : SS} {M : MS} (h : ST A S (M.1 0)) (hs : A.2.1 7 5 < 8) {x y : Nat} (hx : x ≤ 3) (hy : y ≤ 200) (hxy : x < 4) : ∃ R', fX4_takeRow 8 (nI x) (nI y) S.2.2.2.1 = some (nI (A.2.1 7 5 + 1), R') ∧ ST (aB A x y) (sBk S R') ((mS (mS (mS M (5124 + 2 * A.2.1 7 5) (nI x)) (5124 + 2 * A.2.1 7 5 + 1) (nI y)) 5123 (nI (A.2.1 7 5 + 1))).1 0) := by
  refine ⟨sF (wA (wA S.2.2.2.1 0 (nI (A.2.1 7 5)) (nI x)) 1 (nI (A.2.1 7 5)) (nI y)) 0 (nI (A.2.1 7 5 + 1)), ?_, ?_⟩
  · have hz := h.1.2.2.2.1.2
    unfold fX4_takeRow
    rw [hz, zi_ok hs (by omega), zl_d, wA_2, hz, zi_ok hs (by omega), zl_d, zl_d, wA_2, wA_2, hz, nI_1, sF_2, up_s rfl]
  · obtain ⟨⟨c1, c2, c3, c4, c5⟩, ⟨m1, m2, m3, m4, m5, m6, m7, m8⟩, ⟨s1, s2, s3, s4, s5, s6, s7, s8⟩⟩ := h
    have e7 : ∀ j, j ≠ 5 → (aB A x y).2.1 7 j = A.2.1 7 j := fun j hj => by rw [aB_7, up_n hj]
    have e7c : (aB A x y).2.1 7 5 = A.2.1 7 5 + 1 := by rw [aB_7, up_s rfl]
    have hg : ∀ j, j ≠ 5124 + 2 * A.2.1 7 5 → j ≠ 5124 + 2 * A.2.1 7 5 + 1 → j ≠ 5123 → (mS (mS (mS M (5124 + 2 * A.2.1 7 5) (nI x)) (5124 + 2 * A.2.1 7 5 + 1) (nI y)) 5123 (nI (A.2.1 7 5 + 1))).1 0 j = M.1 0 j := fun j h1 h2 h3 => by
      rw [mS_g, upd_n h3, mS_g, upd_n h2, mS_g, upd_n h1]
    have hgn : (mS (mS (mS M (5124 + 2 * A.2.1 7 5) (nI x)) (5124 + 2 * A.2.1 7 5 + 1) (nI y)) 5123 (nI (A.2.1 7 5 + 1))).1 0 5123 = nI (A.2.1 7 5 + 1) := by
      rw [mS_g, upd_s rfl]
    have hg1 : (mS (mS (mS M (5124 + 2 * A.2.1 7 5) (nI x)) (5124 + 2 * A.2.1 7 5 + 1) (nI y)) 5123 (nI (A.2.1 7 5 + 1))).1 0 (5124 + 2 * A.2.1 7 5) = nI x := by
      rw [mS_g, upd_n (by omega), mS_g, upd_n (by omega), mS_g, upd_s rfl]
    have hg2 : (mS (mS (mS M (5124 + 2 * A.2.1 7 5) (nI x)) (5124 + 2 * A.2.1 7 5 + 1) (nI y)) 5123 (nI (A.2.1 7 5 + 1))).1 0 (5124 + 2 * A.2.1 7 5 + 1) = nI y := by
      rw [mS_g, upd_n (by omega), mS_g, upd_s rfl]
    generalize (mS (mS (mS M (5124 + 2 * A.2.1 7 5) (nI x)) (5124 + 2 * A.2.1 7 5 + 1) (nI y)) 5123 (nI (A.2.1 7 5 + 1))).1 0 = g at hg hgn hg1 hg2 ⊢
    have hRC : RC ((aB A x y).2.1 5) ((aB A x y).2.1 6) ((aB A x y).2.1 7 5) (sF (wA (wA S.2.2.2.1 0 (nI (A.2.1 7 5)) (nI x)) 1 (nI (A.2.1 7 5)) (nI y)) 0 (nI (A.2.1 7 5 + 1))) := by
      refine ⟨fun k hk => ?_, ?_⟩
      · rw [e7c] at hk
        have f0 : (sF (wA (wA S.2.2.2.1 0 (nI (A.2.1 7 5)) (nI x)) 1 (nI (A.2.1 7 5)) (nI y)) 0 (nI (A.2.1 7 5 + 1))).1 0 = upd (S.2.2.2.1.1 0) (A.2.1 7 5) (nI x) := by rw [sF_1, wA_1, up_n (by omega), wA_1, up_s rfl, nI_clamp (by omega)]
        have f1 : (sF (wA (wA S.2.2.2.1 0 (nI (A.2.1 7 5)) (nI x)) 1 (nI (A.2.1 7 5)) (nI y)) 0 (nI (A.2.1 7 5 + 1))).1 1 = upd (S.2.2.2.1.1 1) (A.2.1 7 5) (nI y) := by rw [sF_1, wA_1, up_s rfl, nI_clamp (by omega), wA_1, up_n (by omega)]
        rw [f0, f1, aB_1, aB_2]
        by_cases e : k = A.2.1 7 5
        · rw [upd_s e, upd_s e, up_s e, up_s e]; exact ⟨rfl, rfl⟩
        · rw [upd_n e, upd_n e, up_n e, up_n e]; exact c4.1 k (by omega)
      · rw [sF_2, up_s rfl, e7c]
    refine ⟨⟨c1, ?_, ?_, ?_, fun j hj => ?_⟩, ⟨fun i hi => ⟨?_, ?_, ?_⟩, fun i hi => ?_, ?_, ?_, ?_, fun k hk => ?_, ?_, fun k hk => ?_⟩, ⟨fun i hi => ?_, ?_, ?_, ?_, ?_, ?_, fun k hk => ?_, fun k hk => ?_⟩⟩
    · exact ⟨fun m hm => by rw [aB_k (by omega) (by omega) (by omega), aB_k (by omega) (by omega) (by omega), aB_k (by omega) (by omega) (by omega)]; exact c2.1 m hm, c2.2⟩
    · rw [aB_k (k := 3) (by omega) (by omega) (by omega), aB_k (k := 4) (by omega) (by omega) (by omega), e7 4 (by omega)]; exact c3
    · exact hRC
    · rw [e7 j (by omega)]; exact c5 j hj
    · exact (m1 i hi).1.cg (s1 i hi).1 (fun x hx => hg _ (by omega) (by omega) (by omega))
    · rw [hg _ (by omega) (by omega) (by omega), aB_k (by omega) (by omega) (by omega)]; exact (m1 i hi).2.1
    · rw [hg _ (by omega) (by omega) (by omega), aB_k (by omega) (by omega) (by omega)]; exact (m1 i hi).2.2
    · rw [hg _ (by omega) (by omega) (by omega), e7 i (by omega)]; exact m2 i hi
    · rw [hg _ (by omega) (by omega) (by omega)]; exact m3
    · rw [hg _ (by omega) (by omega) (by omega)]
      unfold imk
      rw [aB_k (by omega) (by omega) (by omega)]
      exact m4
    · rw [hg _ (by omega) (by omega) (by omega), e7 4 (by omega)]; exact m5
    · rw [e7 4 (by omega)] at hk
      rw [aB_k (k := 3) (by omega) (by omega) (by omega), aB_k (k := 4) (by omega) (by omega) (by omega), hg _ (by omega) (by omega) (by omega), hg _ (by omega) (by omega) (by omega)]; exact m6 k hk
    · rw [hgn, e7c]
    · rw [e7c] at hk
      rw [aB_1, aB_2]
      by_cases e : k = A.2.1 7 5
      · subst e
        rw [up_s rfl, up_s rfl, hg1, hg2]; exact ⟨rfl, rfl⟩
      · rw [up_n e, up_n e, hg _ (by omega) (by omega) (by omega), hg _ (by omega) (by omega) (by omega)]; exact m8 k (by omega)
    · obtain ⟨q1, q2, q3, q4, q5⟩ := s1 i hi
      rw [e7 0 (by omega), aB_k (k := 0) (by omega) (by omega) (by omega), aB_k (k := 1) (by omega) (by omega) (by omega), aB_k (k := 2) (by omega) (by omega) (by omega)]
      exact ⟨q1, q2, q3, q4, q5⟩
    · rw [e7 1 (by omega)]; exact s2
    · rw [e7 2 (by omega)]; exact s3
    · rw [e7 3 (by omega)]; exact s4
    · rw [e7 4 (by omega)]; exact s5
    · rw [e7c]; omega
    · rw [e7 4 (by omega)] at hk
      rw [aB_k (k := 3) (by omega) (by omega) (by omega), aB_k (k := 4) (by omega) (by omega) (by omega)]; exact s7 k hk
    · rw [e7c] at hk
      rw [aB_1, aB_2]
      by_cases e : k = A.2.1 7 5
      · rw [up_s e, up_s e]; exact ⟨hxy, hy⟩
      · rw [up_n e, up_n e]; exact s8 k (by omega)
theorem aB_nil {A : AS} {S : SS} {M : MS} (h : ST A S (M.1 0)) : ST (aN A 7 5 0) (sBk S (sF S.2.2.2.1 0 0)) ((mS M 5123 0).1 0) := by
  obtain ⟨⟨c1, c2, c3, c4, c5⟩, ⟨m1, m2, m3, m4, m5, m6, m7, m8⟩, ⟨s1, s2, s3, s4, s5, s6, s7, s8⟩⟩ := h
  have ef : ∀ k, k ≠ 7 → (aN A 7 5 0).2.1 k = A.2.1 k := fun k hk => funext fun i => aN_n (by omega)
  have e7 : ∀ j, j ≠ 5 → (aN A 7 5 0).2.1 7 j = A.2.1 7 j := fun j hj => aN_n (by omega)
  have e7c : (aN A 7 5 0).2.1 7 5 = 0 := aN_s ⟨rfl, rfl⟩
  have hg : ∀ j, j ≠ 5123 → (mS M 5123 0).1 0 j = M.1 0 j := fun j h3 => by rw [mS_g, upd_n h3]
  have hgn : (mS M 5123 0).1 0 5123 = 0 := by rw [mS_g, upd_s rfl]
  have hRC : ∀ f s, RC f s ((aN A 7 5 0).2.1 7 5) (sF S.2.2.2.1 0 0) := fun f s => by
    rw [e7c]
    exact ⟨fun k hk => absurd hk (by omega), by rw [sF_2, up_s rfl]; rfl⟩
  refine ⟨⟨c1, ?_, ?_, ?_, fun j hj => ?_⟩, ⟨fun i hi => ⟨?_, ?_, ?_⟩, fun i hi => ?_, ?_, ?_, ?_, fun k hk => ?_, ?_, fun k hk => ?_⟩, ⟨fun i hi => ?_, ?_, ?_, ?_, ?_, ?_, fun k hk => ?_, fun k hk => ?_⟩⟩
  · exact ⟨fun m hm => by rw [ef 0 (by omega), ef 1 (by omega), ef 2 (by omega)]; exact c2.1 m hm, c2.2⟩
  · rw [ef 3 (by omega), ef 4 (by omega), e7 4 (by omega)]; exact c3
  · exact hRC _ _
  · rw [e7 j (by omega)]; exact c5 j hj
  · exact (m1 i hi).1.cg (s1 i hi).1 (fun x hx => hg _ (by omega))
  · rw [hg _ (by omega), ef 1 (by omega)]; exact (m1 i hi).2.1
  · rw [hg _ (by omega), ef 2 (by omega)]; exact (m1 i hi).2.2
  · rw [hg _ (by omega), e7 i (by omega)]; exact m2 i hi
  · rw [hg _ (by omega)]; exact m3
  · rw [hg _ (by omega)]
    unfold imk
    rw [ef 0 (by omega)]
    exact m4
  · rw [hg _ (by omega), e7 4 (by omega)]; exact m5
  · rw [e7 4 (by omega)] at hk
    rw [ef 3 (by omega), ef 4 (by omega), hg _ (by omega), hg _ (by omega)]; exact m6 k hk
  · rw [hgn, e7c]; rfl
  · rw [e7c] at hk; exact absurd hk (by omega)
  · obtain ⟨q1, q2, q3, q4, q5⟩ := s1 i hi
    rw [e7 0 (by omega), ef 0 (by omega), ef 1 (by omega), ef 2 (by omega)]
    exact ⟨q1, q2, q3, q4, q5⟩
  · rw [e7 1 (by omega)]; exact s2
  · rw [e7 2 (by omega)]; exact s3
  · rw [e7 3 (by omega)]; exact s4
  · rw [e7 4 (by omega)]; exact s5
  · rw [e7c]; omega
  · rw [e7 4 (by omega)] at hk
    rw [ef 3 (by omega), ef 4 (by omega)]; exact s7 k hk
  · rw [e7c] at hk; exact absurd hk (by omega)
section ROWS
variable {A : AS} {K : KS} {M : MS}
theorem ne_lit {x : Int32} (h : ¬ x < 0) : ¬ x = -1 := fun e => h (by rw [e]; decide)
theorem s_plan : S_plan Rel := by
  intro a1 a2 K M h
  obtain ⟨A, hS, ht⟩ := h.1
  have hb := hS.b
  have hn := hS.1.2.2.1.2
  have hg := hS.2.1.2.2.2.2.1
  have h57 : ∀ (x y : Nat), x ≤ 3 → y ≤ 99 → (x < 3 → y < 4) → ∃ (r : Int32) (K' : KS) (M' : MS), fX8_plan_71 (nI x) (nI y) K = some (r, K') ∧ fX9_plan_57 (nI x) (nI y) M = some (r, M') ∧ Rel K' M' ∧ K'.2.2.2.2 = K.2.2.2.2 := by
    intro x y hx hy hxy
    unfold fX8_plan_71 fX9_plan_57 fX4_isFull
    by_cases hs : A.2.1 7 4 < 10
    · obtain ⟨R', r1, r2⟩ := aP_row hS hs hx hy hxy
      rw [hn, if_pos (nI_lt hs (by omega)), zb_s, i00, r1, zb2_s, zl_d]
      refine ⟨_, _, mS (mS (mS M (5103 + 2 * A.2.1 7 4) (nI x)) (5103 + 2 * A.2.1 7 4 + 1) (nI y)) 5102 (nI (A.2.1 7 4 + 1)), rfl, ?_, h.live r2 (by rw [aP_7, up_n (by omega)]; exact ht) Oth.rf.S.S.S, rfl⟩
      have hw1 : (mS M (5103 + 2 * A.2.1 7 4) (nI x)).1 0 5102 = nI (A.2.1 7 4) := by rw [mS_g, upd_n (by omega), hg]
      have hw2 : (mS (mS M (5103 + 2 * A.2.1 7 4) (nI x)) (5103 + 2 * A.2.1 7 4 + 1) (nI y)).1 0 5102 = nI (A.2.1 7 4) := by rw [mS_g, upd_n (by omega), hw1]
      have hw3 : (mS (mS (mS M (5103 + 2 * A.2.1 7 4) (nI x)) (5103 + 2 * A.2.1 7 4 + 1) (nI y)) 5102 (nI (A.2.1 7 4 + 1))).1 0 5102 = nI (A.2.1 7 4 + 1) := by rw [mS_g, upd_s rfl]
      simp (disch := omega) only [nlit, zl_d, zb_s, zb2_s, nI_leI, nI_ltI, nI_eq, nI_add, nI_clamp, zi_ok, in_any, if_pos, if_neg, hg, pk_mul, wAm_S, hw1, hw2, hw3]
    · rw [hn, if_neg (nI_nlt (by omega) (by omega)), zb_s, i10]
      refine ⟨-4, K, M, rfl, ?_, h, rfl⟩
      rw [show (5102 : Int32) = nI 5102 from rfl, zi_ok (by omega) (by omega), nI_clamp (by omega), hg, if_pos]
      rw [show (10 : Int32) = nI 10 from rfl, nI_eq (by omega) (by omega)]
      omega
  unfold fX8_plan fX9_plan
  rcases rg a1 3 (by omega) with ⟨x, hx, rfl⟩ | hs | ⟨h0, hs, hs2, -, -⟩
  · rw [if_neg (ne_lit (nI_pos (by omega))), if_neg (ne_lit (nI_pos (by omega))), show (3 : Int32) = nI 3 from rfl, in_ok hx (by omega), zb_s, i10, if_neg (nI_pos (by omega)), if_neg (nI_nlt hx (by omega))]
    unfold fX8_plan_39 fX8_plan_53 fX9_plan_39
    rw [ck_mem]
    by_cases h3 : x = 3
    · subst h3
      rw [if_pos (show (2 : Int32) ≤ nI 3 by decide), if_neg (show ¬ nI 3 = (2 : Int32) by decide), if_pos (show nI 3 = (3 : Int32) from rfl), if_pos (show nI 3 ≤ nI 3 by decide), if_pos (show nI 3 = (3 : Int32) from rfl)]
      rcases rg a2 99 (by omega) with ⟨y, hy, rfl⟩ | hs | ⟨h0, hs, hs2, -, -⟩
      · rw [show (99 : Int32) = nI 99 from rfl, in_ok hy (by omega), zb_s, i10, if_neg (nI_pos (by omega)), if_pos (nI_le hy (by omega))]
        exact h57 3 y (by omega) hy (fun e => absurd e (by omega))
      · rw [in_lo hs, zb_s, i00, if_pos hs]
        exact ⟨_, K, M, rfl, rfl, h, rfl⟩
      · rw [show (99 : Int32) = nI 99 from rfl, in_hi hs, zb_s, i00, if_neg h0, if_neg hs2]
        exact ⟨_, K, M, rfl, rfl, h, rfl⟩
    · have hx3 : ¬ nI x = (3 : Int32) := fun e => h3 ((nI_eq (b := 3) (by omega) (by omega)).mp e)
      simp only [if_neg hx3, if_neg (show ¬ nI 3 ≤ nI x from nI_ge (b := 3) (by omega) (by omega))]
      by_cases h2 : x = 2
      · subst h2
        rw [if_pos (show (2 : Int32) ≤ nI 2 by decide), if_pos (show nI 2 = (2 : Int32) from rfl)]
        rcases ck_log a2 with ⟨i, hi, rfl, e1, e2⟩ | ⟨e1, e2⟩
        · rw [e1, e2, zb_s, zb_s, i10, i10]
          exact h57 2 i (by omega) (by omega) (fun _ => hi)
        · rw [e1, e2, zb_s, zb_s, i00, i00]
          exact ⟨_, K, M, rfl, rfl, h, rfl⟩
      · simp only [if_neg (show ¬ (2 : Int32) ≤ nI x from nI_ge (b := 2) (by omega) (by omega)), if_neg (show ¬ nI x = (2 : Int32) from fun e => h2 ((nI_eq (b := 2) (by omega) (by omega)).mp e))]
        rcases ck_log a2 with ⟨i, hi, rfl, e1, e2⟩ | ⟨e1, e2⟩
        · rw [e1, e2, zb_s, zb_s, i10, i10]
          exact h57 x i (by omega) (by omega) (fun _ => hi)
        · rw [e1, e2, zb_s, zb_s, i00, i00]
          exact ⟨_, K, M, rfl, rfl, h, rfl⟩
  · by_cases h1 : a1 = -1
    · rw [if_pos h1, if_pos h1, zl_d, show (5102 : Int32) = nI 5102 from rfl, zi_ok (by omega) (by omega), zl_d, wAm_S _ _ (by omega)]
      exact ⟨_, _, _, rfl, rfl, h.live (aP_nil hS) (by rw [aN_n (by omega)]; exact ht) Oth.rf.S, rfl⟩
    · rw [if_neg h1, if_neg h1, in_lo hs, zb_s, i00, if_pos hs]
      exact ⟨_, K, M, rfl, rfl, h, rfl⟩
  · rw [if_neg (ne_lit h0), if_neg (ne_lit h0), show (3 : Int32) = nI 3 from rfl, in_hi hs, zb_s, i00, if_neg h0, if_pos hs]
    exact ⟨_, K, M, rfl, rfl, h, rfl⟩
theorem s_book : S_book Rel := by
  intro a1 a2 K M h
  obtain ⟨A, hS, ht⟩ := h.1
  have hb := hS.b
  have hn := hS.1.2.2.2.1.2
  have hg := hS.2.1.2.2.2.2.2.2.1
  unfold fX8_book fX9_book fX4_isFull
  by_cases h1 : a1 = -1
  · rw [if_pos h1, if_pos h1, zl_d, show (5123 : Int32) = nI 5123 from rfl, zi_ok (by omega) (by omega), zl_d, wAm_S _ _ (by omega)]
    exact ⟨_, _, _, rfl, rfl, h.live (aB_nil hS) (by rw [aN_n (by omega)]; exact ht) Oth.rf.S, rfl⟩
  · rw [if_neg h1, if_neg h1]
    rcases ck_log a1 with ⟨x, hx, rfl, e1, e2⟩ | ⟨e1, e2⟩
    · rw [e1, e2, zb_s, zb_s, i10, i10]
      rcases rg a2 200 (by omega) with ⟨y, hy, rfl⟩ | hs | ⟨h0, hs, hs2, -, -⟩
      · rw [show (200 : Int32) = nI 200 from rfl, in_ok hy (by omega), zb_s, i10, if_neg (nI_pos (by omega)), if_pos (nI_le hy (by omega))]
        by_cases hs : A.2.1 7 5 < 8
        · obtain ⟨R', r1, r2⟩ := aB_row hS hs (x := x) (by omega) hy hx
          rw [hn, if_pos (nI_lt hs (by omega)), zb_s, i00, r1, zb2_s, zl_d]
          refine ⟨_, _, mS (mS (mS M (5124 + 2 * A.2.1 7 5) (nI x)) (5124 + 2 * A.2.1 7 5 + 1) (nI y)) 5123 (nI (A.2.1 7 5 + 1)), rfl, ?_, h.live r2 (by rw [aB_7, up_n (by omega)]; exact ht) Oth.rf.S.S.S, rfl⟩
          have hw1 : (mS M (5124 + 2 * A.2.1 7 5) (nI x)).1 0 5123 = nI (A.2.1 7 5) := by rw [mS_g, upd_n (by omega), hg]
          have hw2 : (mS (mS M (5124 + 2 * A.2.1 7 5) (nI x)) (5124 + 2 * A.2.1 7 5 + 1) (nI y)).1 0 5123 = nI (A.2.1 7 5) := by rw [mS_g, upd_n (by omega), hw1]
          have hw3 : (mS (mS (mS M (5124 + 2 * A.2.1 7 5) (nI x)) (5124 + 2 * A.2.1 7 5 + 1) (nI y)) 5123 (nI (A.2.1 7 5 + 1))).1 0 5123 = nI (A.2.1 7 5 + 1) := by rw [mS_g, upd_s rfl]
          simp (disch := omega) only [nlit, zl_d, zb_s, zb2_s, nI_leI, nI_ltI, nI_eq, nI_add, nI_clamp, zi_ok, in_any, if_pos, if_neg, hg, pk_mul, wAm_S, hw1, hw2, hw3]
        · rw [hn, if_neg (nI_nlt (by omega) (by omega)), zb_s, i10]
          refine ⟨-4, K, M, rfl, ?_, h, rfl⟩
          rw [show (5123 : Int32) = nI 5123 from rfl, zi_ok (by omega) (by omega), nI_clamp (by omega), hg, if_pos]
          rw [show (8 : Int32) = nI 8 from rfl, nI_eq (by omega) (by omega)]
          omega
      · rw [in_lo hs, zb_s, i00, if_pos hs]
        exact ⟨_, K, M, rfl, rfl, h, rfl⟩
      · rw [show (200 : Int32) = nI 200 from rfl, in_hi hs, zb_s, i00, if_neg h0, if_neg hs2]
        exact ⟨_, K, M, rfl, rfl, h, rfl⟩
    · rw [e1, e2, zb_s, zb_s, i00, i00]
      exact ⟨_, K, M, rfl, rfl, h, rfl⟩
theorem looked_l {S : SS} (hS : ST A S (M.1 0)) : ∀ (d n1 n2 o : Nat), o + d = A.2.1 7 5 → d < n1 → d < n2 → ∃ r : Int32, fX5_firstOtherwise_2 S n1 (nI o) = some r ∧ fX9_looked_2 M n2 (nI o) = some r := by
  have hb := hS.b
  have hn := hS.1.2.2.2.1.2
  have hg := hS.2.1.2.2.2.2.2.2.1
  intro d
  induction d with
  | zero =>
    intro n1 n2 o h1 h2 h3
    obtain ⟨m1, rfl⟩ : ∃ m, n1 = m + 1 := ⟨n1 - 1, by omega⟩
    obtain ⟨m2, rfl⟩ : ∃ m, n2 = m + 1 := ⟨n2 - 1, by omega⟩
    refine ⟨-5, ?_, ?_⟩
    · rw [fX5_firstOtherwise_2, hn, if_pos (nI_le (by omega) (by omega))]
    · rw [fX9_looked_2, show (5123 : Int32) = nI 5123 from rfl, zi_ok (by omega) (by omega), nI_clamp (by omega), hg, if_pos (nI_le (by omega) (by omega))]
  | succ d ih =>
    intro n1 n2 o h1 h2 h3
    obtain ⟨m1, rfl⟩ : ∃ m, n1 = m + 1 := ⟨n1 - 1, by omega⟩
    obtain ⟨m2, rfl⟩ : ∃ m, n2 = m + 1 := ⟨n2 - 1, by omega⟩
    obtain ⟨f1, f2⟩ := hS.1.2.2.2.1.1 o (by omega)
    obtain ⟨g1, g2⟩ := hS.2.1.2.2.2.2.2.2.2 o (by omega)
    obtain ⟨b1, b2⟩ := hS.2.2.2.2.2.2.2.2.2 o (by omega)
    have hA := hS.ai b1
    rw [fX5_firstOtherwise_2, hn, if_neg (nI_ge (by omega) (by omega)), zi_ok (by omega) (by omega), nI_clamp (by omega), f1, zi_ok (by omega) (by omega), nI_clamp (by omega), c_start (hS.c b1) hA, zb_s, zi_ok (by omega) (by omega), f2, fX9_looked_2, show (5123 : Int32) = nI 5123 from rfl, zi_ok (by omega) (by omega), nI_clamp (by omega), hg, if_neg (nI_ge (by omega) (by omega)), show (5124 : Int32) = nI 5124 from rfl, show (2 : Int32) = nI 2 from rfl, pk_mul, nI_add, nI_1, nI_1, zi_ok (by omega) (by omega), nI_clamp (by omega), g1, show (0 : Int32) = nI 0 from rfl, m_base b1 (hS.m b1) hA hA.2.2.1, zb_s, zi_ok (by omega) (by omega), nI_clamp (by omega), g2]
    by_cases e : nI ((A.1 (A.2.1 5 o)).1 5 0) = nI (A.2.1 6 o)
    · rw [if_pos e, if_pos e]
      exact ih m1 m2 (o + 1) (by omega) (by omega) (by omega)
    · rw [if_neg e, if_neg e]
      exact ⟨_, rfl, rfl⟩
theorem s_looked : S_looked Rel := by
  intro K M h
  obtain ⟨A, hS, ht⟩ := h.1
  have hb := hS.b
  obtain ⟨r, r1, r2⟩ := looked_l hS (A.2.1 7 5) FU FU 0 (by omega) (fu_lt (by omega)) (fu_lt (by omega))
  have r1' : fX5_firstOtherwise K.1 = some r := r1
  have r2' : fX9_looked M = some r := r2
  refine ⟨r, ?_, r2', h⟩
  unfold fX8_looked
  rw [r1', zb_s]
end ROWS
