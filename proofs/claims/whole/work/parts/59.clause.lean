/-! ===== the text: clauses ===== -/
theorem w4s {M : MS} {j x : Nat} {v : Int32} (hj : j < 2 ^ 31) (h : x = j) : (wAm M 4 (nI j) v).1 4 x = v := by rw [wAm_1, up_s rfl, nI_clamp hj, upd_s h]
theorem w4n {M : MS} {j x : Nat} {v : Int32} (hj : j < 2 ^ 31) (h : ¬ x = j) : (wAm M 4 (nI j) v).1 4 x = M.1 4 x := by rw [wAm_1, up_s rfl, nI_clamp hj, upd_n h]
def FM (f : Nat) (M0 M : MS) : Prop := M.2.1 4 = nI f ∧ FR M0 M
section FAULT
variable {f c : Nat} {M0 M : MS}
theorem FM.w4 (h : FM f M0 M) {i v : Int32} : FM f M0 (wAm M 4 i v) := ⟨h.1, h.2.tr FR.w4⟩
theorem FM.s3 (h : FM f M0 M) {v : Int32} : FM f M0 (sFm M 3 v) := ⟨by rw [sFm_21, up_n (by omega)]; exact h.1, h.2.tr FR.s3⟩
theorem FM.s4 (h : FM f M0 M) : FM f M0 (sFm M 4 (nI f)) := ⟨by rw [sFm_21, up_s rfl], h.2.tr FR.s4⟩
theorem num14_f (hf : f < 2 ^ 31) (h : FM f M0 M) (mx x y : Int32) : fX9_number_14 mx FU x y M = some (x, M) := by
  obtain ⟨n9, hn9⟩ : ∃ n9, FU = n9 + 1 := ⟨9999, rfl⟩
  rw [hn9, fX9_number_14, m_sees_f hf h.1, zb_s, i00, ite_self]
theorem num_f (hf : f < 2 ^ 31) (h : FM f M0 M) (mx : Int32) : ∃ r M', fX9_number mx M = some (r, M') ∧ FM f M0 M' := by
  unfold fX9_number
  rw [m_must_f hf h.1, zb2_s, num14_f hf h.s4]
  exact ⟨_, _, rfl, h.s4⟩
theorem f175 (hf : f < 2 ^ 31) (h : FM f M0 M) (x1 y0 : Int32) {j : Nat} (hj : j < 60) : ∃ M', fX9_clause_175 x1 y0 (nI j) M = some M' ∧ FM f M0 M' := by
  unfold fX9_clause_175
  rw [zi_ok hj (by omega), zl_d, m_sees_f hf h.w4.1, zb_s, i00]
  exact ⟨_, rfl, h.w4⟩
theorem f126 (hf : f < 2 ^ 31) (hc : c < 12) (h : FM f M0 M) (x3 y0 : Int32) : ∃ M', fX9_clause_126 (nI (5 * c)) 0 x3 y0 (nI (5 * c + 2)) M = some M' ∧ FM f M0 M' := by
  unfold fX9_clause_126
  rw [zi_ok (by omega) (by omega), zl_d, show (3 : Int32) = nI 3 from rfl, show (4 : Int32) = nI 4 from rfl, nI_add, nI_add, zi_ok (by omega) (by omega), zl_d, zi_ok (by omega) (by omega), zl_d, i00]
  obtain ⟨r, M1, e1, e2⟩ := num_f hf (h.w4 (i := nI (5 * c + 2)) (v := y0)).w4.w4 (nI 4)
  rw [e1, zb2_s]
  by_cases q : x3 = 0
  · rw [if_pos q]
    exact f175 hf e2 _ _ (by omega)
  · rw [if_neg q]
    exact f175 hf e2 _ _ (by omega)
theorem f71 (hf : f < 2 ^ 31) (hc : c < 12) (h : FM f M0 M) : ∃ M', fX9_clause_71 (nI (5 * c)) 0 M = some M' ∧ FM f M0 M' := by
  unfold fX9_clause_71 fX9_clause_90 fX9_clause_91 fX9_clause_106
  rw [i00, m_sees_f hf h.1, zb_s, i00, i00, zl_d, i00, show (2 : Int32) = nI 2 from rfl, nI_add]
  exact f126 hf hc h.s3 _ _
theorem fcl (hf : f < 2 ^ 31) (hc : c < 12) (h : FM f M0 M) : ∃ M', fX9_clause (nI (5 * c)) M = some M' ∧ FM f M0 M' := by
  unfold fX9_clause
  rw [m_must_f hf h.1, zb2_s, zi_ok (by omega) (by omega), zl_d, m_must_f hf h.s4.w4.1, zb2_s, show nI (5 * c) + (1 : Int32) = nI (5 * c + 1) from nI_1 _, zi_ok (by omega) (by omega), zl_d, m_sees_f hf h.s4.w4.s4.w4.1, zb_s, i00, m_must_f hf h.s4.w4.s4.w4.1, zb2_s]
  exact f71 hf hc h.s4.w4.s4.w4.s4
end FAULT
section CLAUSE
variable {n : Nat} {t : Nat → Nat} {p c : Nat} {T : CS} {M : MS}
theorem v126 (x3 : Int32) : fX9_clause_126 (nI (5 * c)) 0 x3 0 (nI (5 * c) + 2) M = zi (nI (5 * c + 2)) 60 (zi (nI (5 * c + 3)) 60 (zi (nI (5 * c + 4)) 60 (zb2 (fX9_number 4 (wAm (wAm (wAm M 4 (nI (5 * c + 2)) 0) 4 (nI (5 * c + 3)) 0) 4 (nI (5 * c + 4)) 1)) (fun r st => fX9_clause_175 (nI (5 * c)) (if x3 = 0 then r else -r) (nI (5 * c + 3)) st)))) := by
  unfold fX9_clause_126
  simp only [show nI (5 * c) + (2 : Int32) = nI (5 * c + 2) from nI_add _ 2, show nI (5 * c) + (3 : Int32) = nI (5 * c + 3) from nI_add _ 3, show nI (5 * c) + (4 : Int32) = nI (5 * c + 4) from nI_add _ 4, zl_d, i00]
  by_cases q : x3 = 0
  · simp only [if_pos q, iTr]
  · simp only [if_neg q, iTr]
theorem sim_value (hq : ∀ x y : Int32, ∃ v, fX0_quotient x y = some v ∧ fX9_valueOf x y = some v) (hn : n ≤ 100) (ht : ∀ k, k < n → t k ≤ 127) (hc : c < 12) (hp : p ≤ n) (hT : XT n t p c T) (hM : XM n t p M) :
    (∃ (T' : CS) (M' : MS) (p' : Nat) (bits : Int32), fX7_valueParsed T = some (1, T') ∧ fX9_clause_71 (nI (5 * c)) 0 M = some M' ∧ XT n t p' c T' ∧ XM n t p' M' ∧ p < p' ∧ p' ≤ n ∧ FR M M' ∧ VAL bits ∧ T'.1 = va_up T.1 4 (upd (T.1 4) c bits) ∧ (∀ x, x < 5 * c + 2 → M'.1 4 x = M.1 4 x) ∧ M'.1 4 (5 * c + 2) = 0 ∧ fX9_valueOf (M'.1 4 (5 * c + 3)) (M'.1 4 (5 * c + 4)) = some bits) ∨
    (∃ (T' : CS) (M' : MS) (f : Nat), fX7_valueParsed T = some (0, T') ∧ fX9_clause_71 (nI (5 * c)) 0 M = some M' ∧ T'.2 2 = nI f ∧ f ≤ n ∧ M'.2.1 4 = nI f ∧ FR M M' ∧ T'.1 = T.1 ∧ T'.2 0 = T.2 0) := by
  obtain ⟨x3, p1, T1, hx3, hs1, hT1, h71, hpp, hp1, hT1r, hT10⟩ : ∃ (x3 : Int32) (p1 : Nat) (T1 : CS), (x3 = 0 ∨ x3 = 1) ∧ fX7_skipped 45 T = some (x3, T1) ∧ XT n t p1 c T1 ∧ fX9_clause_71 (nI (5 * c)) 0 M = fX9_clause_126 (nI (5 * c)) 0 x3 0 (nI (5 * c) + 2) (sFm M 3 (nI p1)) ∧ p ≤ p1 ∧ p1 ≤ n ∧ T1.1 = T.1 ∧ T1.2 0 = T.2 0 := by
    have hsk : fX7_skipped 45 T = _ := c_skip (lo := 45) hT hn hp ht (by omega)
    have hse : fX9_sees 45 45 M = _ := m_sees (lo := 45) (hi := 45) hM hn hp ht (by omega) (by omega)
    unfold fX9_clause_71 fX9_clause_90 fX9_clause_91 fX9_clause_106
    rw [i00, hse, zb_s, hsk]
    by_cases hs : sb n t p 45 45 = true
    · have := (sb_is hs).1
      refine ⟨1, p + 1, sF T 2 (nI (p + 1)), Or.inr rfl, by rw [if_pos hs], hT.s2 _, ?_, by omega, by omega, rfl, by rw [sF_2, up_n (by omega)]⟩
      rw [if_pos hs, i10, i10, zl_d, i00, hM.2.2.1, nI_1]
    · refine ⟨0, p, T, Or.inl rfl, by rw [if_neg hs], hT, ?_, by omega, hp, rfl, rfl⟩
      rw [if_neg hs, i00, i00, zl_d, i00, hM.2.2.1, Int32.add_zero]
  have hMa := hM.s3 p1
  have hFa : FR M (wAm (wAm (wAm (sFm M 3 (nI p1)) 4 (nI (5 * c + 2)) 0) 4 (nI (5 * c + 3)) 0) 4 (nI (5 * c + 4)) 1) := ((FR.s3.tr FR.w4).tr FR.w4).tr FR.w4
  have hMb := ((hMa.w4 (i := nI (5 * c + 2)) (v := 0)).w4 (i := nI (5 * c + 3)) (v := 0)).w4 (i := nI (5 * c + 4)) (v := 1)
  have ra : ∀ x, x < 5 * c + 2 → (wAm (wAm (wAm (sFm M 3 (nI p1)) 4 (nI (5 * c + 2)) 0) 4 (nI (5 * c + 3)) 0) 4 (nI (5 * c + 4)) 1).1 4 x = M.1 4 x := fun x hx => by
    simp (disch := omega) only [w4n, sFm_1]
  have r2 : (wAm (wAm (wAm (sFm M 3 (nI p1)) 4 (nI (5 * c + 2)) 0) 4 (nI (5 * c + 3)) 0) 4 (nI (5 * c + 4)) 1).1 4 (5 * c + 2) = 0 := by
    simp (disch := omega) only [w4n, w4s]
  have r4 : (wAm (wAm (wAm (sFm M 3 (nI p1)) 4 (nI (5 * c + 2)) 0) 4 (nI (5 * c + 3)) 0) 4 (nI (5 * c + 4)) 1).1 4 (5 * c + 4) = 1 := by
    simp (disch := omega) only [w4s]
  rw [v126, zi_ok (by omega) (by omega), zi_ok (by omega) (by omega), zi_ok (by omega) (by omega)] at h71
  generalize wAm (wAm (wAm (sFm M 3 (nI p1)) 4 (nI (5 * c + 2)) 0) 4 (nI (5 * c + 3)) 0) 4 (nI (5 * c + 4)) 1 = Mb at h71 hFa hMb ra r2 r4
  have hbt : fX7_isBetween 48 57 T1 = _ := c_btw (lo := 48) (hi := 57) hT1 hn hp1 ht (by omega) (by omega)
  unfold fX7_valueParsed
  rw [hs1, zb2_s, hbt, zb_s, h71]
  by_cases hd : sb n t p1 48 57 = true
  · obtain ⟨y, p2, d1, d2, d3, d4⟩ := sim_number (mx := 4) hn ht (by omega) (by omega) hp1 hT1 hMb hd
    have d1' : fX7_digits 4 T1 = some (y, sF T1 2 (nI p2)) := d1
    have d2' : fX9_number 4 Mb = some (y, sFm Mb 3 (nI p2)) := d2
    have hT2 := hT1.s2 p2
    have hM2 := (hMb.s3 p2).w4 (i := nI (5 * c + 3)) (v := if x3 = 0 then y else -y)
    have hF2 : FR M (wAm (sFm Mb 3 (nI p2)) 4 (nI (5 * c + 3)) (if x3 = 0 then y else -y)) := (hFa.tr FR.s3).tr FR.w4
    have hsk : fX7_skipped 47 (sF T1 2 (nI p2)) = _ := c_skip (lo := 47) hT2 hn d4 ht (by omega)
    have hse : fX9_sees 47 47 (wAm (sFm Mb 3 (nI p2)) 4 (nI (5 * c + 3)) (if x3 = 0 then y else -y)) = _ := m_sees (lo := 47) (hi := 47) hM2 hn d4 ht (by omega) (by omega)
    rw [if_pos hd, i10, d1', zb2_s, hsk, d2', zb2_s]
    unfold fX9_clause_175
    rw [zi_ok (by omega) (by omega), zl_d, hse, zb_s]
    have h56 : ∀ (z : Int32) (T9 : CS) (q9 : Nat), XT n t q9 c T9 → T9.1 = T.1 → T9.2 0 = T.2 0 → ∃ bits, fX7_valueParsed_56 x3 y z T9 = some (1, wA T9 4 (nI c) bits) ∧ VAL bits ∧ fX9_valueOf (if x3 = 0 then y else -y) z = some bits := by
      intro z T9 q9 hT9 _ _
      obtain ⟨b, b1, b2⟩ := hq (if x3 = 0 then y else -y) z
      refine ⟨b, ?_, ⟨_, _, b1⟩, b2⟩
      unfold fX7_valueParsed_56 fX7_valueParsed_74
      rw [hT9.2.1]
      by_cases e : x3 = 0
      · rw [if_pos e] at b1
        rw [if_pos e, b1, zb_s, zi_ok hc (by omega), zl_d]
      · rw [if_neg e] at b1
        rw [if_neg e, b1, zb_s, zi_ok hc (by omega), zl_d]
    by_cases hsl : sb n t p2 47 47 = true
    · have hp2 := (sb_is hsl).1
      have hT3 := hT2.s2 (p2 + 1)
      have hM3 := hM2.s3 (p2 + 1)
      have hF3 := hF2.tr (FR.s3 (v := nI (p2 + 1)))
      have hbt2 : fX7_isBetween 48 57 (sF (sF T1 2 (nI p2)) 2 (nI (p2 + 1))) = _ := c_btw (lo := 48) (hi := 57) hT3 hn (by omega) ht (by omega) (by omega)
      rw [if_pos hsl, if_pos hsl, zb2_s, i10, i10, zl_d, hM2.2.2.1, nI_1, hbt2, zb_s, show nI (5 * c) + (4 : Int32) = nI (5 * c + 4) from nI_add _ 4]
      by_cases hd2 : sb n t (p2 + 1) 48 57 = true
      · obtain ⟨z, p4, f1, f2, f3, f4⟩ := sim_number (mx := 2) hn ht (by omega) (by omega) (by omega) hT3 hM3 hd2
        have f1' : fX7_digits 2 (sF (sF T1 2 (nI p2)) 2 (nI (p2 + 1))) = some (z, sF (sF (sF T1 2 (nI p2)) 2 (nI (p2 + 1))) 2 (nI p4)) := f1
        have f2' : fX9_number 2 (sFm (wAm (sFm Mb 3 (nI p2)) 4 (nI (5 * c + 3)) (if x3 = 0 then y else -y)) 3 (nI (p2 + 1))) = some (z, sFm (sFm (wAm (sFm Mb 3 (nI p2)) 4 (nI (5 * c + 3)) (if x3 = 0 then y else -y)) 3 (nI (p2 + 1))) 3 (nI p4)) := f2
        have hT4 := hT3.s2 p4
        obtain ⟨b, b1, b2, b3⟩ := h56 z _ p4 hT4 (by rw [sF_1, sF_1, sF_1, hT1r]) (by rw [sF_2, up_n (by omega), sF_2, up_n (by omega), sF_2, up_n (by omega), hT10])
        rw [if_pos hd2, i10, f1', zb2_s, b1, f2', zb2_s, zi_ok (by omega) (by omega), zl_d]
        left
        refine ⟨_, _, p4, b, rfl, rfl, hT4.wr (by omega), (hM3.s3 p4).w4, by omega, f4, (hF3.tr FR.s3).tr FR.w4, b2, ?_, fun x hx => ?_, ?_, ?_⟩
        · rw [wA_1, sF_1, sF_1, sF_1, hT1r, nI_clamp (by omega)]
        · simp (disch := omega) only [w4n, sFm_1]
          exact ra x hx
        · simp (disch := omega) only [w4n, sFm_1]
          exact r2
        · simp (disch := omega) only [w4n, w4s, sFm_1]
          exact b3
      · rw [if_neg hd2, i00]
        right
        have hmu : fX9_must 48 57 (sFm (wAm (sFm Mb 3 (nI p2)) 4 (nI (5 * c + 3)) (if x3 = 0 then y else -y)) 3 (nI (p2 + 1))) = _ := m_must_n (lo := 48) (hi := 57) hM3 hn (by omega) ht (by omega) (by omega) hd2
        have hFM : FM (p2 + 1) M (sFm (sFm (wAm (sFm Mb 3 (nI p2)) 4 (nI (5 * c + 3)) (if x3 = 0 then y else -y)) 3 (nI (p2 + 1))) 4 (nI (p2 + 1))) := ⟨by rw [sFm_21, up_s rfl], hF3.tr FR.s4⟩
        unfold fX9_number
        rw [hmu, zb2_s, num14_f (by omega) hFM, zb2_s, zi_ok (by omega) (by omega), zl_d]
        exact ⟨_, _, p2 + 1, rfl, rfl, hT3.2.2.1, by omega, hFM.w4.1, hFM.w4.2, by rw [sF_1, sF_1, hT1r], by rw [sF_2, up_n (by omega), sF_2, up_n (by omega), hT10]⟩
    · obtain ⟨b, b1, b2, b3⟩ := h56 1 _ p2 hT2 (by rw [sF_1, hT1r]) (by rw [sF_2, up_n (by omega), hT10])
      rw [if_neg hsl, if_neg hsl, zb2_s, i00, i00, b1]
      left
      refine ⟨_, _, p2, b, rfl, rfl, hT2.wr (by omega), hM2, by omega, d4, hF2, b2, ?_, fun x hx => ?_, ?_, ?_⟩
      · rw [wA_1, sF_1, hT1r, nI_clamp (by omega)]
      · simp (disch := omega) only [w4n, sFm_1]
        exact ra x hx
      · simp (disch := omega) only [w4n, sFm_1]
        exact r2
      · simp (disch := omega) only [w4n, w4s, sFm_1]
        rw [r4]
        exact b3
  · rw [if_neg hd, i00]
    right
    have hmu : fX9_must 48 57 Mb = _ := m_must_n (lo := 48) (hi := 57) hMb hn hp1 ht (by omega) (by omega) hd
    have hFM : FM p1 M (sFm Mb 4 (nI p1)) := ⟨by rw [sFm_21, up_s rfl], hFa.tr FR.s4⟩
    unfold fX9_number
    rw [hmu, zb2_s, num14_f (by omega) hFM, zb2_s]
    obtain ⟨M', m1, m2⟩ := f175 (by omega) hFM (nI (5 * c)) (if x3 = 0 then nI 48 - 48 else -(nI 48 - 48)) (j := 5 * c + 3) (by omega)
    rw [m1]
    exact ⟨T1, M', p1, rfl, rfl, hT1.2.2.1, hp1, m2.1, m2.2, hT1r, hT10⟩
end CLAUSE
