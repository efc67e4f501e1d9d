/-! ===== the text: read ===== -/
def CD (c : Nat) (T : CS) (M : MS) : Prop := ∃ (lg key form : Nat) (bits : Int32), lg < 4 ∧ key < 26 ∧ (form = 1 ∨ form = 2) ∧ VAL bits ∧ T.1 1 c = nI lg ∧ T.1 2 c = nI key ∧ T.1 3 c = nI form ∧ T.1 4 c = bits ∧ M.1 4 (5 * c) = nI lg ∧ M.1 4 (5 * c + 1) = nI key ∧ M.1 4 (5 * c + 2) = nI (form - 1) ∧ (form = 2 → bits = 0) ∧ (form = 1 → fX9_valueOf (M.1 4 (5 * c + 3)) (M.1 4 (5 * c + 4)) = some bits)
theorem CD.cg {c : Nat} {T T' : CS} {M M' : MS} (h : CD c T M) (hT : ∀ k, 1 ≤ k → k ≤ 4 → T'.1 k c = T.1 k c) (hM : ∀ x, x < 5 * c + 5 → M'.1 4 x = M.1 4 x) : CD c T' M' := by
  obtain ⟨lg, key, form, bits, h1, h2, h3, h4, h5, h6, h7, h8, h9, h10, h11, h12, h13⟩ := h
  refine ⟨lg, key, form, bits, h1, h2, h3, h4, ?_, ?_, ?_, ?_, ?_, ?_, ?_, h12, fun e => ?_⟩
  · rw [hT 1 (by omega) (by omega)]; exact h5
  · rw [hT 2 (by omega) (by omega)]; exact h6
  · rw [hT 3 (by omega) (by omega)]; exact h7
  · rw [hT 4 (by omega) (by omega)]; exact h8
  · rw [hM _ (by omega)]; exact h9
  · rw [hM _ (by omega)]; exact h10
  · rw [hM _ (by omega)]; exact h11
  · rw [hM _ (by omega), hM _ (by omega)]; exact h13 e
theorem wAr {T : CS} {k c : Nat} {v : Int32} (hc : c < 2 ^ 31) {k' j : Nat} : (wA T k (nI c) v).1 k' j = if k' = k ∧ j = c then v else T.1 k' j := by
  rw [wA_1]
  by_cases e : k' = k
  · rw [up_s e, nI_clamp hc]
    by_cases e2 : j = c
    · rw [upd_s e2, if_pos ⟨e, e2⟩]
    · rw [upd_n e2, if_neg (fun q => e2 q.2), e]
  · rw [up_n e, if_neg (fun q => e q.1)]
section READ2
variable {n : Nat} {t : Nat → Nat} {p c : Nat} {T : CS} {M : MS}
theorem sim_clause (hq : ∀ x y : Int32, ∃ v, fX0_quotient x y = some v ∧ fX9_valueOf x y = some v) (hn : n ≤ 100) (ht : ∀ k, k < n → t k ≤ 127) (hc : c < 12) (hp : p ≤ n) (hT : XT n t p c T) (hM : XM n t p M) :
    (∃ (T' : CS) (M' : MS) (p' : Nat), fX7_clauseParsed T = some (1, T') ∧ fX9_clause (nI (5 * c)) M = some M' ∧ XT n t p' c T' ∧ XM n t p' M' ∧ p < p' ∧ p' ≤ n ∧ FR M M' ∧ CD c T' M' ∧ (∀ k j, 1 ≤ k → k ≤ 4 → j < c → T'.1 k j = T.1 k j) ∧ (∀ x, x < 5 * c → M'.1 4 x = M.1 4 x)) ∨
    (∃ (T' : CS) (M' : MS) (f : Nat), fX7_clauseParsed T = some (0, T') ∧ fX9_clause (nI (5 * c)) M = some M' ∧ T'.2 2 = nI f ∧ f ≤ n ∧ M'.2.1 4 = nI f ∧ FR M M') := by
  have hb1 : fX7_isBetween 48 51 T = _ := c_btw (lo := 48) (hi := 51) hT hn hp ht (by omega) (by omega)
  have x1 : nI (5 * c) + (1 : Int32) = nI (5 * c + 1) := nI_1 _
  unfold fX7_clauseParsed fX9_clause
  rw [hb1, zb_s]
  by_cases h1 : sb n t p 48 51 = true
  · obtain ⟨s1, s2, s3⟩ := sb_is h1
    have hmu : fX9_must 48 51 M = _ := m_must (lo := 48) (hi := 51) hM hn hp ht (by omega) (by omega) h1
    have e48 : nI (t p) - (48 : Int32) = nI (t p - 48) := pk_sub (b := 48) s2
    rw [if_pos h1, i10, hT.2.2.1, hT.2.1, zi_ok (by omega) (by omega), zi_ok hc (by omega), zl_d, nI_clamp (by omega), hT.2.2.2 p s1, e48, zl_d, hmu, zb2_s, zi_ok (by omega) (by omega), zl_d, e48, wA_2, hT.2.2.1, nI_1]
    have hTa := (hT.wr (k := 1) (i := nI c) (v := nI (t p - 48)) (by omega)).s2 (p + 1)
    have hMa := (hM.s3 (p + 1)).w4 (i := nI (5 * c)) (v := nI (t p - 48))
    have hFa : FR M (wAm (sFm M 3 (nI (p + 1))) 4 (nI (5 * c)) (nI (t p - 48))) := FR.s3.tr FR.w4
    have hb2 : fX7_isBetween 97 122 (sF (wA T 1 (nI c) (nI (t p - 48))) 2 (nI (p + 1))) = _ := c_btw (lo := 97) (hi := 122) hTa hn (by omega) ht (by omega) (by omega)
    rw [hb2, zb_s]
    by_cases h2 : sb n t (p + 1) 97 122 = true
    · obtain ⟨u1, u2, u3⟩ := sb_is h2
      have hmu2 : fX9_must 97 122 (wAm (sFm M 3 (nI (p + 1))) 4 (nI (5 * c)) (nI (t p - 48))) = _ := m_must (lo := 97) (hi := 122) hMa hn (by omega) ht (by omega) (by omega) h2
      have e97 : nI (t (p + 1)) - (97 : Int32) = nI (t (p + 1) - 97) := pk_sub (b := 97) u2
      rw [if_pos h2, i10, hTa.2.2.1, hTa.2.1, zi_ok (by omega) (by omega), zi_ok hc (by omega), zl_d, nI_clamp (by omega), hTa.2.2.2 (p + 1) u1, e97, zl_d, hmu2, zb2_s, x1, zi_ok (by omega) (by omega), zl_d, e97, wA_2, hTa.2.2.1, nI_1]
      have hTb := (hTa.wr (k := 2) (i := nI c) (v := nI (t (p + 1) - 97)) (by omega)).s2 (p + 1 + 1)
      have hMb := (hMa.s3 (p + 1 + 1)).w4 (i := nI (5 * c + 1)) (v := nI (t (p + 1) - 97))
      have hFb : FR M (wAm (sFm (wAm (sFm M 3 (nI (p + 1))) 4 (nI (5 * c)) (nI (t p - 48))) 3 (nI (p + 1 + 1))) 4 (nI (5 * c + 1)) (nI (t (p + 1) - 97))) := (hFa.tr FR.s3).tr FR.w4
      have ta : ∀ k j, (sF (wA (sF (wA T 1 (nI c) (nI (t p - 48))) 2 (nI (p + 1))) 2 (nI c) (nI (t (p + 1) - 97))) 2 (nI (p + 1 + 1))).1 k j = if k = 2 ∧ j = c then nI (t (p + 1) - 97) else if k = 1 ∧ j = c then nI (t p - 48) else T.1 k j := fun k j => by
        rw [sF_1, wAr (by omega), sF_1, wAr (by omega)]
      have ma : ∀ x, x < 5 * c → (wAm (sFm (wAm (sFm M 3 (nI (p + 1))) 4 (nI (5 * c)) (nI (t p - 48))) 3 (nI (p + 1 + 1))) 4 (nI (5 * c + 1)) (nI (t (p + 1) - 97))).1 4 x = M.1 4 x := fun x hx => by
        simp (disch := omega) only [w4n, sFm_1]
      have m0 : (wAm (sFm (wAm (sFm M 3 (nI (p + 1))) 4 (nI (5 * c)) (nI (t p - 48))) 3 (nI (p + 1 + 1))) 4 (nI (5 * c + 1)) (nI (t (p + 1) - 97))).1 4 (5 * c) = nI (t p - 48) := by
        simp (disch := omega) only [w4n, w4s, sFm_1]
      have m1 : (wAm (sFm (wAm (sFm M 3 (nI (p + 1))) 4 (nI (5 * c)) (nI (t p - 48))) 3 (nI (p + 1 + 1))) 4 (nI (5 * c + 1)) (nI (t (p + 1) - 97))).1 4 (5 * c + 1) = nI (t (p + 1) - 97) := by
        simp (disch := omega) only [w4s]
      generalize sF (wA (sF (wA T 1 (nI c) (nI (t p - 48))) 2 (nI (p + 1))) 2 (nI c) (nI (t (p + 1) - 97))) 2 (nI (p + 1 + 1)) = Tb at hTb ta ⊢
      generalize wAm (sFm (wAm (sFm M 3 (nI (p + 1))) 4 (nI (5 * c)) (nI (t p - 48))) 3 (nI (p + 1 + 1))) 4 (nI (5 * c + 1)) (nI (t (p + 1) - 97)) = Mb at hMb hFb ma m0 m1 ⊢
      have hsk : fX7_skipped 45 Tb = _ := c_skip (lo := 45) hTb hn (by omega) ht (by omega)
      have hse : fX9_sees 45 45 Mb = _ := m_sees (lo := 45) (hi := 45) hMb hn (by omega) ht (by omega) (by omega)
      rw [hsk, hse, zb_s]
      by_cases h3 : sb n t (p + 1 + 1) 45 45 = true
      · have v1 := (sb_is h3).1
        have hTc := hTb.s2 (p + 1 + 1 + 1)
        have hMc := hMb.s3 (p + 1 + 1 + 1)
        rw [if_pos h3, if_pos h3, zb2_s, i10, i10, zl_d, hMb.2.2.1, nI_1, hTc.2.1, zi_ok hc (by omega), zl_d, wA_2, hTc.2.1, zi_ok hc (by omega), zl_d]
        left
        have h71 : fX9_clause_71 (nI (5 * c)) 1 (sFm Mb 3 (nI (p + 1 + 1 + 1))) = some (wAm (wAm (wAm (sFm (sFm Mb 3 (nI (p + 1 + 1 + 1))) 3 (nI (p + 1 + 1 + 1))) 4 (nI (5 * c + 2)) 1) 4 (nI (5 * c + 3)) 0) 4 (nI (5 * c + 4)) 1) := by
          unfold fX9_clause_71 fX9_clause_90 fX9_clause_91 fX9_clause_106 fX9_clause_126
          rw [i10, i00, zl_d, i10, hMc.2.2.1, Int32.add_zero, show nI (5 * c) + (2 : Int32) = nI (5 * c + 2) from nI_add _ 2, show nI (5 * c) + (3 : Int32) = nI (5 * c + 3) from nI_add _ 3, show nI (5 * c) + (4 : Int32) = nI (5 * c + 4) from nI_add _ 4, zi_ok (by omega) (by omega), zl_d, zi_ok (by omega) (by omega), zl_d, zi_ok (by omega) (by omega), zl_d, i10]
        rw [h71]
        refine ⟨_, _, p + 1 + 1 + 1, rfl, rfl, (hTc.wr (by omega)).wr (by omega), (((hMc.s3 (p + 1 + 1 + 1)).w4).w4).w4, by omega, by omega, ((((hFb.tr FR.s3).tr FR.s3).tr FR.w4).tr FR.w4).tr FR.w4, ?_, fun k j k1 k2 hj => ?_, fun x hx => ?_⟩
        · refine ⟨t p - 48, t (p + 1) - 97, 2, 0, by omega, by omega, Or.inr rfl, VAL0, ?_, ?_, ?_, ?_, ?_, ?_, ?_, fun _ => rfl, fun e => absurd e (by omega)⟩
          · rw [wAr (by omega), if_neg (by omega), wAr (by omega), if_neg (by omega), sF_1, ta, if_neg (by omega), if_pos (by omega)]
          · rw [wAr (by omega), if_neg (by omega), wAr (by omega), if_neg (by omega), sF_1, ta, if_pos (by omega)]
          · rw [wAr (by omega), if_neg (by omega), wAr (by omega), if_pos (by omega)]
            rfl
          · rw [wAr (by omega), if_pos (by omega)]
          · simp (disch := omega) only [w4n, sFm_1]
            exact m0
          · simp (disch := omega) only [w4n, sFm_1]
            exact m1
          · simp (disch := omega) only [w4n, w4s, sFm_1]
            rfl
        · rw [wAr (by omega), if_neg (by omega), wAr (by omega), if_neg (by omega), sF_1, ta, if_neg (by omega), if_neg (by omega)]
        · simp (disch := omega) only [w4n, sFm_1]
          exact ma x hx
      · rw [if_neg h3, if_neg h3, zb2_s, i00, i00, hTb.2.1, zi_ok hc (by omega), zl_d]
        have hTc := hTb.wr (k := 3) (i := nI c) (v := 1) (by omega)
        have hsk2 : fX7_skipped 61 (wA Tb 3 (nI c) 1) = _ := c_skip (lo := 61) hTc hn (by omega) ht (by omega)
        rw [hsk2]
        by_cases h4 : sb n t (p + 1 + 1) 61 61 = true
        · have v1 := (sb_is h4).1
          have hmu3 : fX9_must 61 61 Mb = _ := m_must (lo := 61) (hi := 61) hMb hn (by omega) ht (by omega) (by omega) h4
          rw [if_pos h4, zb2_s, i10, hmu3, zb2_s]
          rcases sim_value hq hn ht hc (by omega) (hTc.s2 (p + 1 + 1 + 1)) (hMb.s3 (p + 1 + 1 + 1)) with ⟨T', M', p', bits, w1, w2, w3, w4, w5, w6, w7, w8, w9, w10, w11, w12⟩ | ⟨T', M', f, w1, w2, w3, w4, w5, w6, w7, w8⟩
          · rw [w1, zb2_s, i10, w2]
            left
            have tz : ∀ k j, T'.1 k j = if k = 4 ∧ j = c then bits else if k = 3 ∧ j = c then 1 else Tb.1 k j := fun k j => by
              rw [w9]
              by_cases e : k = 4
              · rw [up_s e]
                by_cases e2 : j = c
                · rw [upd_s e2, if_pos ⟨e, e2⟩]
                · rw [upd_n e2, if_neg (fun q => e2 q.2), if_neg (by omega), sF_1, wAr (by omega), if_neg (by omega), e]
              · rw [up_n e, if_neg (fun q => e q.1), sF_1, wAr (by omega)]
            refine ⟨T', M', p', rfl, rfl, w3, w4, by omega, w6, (hFb.tr FR.s3).tr w7, ?_, fun k j k1 k2 hj => ?_, fun x hx => ?_⟩
            · refine ⟨t p - 48, t (p + 1) - 97, 1, bits, by omega, by omega, Or.inl rfl, w8, ?_, ?_, ?_, ?_, ?_, ?_, ?_, fun e => absurd e (by omega), fun _ => w12⟩
              · rw [tz, if_neg (by omega), if_neg (by omega), ta, if_neg (by omega), if_pos (by omega)]
              · rw [tz, if_neg (by omega), if_neg (by omega), ta, if_pos (by omega)]
              · rw [tz, if_neg (by omega), if_pos (by omega)]
                rfl
              · rw [tz, if_pos (by omega)]
              · rw [w10 _ (by omega), sFm_1]; exact m0
              · rw [w10 _ (by omega), sFm_1]; exact m1
              · rw [w11]; rfl
            · rw [tz, if_neg (by omega), if_neg (by omega), ta, if_neg (by omega), if_neg (by omega)]
            · rw [w10 _ (by omega), sFm_1]; exact ma x hx
          · rw [w1, zb2_s, i00, w2]
            right
            exact ⟨T', M', f, rfl, rfl, w3, w4, w5, (hFb.tr FR.s3).tr w6⟩
        · have hmu3 : fX9_must 61 61 Mb = _ := m_must_n (lo := 61) (hi := 61) hMb hn (by omega) ht (by omega) (by omega) h4
          have hFM : FM (p + 1 + 1) M (sFm Mb 4 (nI (p + 1 + 1))) := ⟨by rw [sFm_21, up_s rfl], hFb.tr FR.s4⟩
          obtain ⟨M', m1', m2'⟩ := f71 (by omega) hc hFM
          rw [if_neg h4, zb2_s, i00, hmu3, zb2_s, m1']
          right
          exact ⟨_, M', p + 1 + 1, rfl, rfl, hTc.2.2.1, by omega, m2'.1, m2'.2⟩
    · have hmu2 : fX9_must 97 122 (wAm (sFm M 3 (nI (p + 1))) 4 (nI (5 * c)) (nI (t p - 48))) = _ := m_must_n (lo := 97) (hi := 122) hMa hn (by omega) ht (by omega) (by omega) h2
      have hFM : FM (p + 1) M (sFm (wAm (sFm M 3 (nI (p + 1))) 4 (nI (5 * c)) (nI (t p - 48))) 4 (nI (p + 1))) := ⟨by rw [sFm_21, up_s rfl], hFa.tr FR.s4⟩
      rw [if_neg h2, i00, zl_d, hmu2, zb2_s, x1, zi_ok (by omega) (by omega), zl_d, m_sees_f (f := p + 1) (by omega) hFM.w4.1, zb_s, i00, m_must_f (f := p + 1) (by omega) hFM.w4.1, zb2_s]
      obtain ⟨M', m1', m2'⟩ := f71 (f := p + 1) (M0 := M) (by omega) hc (hFM.w4 (i := nI (5 * c + 1)) (v := nI 97 - 97)).s4
      rw [m1']
      right
      exact ⟨_, M', p + 1, rfl, rfl, hTa.2.2.1, by omega, m2'.1, m2'.2⟩
  · have hmu : fX9_must 48 51 M = _ := m_must_n (lo := 48) (hi := 51) hM hn hp ht (by omega) (by omega) h1
    have hFM : FM p M (sFm M 4 (nI p)) := ⟨by rw [sFm_21, up_s rfl], FR.s4⟩
    rw [if_neg h1, i00, hmu, zb2_s, zi_ok (by omega) (by omega), zl_d, m_must_f (f := p) (by omega) hFM.w4.1, zb2_s, x1, zi_ok (by omega) (by omega), zl_d, m_sees_f (f := p) (by omega) hFM.w4.s4.w4.1, zb_s, i00, m_must_f (f := p) (by omega) hFM.w4.s4.w4.1, zb2_s]
    obtain ⟨M', m1', m2'⟩ := f71 (f := p) (M0 := M) (by omega) hc ((hFM.w4 (i := nI (5 * c)) (v := nI 48 - 48)).s4.w4 (i := nI (5 * c + 1)) (v := 97 - 97)).s4
    rw [m1']
    right
    exact ⟨_, M', p, rfl, rfl, hT.2.2.1, hp, m2'.1, m2'.2⟩
end READ2
