/-! ===== a record comes, on both sides ===== -/
def Fm (M M' : MS) (b : Nat) : Prop := (∀ k, k ≠ 0 → M'.1 k = M.1 k) ∧ M'.2 = M.2 ∧ ∀ j, j < b ∨ b + 1272 ≤ j → M'.1 0 j = M.1 0 j
theorem Fm.rf {M : MS} {b : Nat} : Fm M M b := ⟨fun _ _ => rfl, rfl, fun _ _ => rfl⟩
theorem Fm.tr {M M1 M2 : MS} {b : Nat} (h : Fm M M1 b) (h2 : Fm M1 M2 b) : Fm M M2 b := ⟨fun k hk => (h2.1 k hk).trans (h.1 k hk), h2.2.1.trans h.2.1, fun j hj => (h2.2.2 j hj).trans (h.2.2 j hj)⟩
theorem Fm.S {M M' : MS} {b j : Nat} {v : Int32} (h : Fm M M' b) (h1 : b ≤ j) (h2 : j < b + 1272) : Fm M (mS M' j v) b := ⟨fun k hk => (mS_k _ _ _ hk).trans (h.1 k hk), h.2.1, fun q hq => by rw [mS_g, upd_n (by omega), h.2.2 q hq]⟩
section APP2
variable {a : AB} {L : CS} {M : MS} {w key form size i : Nat} {bits : Int32}
theorem CR.cls (hC : CR a L) (hA : AI a w) : CR (cls a) (sF (wA L 5 (nI (a.1 6 1)) (nI (a.1 6 0))) 1 (nI (a.1 6 1 + 1))) := by
  have hf := hA.few
  refine (hC.base (j := a.1 6 1) (v := a.1 6 0) (by omega)).sN (fun k hk => ?_)
  rw [wA_1, up_s rfl, nI_clamp (by omega)]
  by_cases e : k = a.1 6 1
  · rw [upd_s e, au_s ⟨rfl, e⟩]
  · rw [upd_n e, au_n (by omega), hC.2.1 k (by omega)]
theorem c_app100 (hC : CR a L) (hA : AI a w) (x : Int32) : ∃ L', fX3_append_100 x L = some (x, L') ∧ CR (cls a) L' := by
  have hf := hA.few
  have he := hA.2.1
  refine ⟨_, ?_, hC.cls hA⟩
  unfold fX3_append_100
  simp (disch := omega) only [nlit, zl_d, zb_s, zb2_s, nI_leI, nI_ltI, nI_eq, nI_add, nI_clamp, zi_ok, hC.2.2.1, hC.2.2.2, wA_2]
theorem c_app (hC : CR a L) (hA : AI a w) (he : a.1 6 0 < 200) (hf : form = 1 ∨ form = 2) (hk : key < 26) (hs : 1 ≤ size ∧ size ≤ 9) (hv : VAL bits) : ∃ L', fX3_append (nI key) (nI form) bits (nI size) (nI w) L = some (nI (a.1 6 0), L') ∧ CR (apA a key form bits size w) L' := by
  have hC1 : CR (ap0 a key form bits size w) _ := (((((hC.row (k := 0) (j := a.1 6 0) (v := form) (by omega) he).row (k := 1) (j := a.1 6 0) (v := key) (by omega) he).row (k := 2) (j := a.1 6 0) (v := w) (by omega) he).row (k := 3) (j := a.1 6 0) (v := size) (by omega) he).bits (v := bits) he).sE (a.1 6 0 + 1)
  have hA1 := ap0_I hA he hf hk hs hv
  have hfew := hA.few
  have hn := hA.2.2.1
  have hE := hC.2.2.1
  have hN := hC.2.2.2
  unfold fX3_append
  simp (disch := omega) only [nlit, zl_d, zb_s, zb2_s, nI_leI, nI_ltI, nI_eq, nI_add, nI_clamp, zi_ok, hE, wA_2, sF_2, up_s, up_n, hN, pk_sub]
  generalize sF (wA (wA (wA (wA (wA L 0 (nI (a.1 6 0)) (nI form)) 1 (nI (a.1 6 0)) (nI key)) 2 (nI (a.1 6 0)) (nI w)) 3 (nI (a.1 6 0)) (nI size)) 4 (nI (a.1 6 0)) bits) 0 (nI (a.1 6 0 + 1)) = L1 at hC1 ⊢
  have hB := hC1.2.1 (a.1 6 1 - 1) (by rw [ap0_n]; omega)
  have hl := hA1.ble (k := a.1 6 1 - 1) (by rw [ap0_n]; omega)
  have hr := c_rec hC1 hA1 hl (Nat.le_refl _)
  have hz := c_siz hC1 hA1 hl (Nat.le_refl _)
  have he1 : (ap0 a key form bits size w).1 6 0 = a.1 6 0 + 1 := ap0_e
  have hn1 : (ap0 a key form bits size w).1 6 1 = a.1 6 1 := ap0_n
  have ha := hA1.2.1
  have hs1 := sg_le (f := hb (ap0 a key form bits size w)) (c := 1) ((ap0 a key form bits size w).1 6 0 - (ap0 a key form bits size w).1 5 (a.1 6 1 - 1)) ((ap0 a key form bits size w).1 5 (a.1 6 1 - 1)) (fun i _ _ => hb_le _ i)
  have hs2 := sg_le (f := wb (ap0 a key form bits size w)) (c := 9) ((ap0 a key form bits size w).1 6 0 - (ap0 a key form bits size w).1 5 (a.1 6 1 - 1)) ((ap0 a key form bits size w).1 5 (a.1 6 1 - 1)) (fun i _ _ => hA1.wb9 (by omega))
  rw [hB, ← he1, hr, hz]
  simp (disch := omega) only [nlit, zl_d, zb_s, zb2_s, nI_leI, nI_ltI, nI_eq, nI_add, nI_clamp, zi_ok]
  unfold apA
  by_cases hfull : full (ap0 a key form bits size w) = true
  · rw [if_pos hfull]
    have hd := of_decide_eq_true hfull
    rw [hn1] at hd
    obtain ⟨L2, e1, e2⟩ := c_app100 hC1 hA1 (nI (a.1 6 0))
    refine ⟨L2, ?_, e2⟩
    by_cases h4 : 4 ≤ sg (hb (ap0 a key form bits size w)) ((ap0 a key form bits size w).1 5 (a.1 6 1 - 1)) ((ap0 a key form bits size w).1 6 0 - (ap0 a key form bits size w).1 5 (a.1 6 1 - 1))
    · rw [if_pos h4, e1]
    · rw [if_neg h4, if_neg (by omega), e1]
  · rw [if_neg hfull]
    have hd := fun q => hfull (decide_eq_true q)
    rw [hn1] at hd
    exact ⟨L1, by rw [if_neg (fun q => hd (Or.inl q)), if_pos (Nat.lt_of_not_le (fun q => hd (Or.inr q)))], hC1⟩
theorem m_comes (hi : i < 4) (hM : MR a (M.1 0) (i * 1274)) (hA : AI a w) (hw : M.1 0 5096 = nI w) (he : a.1 6 0 < 200) (hf : form = 1 ∨ form = 2) (hk : key < 26) (hs : 1 ≤ size ∧ size ≤ 9) (hv : VAL bits) : ∃ M', fX9_comes (nI i) (nI key) bits (nI (form - 1)) (nI size) M = some (nI (a.1 6 0), M') ∧ MR (apA a key form bits size w) (M'.1 0) (i * 1274) ∧ Fm M M' (i * 1274) := by
  have hA1 := ap0_I hA he hf hk hs hv
  have hfew := hA.few
  have hn := hA.2.2.1
  have he1 : (ap0 a key form bits size w).1 6 0 = a.1 6 0 + 1 := ap0_e
  have hn1 : (ap0 a key form bits size w).1 6 1 = a.1 6 1 := ap0_n
  have hM1 : MR (ap0 a key form bits size w) ((mS (mS (mS (mS (mS (mS (mS M (i * 1274 + a.1 6 0) (nI 1)) (i * 1274 + (200 + a.1 6 0)) (nI key)) (i * 1274 + (400 + a.1 6 0)) (nI w)) (i * 1274 + (600 + a.1 6 0)) (nI size)) (i * 1274 + (800 + a.1 6 0)) (nI (form - 1))) (i * 1274 + (1000 + a.1 6 0)) bits) (i * 1274 + 1271) (nI (a.1 6 0 + 1))).1 0) (i * 1274) := by
    refine ⟨fun o ho => ?_, fun k hk => ?_, ?_, ?_⟩
    · obtain ⟨h0, h1, h2, h3, h4, h5⟩ := hM.1 o ho
      by_cases e : o = a.1 6 0
      · subst e
        have hx : hb (ap0 a key form bits size w) (a.1 6 0) = 1 := by
          unfold hb
          rw [ap0_0, if_neg (by omega)]
        simp (disch := omega) [mS_g, upd_s, upd_n, ap0_0, ap0_1, ap0_2, ap0_3, ap0_v, hx]
      · have hx : hb (ap0 a key form bits size w) o = hb a o := by
          unfold hb
          rw [ap0_o (by omega) e]
        simp (disch := omega) only [mS_g, upd_n, ap0_o, ap0_vo, hx]
        exact ⟨h0, h1, h2, h3, h4, h5⟩
    · rw [hn1] at hk
      have h := hM.2.1 k hk
      simp (disch := omega) only [mS_g, upd_n, ap0_5]
      exact h
    · simp (disch := omega) only [mS_g, upd_n, hn1]
      exact hM.2.2.1
    · simp (disch := omega) only [mS_g, upd_s, he1]
  have hF1 : Fm M (mS (mS (mS (mS (mS (mS (mS M (i * 1274 + a.1 6 0) (nI 1)) (i * 1274 + (200 + a.1 6 0)) (nI key)) (i * 1274 + (400 + a.1 6 0)) (nI w)) (i * 1274 + (600 + a.1 6 0)) (nI size)) (i * 1274 + (800 + a.1 6 0)) (nI (form - 1))) (i * 1274 + (1000 + a.1 6 0)) bits) (i * 1274 + 1271) (nI (a.1 6 0 + 1))) (i * 1274) := ((((((Fm.rf.S (by omega) (by omega)).S (by omega) (by omega)).S (by omega) (by omega)).S (by omega) (by omega)).S (by omega) (by omega)).S (by omega) (by omega)).S (by omega) (by omega)
  have hw2 : (mS (mS M (i * 1274 + a.1 6 0) (nI 1)) (i * 1274 + (200 + a.1 6 0)) (nI key)).1 0 5096 = nI w := by
    simp (disch := omega) only [mS_g, upd_n, hw]
  unfold fX9_comes
  simp (disch := omega) only [nlit, zl_d, zb_s, zb2_s, nI_leI, nI_ltI, nI_eq, nI_add, nI_clamp, zi_ok, m_end hi hM, m_sets, Nat.zero_add, hw2]
  have hgo : ∀ t : Nat, t = form - 1 → fX9_comes_82 (nI i) bits (nI (a.1 6 0)) (nI t) (nI (800 + a.1 6 0)) (nI i) (mS (mS (mS (mS M (i * 1274 + a.1 6 0) (nI 1)) (i * 1274 + (200 + a.1 6 0)) (nI key)) (i * 1274 + (400 + a.1 6 0)) (nI w)) (i * 1274 + (600 + a.1 6 0)) (nI size)) = fX9_comes_82 (nI i) bits (nI (a.1 6 0)) (nI (form - 1)) (nI (800 + a.1 6 0)) (nI i) (mS (mS (mS (mS M (i * 1274 + a.1 6 0) (nI 1)) (i * 1274 + (200 + a.1 6 0)) (nI key)) (i * 1274 + (400 + a.1 6 0)) (nI w)) (i * 1274 + (600 + a.1 6 0)) (nI size)) := fun t ht => by rw [ht]
  have hif : (if form - 1 = 0 then fX9_comes_82 (nI i) bits (nI (a.1 6 0)) (nI 0) (nI (800 + a.1 6 0)) (nI i) (mS (mS (mS (mS M (i * 1274 + a.1 6 0) (nI 1)) (i * 1274 + (200 + a.1 6 0)) (nI key)) (i * 1274 + (400 + a.1 6 0)) (nI w)) (i * 1274 + (600 + a.1 6 0)) (nI size)) else fX9_comes_82 (nI i) bits (nI (a.1 6 0)) (nI 1) (nI (800 + a.1 6 0)) (nI i) (mS (mS (mS (mS M (i * 1274 + a.1 6 0) (nI 1)) (i * 1274 + (200 + a.1 6 0)) (nI key)) (i * 1274 + (400 + a.1 6 0)) (nI w)) (i * 1274 + (600 + a.1 6 0)) (nI size))) = fX9_comes_82 (nI i) bits (nI (a.1 6 0)) (nI (form - 1)) (nI (800 + a.1 6 0)) (nI i) (mS (mS (mS (mS M (i * 1274 + a.1 6 0) (nI 1)) (i * 1274 + (200 + a.1 6 0)) (nI key)) (i * 1274 + (400 + a.1 6 0)) (nI w)) (i * 1274 + (600 + a.1 6 0)) (nI size)) := by
    split
    · exact hgo 0 (by omega)
    · exact hgo 1 (by omega)
  rw [hif]
  unfold fX9_comes_82
  simp (disch := omega) only [nlit, zl_d, zb_s, zb2_s, nI_leI, nI_ltI, nI_eq, nI_add, nI_clamp, zi_ok, m_sets]
  generalize mS (mS (mS (mS (mS (mS (mS M (i * 1274 + a.1 6 0) (nI 1)) (i * 1274 + (200 + a.1 6 0)) (nI key)) (i * 1274 + (400 + a.1 6 0)) (nI w)) (i * 1274 + (600 + a.1 6 0)) (nI size)) (i * 1274 + (800 + a.1 6 0)) (nI (form - 1))) (i * 1274 + (1000 + a.1 6 0)) bits) (i * 1274 + 1271) (nI (a.1 6 0 + 1)) = M1 at hM1 hF1 ⊢
  have hr := m_many hi hM1 hA1 (k := a.1 6 1 - 1) (by omega)
  have hz := m_weightIn hi hM1 hA1 (k := a.1 6 1 - 1) (by omega)
  have hse : se (ap0 a key form bits size w) (a.1 6 1 - 1) = (ap0 a key form bits size w).1 6 0 := by
    unfold se
    rw [if_neg (by omega)]
  have ha := hA1.2.1
  have hs1 := sg_le (f := hb (ap0 a key form bits size w)) (c := 1) ((ap0 a key form bits size w).1 6 0 - (ap0 a key form bits size w).1 5 (a.1 6 1 - 1)) ((ap0 a key form bits size w).1 5 (a.1 6 1 - 1)) (fun i _ _ => hb_le _ i)
  have hl := hA1.ble (k := a.1 6 1 - 1) (by omega)
  have hs2 := sg_le (f := wb (ap0 a key form bits size w)) (c := 9) ((ap0 a key form bits size w).1 6 0 - (ap0 a key form bits size w).1 5 (a.1 6 1 - 1)) ((ap0 a key form bits size w).1 5 (a.1 6 1 - 1)) (fun i _ _ => hA1.wb9 (by omega))
  rw [hse] at hr hz
  simp (disch := omega) only [nlit, zl_d, zb_s, zb2_s, nI_leI, nI_ltI, nI_eq, nI_add, nI_clamp, zi_ok, m_parts hi hM1, hn1, pk_sub, hr, hz]
  have h100 : ∃ M', fX9_comes_144 (nI i) (nI (a.1 6 0)) (nI (a.1 6 1 - 1)) M1 = some (nI (a.1 6 0), M') ∧ MR (cls (ap0 a key form bits size w)) (M'.1 0) (i * 1274) ∧ Fm M M' (i * 1274) := by
    refine ⟨mS (mS M1 (i * 1274 + (1200 + (a.1 6 1 - 1) + 1)) (nI (a.1 6 0 + 1))) (i * 1274 + 1270) (nI (a.1 6 1 - 1 + 2)), ?_, ?_, (hF1.S (by omega) (by omega)).S (by omega) (by omega)⟩
    · unfold fX9_comes_144
      simp (disch := omega) only [nlit, zl_d, zb_s, zb2_s, nI_leI, nI_ltI, nI_eq, nI_add, nI_clamp, zi_ok, m_sets]
    · refine ⟨fun o ho => ?_, fun k hk => ?_, ?_, ?_⟩
      · obtain ⟨h0, h1, h2, h3, h4, h5⟩ := hM1.1 o ho
        have hx : hb (cls (ap0 a key form bits size w)) o = hb (ap0 a key form bits size w) o := by
          unfold hb
          rw [cls_o (by omega)]
        simp (disch := omega) only [mS_g, upd_n, cls_o, hx]
        exact ⟨h0, h1, h2, h3, h4, h5⟩
      · rw [cls_n, hn1] at hk
        by_cases e : k = a.1 6 1
        · have h5 := cls_5n (a := ap0 a key form bits size w)
          rw [hn1] at h5
          subst e
          rw [h5]
          simp (disch := omega) only [mS_g, upd_n, upd_s, he1]
        · rw [cls_5 (by omega)]
          simp (disch := omega) only [mS_g, upd_n]
          exact hM1.2.1 k (by omega)
      · rw [cls_n, hn1]
        simp (disch := omega) only [mS_g, upd_s]
        rw [show a.1 6 1 - 1 + 2 = a.1 6 1 + 1 by omega]
      · rw [cls_e]
        simp (disch := omega) only [mS_g, upd_n]
        exact hM1.2.2.2
  unfold apA
  by_cases hfull : full (ap0 a key form bits size w) = true
  · rw [if_pos hfull]
    have hd := of_decide_eq_true hfull
    rw [hn1] at hd
    obtain ⟨M2, e1, e2⟩ := h100
    refine ⟨M2, ?_, e2⟩
    by_cases h4 : 4 ≤ sg (hb (ap0 a key form bits size w)) ((ap0 a key form bits size w).1 5 (a.1 6 1 - 1)) ((ap0 a key form bits size w).1 6 0 - (ap0 a key form bits size w).1 5 (a.1 6 1 - 1))
    · rw [if_pos h4, e1]
    · rw [if_neg h4, if_neg (by omega), e1]
  · rw [if_neg hfull]
    have hd := fun q => hfull (decide_eq_true q)
    rw [hn1] at hd
    exact ⟨M1, by rw [if_neg (fun q => hd (Or.inl q)), if_pos (Nat.lt_of_not_le (fun q => hd (Or.inr q)))], hM1, hF1⟩
end APP2
