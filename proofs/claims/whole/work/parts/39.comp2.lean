/-! ===== compaction by the model; joining, on both sides ===== -/
section COMP2
variable {a : AB} {L : CS} {M : MS} {w i gr : Nat}
theorem MR.gone (hM : MR a (M.1 0) (i * 1274)) {o : Nat} (ho : o < 200) : MR (au a 0 o 0) ((mS M (i * 1274 + o) (nI 0)).1 0) (i * 1274) := by
  refine ⟨fun q hq => ?_, fun k hk => ?_, ?_, ?_⟩
  · obtain ⟨g0, g1, g2, g3, g4, g5⟩ := hM.1 q hq
    by_cases e : q = o
    · subst e
      have hx : hb (au a 0 q 0) q = 0 := if_pos (au_s ⟨rfl, rfl⟩)
      simp (disch := omega) [mS_g, upd_s, upd_n, hx, au_n, au_s, au_2, g1, g2, g3, g5]
    · have hx : hb (au a 0 o 0) q = hb a q := by
        unfold hb
        rw [au_n (by omega)]
      simp (disch := omega) only [mS_g, upd_n, hx, au_n, au_2]
      exact ⟨g0, g1, g2, g3, g4, g5⟩
  · rw [au_n (by omega)] at hk
    rw [mS_g, upd_n (by omega), au_n (by omega), hM.2.1 k hk]
  · rw [mS_g, upd_n (by omega), au_n (by omega), hM.2.2.1]
  · rw [mS_g, upd_n (by omega), au_n (by omega), hM.2.2.2]
theorem m_later_l (hi : i < 4) (hM : MR a (M.1 0) (i * 1274)) (hA : AI a w) {o : Nat} (ho : o < 200) : ∀ (d n q : Nat), q + d = a.1 6 0 → d < n → fX9_hasLater_4 (nI i) (nI o) M n (nI q) = some (if q < lst a (a.1 1 o) (a.1 6 0) then 1 else 0) := by
  have he := hA.2.1
  intro d
  induction d with
  | zero =>
    intro n q h1 h2
    obtain ⟨q9, rfl⟩ : ∃ q9, n = q9 + 1 := ⟨n - 1, by omega⟩
    have hl := lst_le (a := a) (a.1 1 o) (a.1 6 0)
    rw [fX9_hasLater_4]
    simp (disch := omega) only [nlit, zl_d, zb_s, zb2_s, nI_leI, nI_ltI, nI_eq, nI_add, nI_clamp, zi_ok, m_end hi hM]
    rw [if_pos (by omega), if_neg (by omega)]
  | succ d ih =>
    intro n q h1 h2
    obtain ⟨q9, rfl⟩ : ∃ q9, n = q9 + 1 := ⟨n - 1, by omega⟩
    have hf := (hM.1 q (by omega)).1
    have hk := (hM.1 q (by omega)).2.1
    have hk1 := (hM.1 o (by omega)).2.1
    have hf2 := hb_le a q
    have hk2 := (hA.2.2.2.1 q (by omega)).2.1
    have hk3 := (hA.2.2.2.1 o (by omega)).2.1
    have hstep : (a.1 0 q ≠ 0 ∧ a.1 1 q = a.1 1 o) ∨ (¬ (a.1 0 q ≠ 0 ∧ a.1 1 q = a.1 1 o) ∧ (q < lst a (a.1 1 o) (a.1 6 0) ↔ q + 1 < lst a (a.1 1 o) (a.1 6 0))) := by
      by_cases h : a.1 0 q ≠ 0 ∧ a.1 1 q = a.1 1 o
      · exact Or.inl h
      · refine Or.inr ⟨h, ?_⟩
        rw [lst_gt, lst_gt]
        constructor
        · rintro ⟨x, x1, x2, x3⟩
          exact ⟨x, by
            have : x ≠ q := fun e => h (by rw [← e]; exact x3)
            omega, x2, x3⟩
        · rintro ⟨x, x1, x2, x3⟩
          exact ⟨x, by omega, x2, x3⟩
    rw [fX9_hasLater_4]
    simp (disch := omega) only [nlit, zl_d, zb_s, zb2_s, nI_leI, nI_ltI, nI_eq, nI_add, nI_clamp, zi_ok, Nat.zero_add, m_end hi hM, m_at, hf, hk, hk1]
    rw [if_neg (by omega), ih _ _ (by omega) (by omega)]
    rcases hstep with h | ⟨h, h3⟩
    · have hx : hb a q = 1 := if_neg h.1
      rw [if_pos hx, if_pos h.2, if_pos ((lst_gt _ _).mpr ⟨q, Nat.le_refl _, by omega, h⟩)]
    · by_cases h0 : a.1 0 q = 0
      · have hx : hb a q = 0 := if_pos h0
        rw [if_neg (by omega)]
        simp only [h3]
        rfl
      · have hx : hb a q = 1 := if_neg h0
        rw [if_pos hx, if_neg (fun e => h ⟨h0, e⟩)]
        simp only [h3]
        rfl
theorem m_later (hi : i < 4) {c o : Nat} (hM : MR (cut a w gr c) (M.1 0) (i * 1274)) (hA : AI a w) (hc : c ≤ o) (ho : o < a.1 6 0) : fX9_hasLater (nI i) (nI o) M = some (if o + 1 < lst a (a.1 1 o) (a.1 6 0) then 1 else 0) := by
  have he := hA.2.1
  have h := m_later_l hi hM (cut_I hA) (o := o) (by omega) (a.1 6 0 - (o + 1)) FU (o + 1) (by rw [cut_k (by omega)]; omega) (fu_lt (by omega))
  rw [cut_k (by omega), cut_k (by omega)] at h
  unfold fX9_hasLater
  rw [nI_1, h]
  have hq : (o + 1 < lst (cut a w gr c) (a.1 1 o) (a.1 6 0)) ↔ o + 1 < lst a (a.1 1 o) (a.1 6 0) := by
    rw [lst_gt, lst_gt]
    constructor
    · rintro ⟨x, x1, x2, x3⟩
      rw [cut_ge (by omega), cut_k (by omega)] at x3
      exact ⟨x, x1, x2, x3⟩
    · rintro ⟨x, x1, x2, x3⟩
      exact ⟨x, x1, x2, by rw [cut_ge (by omega), cut_k (by omega)]; exact x3⟩
  simp only [hq]
theorem m_comp_l (hi : i < 4) (hA : AI a w) (hg : gr < 2 ^ 30) {M0 : MS} (hw : M0.1 0 5096 = nI w) (hgr : M0.1 0 5097 = nI gr) : ∀ (d n c acc : Nat) (M : MS), MR (cut a w gr c) (M.1 0) (i * 1274) → Fm M0 M (i * 1274) → c + d = a.1 5 (a.1 6 1 - 1) → d < n → acc ≤ c → ∃ M', fX9_compacted_21 (nI i) (nI (a.1 5 (a.1 6 1 - 1))) n (nI acc) (nI c) M = fX9_compacted_130 (nI i) (nI (acc + sg (gb a w gr) c d)) FU (nI 0) M' ∧ MR (cut a w gr (a.1 5 (a.1 6 1 - 1))) (M'.1 0) (i * 1274) ∧ Fm M0 M' (i * 1274) := by
  have he := hA.2.1
  have hn := hA.2.2.1
  have hfew := hA.few
  have hbl := hA.ble (k := a.1 6 1 - 1) (by omega)
  intro d
  induction d with
  | zero =>
    intro n c acc M hM hF h1 h2 h3
    obtain ⟨q9, rfl⟩ : ∃ q9, n = q9 + 1 := ⟨n - 1, by omega⟩
    refine ⟨M, ?_, by rw [← h1]; exact hM, hF⟩
    rw [fX9_compacted_21]
    simp (disch := omega) only [nlit, zl_d, zb_s, zb2_s, nI_leI, nI_ltI, nI_eq, nI_add, nI_clamp, zi_ok]
    rw [if_pos (by omega)]
    rfl
  | succ d ih =>
    intro n c acc M hM hF h1 h2 h3
    obtain ⟨q9, rfl⟩ : ∃ q9, n = q9 + 1 := ⟨n - 1, by omega⟩
    obtain ⟨g0, g1, g2, g3, g4, g5⟩ := hM.1 c (by omega)
    obtain ⟨a0, a1, a2, -⟩ := hA.2.2.2.1 c (by omega)
    have hwl := hA.1
    have hble := hb_le a c
    have hx : hb (cut a w gr c) c = hb a c := by
      unfold hb
      rw [cut_ge (Nat.le_refl _)]
    rw [hx] at g0
    rw [cut_k (by omega)] at g2
    rw [cut_ge (Nat.le_refl _)] at g4
    have hw1 : M.1 0 5096 = nI w := by rw [hF.2.2 5096 (by omega), hw]
    have hg1 : M.1 0 5097 = nI gr := by rw [hF.2.2 5097 (by omega), hgr]
    have hlat := m_later hi hM hA (Nat.le_refl c) (by omega)
    have hstay : ¬ goes a w gr c = true → ∃ M', fX9_compacted_21 (nI i) (nI (a.1 5 (a.1 6 1 - 1))) q9 (nI acc) (nI c + 1) M = fX9_compacted_130 (nI i) (nI (acc + sg (gb a w gr) c (d + 1))) FU (nI 0) M' ∧ MR (cut a w gr (a.1 5 (a.1 6 1 - 1))) (M'.1 0) (i * 1274) ∧ Fm M0 M' (i * 1274) := by
      intro h
      have hx : gb a w gr c = 0 := if_neg h
      obtain ⟨M', e1, e2⟩ := ih q9 (c + 1) acc M (by rw [cut_stay h]; exact hM) hF (by omega) (by omega) (by omega)
      exact ⟨M', by rw [nI_1, e1, sg_s, hx, Nat.zero_add], e2⟩
    have hgo : goes a w gr c = true → ∃ M', fX9_compacted_108 (nI i) (nI (a.1 5 (a.1 6 1 - 1))) (fX9_compacted_21 (nI i) (nI (a.1 5 (a.1 6 1 - 1))) q9) (nI acc) (nI c) M = fX9_compacted_130 (nI i) (nI (acc + sg (gb a w gr) c (d + 1))) FU (nI 0) M' ∧ MR (cut a w gr (a.1 5 (a.1 6 1 - 1))) (M'.1 0) (i * 1274) ∧ Fm M0 M' (i * 1274) := by
      intro h
      have hx : gb a w gr c = 1 := if_pos h
      obtain ⟨M', e1, e2⟩ := ih q9 (c + 1) (acc + 1) (mS M (i * 1274 + c) (nI 0)) (by rw [cut_go h]; exact hM.gone (by omega)) (hF.S (by omega) (by omega)) (by omega) (by omega) (by omega)
      refine ⟨M', ?_, e2⟩
      unfold fX9_compacted_108
      simp (disch := omega) only [nlit, zl_d, zb_s, zb2_s, nI_leI, nI_ltI, nI_eq, nI_add, nI_clamp, zi_ok, Nat.zero_add, m_sets]
      rw [e1, sg_s, hx, Nat.add_assoc]
    rw [fX9_compacted_21]
    simp (disch := omega) only [nlit, zl_d, zb_s, zb2_s, nI_leI, nI_ltI, nI_eq, nI_add, nI_clamp, zi_ok, Nat.zero_add, m_at, g0, hw1, hg1, g2]
    rw [if_neg (by omega)]
    by_cases h0 : a.1 0 c = 0
    · have hx : hb a c = 0 := if_pos h0
      rw [if_neg (by omega), ← nI_1]
      exact hstay (fun q => (goes_is q).1 h0)
    · have hx : hb a c = 1 := if_neg h0
      rw [if_pos hx, g4 h0]
      simp (disch := omega) only [nlit, zl_d, zb_s, zb2_s, nI_leI, nI_ltI, nI_eq, nI_add, nI_clamp, zi_ok, pk_sub]
      unfold fX9_compacted_90 fX9_compacted_91
      rw [hlat]
      simp only [zb_s]
      by_cases h1 : c + 1 < lst a (a.1 1 c) (a.1 6 0)
      · have := hgo (goes_of ⟨h0, Or.inl h1⟩)
        simp only [if_pos h1, if_neg (show ¬ (1 : Int32) = 0 by decide), ite_self]
        exact this
      · simp only [if_neg h1, if_pos (show (0 : Int32) = 0 from rfl), if_pos (show nI 0 = 0 from rfl), if_neg (show ¬ nI 1 = 0 by decide)]
        by_cases h2 : a.1 0 c = 2
        · rw [if_pos (by omega)]
          by_cases h3 : w - a.1 2 c < gr
          · rw [if_pos h3]
            exact hstay (fun q => by have := (goes_is q).2; omega)
          · rw [if_neg h3]
            exact hgo (goes_of ⟨h0, Or.inr ⟨h2, by omega⟩⟩)
        · rw [if_neg (by omega)]
          exact hstay (fun q => by have := (goes_is q).2; omega)
end COMP2
