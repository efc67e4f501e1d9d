section JOIN
variable {i : Nat} {M0 : MS} {x : Int32} {w : Nat}
theorem c_fit {a : AB} {L : CS} {k : Nat} (hC : CR a L) (hA : AI a w) (hk : k + 2 < a.1 6 1) : fX3_fitTogether (nI k) L = some (if sg (wb a) (a.1 5 k) (se a (k + 1) - a.1 5 k) ≤ 20 ∧ sg (hb a) (a.1 5 k) (se a (k + 1) - a.1 5 k) ≤ 8 then 1 else 0) := by
  have he := hA.2.1
  have hfew := hA.few
  have hB := hC.2.1 k (by omega)
  have h1 := hA.mono (j := k) (k := k + 1) (by omega) (by omega)
  have h2 := hA.bse (k := k + 1) (by omega)
  have h3 := hA.sele (k := k + 1)
  have hs1 := sg_le (f := hb a) (c := 1) (se a (k + 1) - a.1 5 k) (a.1 5 k) (fun i _ _ => hb_le _ i)
  have hs2 := sg_le (f := wb a) (c := 9) (se a (k + 1) - a.1 5 k) (a.1 5 k) (fun i _ _ => hA.wb9 (by omega))
  unfold fX3_fitTogether
  simp (disch := omega) only [nlit, zl_d, zb_s, zb2_s, nI_leI, nI_ltI, nI_eq, nI_add, nI_clamp, zi_ok, hB, c_send hC hA (k := k + 1) (by omega), c_siz hC hA (lo := a.1 5 k) (hi := se a (k + 1)) (by omega) h3, c_rec hC hA (lo := a.1 5 k) (hi := se a (k + 1)) (by omega) h3]
  by_cases q1 : 20 < sg (wb a) (a.1 5 k) (se a (k + 1) - a.1 5 k)
  · rw [if_pos q1, if_neg (by omega)]
  · rw [if_neg q1]
    by_cases q2 : 8 < sg (hb a) (a.1 5 k) (se a (k + 1) - a.1 5 k)
    · rw [if_pos q2, if_neg (by omega)]
    · rw [if_neg q2, if_pos (by omega)]
theorem join_l (hi : i < 4) : ∀ (d n1 n2 k : Nat) (a : AB) (L : CS) (M : MS), CR a L → MR a (M.1 0) (i * 1274) → AI a w → Fm M0 M (i * 1274) → a.1 6 1 = k + d → d < n1 → d < n2 → ∃ a' L' M', fX3_joinSegments_7 n1 (nI k) (nI d) L = some L' ∧ fX9_compacted_130 (nI i) x n2 (nI k) M = some (x, M') ∧ CR a' L' ∧ MR a' (M'.1 0) (i * 1274) ∧ AI a' w ∧ Fm M0 M' (i * 1274) ∧ a'.1 6 0 = a.1 6 0 := by
  intro d
  induction d with
  | zero =>
    intro n1 n2 k a L M hC hM hA hF hn h1 h2
    obtain ⟨m1, rfl⟩ : ∃ m, n1 = m + 1 := ⟨n1 - 1, by omega⟩
    obtain ⟨m2, rfl⟩ : ∃ m, n2 = m + 1 := ⟨n2 - 1, by omega⟩
    have hfew := hA.few
    refine ⟨a, L, M, ?_, ?_, hC, hM, hA, hF, rfl⟩
    · rw [fX3_joinSegments_7, if_pos ((nI_le0 (by omega)).mpr rfl)]
    · rw [fX9_compacted_130]
      simp (disch := omega) only [nlit, zl_d, zb_s, zb2_s, nI_leI, nI_ltI, nI_eq, nI_add, nI_clamp, zi_ok, m_parts hi hM]
      rw [if_pos (by omega)]
  | succ d ih =>
    intro n1 n2 k a L M hC hM hA hF hn h1 h2
    obtain ⟨m1, rfl⟩ : ∃ m, n1 = m + 1 := ⟨n1 - 1, by omega⟩
    obtain ⟨m2, rfl⟩ : ∃ m, n2 = m + 1 := ⟨n2 - 1, by omega⟩
    have hfew := hA.few
    have he := hA.2.1
    by_cases hk : k + 2 < a.1 6 1
    · have g1 := hA.mono (j := k) (k := k + 1) (by omega) (by omega)
      have g2 := hA.bse (k := k + 1) (by omega)
      have g3 := hA.sele (k := k + 1)
      have hse : se a k = a.1 5 (k + 1) := if_pos (by omega)
      have sw := sg_split (wb a) (o := a.1 5 k) (m := a.1 5 (k + 1)) (h := se a (k + 1)) (by omega) g2
      have sh := sg_split (hb a) (o := a.1 5 k) (m := a.1 5 (k + 1)) (h := se a (k + 1)) (by omega) g2
      have hs1 := sg_le (f := hb a) (c := 1) (se a (k + 1) - a.1 5 k) (a.1 5 k) (fun i _ _ => hb_le _ i)
      have hs2 := sg_le (f := wb a) (c := 9) (se a (k + 1) - a.1 5 k) (a.1 5 k) (fun i _ _ => hA.wb9 (by omega))
      have w1 := m_weightIn hi hM hA (k := k) (by omega)
      have w2 := m_weightIn hi hM hA (k := k + 1) (by omega)
      have y1 := m_many hi hM hA (k := k) (by omega)
      have y2 := m_many hi hM hA (k := k + 1) (by omega)
      rw [hse] at w1 y1
      have hfit := c_fit hC hA hk
      rw [sw, sh] at hfit
      rw [sw] at hs2
      rw [sh] at hs1
      generalize sg (wb a) (a.1 5 k) (a.1 5 (k + 1) - a.1 5 k) = W1 at *
      generalize sg (wb a) (a.1 5 (k + 1)) (se a (k + 1) - a.1 5 (k + 1)) = W2 at *
      generalize sg (hb a) (a.1 5 k) (a.1 5 (k + 1) - a.1 5 k) = H1 at *
      generalize sg (hb a) (a.1 5 (k + 1)) (se a (k + 1) - a.1 5 (k + 1)) = H2 at *
      have hcl := c_closed hC hA (k := k + 1) (by omega)
      rw [if_pos (by omega)] at hcl
      have hz1 : ¬ nI (d + 1) ≤ 0 := fun q => by have := (nI_le0 (by omega)).mp q; omega
      by_cases hf : W1 + W2 ≤ 20 ∧ H1 + H2 ≤ 8
      · rw [if_pos hf] at hfit
        obtain ⟨L2, e1, e2⟩ := c_drop hC (j := k + 1) (t := 1) (by omega) (by omega)
        obtain ⟨M2, e3, e4, e5⟩ := m_part hi hM hA (j := k + 1) (by omega)
        obtain ⟨a', L', M', r1, r2, r3⟩ := ih m1 m2 k (drp a (k + 1) 1) L2 M2 e2 e4 (drp_I hA (by omega) (fun h => absurd h (by omega))) (hF.tr e5) (by rw [drp_n]; omega) (by omega) (by omega)
        refine ⟨a', L', M', ?_, ?_, r3⟩
        · rw [fX3_joinSegments_7, if_neg hz1, nI_1, hcl, zb_s, if_neg (by decide), hfit, zb_s, if_neg (by decide), show (1 : Int32) = nI 1 from rfl, e1, zb_s, show (-nI 1 : Int32) = -1 from rfl, pk_m1, r1]
        · rw [fX9_compacted_130]
          simp (disch := omega) only [nlit, zl_d, zb_s, zb2_s, nI_leI, nI_ltI, nI_eq, nI_add, nI_clamp, zi_ok, m_parts hi hM, w1, w2, y1, y2, e3]
          rw [if_neg (by omega), if_neg (by omega), if_neg (by omega), r2]
      · rw [if_neg hf] at hfit
        obtain ⟨a', L', M', r1, r2, r3⟩ := ih m1 m2 (k + 1) a L M hC hM hA hF (by omega) (by omega) (by omega)
        refine ⟨a', L', M', ?_, ?_, r3⟩
        · rw [fX3_joinSegments_7, if_neg hz1, nI_1, hcl, zb_s, if_neg (by decide), hfit, zb_s, if_pos rfl, pk_m1, r1]
        · rw [fX9_compacted_130]
          simp (disch := omega) only [nlit, zl_d, zb_s, zb2_s, nI_leI, nI_ltI, nI_eq, nI_add, nI_clamp, zi_ok, m_parts hi hM, w1, w2, y1, y2]
          rw [if_neg (by omega), r2]
          by_cases q1 : 20 < W1 + W2
          · rw [if_pos q1]
          · rw [if_neg q1, if_pos (by omega)]
    · refine ⟨a, L, M, ?_, ?_, hC, hM, hA, hF, rfl⟩
      · have hcl := c_closed hC hA (k := k + 1) (by omega)
        rw [if_neg (by omega)] at hcl
        rw [fX3_joinSegments_7, if_neg (fun q => by have := (nI_le0 (by omega)).mp q; omega), nI_1, hcl, zb_s, if_pos rfl]
      · rw [fX9_compacted_130]
        simp (disch := omega) only [nlit, zl_d, zb_s, zb2_s, nI_leI, nI_ltI, nI_eq, nI_add, nI_clamp, zi_ok, m_parts hi hM]
        rw [if_pos (by omega)]
theorem compacted_eq {a : AB} {L : CS} {M : MS} {gr : Nat} (hi : i < 4) (hC : CR a L) (hM : MR a (M.1 0) (i * 1274)) (hA : AI a w) (hg : gr < 2 ^ 30) (hw : M.1 0 5096 = nI w) (hgr : M.1 0 5097 = nI gr) : ∃ a' L' M', fX3_compacted (nI w) (nI gr) L = some (nI (sg (gb a w gr) 0 (a.1 5 (a.1 6 1 - 1))), L') ∧ fX9_compacted (nI i) M = some (nI (sg (gb a w gr) 0 (a.1 5 (a.1 6 1 - 1))), M') ∧ CR a' L' ∧ MR a' (M'.1 0) (i * 1274) ∧ AI a' w ∧ Fm M M' (i * 1274) ∧ a'.1 6 0 = a.1 6 0 := by
  have he := hA.2.1
  have hn := hA.2.2.1
  have hfew := hA.few
  have hbl := hA.ble (k := a.1 6 1 - 1) (by omega)
  obtain ⟨L1, e1, e2, e3⟩ := c_last hC hA (lim := a.1 6 0) (m := a.1 6 0) (by omega) (by omega)
  obtain ⟨L2, r1, r2⟩ := c_comp_l hA hg (f := fX3_joinSegments) (fun _ => rfl) (a.1 5 (a.1 6 1 - 1)) FU 0 0 L1 (by rw [cut_0]; exact e2) e3 (by omega) (fu_lt (by omega)) (by omega)
  obtain ⟨M2, s1, s2, s3⟩ := m_comp_l hi hA hg hw hgr (a.1 5 (a.1 6 1 - 1)) FU 0 0 M (by rw [cut_0]; exact hM) Fm.rf (by omega) (fu_lt (by omega)) (by omega)
  obtain ⟨a', L', M', t1, t2, t3, t4, t5, t6, t7⟩ := join_l (x := nI (0 + sg (gb a w gr) 0 (a.1 5 (a.1 6 1 - 1)))) hi (a.1 6 1) FU FU 0 _ L2 M2 r2 s2 (cut_I hA) s3 (by rw [cut_k (by omega)]; omega) (fu_lt (by omega)) (fu_lt (by omega))
  rw [cut_k (by omega)] at t7
  refine ⟨a', L', M', ?_, ?_, t3, t4, t5, t6, t7⟩
  · unfold fX3_compacted
    have hN := r2.2.2.2
    rw [cut_k (by omega)] at hN
    have hj : fX3_joinSegments L2 = some L' := by
      unfold fX3_joinSegments
      rw [hN]
      exact t1
    rw [hC.2.2.1, e1, zb_s, show (0 : Int32) = nI 0 from rfl, r1, hj, zb_s, Nat.zero_add]
  · unfold fX9_compacted
    simp (disch := omega) only [nlit, zl_d, zb_s, zb2_s, nI_leI, nI_ltI, nI_eq, nI_add, nI_clamp, zi_ok, m_parts hi hM, pk_sub]
    rw [m_base hi hM hA (by omega), zb_s, s1, t2, Nat.zero_add]
end JOIN
