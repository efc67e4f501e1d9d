/-! ===== segments go ===== -/
def drp (a : AB) (j t : Nat) : AB := (fun k o => if k = 5 then (if o < j then a.1 5 o else a.1 5 (o + t)) else if k = 6 ∧ o = 1 then a.1 6 1 - t else a.1 k o, a.2)
section DROP
variable {a : AB} {L : CS} {M : MS} {w i j t : Nat}
theorem drp_o {k o : Nat} (hk : k < 5) : (drp a j t).1 k o = a.1 k o := by
  show (if k = 5 then _ else _) = _
  rw [if_neg (by omega), if_neg (by omega)]
theorem drp_n : (drp a j t).1 6 1 = a.1 6 1 - t := rfl
theorem drp_e : (drp a j t).1 6 0 = a.1 6 0 := rfl
theorem drp_5 {o : Nat} (h : o < j) : (drp a j t).1 5 o = a.1 5 o := if_pos h
theorem drp_5g {o : Nat} (h : ¬ o < j) : (drp a j t).1 5 o = a.1 5 (o + t) := if_neg h
theorem drp_2 : (drp a j t).2 = a.2 := rfl
theorem c_drop_l (hC : CR a L) (hf : a.1 6 1 ≤ 100) : ∀ (d n q : Nat) (L' : CS), q + d = a.1 6 1 - t → d < n → t ≤ a.1 6 1 → (∀ k, k ≠ 5 → L'.1 k = L.1 k) → L'.2 0 = L.2 0 → L'.2 1 = nI (a.1 6 1 - t) → (∀ k, k < q → j ≤ k → L'.1 5 k = nI (a.1 5 (k + t))) → (∀ k, k < j → L'.1 5 k = L.1 5 k) → (∀ k, q ≤ k → L'.1 5 k = L.1 5 k) → j ≤ q → ∃ L2, fX3_dropBases_12 (nI t) n (nI q) L' = some L2 ∧ CR (drp a j t) L2 := by
  intro d
  induction d with
  | zero =>
    intro n q L' h1 h2 ht hr he hn hlo hj hhi hq
    obtain ⟨q9, rfl⟩ : ∃ q9, n = q9 + 1 := ⟨n - 1, by omega⟩
    refine ⟨L', ?_, fun o ho => ?_, fun k hk => ?_, ?_, ?_⟩
    · rw [fX3_dropBases_12, hn, if_pos ((nI_leI (by omega) (by omega)).mpr (by omega))]
    · simp (disch := omega) only [drp_o, drp_2, hr]
      exact hC.1 o ho
    · rw [drp_n] at hk
      by_cases hk2 : k < j
      · rw [drp_5 hk2, hj k hk2, hC.2.1 k (by omega)]
      · rw [drp_5g hk2, hlo k (by omega) (by omega)]
    · rw [he, hC.2.2.1, drp_e]
    · rw [hn, drp_n]
  | succ d ih =>
    intro n q L' h1 h2 ht hr he hn hlo hj hhi hq
    obtain ⟨q9, rfl⟩ : ∃ q9, n = q9 + 1 := ⟨n - 1, by omega⟩
    have hB := hC.2.1 (q + t) (by omega)
    have hq5 := hhi (q + t) (by omega)
    rw [fX3_dropBases_12, hn]
    simp (disch := omega) only [nlit, zl_d, zb_s, zb2_s, nI_leI, nI_ltI, nI_eq, nI_add, nI_clamp, zi_ok, hq5, hB]
    rw [if_neg (by omega)]
    refine ih q9 (q + 1) _ (by omega) (by omega) ht (fun k hk => ?_) ?_ ?_ (fun k hk hk2 => ?_) (fun k hk => ?_) (fun k hk => ?_) (by omega)
    · rw [wA_1, up_n hk, hr k hk]
    · rw [wA_2, he]
    · rw [wA_2, hn]
    · rw [wA_1, up_s rfl, nI_clamp (by omega)]
      by_cases e : k = q
      · rw [upd_s e, e]
      · rw [upd_n e, hlo k (by omega) hk2]
    · rw [wA_1, up_s rfl, nI_clamp (by omega), upd_n (by omega), hj k hk]
    · rw [wA_1, up_s rfl, nI_clamp (by omega), upd_n (by omega), hhi k (by omega)]
theorem c_drop (hC : CR a L) (hf : a.1 6 1 ≤ 100) (hj : j + t ≤ a.1 6 1) : ∃ L2, fX3_dropBases (nI j) (nI t) L = some L2 ∧ CR (drp a j t) L2 := by
  unfold fX3_dropBases
  rw [zl_d, hC.2.2.2, pk_sub (by omega)]
  refine c_drop_l hC hf (a.1 6 1 - t - j) FU j _ (by omega) (fu_lt (by omega)) (by omega) (fun k _ => ?_) ?_ ?_ (fun k h1 h2 => absurd h1 (by omega)) (fun k _ => ?_) (fun k _ => ?_) (Nat.le_refl _)
  · rw [sF_1]
  · rw [sF_2, up_n (by omega)]
  · rw [sF_2, up_s rfl]
  · rw [sF_1]
  · rw [sF_1]
theorem m_part_l (hi : i < 4) (hM : MR a (M.1 0) (i * 1274)) (hf : a.1 6 1 ≤ 67) (h0 : 1 ≤ a.1 6 1) : ∀ (d n q : Nat) (M' : MS), q + d = a.1 6 1 - 1 → d < n → Fm M M' (i * 1274) → (∀ x, x < 1200 ∨ 1270 ≤ x → M'.1 0 (i * 1274 + x) = M.1 0 (i * 1274 + x)) → (∀ k, k < q → j ≤ k → M'.1 0 (i * 1274 + (1200 + k)) = nI (a.1 5 (k + 1))) → (∀ k, k < j → k < 70 → M'.1 0 (i * 1274 + (1200 + k)) = M.1 0 (i * 1274 + (1200 + k))) → (∀ k, q ≤ k → k < 70 → M'.1 0 (i * 1274 + (1200 + k)) = M.1 0 (i * 1274 + (1200 + k))) → j ≤ q → ∃ M2, fX9_partGoes_14 (nI i) (nI (a.1 6 1 - 1)) n (nI q) M' = some M2 ∧ MR (drp a j 1) (M2.1 0) (i * 1274) ∧ Fm M M2 (i * 1274) := by
  intro d
  induction d with
  | zero =>
    intro n q M' h1 h2 hF hr hlo hj hhi hq
    obtain ⟨q9, rfl⟩ : ∃ q9, n = q9 + 1 := ⟨n - 1, by omega⟩
    refine ⟨mS M' (i * 1274 + 1270) (nI (a.1 6 1 - 1)), ?_, ⟨fun o ho => ?_, fun k hk => ?_, ?_, ?_⟩, hF.S (by omega) (by omega)⟩
    · rw [fX9_partGoes_14]
      simp (disch := omega) only [nlit, zl_d, zb_s, zb2_s, nI_leI, nI_ltI, nI_eq, nI_add, nI_clamp, zi_ok, m_sets]
      rw [if_pos (by omega)]
    · obtain ⟨g0, g1, g2, g3, g4, g5⟩ := hM.1 o ho
      have hx : hb (drp a j 1) o = hb a o := by
        unfold hb
        rw [drp_o (by omega)]
      have r0 := hr o (by omega)
      have r1 := hr (200 + o) (by omega)
      have r2 := hr (400 + o) (by omega)
      have r3 := hr (600 + o) (by omega)
      have r4 := hr (800 + o) (by omega)
      have r5 := hr (1000 + o) (by omega)
      simp (disch := omega) only [mS_g, upd_n, drp_o, drp_2, hx, r0, r1, r2, r3, r4, r5]
      exact ⟨g0, g1, g2, g3, g4, g5⟩
    · rw [drp_n] at hk
      rw [mS_g, upd_n (by omega)]
      by_cases hk2 : k < j
      · rw [drp_5 hk2, hj k hk2 (by omega), hM.2.1 k (by omega)]
      · rw [drp_5g hk2, hlo k (by omega) (by omega)]
    · rw [mS_g, upd_s rfl, drp_n]
    · rw [mS_g, upd_n (by omega), hr 1271 (by omega), hM.2.2.2, drp_e]
  | succ d ih =>
    intro n q M' h1 h2 hF hr hlo hj hhi hq
    obtain ⟨q9, rfl⟩ : ∃ q9, n = q9 + 1 := ⟨n - 1, by omega⟩
    have hB := hM.2.1 (q + 1) (by omega)
    have hq5 := hhi (q + 1) (by omega) (by omega)
    rw [fX9_partGoes_14]
    unfold fX9_base
    simp (disch := omega) only [nlit, zl_d, zb_s, zb2_s, nI_leI, nI_ltI, nI_eq, nI_add, nI_clamp, zi_ok, m_at, m_sets, hq5, hB]
    rw [if_neg (by omega)]
    refine ih q9 (q + 1) _ (by omega) (by omega) (hF.S (by omega) (by omega)) (fun x hx => ?_) (fun k hk hk2 => ?_) (fun k hk hk2 => ?_) (fun k hk hk2 => ?_) (by omega)
    · rw [mS_g, upd_n (by omega), hr x hx]
    · rw [mS_g]
      by_cases e : k = q
      · rw [upd_s (by omega), e]
      · rw [upd_n (by omega), hlo k (by omega) hk2]
    · rw [mS_g, upd_n (by omega), hj k hk hk2]
    · rw [mS_g, upd_n (by omega), hhi k (by omega) hk2]
theorem m_part (hi : i < 4) (hM : MR a (M.1 0) (i * 1274)) (hA : AI a w) (hj : j < a.1 6 1) : ∃ M2, fX9_partGoes (nI i) (nI j) M = some M2 ∧ MR (drp a j 1) (M2.1 0) (i * 1274) ∧ Fm M M2 (i * 1274) := by
  have hf := hA.few
  unfold fX9_partGoes
  simp (disch := omega) only [nlit, zl_d, zb_s, zb2_s, nI_leI, nI_ltI, nI_eq, nI_add, nI_clamp, zi_ok, m_parts hi hM, pk_sub]
  exact m_part_l hi hM hf (by omega) (a.1 6 1 - 1 - j) FU j M (by omega) (fu_lt (by omega)) Fm.rf (fun _ _ => rfl) (fun k h1 h2 => absurd h1 (by omega)) (fun _ _ _ => rfl) (fun _ _ _ => rfl) (Nat.le_refl _)
theorem drp_I (hA : AI a w) (hj : j + t < a.1 6 1) (hz : j = 0 → ∀ o, o < a.1 5 t → a.1 0 o = 0) : AI (drp a j t) w := by
  have hbm := fun (x y : Nat) (h1 : x ≤ y) (h2 : y < a.1 6 1) => hA.mono h1 h2
  obtain ⟨i1, i2, i3, i4, i5, i6, i7⟩ := hA
  refine ⟨i1, i2, by rw [drp_n]; omega, fun o ho => ?_, fun o ho => ?_, fun k hk => ?_, ?_⟩
  · simp (disch := omega) only [drp_o, drp_2, drp_e]
    obtain ⟨j1, j2, j3, j4, j5, j6, j7⟩ := i4 o ho
    refine ⟨j1, j2, j3, j4, j5, fun q => ?_, j7⟩
    by_cases h : j = 0
    · subst h
      rw [drp_5g (by omega), Nat.zero_add] at q
      exact hz rfl o q
    · rw [drp_5 (by omega)] at q
      exact j6 q
  · rw [drp_e] at ho
    rw [drp_o (by omega), drp_o (by omega)]
    exact i5 o ho
  · rw [drp_n] at hk
    by_cases h1 : k + 1 < j
    · rw [drp_5 h1, drp_5 (by omega)]
      exact i6 k (by omega)
    · rw [drp_5g h1]
      by_cases h2 : k < j
      · rw [drp_5 h2]
        have := hbm k (k + 1 + t) (by omega) (by omega)
        omega
      · rw [drp_5g h2]
        have := i6 (k + t) (by omega)
        rw [show k + 1 + t = k + t + 1 by omega]
        exact this
  · rw [drp_n, drp_e]
    by_cases h : a.1 6 1 - t - 1 < j
    · omega
    · rw [drp_5g h, show a.1 6 1 - t - 1 + t = a.1 6 1 - 1 by omega]
      exact i7
end DROP
