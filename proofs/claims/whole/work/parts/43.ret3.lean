section RET3
variable {a : AB} {L : CS} {M M0 : MS} {w i ag kp : Nat}
theorem m_old_l (hi : i < 4) (hM : MR a (M.1 0) (i * 1274)) (hA : AI a w) (hag : ag < 2 ^ 29) (hw : M.1 0 5096 = nI w) (ha : M.1 0 5099 = nI ag) : ∀ (d n o : Nat) (x : Int32), o + d = se a 0 → d < n → fX9_isOld_10 (nI i) M n x (nI o) = some (if x < nI w - nI ag ∧ sg (nb a w ag) o d = 0 then 1 else 0) := by
  have he := hA.2.1
  have hwl := hA.1
  have hs := hA.sele (k := 0)
  intro d
  induction d with
  | zero =>
    intro n o x h1 h2
    obtain ⟨q9, rfl⟩ : ∃ q9, n = q9 + 1 := ⟨n - 1, by omega⟩
    rw [fX9_isOld_10, show (0 : Int32) = nI 0 from rfl, m_endOf hi hM hA hA.2.2.1]
    simp (disch := omega) only [nlit, zl_d, zb_s, zb2_s, nI_leI, nI_ltI, nI_eq, nI_add, nI_clamp, zi_ok, hw, ha]
    rw [if_pos (by omega), sg_0]
    by_cases h : x < nI w - nI ag
    · rw [if_neg (Int32.not_le.mpr h), if_pos ⟨h, rfl⟩]
    · rw [if_pos (Int32.not_lt.mp h), if_neg (fun q => h q.1)]
  | succ d ih =>
    intro n o x h1 h2
    obtain ⟨q9, rfl⟩ : ∃ q9, n = q9 + 1 := ⟨n - 1, by omega⟩
    have hf := (hM.1 o (by omega)).1
    have ht := (hM.1 o (by omega)).2.2.1
    have hf2 := hb_le a o
    have ht2 := (hA.2.2.2.1 o (by omega)).2.2.1
    have hlim := lim_lt (t := a.1 2 o) (ag := ag) (w := w) (by omega) hag (by omega)
    rw [fX9_isOld_10, show (0 : Int32) = nI 0 from rfl, m_endOf hi hM hA hA.2.2.1]
    simp (disch := omega) only [nlit, zl_d, zb_s, zb2_s, nI_leI, nI_ltI, nI_eq, nI_add, nI_clamp, zi_ok, Nat.zero_add, m_at, hf, ht]
    rw [if_neg (by omega), ih _ _ _ (by omega) (by omega), ih _ _ _ (by omega) (by omega), sg_s]
    by_cases h0 : a.1 0 o = 0
    · have hx : nb a w ag o = 0 := if_neg (fun q => q.1 h0)
      have hy : hb a o = 0 := if_pos h0
      rw [if_neg (by omega), hx, Nat.zero_add]
      rfl
    · have hy : hb a o = 1 := if_neg h0
      rw [if_pos hy]
      by_cases h1 : a.1 2 o + ag < w
      · have hx : nb a w ag o = 0 := if_neg (fun q => by omega)
        rw [hx, Nat.zero_add]
        by_cases h3 : nI (a.1 2 o) ≤ x
        · rw [if_pos h3]
          rfl
        · rw [if_neg h3]
          have hxl : x < nI w - nI ag := Int32.lt_trans (Int32.not_le.mp h3) (hlim.mpr h1)
          simp only [hlim.mpr h1, hxl, true_and]
          rfl
      · have hx : nb a w ag o = 1 := if_pos ⟨h0, by omega⟩
        rw [hx, if_neg (show ¬ (x < nI w - nI ag ∧ 1 + sg (nb a w ag) (o + 1) d = 0) from fun q => by omega), if_neg (show ¬ (nI (a.1 2 o) < nI w - nI ag ∧ sg (nb a w ag) (o + 1) d = 0) from fun q => h1 (hlim.mp q.1))]
        by_cases h3 : nI (a.1 2 o) ≤ x
        · rw [if_pos h3, if_neg (fun q => h1 (hlim.mp (Int32.lt_of_le_of_lt h3 q.1)))]
          rfl
        · rw [if_neg h3]
          rfl
theorem m_old (hi : i < 4) (hM : MR a (M.1 0) (i * 1274)) (hA : AI a w) (hag : ag < 2 ^ 29) (hw : M.1 0 5096 = nI w) (ha : M.1 0 5099 = nI ag) : fX9_isOld (nI i) M = some (if sg (nb a w ag) (a.1 5 0) (se a 0 - a.1 5 0) = 0 then 1 else 0) := by
  have he := hA.2.1
  have hwl := hA.1
  have hs := hA.sele (k := 0)
  have hs2 := hA.bse hA.2.2.1
  have hmin : (-2147483648 : Int32) < nI w - nI ag := by
    rw [Int32.lt_iff_toInt_lt, pk_sub_toInt (by omega) (by omega), show (-2147483648 : Int32).toInt = -2147483648 by decide]
    omega
  unfold fX9_isOld
  rw [show (0 : Int32) = nI 0 from rfl, m_base hi hM hA hA.2.2.1, zb_s, m_old_l hi hM hA hag hw ha (se a 0 - a.1 5 0) FU _ _ (by omega) (fu_lt (by omega))]
  simp only [hmin, true_and]
  rfl
theorem zr_se {c k : Nat} : se (zr a c) k = se a k := by
  unfold se
  rw [zr_k (by omega), zr_k (by omega), zr_k (by omega)]
theorem m_clear (hi : i < 4) (hA : AI a w) (x : Int32) (K2 : Int32 → MS → Option (Int32 × MS)) : ∀ (d n o : Nat) (M : MS), MR (zr a o) (M.1 0) (i * 1274) → Fm M0 M (i * 1274) → o + d = se a 0 → d < n → ∃ M', fX9_retained_67 (nI i) x K2 n (nI o) M = zb (fX9_partGoes (nI i) (nI 0) M') (fun st => K2 x st) ∧ MR (zr a (se a 0)) (M'.1 0) (i * 1274) ∧ Fm M0 M' (i * 1274) := by
  have he := hA.2.1
  have hs := hA.sele (k := 0)
  intro d
  induction d with
  | zero =>
    intro n o M hM hF h1 h2
    obtain ⟨q9, rfl⟩ : ∃ q9, n = q9 + 1 := ⟨n - 1, by omega⟩
    refine ⟨M, ?_, by rw [← h1]; exact hM, hF⟩
    rw [fX9_retained_67, show (0 : Int32) = nI 0 from rfl, m_endOf hi hM (zr_I hA) (by rw [zr_k (by omega)]; exact hA.2.2.1), zr_se]
    simp (disch := omega) only [nlit, zl_d, zb_s, zb2_s, nI_leI, nI_ltI, nI_eq, nI_add, nI_clamp, zi_ok]
    rw [if_pos (by omega)]
  | succ d ih =>
    intro n o M hM hF h1 h2
    obtain ⟨q9, rfl⟩ : ∃ q9, n = q9 + 1 := ⟨n - 1, by omega⟩
    rw [fX9_retained_67, show (0 : Int32) = nI 0 from rfl, m_endOf hi hM (zr_I hA) (by rw [zr_k (by omega)]; exact hA.2.2.1), zr_se]
    simp (disch := omega) only [nlit, zl_d, zb_s, zb2_s, nI_leI, nI_ltI, nI_eq, nI_add, nI_clamp, zi_ok, Nat.zero_add, m_sets]
    rw [if_neg (by omega)]
    exact ih q9 (o + 1) _ (by rw [zr_s]; exact hM.gone (by omega)) (hF.S (by omega) (by omega)) (by omega) (by omega)
theorem m_ret_l (hi : i < 4) (hA : AI a w) (hag : ag < 2 ^ 29) (hkp : kp < 2 ^ 31) (hw : M0.1 0 5096 = nI w) (ha : M0.1 0 5099 = nI ag) (hk : M0.1 0 5098 = nI kp) : ∀ (d n j : Nat) (M : MS), j + d + 1 = a.1 6 1 → d < n → MR (rt a j) (M.1 0) (i * 1274) → Fm M0 M (i * 1274) → ∃ M', fX9_retained_2 (nI i) n (nI (sg (hb a) 0 (a.1 5 j))) M = some (nI (sg (hb a) 0 (a.1 5 (gng a kp w ag d j))), M') ∧ MR (rt a (gng a kp w ag d j)) (M'.1 0) (i * 1274) ∧ Fm M0 M' (i * 1274) := by
  have he := hA.2.1
  have hfew := hA.few
  intro d
  induction d with
  | zero =>
    intro n j M h1 h2 hM hF
    obtain ⟨q9, rfl⟩ : ∃ q9, n = q9 + 1 := ⟨n - 1, by omega⟩
    refine ⟨M, ?_, hM, hF⟩
    have hn := rt_n (a := a) j
    rw [fX9_retained_2]
    simp (disch := omega) only [nlit, zl_d, zb_s, zb2_s, nI_leI, nI_ltI, nI_eq, nI_add, nI_clamp, zi_ok, m_parts hi hM, hn]
    rw [if_pos (by omega)]
    rfl
  | succ d ih =>
    intro n j M h1 h2 hM hF
    obtain ⟨q9, rfl⟩ : ∃ q9, n = q9 + 1 := ⟨n - 1, by omega⟩
    have hAj := rt_I hA (j := j) (by omega)
    have hn := rt_n (a := a) j
    have hw1 : M.1 0 5096 = nI w := by rw [hF.2.2 5096 (by omega), hw]
    have ha1 : M.1 0 5099 = nI ag := by rw [hF.2.2 5099 (by omega), ha]
    have hk1 : M.1 0 5098 = nI kp := by rw [hF.2.2 5098 (by omega), hk]
    have hb1 := hA.ble (k := j) (by omega)
    have hb2 := hA.ble (k := j + 1) (by omega)
    have hm := hA.mono (j := j) (k := j + 1) (by omega) (by omega)
    have h5 : (rt a j).1 5 0 = a.1 5 j := by rw [rt_5, Nat.zero_add]
    have hse : se (rt a j) 0 = a.1 5 (j + 1) := by
      unfold se
      rw [hn, if_pos (by omega), rt_5, show 0 + 1 + j = j + 1 by omega]
    have ew : sg (wb (rt a j)) 0 (200 - 0) = sg (wb a) (a.1 5 j) (a.1 6 0 - a.1 5 j) := by
      rw [sg_tail (lo := 0) (e := a.1 6 0) (by omega) he (fun o q1 q2 => hAj.wb0 (by rw [rt_e]; exact q1) q2), sg_split _ (o := 0) (m := a.1 5 j) (Nat.zero_le _) hb1, sg_zero (a.1 5 j - 0) 0 (fun o _ q => rt_wb0 (by omega)), Nat.zero_add]
      exact sg_congr _ _ (fun o q1 _ => rt_wb q1)
    have eh : sg (hb (rt a j)) ((rt a j).1 5 0) (se (rt a j) 0 - (rt a j).1 5 0) = sg (hb a) (a.1 5 j) (a.1 5 (j + 1) - a.1 5 j) := by
      rw [h5, hse]
      exact sg_congr _ _ (fun o q1 _ => rt_hb q1)
    have en : sg (nb (rt a j) w ag) ((rt a j).1 5 0) (se (rt a j) 0 - (rt a j).1 5 0) = sg (nb a w ag) (a.1 5 j) (a.1 5 (j + 1) - a.1 5 j) := by
      rw [h5, hse]
      exact sg_congr _ _ (fun o q1 _ => rt_nb q1)
    have fw := m_weighs hi hM hAj (lo := 0) (h := 200) (by omega) (by omega)
    have fh := m_many hi hM hAj (k := 0) hAj.2.2.1
    have fn := m_old hi hM hAj hag hw1 ha1
    rw [ew] at fw
    rw [eh] at fh
    rw [en] at fn
    have hs1 := sg_le (f := hb a) (c := 1) (a.1 5 (j + 1) - a.1 5 j) (a.1 5 j) (fun i _ _ => hb_le _ i)
    have hs9 := sg_le (f := wb a) (c := 9) (a.1 6 0 - a.1 5 j) (a.1 5 j) (fun i _ _ => hA.wb9 (by omega))
    have hhn : sg (hb a) (a.1 5 j) (a.1 5 (j + 1) - a.1 5 j) = 0 → sg (nb a w ag) (a.1 5 j) (a.1 5 (j + 1) - a.1 5 j) = 0 := by
      intro q
      have hle : ∀ (d o : Nat), sg (nb a w ag) o d ≤ sg (hb a) o d := by
        intro d
        induction d with
        | zero => intro o; exact Nat.le_refl _
        | succ d ih2 =>
          intro o
          rw [sg_s, sg_s]
          have q1 := ih2 (o + 1)
          have q2 : nb a w ag o ≤ hb a o := by
            unfold nb hb
            by_cases h0 : a.1 0 o = 0
            · rw [if_neg (fun q => q.1 h0)]
              omega
            · rw [if_neg h0]
              split <;> omega
          omega
      have := hle (a.1 5 (j + 1) - a.1 5 j) (a.1 5 j)
      omega
    have hgo : goj a kp w ag j = true → ∃ M', fX9_retained_51 (nI i) (fX9_retained_2 (nI i) q9) (nI (sg (hb a) 0 (a.1 5 j))) M = some (nI (sg (hb a) 0 (a.1 5 (gng a kp w ag d (j + 1)))), M') ∧ MR (rt a (gng a kp w ag d (j + 1))) (M'.1 0) (i * 1274) ∧ Fm M0 M' (i * 1274) := by
      intro _
      obtain ⟨M1, e1, e2, e3⟩ := m_clear (M0 := M0) hi hAj (nI (sg (hb a) 0 (a.1 5 (j + 1)))) (fX9_retained_2 (nI i) q9) (a.1 5 (j + 1) - a.1 5 j) FU (a.1 5 j) M (by
        have := zr_base hAj
        rw [h5] at this
        rw [this]
        exact hM) hF (by rw [hse]; omega) (fu_lt (by omega))
      obtain ⟨M2, r1, r2, r3⟩ := m_part hi e2 (zr_I hAj) (j := 0) (by rw [zr_k (by omega), hn]; omega)
      obtain ⟨M', t1, t2, t3⟩ := ih q9 (j + 1) M2 (by omega) (by omega) (by
        have := rt_next hA (j := j) (by omega)
        rw [rt_5, show 1 + j = j + 1 by omega] at this
        rw [← this]
        rw [hse] at r2
        exact r2) (e3.tr r3)
      refine ⟨M', ?_, t2, t3⟩
      unfold fX9_retained_51
      rw [show (0 : Int32) = nI 0 from rfl, fh, zb_s, m_base hi hM hAj hAj.2.2.1, zb_s, h5, nI_add]
      have hsum : sg (hb a) 0 (a.1 5 j) + sg (hb a) (a.1 5 j) (a.1 5 (j + 1) - a.1 5 j) = sg (hb a) 0 (a.1 5 (j + 1)) := by
        have := sg_split (hb a) (o := 0) (m := a.1 5 j) (h := a.1 5 (j + 1)) (Nat.zero_le _) (by omega)
        rw [Nat.sub_zero, Nat.sub_zero] at this
        exact this.symm
      rw [hsum, e1, r1, zb_s, t1]
    rw [fX9_retained_2]
    simp (disch := omega) only [nlit, zl_d, zb_s, zb2_s, nI_leI, nI_ltI, nI_eq, nI_add, nI_clamp, zi_ok, m_parts hi hM, hn, hk1]
    rw [if_neg (by omega), fw]
    simp (disch := omega) only [nlit, zl_d, zb_s, zb2_s, nI_leI, nI_ltI, nI_eq, nI_add, nI_clamp, zi_ok]
    rw [fh, fn, gng_s]
    simp (disch := omega) only [nlit, zl_d, zb_s, zb2_s, nI_leI, nI_ltI, nI_eq, nI_add, nI_clamp, zi_ok]
    by_cases h : goj a kp w ag j = true
    · rw [if_pos h]
      have hg := hgo h
      rcases (of_decide_eq_true h) with q | q
      · rw [if_pos q]
        exact hg
      · rw [if_pos q, if_neg (show ¬ nI 1 = nI 0 by decide), ite_self, ite_self]
        exact hg
    · rw [if_neg h]
      have hn := fun q => h (decide_eq_true q)
      rw [if_neg (fun q => hn (Or.inl q)), if_neg (fun q => hn (Or.inr (hhn q))), if_neg (fun q => hn (Or.inr q)), if_pos rfl]
      exact ⟨M, rfl, hM, hF⟩
theorem m_ret (hi : i < 4) (hM : MR a (M.1 0) (i * 1274)) (hA : AI a w) (hag : ag < 2 ^ 29) (hkp : kp < 2 ^ 31) (hw : M.1 0 5096 = nI w) (ha : M.1 0 5099 = nI ag) (hk : M.1 0 5098 = nI kp) : ∃ M', fX9_retained (nI i) M = some (nI (sg (hb a) 0 (a.1 5 (gN a kp w ag))), M') ∧ MR (rt a (gN a kp w ag)) (M'.1 0) (i * 1274) ∧ Fm M M' (i * 1274) := by
  have hn := hA.2.2.1
  have hfew := hA.few
  have h := m_ret_l hi hA hag hkp hw ha hk (a.1 6 1 - 1) FU 0 M (by omega) (fu_lt (by omega)) (by rw [rt_0 hA]; exact hM) Fm.rf
  have hz : sg (hb a) 0 (a.1 5 0) = 0 := sg_zero _ _ (fun o _ q => hA.hbS (by omega))
  rw [hz] at h
  exact h
end RET3
