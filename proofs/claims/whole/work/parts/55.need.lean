/-! ===== need, odds ===== -/
section NEED
variable {a : AB} {L : CS} {M M0 : MS} {w i ag : Nat}
/-- how many records are left -/
def lft (a : AB) (w ag kp : Nat) : Nat := sg (hb a) (a.1 5 (gN a kp w ag)) (a.1 6 0 - a.1 5 (gN a kp w ag))
theorem gng_mono {kp kp' : Nat} (h : kp ≤ kp') : ∀ (d j : Nat), gng a kp' w ag d j ≤ gng a kp w ag d j := by
  intro d
  induction d with
  | zero => intro j; exact Nat.le_refl _
  | succ d ih =>
    intro j
    rw [gng_s, gng_s]
    by_cases g : goj a kp' w ag j = true
    · have g2 : goj a kp w ag j = true := decide_eq_true (by
        rcases (of_decide_eq_true g) with q | q
        · exact Or.inl (by omega)
        · exact Or.inr q)
      rw [if_pos g, if_pos g2]
      exact ih (j + 1)
    · rw [if_neg g]
      split
      · have := (gng_le (a := a) (kp := kp) (w := w) (ag := ag) d (j + 1)).1
        omega
      · exact Nat.le_refl _
theorem lft_mono (hA : AI a w) {kp kp' : Nat} (h : kp ≤ kp') : lft a w ag kp ≤ lft a w ag kp' := by
  have h1 := gng_mono (a := a) (w := w) (ag := ag) h (a.1 6 1 - 1) 0
  have h2 : gN a kp' w ag ≤ gN a kp w ag := h1
  have h3 := gN_lt (kp := kp) (ag := ag) hA
  have h4 := hA.mono h2 h3
  have h5 := hA.ble h3
  unfold lft
  rw [sg_split (hb a) (o := a.1 5 (gN a kp' w ag)) (m := a.1 5 (gN a kp w ag)) (h := a.1 6 0) (by omega) h5]
  omega
theorem lft_le (hA : AI a w) (kp : Nat) : lft a w ag kp ≤ 200 := by
  have h1 := sg_le (f := hb a) (c := 1) (a.1 6 0 - a.1 5 (gN a kp w ag)) (a.1 5 (gN a kp w ag)) (fun i _ _ => hb_le a i)
  have h2 := hA.2.1
  unfold lft
  omega
theorem c_least_l {K : KS} (hL : ∀ kp, kp ≤ 200 → fX3_leftIfRetained (nI kp) (K.1.2.2.2.2 0) (K.1.2.2.2.2 3) (K.1.1 i) = some (nI (lft a w ag kp))) (hA : AI a w) {q : Nat} (hq : q ≤ 200) : ∀ (d n lo hi st : Nat), hi - lo ≤ d → d < n → lo ≤ hi → hi ≤ 200 → st + (hi - lo) ≤ 200 → q ≤ lft a w ag hi → (∀ k, k < lo → lft a w ag k < q) → ∃ t, fX8_leastKeep_38 i (nI q) K n (nI lo) (nI hi) (nI st) = some (nI t) ∧ t ≤ 200 ∧ q ≤ lft a w ag t ∧ ∀ k, k < t → lft a w ag k < q := by
  intro d
  induction d with
  | zero =>
    intro n lo hi st h1 h2 h3 h4 h5 h6 h7
    obtain ⟨q9, rfl⟩ : ∃ q9, n = q9 + 1 := ⟨n - 1, by omega⟩
    refine ⟨lo, ?_, by omega, by rw [show lo = hi by omega]; exact h6, h7⟩
    rw [fX8_leastKeep_38, if_pos (nI_le (show hi ≤ lo by omega) (by omega)), ite_self]
  | succ d ih =>
    intro n lo hi st h1 h2 h3 h4 h5 h6 h7
    obtain ⟨q9, rfl⟩ : ∃ q9, n = q9 + 1 := ⟨n - 1, by omega⟩
    by_cases hlt : lo < hi
    · have hm := hL ((lo + hi) / 2) (by omega)
      have hml := lft_le (ag := ag) hA ((lo + hi) / 2)
      rw [fX8_leastKeep_38, if_neg (show ¬ (200 : Int32) < nI st from nI_nlt (a := 200) (by omega) (by omega)), if_neg (nI_ge hlt (by omega)), nI_add]
      unfold zz
      rw [if_neg (show ¬ (2 : Int32) = 0 by decide), zl_d, show (2 : Int32) = nI 2 from rfl, pk_div (by omega) (by omega) (by omega), hm, zb_s, nI_1, nI_1]
      by_cases hc : lft a w ag ((lo + hi) / 2) < q
      · rw [if_pos (nI_lt hc (by omega))]
        exact ih q9 ((lo + hi) / 2 + 1) hi (st + 1) (by omega) (by omega) (by omega) h4 (by omega) h6 (fun k hk => by
          have := lft_mono (ag := ag) hA (show k ≤ (lo + hi) / 2 by omega)
          omega)
      · rw [if_neg (nI_nlt (by omega) (by omega))]
        exact ih q9 lo ((lo + hi) / 2) (st + 1) (by omega) (by omega) (by omega) (by omega) (by omega) (by omega) h7
    · refine ⟨lo, ?_, by omega, by rw [show lo = hi by omega]; exact h6, h7⟩
      rw [fX8_leastKeep_38, if_pos (nI_le (show hi ≤ lo by omega) (by omega)), ite_self]
/-- a try of retention with another KEEP, and back -/
theorem m_try (hi : i < 4) (hM : MR a (M0.1 0) (i * 1274)) (hA : AI a w) (hag : ag < 2 ^ 29) (hw : M0.1 0 5096 = nI w) (ha : M0.1 0 5099 = nI ag) (hs : Svd M0 M) (he : ∀ j, j < 5140 → M.1 0 j = M0.1 0 j) {kp : Nat} (hkp : kp < 2 ^ 31) : ∃ M2 M3, fX9_retained (nI i) (mS M 5098 (nI kp)) = some (nI (sg (hb a) 0 (a.1 5 (gN a kp w ag))), M2) ∧ fX9_all (nI i) M2 = some (nI (lft a w ag kp)) ∧ fX9_copy 1 0 M2 = some M3 ∧ Svd M0 M3 ∧ ∀ j, j < 5140 → M3.1 0 j = M0.1 0 j := by
  have hj := gN_lt (kp := kp) (ag := ag) hA
  have hM1 : MR a ((mS M 5098 (nI kp)).1 0) (i * 1274) := hM.cg hA (fun x hx => by rw [mS_g, upd_n (by omega), he _ (by omega)])
  obtain ⟨M2, d1, d2, d3⟩ := m_ret (kp := kp) (ag := ag) hi hM1 hA hag hkp (by rw [mS_g, upd_n (by omega), he _ (by omega)]; exact hw) (by rw [mS_g, upd_n (by omega), he _ (by omega)]; exact ha) (by rw [mS_g, upd_s rfl])
  have hx : FX0 M M2 := FX0.S.tr d3.x
  obtain ⟨M3, b1, b2, b3⟩ := back hs hx
  refine ⟨M2, M3, d1, ?_, b1, b2, b3⟩
  rw [m_all hi d2 (rt_I hA hj), rt_e]
  have hbl := hA.ble hj
  have h := sg_split (hb (rt a (gN a kp w ag))) (o := 0) (m := a.1 5 (gN a kp w ag)) (h := a.1 6 0) (Nat.zero_le _) hbl
  rw [sg_zero (a.1 5 (gN a kp w ag) - 0) 0 (fun o _ q => rt_hb0 (by omega)), Nat.zero_add, Nat.sub_zero] at h
  rw [h]
  unfold lft
  rw [sg_congr _ _ (fun o q1 _ => rt_hb q1)]
theorem m_need_a (hi : i < 4) (hM : MR a (M0.1 0) (i * 1274)) (hA : AI a w) (hag : ag < 2 ^ 29) (hw : M0.1 0 5096 = nI w) (ha : M0.1 0 5099 = nI ag) {q t : Nat} (hq : q ≤ 200) (ht : t ≤ 200) (h1 : q ≤ lft a w ag t) (h2 : ∀ k, k < t → lft a w ag k < q) : ∀ (d n o : Nat) (M : MS), o + d = t → d + 1 < n → Svd M0 M → (∀ j, j < 5140 → M.1 0 j = M0.1 0 j) → ∃ M', fX9_need_40 (nI i) (nI q) n (-5) (nI o) M = some (nI t, M') ∧ Svd M0 M' ∧ ∀ j, j < 5140 → M'.1 0 j = M0.1 0 j := by
  intro d
  induction d with
  | zero =>
    intro n o M e1 e2 hs he
    obtain ⟨q9, rfl⟩ : ∃ q9, n = q9 + 1 + 1 := ⟨n - 2, by omega⟩
    obtain ⟨M2, M3, c1, c2, c3, c4, c5⟩ := m_try hi hM hA hag hw ha hs he (kp := o) (by omega)
    have hll := lft_le (ag := ag) hA o
    refine ⟨M3, ?_, c4, c5⟩
    rw [fX9_need_40, if_neg (show ¬ (200 : Int32) < nI o from nI_nlt (a := 200) (by omega) (by omega)), if_neg (show ¬ (0 : Int32) ≤ -5 by decide), show (5098 : Int32) = nI 5098 from rfl, zi_ok (by omega) (by omega), zl_d, wAm_S _ _ (by omega), c1, zb2_s, c2, zb_s, if_neg (nI_nlt (by rw [show o = t by omega]; exact h1) (by omega))]
    unfold fX9_need_84
    rw [c3, zb_s, fX9_need_40, if_pos (show (0 : Int32) ≤ nI o from nI_pos' (by omega)), ite_self, show o = t by omega]
  | succ d ih =>
    intro n o M e1 e2 hs he
    obtain ⟨q9, rfl⟩ : ∃ q9, n = q9 + 1 := ⟨n - 1, by omega⟩
    obtain ⟨M2, M3, c1, c2, c3, c4, c5⟩ := m_try hi hM hA hag hw ha hs he (kp := o) (by omega)
    have hll := lft_le (ag := ag) hA o
    rw [fX9_need_40, if_neg (show ¬ (200 : Int32) < nI o from nI_nlt (a := 200) (by omega) (by omega)), if_neg (show ¬ (0 : Int32) ≤ -5 by decide), show (5098 : Int32) = nI 5098 from rfl, zi_ok (by omega) (by omega), zl_d, wAm_S _ _ (by omega), c1, zb2_s, c2, zb_s, if_pos (nI_lt (h2 o (by omega)) (by omega))]
    unfold fX9_need_84
    rw [c3, zb_s, nI_1]
    exact ih q9 (o + 1) M3 (by omega) (by omega) c4 c5
theorem m_need_b (hi : i < 4) (hM : MR a (M0.1 0) (i * 1274)) (hA : AI a w) (hag : ag < 2 ^ 29) (hw : M0.1 0 5096 = nI w) (ha : M0.1 0 5099 = nI ag) {q : Nat} (hq : q ≤ 200) (h2 : ∀ k, k ≤ 200 → lft a w ag k < q) : ∀ (d n o : Nat) (M : MS), o + d = 201 → d < n → Svd M0 M → (∀ j, j < 5140 → M.1 0 j = M0.1 0 j) → ∃ M', fX9_need_40 (nI i) (nI q) n (-5) (nI o) M = some (-5, M') ∧ Svd M0 M' ∧ ∀ j, j < 5140 → M'.1 0 j = M0.1 0 j := by
  intro d
  induction d with
  | zero =>
    intro n o M e1 e2 hs he
    obtain ⟨q9, rfl⟩ : ∃ q9, n = q9 + 1 := ⟨n - 1, by omega⟩
    refine ⟨M, ?_, hs, he⟩
    rw [fX9_need_40, if_pos (show (200 : Int32) < nI o from nI_lt (a := 200) (by omega) (by omega))]
  | succ d ih =>
    intro n o M e1 e2 hs he
    obtain ⟨q9, rfl⟩ : ∃ q9, n = q9 + 1 := ⟨n - 1, by omega⟩
    obtain ⟨M2, M3, c1, c2, c3, c4, c5⟩ := m_try hi hM hA hag hw ha hs he (kp := o) (by omega)
    have hll := lft_le (ag := ag) hA o
    rw [fX9_need_40, if_neg (show ¬ (200 : Int32) < nI o from nI_nlt (a := 200) (by omega) (by omega)), if_neg (show ¬ (0 : Int32) ≤ -5 by decide), show (5098 : Int32) = nI 5098 from rfl, zi_ok (by omega) (by omega), zl_d, wAm_S _ _ (by omega), c1, zb2_s, c2, zb_s, if_pos (nI_lt (h2 o (by omega)) (by omega))]
    unfold fX9_need_84
    rw [c3, zb_s, nI_1]
    exact ih q9 (o + 1) M3 (by omega) (by omega) c4 c5
end NEED
theorem s_need : S_need Rel := by
  intro a1 a2 K M h
  obtain ⟨A, hS, ht⟩ := h.1
  have hbd := hS.b
  unfold fX8_need fX9_need
  rcases ck_log a1 with ⟨i, hi, rfl, e1, e2⟩ | ⟨e1, e2⟩
  · rw [e1, e2, zb_s, zb_s, i10, i10]
    rcases rg a2 200 (by omega) with ⟨q, hq, rfl⟩ | hs | ⟨h0, hs, hs2, -, -⟩
    · have hin : fX9_in (nI q) 0 200 = some 1 := in_ok (n := 200) hq (by omega)
      have hA := hS.ai hi
      have hL : ∀ kp, kp ≤ 200 → fX3_leftIfRetained (nI kp) (K.1.2.2.2.2 0) (K.1.2.2.2.2 3) (K.1.1 i) = some (nI (lft (A.1 i) (A.2.1 7 0) (A.2.1 7 3) kp)) := fun kp hk => by
        rw [hS.w.1, hS.w.2.2.2]
        exact c_leftR (hS.c hi) hA (by omega) (by omega)
      obtain ⟨M1, s1, s2, s3⟩ := save M
      have hll := lft_le (ag := A.2.1 7 3) hA 200
      rw [hin, zb_s, i10, if_neg (nI_pos (by omega)), if_pos (show nI q ≤ (200 : Int32) from nI_le (b := 200) hq (by omega)), zi_ok hi (by omega), nI_clamp (by omega : i < 2 ^ 31), s1, zb_s]
      unfold fX8_leastKeep
      have h200 := hL 200 (by omega)
      rw [show (200 : Int32) = nI 200 from rfl, h200, zb_s]
      by_cases hc : q ≤ lft (A.1 i) (A.2.1 7 0) (A.2.1 7 3) 200
      · obtain ⟨t, t1, t2, t3, t4⟩ := c_least_l hL hA hq 200 FU 0 200 0 (by omega) (fu_lt (by omega)) (by omega) (by omega) (by omega) hc (fun k hk => absurd hk (by omega))
        have t1' : fX8_leastKeep_38 i (nI q) K FU 0 (nI 200) 0 = some (nI t) := t1
        obtain ⟨M', m1, m2, m3⟩ := m_need_a hi (hS.m hi) hA (by omega) hS.g.1 hS.g.2.2.2 hq t2 t3 t4 t FU 0 M1 (by omega) (fu_lt (by omega)) s3 (fun j hj => by rw [s2])
        have m1' : fX9_need_40 (nI i) (nI q) FU (-5) 0 M1 = some (nI t, M') := m1
        rw [if_pos (nI_le hc (by omega)), t1', zb_s, m1']
        exact ⟨_, M', rfl, rfl, h.same (hS.cg m3) ht m2.1⟩
      · obtain ⟨M', m1, m2, m3⟩ := m_need_b hi (hS.m hi) hA (by omega) hS.g.1 hS.g.2.2.2 hq (fun k hk => by
          have := lft_mono (ag := A.2.1 7 3) hA (show k ≤ 200 from hk)
          omega) 201 FU 0 M1 (by omega) (fu_lt (by omega)) s3 (fun j hj => by rw [s2])
        have m1' : fX9_need_40 (nI i) (nI q) FU (-5) 0 M1 = some (-5, M') := m1
        rw [if_neg (nI_ge (by omega) (by omega)), zb_s, m1']
        exact ⟨_, M', rfl, rfl, h.same (hS.cg m3) ht m2.1⟩
    · rw [in_lo hs, zb_s, i00, if_pos hs]
      exact ⟨_, M, rfl, rfl, h⟩
    · rw [in_hi (show (200 : Int32) < a2 from hs), zb_s, i00, if_neg h0, if_neg (show ¬ a2 ≤ 200 from hs2)]
      exact ⟨_, M, rfl, rfl, h⟩
  · rw [e1, e2, zb_s, zb_s, i00, i00]
    exact ⟨_, M, rfl, rfl, h⟩
theorem cd_mono (x y : Int32) : ∀ (n k : Nat) (z r : Int32), fX8_commonDivisor_2 x y n z = some r → fX8_commonDivisor_2 x y (n + k) z = some r := by
  intro n
  induction n with
  | zero => intro k z r h; cases h
  | succ n ih =>
    intro k z r h
    rw [show n + 1 + k = (n + k) + 1 by omega]
    rw [fX8_commonDivisor_2] at h ⊢
    unfold zz at h ⊢
    by_cases q : z ≤ 1
    · rw [if_pos q] at h ⊢
      exact h
    · rw [if_neg q] at h ⊢
      by_cases q2 : z = 0
      · rw [if_pos q2] at h
        cases h
      · rw [if_neg q2] at h ⊢
        by_cases q3 : x - x / z * z = 0
        · rw [if_pos q3] at h ⊢
          rw [if_neg q2] at h ⊢
          by_cases q4 : y - y / z * z = 0
          · rw [if_pos q4] at h ⊢
            exact h
          · rw [if_neg q4] at h ⊢
            exact ih _ _ _ h
        · rw [if_neg q3] at h ⊢
          exact ih _ _ _ h
theorem cm_mono : ∀ (n k : Nat) (x z r : Int32), fX9_common_4 n x z = some r → fX9_common_4 (n + k) x z = some r := by
  intro n
  induction n with
  | zero => intro k x z r h; cases h
  | succ n ih =>
    intro k x z r h
    rw [show n + 1 + k = (n + k) + 1 by omega]
    rw [fX9_common_4] at h ⊢
    unfold zz at h ⊢
    by_cases q : z = 0
    · rw [if_pos q] at h ⊢
      exact h
    · rw [if_neg q] at h ⊢
      rw [if_neg q] at h ⊢
      exact ih _ _ _ _ h
theorem gcd_c : ∀ c, c < 21 → fX8_commonDivisor_2 (nI c) 20 30 20 = some (nI (Nat.gcd c 20)) := by decide +kernel
theorem gcd_m : ∀ c, c < 21 → fX9_common_4 30 (nI c) 20 = some (nI (Nat.gcd c 20)) := by decide +kernel
theorem gcd_b : ∀ c, c < 21 → 1 ≤ Nat.gcd c 20 ∧ Nat.gcd c 20 ≤ 20 := by decide +kernel
theorem odds_l {a : AB} {w i ag : Nat} {K : KS} {M0 : MS} (hi : i < 4) (hC : ∀ kp, kp < 2 ^ 31 → fX3_goneIfRetained (nI kp) (K.1.2.2.2.2 0) (K.1.2.2.2.2 3) (K.1.1 i) = some (nI (sg (hb a) 0 (a.1 5 (gN a kp w ag))))) (hM : MR a (M0.1 0) (i * 1274)) (hA : AI a w) (hag : ag < 2 ^ 29) (hw : M0.1 0 5096 = nI w) (ha : M0.1 0 5099 = nI ag) (x2 : Int32) : ∀ (d n1 n2 o acc : Nat) (M : MS), o + d = 20 → d < n1 → d < n2 → acc ≤ o → Svd M0 M → (∀ j, j < 5140 → M.1 0 j = M0.1 0 j) → ∃ (c : Nat) (M' : MS), c ≤ 20 ∧ fX8_harmlessKeeps_5 i 20 K n1 (nI acc) (nI o) = some (nI c) ∧ fX9_odds_36 (nI i) x2 n2 (nI acc) (nI (5 * o)) M = (zb (fX9_common (nI c) (20 : Int32)) (fun r_7 => if x2 = 0 then (zz r_7 (some ((nI c / r_7).toInt64, M'))) else (zz r_7 (some (((20 : Int32) / r_7).toInt64, M'))))) ∧ Svd M0 M' ∧ ∀ j, j < 5140 → M'.1 0 j = M0.1 0 j := by
  intro d
  induction d with
  | zero =>
    intro n1 n2 o acc M h1 h2 h3 h4 hs he
    obtain ⟨m1, rfl⟩ : ∃ m, n1 = m + 1 := ⟨n1 - 1, by omega⟩
    obtain ⟨m2, rfl⟩ : ∃ m, n2 = m + 1 := ⟨n2 - 1, by omega⟩
    refine ⟨acc, M, by omega, ?_, ?_, hs, he⟩
    · rw [fX8_harmlessKeeps_5, if_pos (show (20 : Int32) ≤ nI o from nI_le (a := 20) (by omega) (by omega))]
    · rw [fX9_odds_36, if_pos (show (100 : Int32) ≤ nI (5 * o) from nI_le (a := 100) (by omega) (by omega))]
  | succ d ih =>
    intro n1 n2 o acc M h1 h2 h3 h4 hs he
    obtain ⟨m1, rfl⟩ : ∃ m, n1 = m + 1 := ⟨n1 - 1, by omega⟩
    obtain ⟨m2, rfl⟩ : ∃ m, n2 = m + 1 := ⟨n2 - 1, by omega⟩
    obtain ⟨M2, M3, c1, c2, c3, c4, c5⟩ := m_try hi hM hA hag hw ha hs he (kp := 5 * o) (by omega)
    have hk := hC (5 * o) (by omega)
    have hsb : sg (hb a) 0 (a.1 5 (gN a (5 * o) w ag)) < 2 ^ 31 := by
      have q1 := sg_le (f := hb a) (c := 1) (a.1 5 (gN a (5 * o) w ag)) 0 (fun i _ _ => hb_le a i)
      have q2 := hA.ble (gN_lt (kp := 5 * o) (ag := ag) hA)
      have q3 := hA.2.1
      omega
    rw [fX8_harmlessKeeps_5, if_neg (show ¬ (20 : Int32) ≤ nI o from nI_ge (b := 20) (by omega) (by omega)), show (5 : Int32) = nI 5 from rfl, pk_mul, hk, zb_s, fX9_odds_36, if_neg (show ¬ (100 : Int32) ≤ nI (5 * o) from nI_ge (b := 100) (by omega) (by omega)), show (5098 : Int32) = nI 5098 from rfl, zi_ok (by omega) (by omega), zl_d, wAm_S _ _ (by omega), c1, zb2_s]
    unfold fX9_odds_67
    rw [c3, zb_s, zb_s, Int32.add_zero, nI_1, nI_1, show (5 : Int32) = nI 5 from rfl, nI_add, show 5 * o + 5 = 5 * (o + 1) by omega]
    by_cases hz : sg (hb a) 0 (a.1 5 (gN a (5 * o) w ag)) = 0
    · rw [if_pos ((nI_eq0 hsb).mpr hz), if_pos ((nI_eq0 hsb).mpr hz)]
      exact ih m1 m2 (o + 1) (acc + 1) M3 (by omega) (by omega) (by omega) (by omega) c4 c5
    · rw [if_neg (fun e => hz ((nI_eq0 hsb).mp e)), if_neg (fun e => hz ((nI_eq0 hsb).mp e))]
      exact ih m1 m2 (o + 1) acc M3 (by omega) (by omega) (by omega) (by omega) c4 c5
theorem s_odds : S_odds Rel := by
  intro a1 a2 K M h
  obtain ⟨A, hS, ht⟩ := h.1
  have hbd := hS.b
  unfold fX8_odds fX9_odds
  rcases ck_log a1 with ⟨i, hi, rfl, e1, e2⟩ | ⟨e1, e2⟩
  · rw [e1, e2, zb_s, zb_s, i10, i10]
    rcases rg a2 1 (by omega) with ⟨q, hq, rfl⟩ | hs | ⟨h0, hs, hs2, -, -⟩
    · have hin : fX9_in (nI q) 0 1 = some 1 := in_ok (n := 1) hq (by omega)
      have hA := hS.ai hi
      obtain ⟨M1, s1, s2, s3⟩ := save M
      obtain ⟨c, M', l1, l2, l3, l4, l5⟩ := odds_l (w := A.2.1 7 0) (ag := A.2.1 7 3) (K := K) hi (fun kp hk => by
        rw [hS.w.1, hS.w.2.2.2]
        exact c_goneR (hS.c hi) hA (by omega) hk) (hS.m hi) hA (by omega) hS.g.1 hS.g.2.2.2 (nI q) 20 FU FU 0 0 M1 (by omega) (fu_lt (by omega)) (fu_lt (by omega)) (by omega) s3 (fun j hj => by rw [s2])
      have l2' : fX8_harmlessKeeps i 20 K = some (nI c) := l2
      have l3' : fX9_odds_36 (nI i) (nI q) FU 0 0 M1 = _ := l3
      have g1 : fX8_commonDivisor (nI c) 20 = some (nI (Nat.gcd c 20)) := by
        unfold fX8_commonDivisor
        rw [show FU = 30 + 9970 from rfl]
        exact cd_mono _ _ _ _ _ _ (gcd_c c (by omega))
      have g2 : fX9_common (nI c) 20 = some (nI (Nat.gcd c 20)) := by
        unfold fX9_common
        rw [show FU = 30 + 9970 from rfl]
        exact cm_mono _ _ _ _ _ (gcd_m c (by omega))
      obtain ⟨g3, g4⟩ := gcd_b c (by omega)
      have hne : ¬ nI (Nat.gcd c 20) = 0 := nI_ne0 (by omega) (by omega)
      rw [hin, zb_s, i10, if_neg (nI_pos (by omega)), if_pos (show nI q ≤ (1 : Int32) from nI_le (b := 1) hq (by omega)), zi_ok hi (by omega), nI_clamp (by omega : i < 2 ^ 31), l2', zb_s, g1, zb_s, s1, zb_s, l3', g2, zb_s]
      unfold fX8_odds_57 zz
      rw [if_neg (show ¬ nI (Nat.gcd c 20) < (1 : Int32) from nI_nlt (b := 1) g3 (by omega)), if_neg hne, if_neg hne, if_neg hne, if_neg hne]
      have hq2 : q = 0 ∨ q = 1 := by omega
      rcases hq2 with rfl | rfl
      · rw [if_pos (show nI 0 = (0 : Int32) from rfl), if_pos (show nI 0 = (0 : Int32) from rfl)]
        exact ⟨_, M', rfl, rfl, h.same (hS.cg l5) ht l4.1⟩
      · rw [if_neg (show ¬ nI 1 = (0 : Int32) by decide), if_neg (show ¬ nI 1 = (0 : Int32) by decide)]
        exact ⟨_, M', rfl, rfl, h.same (hS.cg l5) ht l4.1⟩
    · rw [in_lo hs, zb_s, i00, if_pos hs]
      exact ⟨_, M, rfl, rfl, h⟩
    · rw [in_hi (show (1 : Int32) < a2 from hs), zb_s, i00, if_neg h0, if_neg (show ¬ a2 ≤ 1 from hs2)]
      exact ⟨_, M, rfl, rfl, h⟩
  · rw [e1, e2, zb_s, zb_s, i00, i00]
    exact ⟨_, M, rfl, rfl, h⟩
