/-! ===== shift, keep, kept, judge ===== -/
theorem sub_toInt {a b : Nat} (ha : a < 2 ^ 30) (hb : b < 2 ^ 31) : (nI a - nI b).toInt = (a : Int) - b := by
  rw [Int32.toInt_sub, nI_toInt (by omega), nI_toInt (by omega)]
  exact Int.bmod_eq_of_le (by omega) (by omega)
theorem lt_sub {a b c : Nat} (ha : a < 2 ^ 31) (hb : b < 2 ^ 30) (hc : c < 2 ^ 31) : (nI a < nI b - nI c) ↔ a + c < b := by
  rw [Int32.lt_iff_toInt_lt, sub_toInt hb hc, nI_toInt ha]
  omega
theorem sub_lt {a b c : Nat} (ha : a < 2 ^ 31) (hb : b < 2 ^ 30) (hc : c < 2 ^ 31) : (nI b - nI c < nI a) ↔ b < a + c := by
  rw [Int32.lt_iff_toInt_lt, sub_toInt hb hc, nI_toInt ha]
  omega
theorem le_subI {a b c : Nat} (ha : a < 2 ^ 31) (hb : b < 2 ^ 30) (hc : c < 2 ^ 31) : (nI a ≤ nI b - nI c) ↔ a + c ≤ b := by
  rw [Int32.le_iff_toInt_le, sub_toInt hb hc, nI_toInt ha]
  omega
theorem ix_hi {n : Nat} (hn : n < 1000) {x : Int32} (q : nI n ≤ x) : ¬ x ≤ nI n - 1 := fun e => by
  have q1 := (le_subI (a := n) (b := n) (c := 1) (by omega) (by omega) (by omega)).mp (Int32.le_trans q e)
  omega
section KEEP
variable {A : AS} {K : KS} {M : MS}
theorem m_shift1 {t i k : Nat} (ht : t < 6) {M0 : MS} (hi : i + k ≤ 60) (u j : Int32) : ∀ (d n o : Nat) (M : MS), o + d = k → d < n → M.1 = M0.1 → M.2.1 = M0.2.1 → (∀ r, r ≠ 6 → M.2.2 r = M0.2.2 r) → (∀ x, x < o → M.2.2 6 x = M0.2.2 t (i + x)) → ∃ M', fX9_shift_124 (nI t) (nI i) u j (nI k) n (nI o) M = fX9_shift_158 u j (nI k) FU 0 M' ∧ M'.1 = M0.1 ∧ M'.2.1 = M0.2.1 ∧ (∀ r, r ≠ 6 → M'.2.2 r = M0.2.2 r) ∧ (∀ x, x < k → M'.2.2 6 x = M0.2.2 t (i + x)) := by
  intro d
  induction d with
  | zero =>
    intro n o M h1 h2 h3 h4 h5 h6
    obtain ⟨q9, rfl⟩ : ∃ q9, n = q9 + 1 := ⟨n - 1, by omega⟩
    refine ⟨M, ?_, h3, h4, h5, fun x hx => h6 x (by omega)⟩
    rw [fX9_shift_124, if_pos (nI_le (by omega) (by omega))]
  | succ d ih =>
    intro n o M h1 h2 h3 h4 h5 h6
    obtain ⟨q9, rfl⟩ : ∃ q9, n = q9 + 1 := ⟨n - 1, by omega⟩
    rw [fX9_shift_124, if_neg (nI_ge (by omega) (by omega)), zi_ok ht (by omega), nI_add, zi_ok (by omega) (by omega), zi_ok (by omega) (by omega), zl_d, nI_1, nI_clamp (by omega), nI_clamp (by omega)]
    refine ih q9 (o + 1) _ (by omega) (by omega) h3 h4 (fun r hr => ?_) (fun x hx => ?_)
    · rw [wLm_22, up_n hr]; exact h5 r hr
    · rw [wLm_22, up_s rfl, nI_clamp (by omega)]
      by_cases e : x = o
      · rw [e, pk_uLs, h5 t (by omega)]
      · rw [pk_uLn e]; exact h6 x (by omega)
theorem m_shift2 {u j k : Nat} (hu : u < 6) {M0 : MS} (hj : j + k ≤ 60) : ∀ (d n o : Nat) (M : MS), o + d = k → d < n → M.1 = M0.1 → M.2.1 = M0.2.1 → (∀ r, r ≠ u → M.2.2 r = M0.2.2 r) → (∀ y, M.2.2 u y = if j ≤ y ∧ y < j + o then M0.2.2 6 (y - j) else M0.2.2 u y) → ∃ M', fX9_shift_158 (nI u) (nI j) (nI k) n (nI o) M = some (nI k, M') ∧ M'.1 = M0.1 ∧ M'.2.1 = M0.2.1 ∧ (∀ r, r ≠ u → M'.2.2 r = M0.2.2 r) ∧ (∀ y, M'.2.2 u y = if j ≤ y ∧ y < j + k then M0.2.2 6 (y - j) else M0.2.2 u y) := by
  intro d
  induction d with
  | zero =>
    intro n o M h1 h2 h3 h4 h5 h6
    obtain ⟨q9, rfl⟩ : ∃ q9, n = q9 + 1 := ⟨n - 1, by omega⟩
    refine ⟨M, ?_, h3, h4, h5, ?_⟩
    · rw [fX9_shift_158, if_pos (nI_le (by omega) (by omega))]
    · rw [show k = o by omega]; exact h6
  | succ d ih =>
    intro n o M h1 h2 h3 h4 h5 h6
    obtain ⟨q9, rfl⟩ : ∃ q9, n = q9 + 1 := ⟨n - 1, by omega⟩
    rw [fX9_shift_158, if_neg (nI_ge (by omega) (by omega)), zi_ok hu (by omega), zi_ok (by omega) (by omega), nI_add, zi_ok (by omega) (by omega), zl_d, nI_1, nI_clamp (by omega), nI_clamp (by omega)]
    refine ih q9 (o + 1) _ (by omega) (by omega) h3 h4 (fun r hr => ?_) (fun y => ?_)
    · rw [wLm_22, up_n hr]; exact h5 r hr
    · rw [wLm_22, up_s rfl, nI_clamp (by omega), h5 6 (by omega)]
      by_cases e : y = j + o
      · rw [e, pk_uLs, if_pos ⟨by omega, by omega⟩, show j + o - j = o by omega]
      · rw [pk_uLn e, h6 y]
        by_cases q : j ≤ y ∧ y < j + o
        · rw [if_pos q, if_pos ⟨q.1, by omega⟩]
        · rw [if_neg q, if_neg (fun q2 => by omega)]
theorem s_shift : S_shift Rel := by
  intro a1 a2 a3 a4 a5 K M h
  unfold fX8_shift fX9_shift
  rcases ck_tape a1 with ⟨t, ht, rfl, e1, e2⟩ | ⟨e1, e2⟩
  · rcases ck_tape a3 with ⟨u, hu, rfl, e3, e4⟩ | ⟨e3, e4⟩
    · obtain ⟨z, n, k1, k2, k3, k4, k5, k6, k7, k8⟩ := h.2.2.2.1 t ht
      obtain ⟨y, m, l1, l2, l3, l4, l5, l6, l7, l8⟩ := h.2.2.2.1 u hu
      have hct : (nI t).toNatClampNeg = t := nI_clamp (by omega)
      have hcu : (nI u).toNatClampNeg = u := nI_clamp (by omega)
      simp only [e1, e2, e3, e4, zb_s, if_neg (show ¬ (1 : Int32) = 0 by decide), zi_ok (show t < 6 from ht) (show 6 < 2 ^ 31 by omega), zi_ok (show u < 6 from hu) (show 6 < 2 ^ 31 by omega), hct, hcu, c_nothing (show z < 1000 by omega) k4, c_nothing (show y < 1000 by omega) l4, k5, l5, k7, l7, k4, l4]
      by_cases hz : z = 0
      · rw [if_pos hz, if_neg (by decide), if_pos ((cd1_lt (by omega)).mpr hz)]
        exact ⟨_, K, M, rfl, rfl, h, rfl⟩
      · rw [if_neg hz, if_pos rfl, if_neg (fun e => hz ((cd1_lt (by omega)).mp e))]
        by_cases hy : y = 0
        · rw [if_pos hy, if_neg (by decide), if_neg (fun e => (cd1_le (by omega)).mp e hy)]
          exact ⟨_, K, M, rfl, rfl, h, rfl⟩
        · rw [if_neg hy, if_pos rfl, if_pos ((cd1_le (by omega)).mpr hy)]
          by_cases hzy : cd1 z = cd1 y
          · rw [if_pos hzy, if_pos hzy]
            unfold fX6_hasPlaces
            rw [k6, l6]
            by_cases g5 : a5 < 0
            · simp only [g5, if_true, ite_self, zb_s]
              exact ⟨_, K, M, rfl, rfl, h, rfl⟩
            · by_cases g2 : a2 < 0
              · simp only [g5, g2, if_true, if_false, ite_self, zb_s]
                exact ⟨_, K, M, rfl, rfl, h, rfl⟩
              · by_cases g4 : a4 < 0
                · simp only [g5, g2, g4, if_true, if_false, ite_self, zb_s]
                  refine ⟨-13, K, M, ?_, rfl, h, rfl⟩
                  repeat' split
                  all_goals rfl
                · obtain ⟨k, hk, rfl⟩ := nI_of g5
                  obtain ⟨i, hi, rfl⟩ := nI_of g2
                  obtain ⟨j, hj, rfl⟩ := nI_of g4
                  have hl1 := nI_ltI (a := n) (b := i) (by omega) hi
                  have hl2 := nI_ltI (a := m) (b := j) (by omega) hj
                  have hl3 := sub_lt (a := k) (b := n) (c := i) hk (by omega) hi
                  have hl4 := sub_lt (a := k) (b := m) (c := j) hk (by omega) hj
                  have hl5 := nI_ltI (a := n) (b := k) (by omega) hk
                  have hl6 := nI_ltI (a := m) (b := k) (by omega) hk
                  have hl7 := sub_lt (a := i) (b := n) (c := k) hi (by omega) hk
                  have hl8 := le_subI (a := j) (b := m) (c := k) hj (by omega) hk
                  simp only [g5, g2, g4, if_false, hl1, hl2, hl3, hl4, hl5, hl6, hl7, hl8]
                  by_cases hq : i + k ≤ n ∧ j + k ≤ m
                  · obtain ⟨M1, s1, s2, s3, s4, s5⟩ := m_shift1 (i := i) (k := k) ht (M0 := M) (by omega) (nI u) (nI j) k FU 0 M (by omega) (fu_lt (by omega)) rfl rfl (fun _ _ => rfl) (fun x hx => absurd hx (by omega))
                    obtain ⟨M2, r1, r2, r3, r4, r5⟩ := m_shift2 (j := j) (k := k) hu (M0 := M1) (by omega) k FU 0 M1 (by omega) (fu_lt (by omega)) rfl rfl (fun _ _ => rfl) (fun y => by rw [if_neg (fun q => by omega)])
                    have s1' : fX9_shift_124 (nI t) (nI i) (nI u) (nI j) (nI k) FU 0 M = fX9_shift_158 (nI u) (nI j) (nI k) FU 0 M1 := s1
                    have r1' : fX9_shift_158 (nI u) (nI j) (nI k) FU 0 M1 = some (nI k, M2) := r1
                    rw [if_neg (by omega), if_neg (by omega), zb_s, i10, if_neg (by omega), if_neg (by omega), zb_s, i10, if_neg (by omega), if_neg (by omega), if_neg (by omega), if_pos (by omega), s1', r1']
                    have hzc : ∀ (B : Option (Int32 × KS)), zc (nI i) (nI j) (nI k) 60 60 B = B := fun B => by
                      unfold zc
                      rw [nI_clamp (by omega), nI_clamp (by omega), nI_clamp (by omega), if_neg]
                      intro q
                      rcases q with q | q | q | q | q
                      · exact nI_pos (by omega) q
                      · exact nI_pos (by omega) q
                      · exact nI_pos (by omega) q
                      · omega
                      · omega
                    rw [hzc, zl_d, nI_clamp (by omega), nI_clamp (by omega), nI_clamp (by omega)]
                    refine ⟨_, _, M2, rfl, rfl, h.tp (z := y) (n := m) hu ⟨l1, l2, l3, l4, by rw [r2, s2]; exact l5, l6, by rw [r2, s2]; exact l7, fun x hx => ?_⟩ (fun q _ => by rw [r2, s2]) (fun q hq1 hq2 => ⟨by rw [r2, s2], by rw [r2, s2], by rw [r4 q hq2, s4 q (by omega)]⟩) (by rw [r3, s3]), rfl⟩
                    rw [r5 x]
                    show _ = va_cpy (K.2.2.2.1 t).1 (K.2.2.2.1 u).1 i j k x
                    by_cases q : j ≤ x ∧ x < j + k
                    · rw [if_pos q, pk_cpy_in q.1 q.2, s5 _ (by omega), k8 _ (by omega)]
                    · rw [if_neg q, pk_cpy_out (by omega), s4 u (by omega), l8 x hx]
                  · refine ⟨-13, K, M, ?_, ?_, h, rfl⟩
                    · by_cases q1 : n < i
                      · rw [if_pos q1, zb_s, i00]
                      · rw [if_neg q1]
                        by_cases q2 : n < k + i
                        · rw [if_pos q2, zb_s, i00]
                        · rw [if_neg q2, zb_s, i10]
                          by_cases q3 : m < j
                          · rw [if_pos q3, zb_s, i00]
                          · rw [if_neg q3, if_pos (by omega), zb_s, i00]
                    · by_cases q1 : n < k
                      · rw [if_pos q1]
                      · rw [if_neg q1]
                        by_cases q2 : m < k
                        · rw [if_pos q2]
                        · rw [if_neg q2]
                          by_cases q3 : n < i + k
                          · rw [if_pos q3]
                          · rw [if_neg q3, if_neg (by omega)]
          · rw [if_neg hzy, if_neg hzy]
            exact ⟨_, K, M, rfl, rfl, h, rfl⟩
    · rw [e1, e2, zb_s, zb_s, i10, i10, e3, e4, zb_s, zb_s, i00, i00]
      exact ⟨_, K, M, rfl, rfl, h, rfl⟩
  · rw [e1, e2, zb_s, zb_s, i00, i00]
    exact ⟨_, K, M, rfl, rfl, h, rfl⟩
def KP1 (Q : CS) (M : MS) (n : Nat) (f : Nat → Nat) : Prop := n ≤ 60 ∧ Q.2 0 = nI n ∧ M.2.1 2 = nI n ∧ ∀ k, k < n → M.1 7 (4 * k) = Q.1 0 k ∧ M.1 7 (4 * k + 1) = Q.1 1 k ∧ (f k = 1 ∨ f k = 2) ∧ Q.1 2 k = nI (f k) ∧ M.1 7 (4 * k + 2) = nI (f k - 1) ∧ M.1 7 (4 * k + 3) = Q.1 3 k
def F7 (M M' : MS) : Prop := (∀ k, k ≠ 7 → M'.1 k = M.1 k) ∧ M'.2.2 = M.2.2 ∧ ∀ j, j ≠ 2 → M'.2.1 j = M.2.1 j
theorem keep_tail {a : AB} {w i : Nat} (hi : i < 4) (hM : MR a (M.1 0) (i * 1274)) (hA : AI a w) (x2 x3 : Int32) : ∀ (d n o : Nat), o + d = 200 → d < n → a.1 6 0 ≤ o → fX9_keep_42 (nI i) x2 x3 n (nI o) M = some (M.2.1 2, M) := by
  intro d
  induction d with
  | zero =>
    intro n o h1 h2 h3
    obtain ⟨q9, rfl⟩ : ∃ q9, n = q9 + 1 := ⟨n - 1, by omega⟩
    rw [fX9_keep_42, if_pos (show (200 : Int32) ≤ nI o from nI_le (a := 200) (by omega) (by omega))]
  | succ d ih =>
    intro n o h1 h2 h3
    obtain ⟨q9, rfl⟩ : ∃ q9, n = q9 + 1 := ⟨n - 1, by omega⟩
    have hf := (hM.1 o (by omega)).1
    rw [hA.hb0 h3 (by omega)] at hf
    rw [fX9_keep_42, if_neg (show ¬ (200 : Int32) ≤ nI o from nI_ge (b := 200) (by omega) (by omega)), show (0 : Int32) = nI 0 from rfl, nI_add, Nat.zero_add, m_at _ hi (by omega), zb_s, hf, if_neg (by decide), nI_1, ih _ _ (by omega) (by omega) (by omega)]
theorem keep_l {a : AB} {L : CS} {w i v p : Nat} (hi : i < 4) (hC : CR a L) {M0 : MS} (hM : MR a (M0.1 0) (i * 1274)) (hA : AI a w) (hv : v ≤ 1) (hp : p ≤ 60) : ∀ (d n1 n2 o s : Nat) (f : Nat → Nat) (Q : CS) (M : MS), o + d = a.1 6 0 → d < n1 → 200 - o < n2 → KP1 Q M s f → s ≤ p → F7 M0 M → ∃ (r : Int32) (s' : Nat) (f' : Nat → Nat) (Q' : CS) (M' : MS), fX2_filled_8 L (nI v) (nI p) n1 (nI o) Q = some (r, Q') ∧ fX9_keep_42 (nI i) (nI v) (nI p) n2 (nI o) M = some (r, M') ∧ KP1 Q' M' s' f' ∧ F7 M0 M' := by
  have he := hA.2.1
  intro d
  induction d with
  | zero =>
    intro n1 n2 o s f Q M h1 h2 h3 hK hs hF
    obtain ⟨m1, rfl⟩ : ∃ m, n1 = m + 1 := ⟨n1 - 1, by omega⟩
    refine ⟨nI s, s, f, Q, M, ?_, ?_, hK, hF⟩
    · rw [fX2_filled_8, hC.2.2.1, if_pos (nI_le (by omega) (by omega)), hK.2.1]
    · rw [keep_tail hi (by rw [hF.1 0 (by omega)]; exact hM) hA _ _ (200 - o) n2 o (by omega) (by omega) (by omega), hK.2.2.1]
  | succ d ih =>
    intro n1 n2 o s f Q M h1 h2 h3 hK hs hF
    obtain ⟨m1, rfl⟩ : ∃ m, n1 = m + 1 := ⟨n1 - 1, by omega⟩
    obtain ⟨m2, rfl⟩ : ∃ m, n2 = m + 1 := ⟨n2 - 1, by omega⟩
    have hM1 : MR a (M.1 0) (i * 1274) := by rw [hF.1 0 (by omega)]; exact hM
    obtain ⟨c0, c1, c2, c3, c4⟩ := hC.1 o (by omega)
    obtain ⟨g0, g1, g2, g3, g4, g5⟩ := hM1.1 o (by omega)
    obtain ⟨a0, a1, a2, a3, -⟩ := hA.2.2.2.1 o (by omega)
    rw [fX2_filled_8, hC.2.2.1, if_neg (nI_ge (by omega) (by omega)), c_has hC hA (by omega), zb_s, fX9_keep_42, if_neg (show ¬ (200 : Int32) ≤ nI o from nI_ge (b := 200) (by omega) (by omega)), show (0 : Int32) + nI o = nI o by rw [show (0 : Int32) = nI 0 from rfl, nI_add, Nat.zero_add], m_at _ hi (by omega), zb_s, g0]
    by_cases h0 : a.1 0 o = 0
    · have hx : hb a o = 0 := if_pos h0
      rw [if_neg (show ¬ (o < 200 ∧ a.1 0 o ≠ 0) from fun q => q.2 h0), i00, hx, if_neg (show ¬ nI 0 = (1 : Int32) by decide), nI_1]
      exact ih m1 m2 (o + 1) s f Q M (by omega) (by omega) (by omega) hK hs hF
    · have hx : hb a o = 1 := if_neg h0
      have g4 := g4 h0
      rw [if_pos (show o < 200 ∧ a.1 0 o ≠ 0 from ⟨by omega, h0⟩), i10, hx, if_pos (show nI 1 = (1 : Int32) from rfl), hK.2.1, hK.2.2.1]
      by_cases hsp : s = p
      · rw [if_pos (nI_le (by omega) (by omega)), if_pos (by rw [hsp])]
        exact ⟨-13, s, f, Q, M, rfl, rfl, hK, hF⟩
      · have hs60 : s < 60 := by omega
        rw [if_neg (nI_ge (by omega) (by omega)), if_pos (show nI s < 60 from nI_lt (b := 60) hs60 (by omega)), if_neg (fun e => hsp ((nI_eq (by omega) (by omega)).mp e))]
        have htake : ∃ (r : Int32) (s' : Nat) (f' : Nat → Nat) (Q' : CS) (M' : MS), fX2_filled_64 L (nI v) (nI p) (fX2_filled_8 L (nI v) (nI p) m1) (nI o) Q = some (r, Q') ∧ fX9_keep_97 (nI i) (nI v) (nI p) (fX9_keep_42 (nI i) (nI v) (nI p) m2) (nI o) M = some (r, M') ∧ KP1 Q' M' s' f' ∧ F7 M0 M' := by
          have hQ2 : Q.2 0 = nI s := hK.2.1
          have hM2 : M.2.1 2 = nI s := hK.2.2.1
          have hr : ∀ (M9 : MS), M9.1 0 = M.1 0 → fX9_at (nI i) (nI (200 + o)) M9 = some (nI (a.1 1 o)) ∧ fX9_at (nI i) (nI (800 + o)) M9 = some (nI (a.1 0 o - 1)) ∧ fX9_at (nI i) (nI (1000 + o)) M9 = some (a.2 o) := fun M9 h9 => by
            rw [m_at _ hi (by omega), m_at _ hi (by omega), m_at _ hi (by omega), h9, g1, g4, g5]
            exact ⟨rfl, rfl, rfl⟩
          unfold fX2_filled_64 fX2_takeRecord fX9_keep_97
          simp only [show (4 : Int32) = nI 4 from rfl, show (200 : Int32) = nI 200 from rfl, show (800 : Int32) = nI 800 from rfl, show (1000 : Int32) = nI 1000 from rfl, show (1 : Int32) = nI 1 from rfl, show (2 : Int32) = nI 2 from rfl, show (3 : Int32) = nI 3 from rfl, nI_add, pk_mul, zl_d, zb_s, wA_2, wAm_2, hQ2, hM2, zi_ok (show s < 60 from hs60) (show 60 < 2 ^ 31 by omega), zi_ok (show o < 200 by omega) (show 200 < 2 ^ 31 by omega), zi_ok (show 4 * s < 240 by omega) (show 240 < 2 ^ 31 by omega), zi_ok (show 4 * s + 1 < 240 by omega) (show 240 < 2 ^ 31 by omega), zi_ok (show 4 * s + 2 < 240 by omega) (show 240 < 2 ^ 31 by omega), zi_ok (show 4 * s + 3 < 240 by omega) (show 240 < 2 ^ 31 by omega), nI_clamp (show o < 2 ^ 31 by omega), c0, c1, c4]
          have hk7 : ∀ (M9 : MS) (x y : Int32), (wAm M9 7 x y).1 0 = M9.1 0 := fun M9 x y => by rw [wAm_1, up_n (by omega)]
          rw [(hr (wAm M 7 (nI (4 * s)) (nI o)) (hk7 _ _ _)).1, zb_s, (hr (wAm (wAm M 7 (nI (4 * s)) (nI o)) 7 (nI (4 * s + 1)) (nI (a.1 1 o))) (by rw [hk7, hk7])).2.1, zb_s, (hr (wAm (wAm (wAm M 7 (nI (4 * s)) (nI o)) 7 (nI (4 * s + 1)) (nI (a.1 1 o))) 7 (nI (4 * s + 2)) (nI (a.1 0 o - 1))) (by rw [hk7, hk7, hk7])).2.2, zb_s]
          refine ih m1 m2 (o + 1) (s + 1) (va_up f s (a.1 0 o)) _ _ (by omega) (by omega) (by omega) ⟨by omega, ?_, ?_, fun k hk => ?_⟩ (by omega) ⟨fun k hk => ?_, ?_, fun j hj => ?_⟩
          · rw [sF_2, up_s rfl]
          · rw [sFm_21, up_s rfl]
          · rw [sFm_1, sF_1]
            by_cases e : k = s
            · subst e
              simp (disch := omega) only [wAm_1, wA_1, up_s, up_n, upd_s, upd_n, nI_clamp]
              refine ⟨trivial, trivial, by omega, trivial, trivial, trivial⟩
            · obtain ⟨q1, q2, q3, q4, q5, q6⟩ := hK.2.2.2 k (by omega)
              simp (disch := omega) only [wAm_1, wA_1, up_s, up_n, upd_n, nI_clamp]
              exact ⟨q1, q2, q3, q4, q5, q6⟩
          · rw [sFm_1, wAm_1, up_n hk, wAm_1, up_n hk, wAm_1, up_n hk, wAm_1, up_n hk, hF.1 k hk]
          · exact hF.2.1
          · rw [sFm_21, up_n hj]
            exact hF.2.2 j hj
        have hv2 : v = 0 ∨ v = 1 := by omega
        rcases hv2 with rfl | rfl
        · rw [if_pos (show nI 0 = (0 : Int32) from rfl), if_neg (show ¬ nI 0 = (1 : Int32) by decide)]
          exact htake
        · rw [if_neg (show ¬ nI 1 = (0 : Int32) by decide), zi_ok (by omega) (by omega), nI_clamp (by omega), c0, if_pos (show nI 1 = (1 : Int32) from rfl), show (800 : Int32) = nI 800 from rfl, nI_add, m_at _ hi (by omega), zb_s, g4]
          by_cases h2 : a.1 0 o = 2
          · rw [if_pos (by rw [h2]; rfl), if_pos (by rw [h2]; rfl)]
            exact ⟨-16, s, f, Q, M, rfl, rfl, hK, hF⟩
          · rw [if_neg (show ¬ nI (a.1 0 o) = 2 from fun e => h2 ((nI_eq (b := 2) (by omega) (by omega)).mp e)), if_neg (show ¬ nI (a.1 0 o - 1) = 1 from fun e => by have := (nI_eq (b := 1) (by omega) (by omega)).mp e; omega)]
            exact htake
theorem Rel.kp {Q' : CS} {M' : MS} {s : Nat} {f : Nat → Nat} (h : Rel K M) (hK : KP1 Q' M' s f) (hF : F7 M M') : Rel (kKr K Q') M' := by
  refine ⟨?_, ?_, ⟨s, f, hK⟩, ?_, ?_⟩
  · rw [hF.1 0 (by omega)]; exact h.1
  · obtain ⟨n, f, k1, k2, k3, k4⟩ := h.2.1
    exact ⟨n, f, k1, k2, by rw [hF.2.2 1 (by omega)]; exact k3, by rw [hF.1 3 (by omega)]; exact k4⟩
  · intro t ht
    obtain ⟨z, n, k1, k2, k3, k4, k5, k6, k7, k8⟩ := h.2.2.2.1 t ht
    exact ⟨z, n, k1, k2, k3, k4, by rw [hF.1 8 (by omega)]; exact k5, k6, by rw [hF.1 9 (by omega)]; exact k7, by rw [hF.2.1]; exact k8⟩
  · rcases h.2.2.2.2 with ⟨i1, i2⟩ | ⟨S, i1, i2, i3⟩
    · exact Or.inl ⟨i1, by rw [hF.2.2 0 (by omega)]; exact i2⟩
    · exact Or.inr ⟨S, i1, by rw [hF.2.2 0 (by omega)]; exact i2, by rw [hF.1 2 (by omega)]; exact i3⟩
theorem s_keep : S_keep Rel := by
  intro a1 a2 a3 K M h
  obtain ⟨A, hS, ht⟩ := h.1
  unfold fX8_keep fX9_keep
  rcases ck_log a1 with ⟨i, hi, rfl, e1, e2⟩ | ⟨e1, e2⟩
  · rw [e1, e2, zb_s, zb_s, i10, i10]
    rcases rg a2 1 (by omega) with ⟨v, hv, rfl⟩ | hs | ⟨h0, hs, hs2, -, -⟩
    · rw [show (1 : Int32) = nI 1 from rfl, in_ok hv (by omega), zb_s, i10, if_neg (nI_pos (by omega)), if_neg (nI_nlt hv (by omega))]
      by_cases hb : a3 ≤ 60
      · rw [if_pos hb, if_pos hb]
        by_cases hc : 0 ≤ a3
        · obtain ⟨n, hn, rfl⟩ := nI_of (Int32.not_lt.mpr hc)
          have hn60 : n ≤ 60 := (nI_leI (b := 60) hn (by omega)).mp hb
          have he := (hS.ai hi).2.1
          obtain ⟨r, s', f', Q', M', c1, c2, c3, c4⟩ := keep_l hi (hS.c hi) (M0 := M) (hS.m hi) (hS.ai hi) hv hn60 ((A.1 i).1 6 0) FU FU 0 0 (fun _ => 0) (sF K.2.2.1 0 0) (sFm M 2 0) (by omega) (fu_lt (by omega)) (fu_lt (by omega)) ⟨by omega, by rw [sF_2, up_s rfl]; rfl, by rw [sFm_21, up_s rfl]; rfl, fun k hk => absurd hk (by omega)⟩ (by omega) ⟨fun k _ => rfl, rfl, fun j hj => by rw [sFm_21, up_n hj]⟩
          have c1' : fX2_filled (nI v) (nI n) (K.1.1 i) K.2.2.1 = some (r, Q') := by
            unfold fX2_filled
            rw [zl_d]
            exact c1
          have c2' : fX9_keep_42 (nI i) (nI v) (nI n) FU 0 (sFm M 2 0) = some (r, M') := c2
          rw [if_pos hc, if_pos hc, zl_d, c2', zi_ok hi (by omega), nI_clamp (by omega : i < 2 ^ 31)]
          unfold fX8_keep_59
          have hv2 : v = 0 ∨ v = 1 := by omega
          rcases hv2 with rfl | rfl
          · rw [if_neg (by decide), show (0 : Int32) = nI 0 from rfl, c1', zb2_s, zl_d]
            exact ⟨r, _, M', rfl, rfl, h.kp c3 c4, rfl⟩
          · rw [if_pos rfl, c1', zb2_s, zl_d]
            exact ⟨r, _, M', rfl, rfl, h.kp c3 c4, rfl⟩
        · rw [if_neg hc, if_neg hc]
          exact ⟨_, K, M, rfl, rfl, h, rfl⟩
      · rw [if_neg hb, if_neg hb]
        exact ⟨_, K, M, rfl, rfl, h, rfl⟩
    · rw [in_lo hs, zb_s, i00, if_pos hs]
      exact ⟨_, K, M, rfl, rfl, h, rfl⟩
    · rw [show (1 : Int32) = nI 1 from rfl, in_hi hs, zb_s, i00, if_neg h0, if_pos hs]
      exact ⟨_, K, M, rfl, rfl, h, rfl⟩
  · rw [e1, e2, zb_s, zb_s, i00, i00]
    exact ⟨_, K, M, rfl, rfl, h, rfl⟩
theorem s_kept : S_kept Rel := by
  intro a1 a2 K M h
  obtain ⟨n, f, k1, k2, k3, k4⟩ := h.2.2.1
  unfold fX8_kept fX9_kept
  rw [k2, k3, in_any]
  rcases pk_ix a1 (n := n) (by omega) with q | q | ⟨k, hk, rfl⟩
  · rw [if_pos q, if_neg (fun e => absurd q (Int32.not_lt.mpr e.1)), zb_s, i00]
    exact ⟨_, rfl, rfl, h⟩
  · rw [if_pos q, ite_self, if_neg (fun e => ix_hi (by omega) q e.2), zb_s, i00]
    exact ⟨_, rfl, rfl, h⟩
  · obtain ⟨q1, q2, q3, q4, q5, q6⟩ := k4 k hk
    rw [if_neg (nI_pos (by omega)), if_neg (nI_ge hk (by omega)), if_pos ⟨nI_pos' (by omega), by rw [nI_m1 (by omega)]; exact nI_le (by omega) (by omega)⟩, zb_s, i10]
    unfold fX2_about fX9_kept_52
    rcases rg a2 3 (by omega) with ⟨j, hj, rfl⟩ | hs | ⟨h0, hs, -, -, -⟩
    · have hin : fX9_in (nI j) 0 3 = some 1 := in_ok (n := 3) hj (by omega)
      rw [hin, zb_s, i10]
      have hj4 : j = 0 ∨ j = 1 ∨ j = 2 ∨ j = 3 := by omega
      rcases hj4 with rfl | rfl | rfl | rfl
      · rw [if_pos (show nI 0 = (0 : Int32) from rfl)]
        rw [if_neg (show ¬ nI 0 = (3 : Int32) by decide)]
        simp (disch := omega) only [nlit, zl_d, zb_s, zb2_s, nI_leI, nI_ltI, nI_eq, nI_add, nI_clamp, zi_ok, pk_mul, Nat.add_zero, q1]
        exact ⟨_, rfl, rfl, h⟩
      · rw [if_neg (show ¬ nI 1 = (0 : Int32) by decide), if_pos (show nI 1 = (1 : Int32) from rfl)]
        rw [if_neg (show ¬ nI 1 = (3 : Int32) by decide)]
        simp (disch := omega) only [nlit, zl_d, zb_s, zb2_s, nI_leI, nI_ltI, nI_eq, nI_add, nI_clamp, zi_ok, pk_mul, q2]
        exact ⟨_, rfl, rfl, h⟩
      · rw [if_neg (show ¬ nI 2 = (0 : Int32) by decide), if_neg (show ¬ nI 2 = (1 : Int32) by decide), if_pos (show nI 2 = (2 : Int32) from rfl)]
        rw [if_neg (show ¬ nI 2 = (3 : Int32) by decide)]
        simp (disch := omega) only [nlit, zl_d, zb_s, zb2_s, nI_leI, nI_ltI, nI_eq, nI_add, nI_clamp, zi_ok, pk_mul, q4, q5]
        rcases q3 with q3 | q3
        · rw [if_neg (by omega), q3]
          exact ⟨_, rfl, rfl, h⟩
        · rw [if_pos q3, q3]
          exact ⟨_, rfl, rfl, h⟩
      · rw [if_neg (show ¬ nI 3 = (0 : Int32) by decide), if_neg (show ¬ nI 3 = (1 : Int32) by decide), if_neg (show ¬ nI 3 = (2 : Int32) by decide), if_pos (show nI 3 = (3 : Int32) from rfl)]
        rw [if_pos (show nI 3 = (3 : Int32) from rfl)]
        simp (disch := omega) only [nlit, zl_d, zb_s, zb2_s, nI_leI, nI_ltI, nI_eq, nI_add, nI_clamp, zi_ok, pk_mul, q4, q5, q6]
        rcases q3 with q3 | q3
        · rw [if_neg (by omega), if_neg (by omega)]
          exact ⟨_, rfl, rfl, h⟩
        · rw [if_pos q3, if_pos (by omega)]
          exact ⟨_, rfl, rfl, h⟩
    · refine ⟨(-9223372036854775808 : Int64), ?_, ?_, h⟩
      rotate_left
      · rw [in_lo hs, zb_s, i00]
      · rw [if_neg (show ¬ a2 = (0 : Int32) from fun e => by rw [e] at hs; exact absurd hs (by decide)), if_neg (show ¬ a2 = (1 : Int32) from fun e => by rw [e] at hs; exact absurd hs (by decide)), if_neg (show ¬ a2 = (2 : Int32) from fun e => by rw [e] at hs; exact absurd hs (by decide)), if_neg (show ¬ a2 = (3 : Int32) from fun e => by rw [e] at hs; exact absurd hs (by decide))]
        rw [zb_s]
    · refine ⟨(-9223372036854775808 : Int64), ?_, ?_, h⟩
      rotate_left
      · rw [show (3 : Int32) = nI 3 from rfl, in_hi hs, zb_s, i00]
      · rw [if_neg (show ¬ a2 = (0 : Int32) from fun e => by rw [e] at hs; exact absurd hs (by decide)), if_neg (show ¬ a2 = (1 : Int32) from fun e => by rw [e] at hs; exact absurd hs (by decide)), if_neg (show ¬ a2 = (2 : Int32) from fun e => by rw [e] at hs; exact absurd hs (by decide)), if_neg (show ¬ a2 = (3 : Int32) from fun e => by rw [e] at hs; exact absurd hs (by decide))]
        rw [zb_s]
theorem judge_tail {a : AB} {w i t : Nat} (hi : i < 4) (hM : MR a (M.1 0) (i * 1274)) (hA : AI a w) (x3 x4 : Int32) : ∀ (d n o : Nat), o + d = 200 → d < n → a.1 6 0 ≤ o → fX9_judge_44 (nI i) (nI t) x3 M n x4 (nI o) = some (-5) := by
  intro d
  induction d with
  | zero =>
    intro n o h1 h2 h3
    obtain ⟨q9, rfl⟩ : ∃ q9, n = q9 + 1 := ⟨n - 1, by omega⟩
    rw [fX9_judge_44, if_pos (show (200 : Int32) ≤ nI o from nI_le (a := 200) (by omega) (by omega))]
  | succ d ih =>
    intro n o h1 h2 h3
    obtain ⟨q9, rfl⟩ : ∃ q9, n = q9 + 1 := ⟨n - 1, by omega⟩
    have hf := (hM.1 o (by omega)).1
    rw [hA.hb0 h3 (by omega)] at hf
    rw [fX9_judge_44, if_neg (show ¬ (200 : Int32) ≤ nI o from nI_ge (b := 200) (by omega) (by omega)), show (0 : Int32) + nI o = nI o by rw [show (0 : Int32) = nI 0 from rfl, nI_add, Nat.zero_add], m_at _ hi (by omega), zb_s, hf, if_neg (by decide), nI_1, ih _ _ (by omega) (by omega) (by omega)]
theorem judge_l {a : AB} {L : CS} {T : TS} {w i t z m : Nat} (hi : i < 4) (ht : t < 6) (hC : CR a L) (hM : MR a (M.1 0) (i * 1274)) (hA : AI a w) (hT : TP1 T M t z m) (x : Int32) : ∀ (d n1 n2 o s : Nat), o + d = a.1 6 0 → d < n1 → 200 - o < n2 → s ≤ o → ∃ r : Int32, fX6_judged_5 L x T n1 (nI s) (nI o) = some r ∧ fX9_judge_44 (nI i) (nI t) x M n2 (nI s) (nI o) = some r := by
  have he := hA.2.1
  obtain ⟨k1, k2, k3, k4, k5, k6, k7, k8⟩ := hT
  intro d
  induction d with
  | zero =>
    intro n1 n2 o s h1 h2 h3 h4
    obtain ⟨m1, rfl⟩ : ∃ m, n1 = m + 1 := ⟨n1 - 1, by omega⟩
    refine ⟨-5, ?_, judge_tail hi hM hA _ _ (200 - o) n2 o (by omega) (by omega) (by omega)⟩
    rw [fX6_judged_5, hC.2.2.1, if_pos (nI_le (by omega) (by omega))]
  | succ d ih =>
    intro n1 n2 o s h1 h2 h3 h4
    obtain ⟨m1, rfl⟩ : ∃ m, n1 = m + 1 := ⟨n1 - 1, by omega⟩
    obtain ⟨m2, rfl⟩ : ∃ m, n2 = m + 1 := ⟨n2 - 1, by omega⟩
    obtain ⟨g0, -⟩ := hM.1 o (by omega)
    rw [fX6_judged_5, hC.2.2.1, if_neg (nI_ge (by omega) (by omega)), c_has hC hA (by omega), zb_s, fX9_judge_44, if_neg (show ¬ (200 : Int32) ≤ nI o from nI_ge (b := 200) (by omega) (by omega)), show (0 : Int32) + nI o = nI o by rw [show (0 : Int32) = nI 0 from rfl, nI_add, Nat.zero_add], m_at _ hi (by omega), zb_s, g0]
    by_cases h0 : a.1 0 o = 0
    · have hx : hb a o = 0 := if_pos h0
      rw [if_neg (show ¬ (o < 200 ∧ a.1 0 o ≠ 0) from fun q => q.2 h0), i00, hx, if_neg (show ¬ nI 0 = (1 : Int32) by decide), nI_1]
      exact ih m1 m2 (o + 1) s (by omega) (by omega) (by omega) (by omega)
    · have hx : hb a o = 1 := if_neg h0
      rw [if_pos (show o < 200 ∧ a.1 0 o ≠ 0 from ⟨by omega, h0⟩), i10, hx, if_pos (show nI 1 = (1 : Int32) from rfl), zi_ok ht (by omega), nI_clamp (by omega : t < 2 ^ 31), k5, zi_ok ht (by omega), k7, k6, zi_ok ht (by omega)]
      by_cases hx0 : x < 0
      · rw [if_pos hx0, if_pos hx0, ite_self]
        exact ⟨_, rfl, rfl⟩
      · obtain ⟨p, hp, rfl⟩ := nI_of hx0
        rw [if_neg hx0, if_neg hx0]
        have q1 := lt_sub (a := s) (b := m) (c := p) (by omega) (by omega) hp
        have q2 := lt_sub (a := p) (b := m) (c := s) hp (by omega) (by omega)
        by_cases hq : s + p < m
        · have hz : z ≠ 0 := fun e => by have := k3 e; omega
          rw [if_pos (q1.mpr hq), if_pos (q2.mpr (by omega)), if_neg (fun e => hz ((cd1_lt (by omega)).mp e)), nI_add, zi_ok (by omega) (by omega), zi_ok (by omega) (by omega), nI_clamp (by omega), k8 _ (by omega), nI_1, nI_1]
          by_cases hc : lg_cmp (T.1 (p + s)) (nI o).toInt64 = 0
          · rw [if_pos hc, if_pos hc]
            exact ih m1 m2 (o + 1) (s + 1) (by omega) (by omega) (by omega) (by omega)
          · rw [if_neg hc, if_neg hc]
            exact ⟨_, rfl, rfl⟩
        · rw [if_neg (fun e => hq (q1.mp e)), if_neg (show ¬ nI p < nI m - nI s from fun e => hq (by have := q2.mp e; omega)), ite_self]
          exact ⟨_, rfl, rfl⟩
theorem s_judge : S_judge Rel := by
  intro a1 a2 a3 K M h
  obtain ⟨A, hS, htm⟩ := h.1
  unfold fX8_judge fX9_judge fX8_judge_44
  rcases ck_log a1 with ⟨i, hi, rfl, e1, e2⟩ | ⟨e1, e2⟩
  · rcases ck_tape a2 with ⟨t, ht, rfl, e3, e4⟩ | ⟨e3, e4⟩
    · obtain ⟨z, n, hT⟩ := h.2.2.2.1 t ht
      have he := (hS.ai hi).2.1
      obtain ⟨r, r1, r2⟩ := judge_l hi ht (hS.c hi) (hS.m hi) (hS.ai hi) hT a3 ((A.1 i).1 6 0) FU FU 0 0 (by omega) (fu_lt (by omega)) (fu_lt (by omega)) (by omega)
      have r1' : fX6_judged a3 (K.1.1 i) (K.2.2.2.1 t) = some r := r1
      have r2' : fX9_judge_44 (nI i) (nI t) a3 M FU 0 0 = some r := r2
      obtain ⟨k1, k2, k3, k4, k5, k6, k7, k8⟩ := hT
      have hct : (nI t).toNatClampNeg = t := nI_clamp (by omega)
      have hci : (nI i).toNatClampNeg = i := nI_clamp (by omega)
      simp only [e1, e2, e3, e4, zb_s, if_neg (show ¬ (1 : Int32) = 0 by decide), zi_ok (show t < 6 from ht) (show 6 < 2 ^ 31 by omega), zi_ok (show i < 4 from hi) (show 4 < 2 ^ 31 by omega), hct, hci, c_nothing (show z < 1000 by omega) k4, k5, k4, r1', r2']
      by_cases hz : z = 0
      · rw [if_pos hz, if_neg (by decide), if_pos ((cd1_lt (by omega)).mpr hz)]
        exact ⟨_, rfl, rfl, h⟩
      · rw [if_neg hz, if_pos rfl, if_neg (fun e => hz ((cd1_lt (by omega)).mp e))]
        by_cases hs : cd1 z = 1
        · rw [if_pos hs]
          exact ⟨_, rfl, rfl, h⟩
        · rw [if_neg hs]
          exact ⟨_, rfl, rfl, h⟩
    · rw [e1, e2, zb_s, zb_s, i10, i10, e3, e4, zb_s, zb_s, i00, i00]
      exact ⟨_, rfl, rfl, h⟩
  · rw [e1, e2, zb_s, zb_s, i00, i00]
    exact ⟨_, rfl, rfl, h⟩
end KEEP
