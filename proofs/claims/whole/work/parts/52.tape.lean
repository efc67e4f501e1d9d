/-! ===== feed, tapes ===== -/
section TAPE
variable {A : AS} {K : KS} {M : MS}
theorem Oth0 {M M' : MS} (h : Oth M M') : M'.1 0 = M'.1 0 := rfl
theorem s_feed : S_feed Rel := by
  intro a1 K M h
  obtain ⟨nt, tt, t1, t2, t3, t4⟩ := h.2.1
  unfold fX8_feed fX9_feed
  rcases rg a1 127 (by omega) with ⟨x, hx, rfl⟩ | hs | ⟨h0, hs, hs2, -, -⟩
  · rw [show (127 : Int32) = nI 127 from rfl, in_ok hx (by omega), zb_s, i10, if_neg (nI_pos (by omega)), if_pos (nI_le hx (by omega)), t3]
    unfold fX7_isFull fX7_takeSign
    rw [t2]
    by_cases hl : nt < 100
    · rw [if_pos (show nI nt < 100 from nI_lt (b := 100) hl (by omega)), zb_s, i00, zi_ok hl (by omega), zl_d, zl_d, zb2_s, zl_d, if_neg (show ¬ nI nt = 100 from fun e => by have := (nI_eq (b := 100) (by omega) (by omega)).mp e; omega), zl_d, zi_ok hl (by omega), zl_d, wA_2, t2, nI_1, sF_2, up_s rfl]
      refine ⟨nI (nt + 1), _, wAm (sFm M 1 (nI (nt + 1))) 3 (nI nt) (nI x), rfl, ?_, ⟨?_, ?_, ?_, ?_, ?_⟩, rfl⟩
      · rw [wAm_2, sFm_21, up_s rfl]
      · rw [wAm_1, up_n (by omega)]
        exact h.1
      · refine ⟨nt + 1, va_up tt nt x, by omega, ?_, ?_, fun k hk => ?_⟩
        · show (sF _ 0 _).2 0 = _
          rw [sF_2, up_s rfl]
        · rw [wAm_2, sFm_21, up_s rfl]
        · show (sF (wA K.2.1 0 (nI nt) (nI x)) 0 (nI (nt + 1))).1 0 k = _ ∧ _
          rw [sF_1, wA_1, up_s rfl, nI_clamp (by omega), wAm_1, up_s rfl, nI_clamp (by omega), sFm_1]
          by_cases e : k = nt
          · rw [upd_s e, upd_s e, up_s e]; exact ⟨rfl, rfl, hx⟩
          · rw [upd_n e, upd_n e, up_n e]; exact t4 k (by omega)
      · obtain ⟨n, f, k1, k2, k3, k4⟩ := h.2.2.1
        exact ⟨n, f, k1, k2, by rw [wAm_2, sFm_21, up_n (by omega)]; exact k3, by rw [wAm_1, up_n (by omega), sFm_1]; exact k4⟩
      · intro t ht
        obtain ⟨z, n, k1, k2, k3, k4, k5, k6, k7, k8⟩ := h.2.2.2.1 t ht
        exact ⟨z, n, k1, k2, k3, k4, by rw [wAm_1, up_n (by omega)]; exact k5, k6, by rw [wAm_1, up_n (by omega)]; exact k7, k8⟩
      · rcases h.2.2.2.2 with ⟨i1, i2⟩ | ⟨S, i1, i2, i3⟩
        · exact Or.inl ⟨i1, by rw [wAm_2, sFm_21, up_n (by omega)]; exact i2⟩
        · exact Or.inr ⟨S, i1, by rw [wAm_2, sFm_21, up_n (by omega)]; exact i2, by rw [wAm_1, up_n (by omega)]; exact i3⟩
    · rw [if_neg (show ¬ nI nt < 100 from nI_nlt (b := 100) (by omega) (by omega)), zb_s, i10, if_pos (show nI nt = 100 from (nI_eq (b := 100) (by omega) (by omega)).mpr (by omega))]
      exact ⟨_, K, M, rfl, rfl, h, rfl⟩
  · rw [in_lo hs, zb_s, i00, if_pos hs]
    exact ⟨_, K, M, rfl, rfl, h, rfl⟩
  · rw [show (127 : Int32) = nI 127 from rfl, in_hi hs, zb_s, i00, if_neg h0, if_neg hs2]
    exact ⟨_, K, M, rfl, rfl, h, rfl⟩
/-- only the tape t is another one -/
theorem Rel.tp {T' : TS} {M' : MS} {t z n : Nat} (h : Rel K M) (ht : t < 6) (h1 : TP1 T' M' t z n) (e1 : ∀ k, k < 8 → M'.1 k = M.1 k) (e2 : ∀ i, i < 6 → i ≠ t → M'.1 8 i = M.1 8 i ∧ M'.1 9 i = M.1 9 i ∧ M'.2.2 i = M.2.2 i) (e3 : M'.2.1 = M.2.1) : Rel (kTp K t T') M' := by
  refine ⟨?_, ?_, ?_, fun i hi => ?_, ?_⟩
  · rw [e1 0 (by omega)]; exact h.1
  · obtain ⟨n, f, k1, k2, k3, k4⟩ := h.2.1
    exact ⟨n, f, k1, k2, by rw [e3]; exact k3, by rw [e1 3 (by omega)]; exact k4⟩
  · obtain ⟨n, f, k1, k2, k3, k4⟩ := h.2.2.1
    exact ⟨n, f, k1, k2, by rw [e3]; exact k3, by rw [e1 7 (by omega)]; exact k4⟩
  · show ∃ z n, TP1 (va_up K.2.2.2.1 t T' i) M' i z n
    by_cases e : i = t
    · subst e
      rw [va_up_self]
      exact ⟨z, n, h1⟩
    · rw [va_up_ne _ _ e]
      obtain ⟨z, n, k1, k2, k3, k4, k5, k6, k7, k8⟩ := h.2.2.2.1 i hi
      obtain ⟨q1, q2, q3⟩ := e2 i hi e
      exact ⟨z, n, k1, k2, k3, k4, by rw [q1]; exact k5, k6, by rw [q2]; exact k7, by rw [q3]; exact k8⟩
  · rcases h.2.2.2.2 with ⟨i1, i2⟩ | ⟨S, i1, i2, i3⟩
    · exact Or.inl ⟨i1, by rw [e3]; exact i2⟩
    · exact Or.inr ⟨S, i1, by rw [e3]; exact i2, by rw [e1 2 (by omega)]; exact i3⟩
theorem c_become_l : ∀ (d n o : Nat) (T : TS), o + d = 60 → d < n → (∀ j, j < o → T.1 j = 0) → ∃ T', fX6_become_17 n (nI o) T = some T' ∧ T'.2 = T.2 ∧ ∀ j, j < 60 → T'.1 j = 0 := by
  intro d
  induction d with
  | zero =>
    intro n o T h1 h2 h3
    obtain ⟨q9, rfl⟩ : ∃ q9, n = q9 + 1 := ⟨n - 1, by omega⟩
    refine ⟨T, ?_, rfl, fun j hj => h3 j (by omega)⟩
    rw [fX6_become_17, if_pos (show (60 : Int32) ≤ nI o from nI_le (a := 60) (by omega) (by omega))]
  | succ d ih =>
    intro n o T h1 h2 h3
    obtain ⟨q9, rfl⟩ : ∃ q9, n = q9 + 1 := ⟨n - 1, by omega⟩
    rw [fX6_become_17, if_neg (show ¬ (60 : Int32) ≤ nI o from nI_ge (b := 60) (by omega) (by omega)), zi_ok (by omega) (by omega), zl_d, nI_1]
    refine ih q9 (o + 1) (wLt T (nI o) 0) (by omega) (by omega) (fun j hj => ?_)
    show vp_updL T.1 (nI o).toNatClampNeg 0 j = 0
    rw [nI_clamp (by omega)]
    by_cases e : j = o
    · rw [e, pk_uLs]
    · rw [pk_uLn e]; exact h3 j (by omega)
theorem m_clear_l {t : Nat} (ht : t < 6) {M0 : MS} : ∀ (d n o : Nat) (M : MS), o + d = 60 → d < n → M.1 = M0.1 → M.2.1 = M0.2.1 → (∀ i, i ≠ t → M.2.2 i = M0.2.2 i) → (∀ j, j < o → M.2.2 t j = 0) → ∃ M', fX9_tape_67 (nI t) n (nI o) M = some (1, M') ∧ M'.1 = M0.1 ∧ M'.2.1 = M0.2.1 ∧ (∀ i, i ≠ t → M'.2.2 i = M0.2.2 i) ∧ ∀ j, j < 60 → M'.2.2 t j = 0 := by
  intro d
  induction d with
  | zero =>
    intro n o M h1 h2 h3 h4 h5 h6
    obtain ⟨q9, rfl⟩ : ∃ q9, n = q9 + 1 := ⟨n - 1, by omega⟩
    refine ⟨M, ?_, h3, h4, h5, fun j hj => h6 j (by omega)⟩
    rw [fX9_tape_67, if_pos (show (60 : Int32) ≤ nI o from nI_le (a := 60) (by omega) (by omega))]
  | succ d ih =>
    intro n o M h1 h2 h3 h4 h5 h6
    obtain ⟨q9, rfl⟩ : ∃ q9, n = q9 + 1 := ⟨n - 1, by omega⟩
    rw [fX9_tape_67, if_neg (show ¬ (60 : Int32) ≤ nI o from nI_ge (b := 60) (by omega) (by omega)), zi_ok ht (by omega), zi_ok (by omega) (by omega), zl_d, nI_1, nI_clamp (by omega)]
    refine ih q9 (o + 1) _ (by omega) (by omega) h3 h4 (fun i hi => ?_) (fun j hj => ?_)
    · rw [wLm_22, up_n hi]; exact h5 i hi
    · rw [wLm_22, up_s rfl, nI_clamp (by omega)]
      by_cases e : j = o
      · rw [e, pk_uLs]
      · rw [pk_uLn e]; exact h6 j (by omega)
theorem m_tape42 (M : MS) {t x : Nat} (ht : t < 6) (z : Int32) (y : Int32) (hy : (if 0 ≤ z then y else 0) = nI x) : ∃ M', fX9_tape_42 (nI t) z y M = some (1, M') ∧ (∀ k, k < 8 → M'.1 k = M.1 k) ∧ (∀ i, i < 6 → i ≠ t → M'.1 8 i = M.1 8 i ∧ M'.1 9 i = M.1 9 i ∧ M'.2.2 i = M.2.2 i) ∧ M'.2.1 = M.2.1 ∧ M'.1 8 t = z ∧ M'.1 9 t = nI x ∧ ∀ j, j < 60 → M'.2.2 t j = 0 := by
  have h63 : fX9_tape_42 (nI t) z y M = fX9_tape_67 (nI t) FU 0 (wAm (wAm M 8 (nI t) z) 9 (nI t) (nI x)) := by
    unfold fX9_tape_42 fX9_tape_63
    rw [zi_ok ht (by omega), zl_d, zi_ok ht (by omega), zl_d, zi_ok ht (by omega), zl_d, ← hy]
    by_cases q : 0 ≤ z
    · rw [if_pos q, if_pos q]
    · rw [if_neg q, if_neg q]
  obtain ⟨M', e1, e2, e3, e4, e5⟩ := m_clear_l ht (M0 := wAm (wAm M 8 (nI t) z) 9 (nI t) (nI x)) 60 FU 0 _ (by omega) (fu_lt (by omega)) rfl rfl (fun _ _ => rfl) (fun j hj => absurd hj (by omega))
  refine ⟨M', by rw [h63]; exact e1, fun k hk => ?_, fun i hi hne => ?_, ?_, ?_, ?_, e5⟩
  · rw [e2, wAm_1, up_n (by omega), wAm_1, up_n (by omega)]
  · rw [e2, wAm_1, up_n (by omega), up_s rfl, nI_clamp (by omega), upd_n hne, wAm_1, up_s rfl, up_n (by omega), nI_clamp (by omega), upd_n hne, e4 i hne]
    exact ⟨rfl, rfl, rfl⟩
  · rw [e3]; rfl
  · rw [e2, wAm_1, up_n (by omega), wAm_1, up_s rfl, nI_clamp (by omega), upd_s rfl]
  · rw [e2, wAm_1, up_s rfl, nI_clamp (by omega), upd_s rfl]
theorem s_tape : S_tape Rel := by
  intro a1 a2 a3 K M h
  unfold fX8_tape fX9_tape fX9_tape_31
  rcases ck_tape a1 with ⟨t, ht, rfl, e1, e2⟩ | ⟨e1, e2⟩
  · rw [e1, e2, zb_s, zb_s, i10, i10, in_any]
    by_cases h1 : a2 = -1
    · subst h1
      obtain ⟨M', c1, c2, c3, c4, c5, c6, c7⟩ := m_tape42 M (x := 0) ht (-1) a3 rfl
      rw [if_pos rfl, if_pos ⟨by decide, by decide⟩, zb_s, i10, if_pos (by decide), if_pos (by decide), c1, zi_ok ht (by omega), nI_clamp (by omega)]
      refine ⟨1, kTp K t (sFt (sFt (K.2.2.2.1 t) 0 (-1)) 1 0), M', rfl, rfl, h.tp (z := 0) (n := 0) ht ⟨by omega, by omega, fun _ => rfl, ?_, c5, ?_, c6, fun j hj => absurd hj (by omega)⟩ c2 c3 c4, rfl⟩
      · show va_up (va_up (K.2.2.2.1 t).2 0 (-1)) 1 0 0 = _
        rw [up_n (by omega), up_s rfl]; rfl
      · show va_up (va_up (K.2.2.2.1 t).2 0 (-1)) 1 0 1 = _
        rw [up_s rfl]; rfl
    · rw [if_neg h1]
      rcases rg a2 4 (by omega) with ⟨z, hz, rfl⟩ | hs | ⟨h0, hs, hs2, -, -⟩
      · rw [if_neg (nI_pos (by omega)), if_neg (show ¬ (4 : Int32) < nI z from nI_nlt (b := z) (a := 4) hz (by omega)), if_pos (show (-1 : Int32) ≤ nI z ∧ nI z ≤ 4 from ⟨Int32.le_trans (by decide) (nI_pos' (by omega)), nI_le (b := 4) hz (by omega)⟩), zb_s, i10, if_neg (nI_pos (by omega)), if_neg (nI_pos (by omega))]
        by_cases hb : a3 ≤ 60
        · rw [if_pos hb, if_pos hb]
          by_cases hc : 0 ≤ a3
          · obtain ⟨n, hn, rfl⟩ := nI_of (Int32.not_lt.mpr hc)
            have hn60 : n ≤ 60 := (nI_leI (b := 60) hn (by omega)).mp hb
            obtain ⟨M', c1, c2, c3, c4, c5, c6, c7⟩ := m_tape42 M (x := n) ht (nI z) (nI n) (by rw [if_pos (nI_pos' (by omega))])
            obtain ⟨T', b1, b2, b3⟩ := c_become_l 60 FU 0 (sFt (sFt (K.2.2.2.1 t) 0 (nI z)) 1 (nI n)) (by omega) (fu_lt (by omega)) (fun j hj => absurd hj (by omega))
            have hbe : fX6_become (nI z) (nI n) (K.2.2.2.1 t) = some T' := by
              unfold fX6_become
              rw [zl_d, zl_d, if_neg (show ¬ (60 : Int32) < nI n from nI_nlt (a := 60) hn60 (by omega))]
              exact b1
            rw [if_pos hc, if_pos hc, c1, zi_ok ht (by omega), nI_clamp (by omega : t < 2 ^ 31), hbe, zb_s, zl_d]
            refine ⟨1, _, M', rfl, rfl, h.tp (z := z + 1) (n := n) ht ⟨by omega, hn60, fun e => absurd e (by omega), ?_, ?_, ?_, c6, fun j hj => ?_⟩ c2 c3 c4, rfl⟩
            · rw [b2]
              show va_up (va_up (K.2.2.2.1 t).2 0 (nI z)) 1 (nI n) 0 = _
              rw [up_n (by omega), up_s rfl]; rfl
            · rw [c5]; rfl
            · rw [b2]
              show va_up (va_up (K.2.2.2.1 t).2 0 (nI z)) 1 (nI n) 1 = _
              rw [up_s rfl]
            · rw [c7 j (by omega), b3 j (by omega)]
          · rw [if_neg hc, if_neg hc]
            exact ⟨_, K, M, rfl, rfl, h, rfl⟩
        · rw [if_neg hb, if_neg hb]
          exact ⟨_, K, M, rfl, rfl, h, rfl⟩
      · have hr : ¬ ((-1 : Int32) ≤ a2 ∧ a2 ≤ 4) := fun q => by
          have q1 := Int32.le_iff_toInt_le.mp q.1
          have q2 := Int32.lt_iff_toInt_lt.mp hs
          have q3 : (-1 : Int32).toInt = -1 := by decide
          have q4 : (0 : Int32).toInt = 0 := by decide
          exact h1 (Int32.toInt_inj.mp (by omega))
        rw [if_pos hs, if_neg hr, zb_s, i00]
        exact ⟨_, K, M, rfl, rfl, h, rfl⟩
      · rw [if_neg h0, if_pos (show (4 : Int32) < a2 from hs), if_neg (show ¬ ((-1 : Int32) ≤ a2 ∧ a2 ≤ 4) from fun q => hs2 q.2), zb_s, i00]
        exact ⟨_, K, M, rfl, rfl, h, rfl⟩
  · rw [e1, e2, zb_s, zb_s, i00, i00]
    exact ⟨_, K, M, rfl, rfl, h, rfl⟩
theorem cd1_m1 {z : Nat} (hz : z < 1000) : (cd1 z = -1) ↔ z = 0 := by
  unfold cd1
  by_cases h : z = 0
  · rw [if_pos h]; exact ⟨fun _ => h, fun _ => rfl⟩
  · rw [if_neg h]
    exact ⟨fun e => by
      have : nI (z - 1) < 0 := by rw [e]; decide
      exact absurd this (nI_pos (by omega)), fun e => absurd e h⟩
theorem c_nothing {T : TS} {z : Nat} (hz : z < 1000) (h : T.2 0 = cd1 z) : fX6_isNothing T = some (if z = 0 then 1 else 0) := by
  unfold fX6_isNothing
  rw [h]
  by_cases e : z = 0
  · rw [if_pos e, if_pos ((cd1_m1 hz).mpr e)]
  · rw [if_neg e, if_neg (fun q => e ((cd1_m1 hz).mp q))]
theorem c_place {T : TS} {n : Nat} (hn : n < 1000) (h : T.2 1 = nI n) (x : Int32) : (∃ k, k < n ∧ x = nI k ∧ fX6_hasPlace x T = some 1) ∨ (fX6_hasPlace x T = some 0 ∧ ¬ (0 ≤ x ∧ x ≤ nI n - 1)) := by
  unfold fX6_hasPlace
  rw [h]
  rcases pk_ix x (n := n) (by omega) with q | q | ⟨k, hk, rfl⟩
  · right
    rw [if_pos q]
    exact ⟨rfl, fun e => absurd q (Int32.not_lt.mpr e.1)⟩
  · right
    rw [if_pos q, ite_self]
    refine ⟨rfl, fun e => ?_⟩
    have q1 := Int32.le_iff_toInt_le.mp (Int32.le_trans q e.2)
    have q2 := pk_sub_toInt (a := n) (b := 1) (by omega) (by omega)
    rw [nI_toInt (by omega), show (nI n - 1) = nI n - nI 1 from rfl, q2] at q1
    omega
  · left
    refine ⟨k, hk, rfl, ?_⟩
    rw [if_neg (nI_pos (by omega)), if_neg (nI_ge hk (by omega))]
theorem s_item : S_item Rel := by
  intro a1 a2 a3 K M h
  unfold fX8_item fX9_item
  rcases ck_tape a1 with ⟨t, ht, rfl, e1, e2⟩ | ⟨e1, e2⟩
  · obtain ⟨z, n, hT⟩ := h.2.2.2.1 t ht
    have hT0 := hT
    obtain ⟨k1, k2, k3, k4, k5, k6, k7, k8⟩ := hT
    simp only [e1, e2, zb_s, i10, zi_ok (show t < 6 from ht) (show 6 < 2 ^ 31 by omega), nI_clamp (show t < 2 ^ 31 by omega), c_nothing (show z < 1000 by omega) k4, k5, k7]
    by_cases hz : z = 0
    · rw [if_pos hz, i10, if_neg (fun e => (cd1_le (by omega)).mp e hz)]
      exact ⟨_, K, M, rfl, rfl, h, rfl⟩
    · have hc1 : cd1 z = nI (z - 1) := if_neg hz
      rw [if_neg hz, i00, if_pos ((cd1_le (by omega)).mpr hz), in_any]
      rcases c_place (by omega) k6 a2 with ⟨k, hk, rfl, c1⟩ | ⟨c1, c2⟩
      · have hfit : fX6_asItem a3 (K.2.2.2.1 t) = fX9_fit (cd1 z) a3 := by
          unfold fX6_asItem fX9_fit
          rw [k4]
        obtain ⟨v, hv⟩ : ∃ v, fX9_fit (cd1 z) a3 = some v := by
          unfold fX9_fit
          repeat' split
          all_goals exact ⟨_, rfl⟩
        rw [c1, zb_s, i10, if_pos (show (0 : Int32) ≤ nI k ∧ nI k ≤ nI n - 1 from ⟨nI_pos' (by omega), by rw [nI_m1 (by omega)]; exact nI_le (by omega) (by omega)⟩), zb_s, i10, hfit, hv, zb_s, zb_s, zi_ok (by omega) (by omega), zl_d, zi_ok (by omega) (by omega), zl_d]
        refine ⟨_, _, _, rfl, rfl, h.tp (z := z) (n := n) ht ⟨k1, k2, k3, k4, k5, k6, k7, fun j hj => ?_⟩ (fun _ _ => rfl) (fun i hi hne => ⟨rfl, rfl, ?_⟩) rfl, rfl⟩
        · rw [wLm_22, up_s rfl, nI_clamp (by omega)]
          show _ = vp_updL (K.2.2.2.1 t).1 (nI k).toNatClampNeg v j
          rw [nI_clamp (by omega)]
          by_cases e : j = k
          · rw [e, pk_uLs, pk_uLs]
          · rw [pk_uLn e, pk_uLn e]; exact k8 j hj
        · rw [wLm_22, up_n hne]
      · rw [c1, zb_s, i00, if_neg c2, zb_s, i00]
        exact ⟨_, K, M, rfl, rfl, h, rfl⟩
  · rw [e1, e2, zb_s, zb_s, i00, i00]
    exact ⟨_, K, M, rfl, rfl, h, rfl⟩
theorem s_peek : S_peek Rel := by
  intro a1 a2 K M h
  unfold fX8_peek fX9_peek
  rcases ck_tape a1 with ⟨t, ht, rfl, e1, e2⟩ | ⟨e1, e2⟩
  · obtain ⟨z, n, k1, k2, k3, k4, k5, k6, k7, k8⟩ := h.2.2.2.1 t ht
    simp only [e1, e2, zb_s, i10, zi_ok (show t < 6 from ht) (show 6 < 2 ^ 31 by omega), nI_clamp (show t < 2 ^ 31 by omega), k5, k7, in_any]
    rcases c_place (by omega) k6 a2 with ⟨k, hk, rfl, c1⟩ | ⟨c1, c2⟩
    · have hz : z ≠ 0 := fun e => by have := k3 e; omega
      rw [c1, zb_s, i10, zi_ok (by omega) (by omega), nI_clamp (by omega), if_neg (fun e => hz ((cd1_lt (by omega)).mp e)), if_pos (show (0 : Int32) ≤ nI k ∧ nI k ≤ nI n - 1 from ⟨nI_pos' (by omega), by rw [nI_m1 (by omega)]; exact nI_le (by omega) (by omega)⟩), i10, zi_ok (by omega) (by omega), k8 k hk]
      exact ⟨_, rfl, rfl, h⟩
    · rw [c1, zb_s, i00, if_neg c2, i00, ite_self]
      exact ⟨_, rfl, rfl, h⟩
  · rw [e1, e2, zb_s, zb_s, i00, i00]
    exact ⟨_, rfl, rfl, h⟩
end TAPE
