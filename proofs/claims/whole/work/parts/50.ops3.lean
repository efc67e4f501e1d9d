/-! ===== poll, seek, member, told, count ===== -/
section OPS3
variable {A : AS} {S : SS} {K : KS} {M : MS}
theorem ST.done (h : ST A S (M.1 0)) {o v : Nat} (ho : o < 4) (hv : v ≤ (A.1 o).1 6 0) : ST (aN A 2 o v) (sGr S (wA S.2.1 3 (nI o) (nI v))) ((mS M (o * 1274 + 1273) (nI v)).1 0) := by
  obtain ⟨⟨c1, c2, c3, c4, c5⟩, ⟨m1, m2, m3, m4, m5, m6, m7, m8⟩, ⟨s1, s2, s3, s4, s5, s6, s7, s8⟩⟩ := h
  have ef : ∀ k, k ≠ 2 → (aN A 2 o v).2.1 k = A.2.1 k := fun k hk => funext fun i => aN_n (by omega)
  refine ⟨⟨c1, ⟨fun m hm => ?_, c2.2⟩, ?_, ?_, fun j hj => ?_⟩, ⟨fun i hi => ⟨?_, ?_, ?_⟩, fun i hi => ?_, ?_, ?_, ?_, fun k hk => ?_, ?_, fun k hk => ?_⟩, ⟨fun i hi => ?_, ?_, ?_, ?_, ?_, ?_, fun k hk => ?_, fun k hk => ?_⟩⟩
  · obtain ⟨g0, g1, g3⟩ := c2.1 m hm
    show (wA S.2.1 3 (nI o) (nI v)).1 0 m = _ ∧ (wA S.2.1 3 (nI o) (nI v)).1 1 m = _ ∧ (wA S.2.1 3 (nI o) (nI v)).1 3 m = _
    rw [wA_1, up_n (by omega), up_n (by omega), up_s rfl, nI_clamp (by omega), ef 0 (by omega), ef 1 (by omega)]
    refine ⟨g0, g1, ?_⟩
    by_cases e : m = o
    · rw [upd_s e, aN_s ⟨rfl, e⟩]
    · rw [upd_n e, aN_n (by omega)]; exact g3
  · rw [ef 3 (by omega), ef 4 (by omega), ef 7 (by omega)]; exact c3
  · rw [ef 5 (by omega), ef 6 (by omega), ef 7 (by omega)]; exact c4
  · rw [ef 7 (by omega)]; exact c5 j hj
  · exact (m1 i hi).1.cg (s1 i hi).1 (fun x hx => by rw [mS_g, upd_n (by omega)])
  · rw [mS_g, upd_n (by omega), ef 1 (by omega)]; exact (m1 i hi).2.1
  · rw [mS_g]
    by_cases e : i = o
    · rw [upd_s (by omega), aN_s ⟨rfl, e⟩]
    · rw [upd_n (by omega), aN_n (by omega)]; exact (m1 i hi).2.2
  · rw [mS_g, upd_n (by omega), ef 7 (by omega)]; exact m2 i hi
  · rw [mS_g, upd_n (by omega)]; exact m3
  · rw [mS_g, upd_n (by omega)]
    unfold imk
    rw [ef 0 (by omega)]
    exact m4
  · rw [mS_g, upd_n (by omega), ef 7 (by omega)]; exact m5
  · rw [ef 7 (by omega)] at hk
    rw [mS_g, upd_n (by omega), upd_n (by omega), ef 3 (by omega), ef 4 (by omega)]; exact m6 k hk
  · rw [mS_g, upd_n (by omega), ef 7 (by omega)]; exact m7
  · rw [ef 7 (by omega)] at hk
    rw [mS_g, upd_n (by omega), upd_n (by omega), ef 5 (by omega), ef 6 (by omega)]; exact m8 k hk
  · obtain ⟨q1, q2, q3, q4, q5⟩ := s1 i hi
    rw [ef 7 (by omega), ef 0 (by omega), ef 1 (by omega)]
    refine ⟨q1, q2, q3, q4, ?_⟩
    show _ ≤ (A.1 i).1 6 0
    by_cases e : i = o
    · rw [aN_s ⟨rfl, e⟩, e]; exact hv
    · rw [aN_n (by omega)]; exact q5
  · rw [ef 7 (by omega)]; exact s2
  · rw [ef 7 (by omega)]; exact s3
  · rw [ef 7 (by omega)]; exact s4
  · rw [ef 7 (by omega)]; exact s5
  · rw [ef 7 (by omega)]; exact s6
  · rw [ef 7 (by omega)] at hk
    rw [ef 3 (by omega), ef 4 (by omega)]; exact s7 k hk
  · rw [ef 7 (by omega)] at hk
    rw [ef 5 (by omega), ef 6 (by omega)]; exact s8 k hk
theorem ST.reads (h : ST A S (M.1 0)) (r : Int32) : ST (aR A r) (sGr S (sF S.2.1 0 r)) ((mS M 5100 r).1 0) := by
  obtain ⟨⟨c1, c2, c3, c4, c5⟩, ⟨m1, m2, m3, m4, m5, m6, m7, m8⟩, hs⟩ := h
  have s1 := hs.1
  have s5 := hs.2.2.2.2.1
  have s6 := hs.2.2.2.2.2.1
  refine ⟨⟨c1, ⟨c2.1, ?_⟩, c3, c4, c5⟩, ⟨fun i hi => ⟨?_, ?_, ?_⟩, fun i hi => ?_, ?_, ?_, ?_, fun k hk => ?_, ?_, fun k hk => ?_⟩, hs⟩
  · show (sF S.2.1 0 r).2 0 = r
    rw [sF_2, up_s rfl]
  · exact (m1 i hi).1.cg (s1 i hi).1 (fun x hx => by rw [mS_g, upd_n (by omega)])
  · rw [mS_g, upd_n (by omega)]; exact (m1 i hi).2.1
  · rw [mS_g, upd_n (by omega)]; exact (m1 i hi).2.2
  · rw [mS_g, upd_n (by omega)]; exact m2 i hi
  · rw [mS_g, upd_s rfl]; rfl
  · rw [mS_g, upd_n (by omega)]; exact m4
  · rw [mS_g, upd_n (by omega)]; exact m5
  · have hk2 : k < A.2.1 7 4 := hk
    rw [mS_g, upd_n (by omega), upd_n (by omega)]; exact m6 k hk
  · rw [mS_g, upd_n (by omega)]; exact m7
  · rw [mS_g, upd_n (by omega), upd_n (by omega)]; exact m8 k hk
theorem unx_is {a : AB} : ∀ d o, unx a d o = -5 ∨ ∃ p, unx a d o = nI p ∧ p < 200 ∧ a.1 0 p ≠ 0 := by
  intro d
  induction d with
  | zero => intro o; exact Or.inl rfl
  | succ d ih =>
    intro o
    by_cases h : o < 200 ∧ a.1 0 o ≠ 0
    · exact Or.inr ⟨o, if_pos h, h⟩
    · have e : unx a (d + 1) o = unx a d (o + 1) := if_neg h
      rw [e]
      exact ih (o + 1)
theorem sim_poll (hS : ST A S (M.1 0)) {m : Nat} (hm : m < 4) : ∀ (d n1 n2 o : Nat), o + d = 4 → d < n1 → d < n2 → ∃ (r : Int32) (A' : AS) (G' : CS) (M' : MS), fX1_polled_2 S.1 (nI m) n1 (nI o) S.2.1 = some (r, G') ∧ fX9_polled_2 (nI m) n2 (nI o) M = some (r, M') ∧ ST A' (sGr S G') (M'.1 0) ∧ FX0 M M' ∧ ∀ k, k ≠ 2 → A'.2.1 k = A.2.1 k := by
  intro d
  induction d with
  | zero =>
    intro n1 n2 o h1 h2 h3
    obtain ⟨m1, rfl⟩ : ∃ m, n1 = m + 1 := ⟨n1 - 1, by omega⟩
    obtain ⟨m2, rfl⟩ : ∃ m, n2 = m + 1 := ⟨n2 - 1, by omega⟩
    refine ⟨-5, A, S.2.1, M, ?_, ?_, hS, FX0.rf, fun _ _ => rfl⟩
    · rw [fX1_polled_2, if_pos (show (4 : Int32) ≤ nI o from nI_le (a := 4) (by omega) (by omega))]
    · rw [fX9_polled_2, if_pos (show (4 : Int32) ≤ nI o from nI_le (a := 4) (by omega) (by omega))]
  | succ d ih =>
    intro n1 n2 o h1 h2 h3
    obtain ⟨m1, rfl⟩ : ∃ m, n1 = m + 1 := ⟨n1 - 1, by omega⟩
    obtain ⟨m2, rfl⟩ : ∃ m, n2 = m + 1 := ⟨n2 - 1, by omega⟩
    have ho : o < 4 := by omega
    have hw := (hS.2.2.1 o ho).2.2.1
    have hdn := (hS.2.2.1 o ho).2.2.2.2
    have hA := hS.ai ho
    have he := hA.2.1
    have ho1 := (hS.1.2.1.1 o ho).2.1
    have ho2 := (hS.1.2.1.1 o ho).2.2
    have hm1 := (hS.2.1.1 o ho).2.1
    have hm2 := (hS.2.1.1 o ho).2.2
    rw [fX1_polled_2, fX9_polled_2, if_neg (show ¬ (4 : Int32) ≤ nI o from nI_ge (b := 4) (by omega) (by omega)), if_neg (show ¬ (4 : Int32) ≤ nI o from nI_ge (b := 4) (by omega) (by omega)), zi_ok (by omega) (by omega), nI_clamp (by omega), ho1, show (1272 : Int32) = nI 1272 from rfl, m_at _ (by omega) (by omega), zb_s, hm1]
    have hskip : ∀ y : Int32, y < 0 → ∃ (r : Int32) (A' : AS) (G' : CS) (M' : MS), fX1_polled_34 S.1 (nI m) (fX1_polled_2 S.1 (nI m) m1) (nI o) y S.2.1 = some (r, G') ∧ fX9_polled_38 (nI m) (fX9_polled_2 (nI m) m2) (nI o) y M = some (r, M') ∧ ST A' (sGr S G') (M'.1 0) ∧ FX0 M M' ∧ ∀ k, k ≠ 2 → A'.2.1 k = A.2.1 k := fun y hy => by
      unfold fX1_polled_34 fX9_polled_38
      rw [if_pos hy, if_pos hy, nI_1]
      exact ih m1 m2 (o + 1) (by omega) (by omega) (by omega)
    by_cases hx : A.2.1 1 o = m + 1
    · rw [if_pos ((cd5_eq (by omega) (by omega)).mpr hx), if_pos ((cd1_eq (by omega) (by omega)).mpr hx), zi_ok (by omega) (by omega), zi_ok (by omega) (by omega), ho2, c_behind (hS.c ho) hA, zb_s, show (1273 : Int32) = nI 1273 from rfl, m_at _ (by omega) (by omega), zb_s, hm2, show (1 : Int32) = nI 1 from rfl, m_behind ho (hS.m ho) hA, zb_s]
      rcases unx_is (a := A.1 o) 201 (if nI (A.2.1 2 o) < 0 then 0 else (nI (A.2.1 2 o)).toNatClampNeg) with e | ⟨p, e, hp, hp2⟩
      · rw [e]
        exact hskip (-5) (by decide)
      · rw [e]
        have hpe : p < (A.1 o).1 6 0 := Nat.lt_of_not_le (fun k => hp2 ((hA.2.2.2.1 p hp).2.2.2.2.1 k))
        have hS2 := hS.done (o := o) (v := p + 1) ho (by omega)
        have hS3 := hS2.reads (A.2.2 + 1)
        unfold fX1_polled_34 fX9_polled_38
        rw [if_neg (nI_pos (by omega)), if_neg (nI_pos (by omega)), zi_ok (by omega) (by omega), zl_d, zl_d, show (1 : Int32) = nI 1 from rfl, nI_add p 1, show (1273 : Int32) = nI 1273 from rfl, m_sets _ _ (by omega) (by omega), zb_s, show (5100 : Int32) = nI 5100 from rfl, zi_ok (by omega) (by omega), zi_ok (by omega) (by omega), zl_d, wAm_S _ _ (by omega), nI_clamp (by omega)]
        refine ⟨_, aR (aN A 2 o (p + 1)) (A.2.2 + 1), _, mS (mS M (o * 1274 + 1273) (nI (p + 1))) 5100 (A.2.2 + 1), rfl, ?_, ?_, FX0.S.tr FX0.S, fun k hk => funext fun j => aN_n (A := A) (k := 2) (j := o) (v := p + 1) (k' := k) (j' := j) (by omega)⟩
        · rw [mS_g, upd_n (by omega), hS.2.1.2.2.1]
          rfl
        · rw [wA_2, hS.1.2.1.2]
          exact hS3
    · rw [if_neg (fun e => hx ((cd5_eq (by omega) (by omega)).mp e)), if_neg (fun e => hx ((cd1_eq (by omega) (by omega)).mp e))]
      exact hskip (-5) (by decide)
theorem polled_eq (hS : ST A S (M.1 0)) {m : Nat} (hm : m < 4) : ∃ (r : Int32) (A' : AS) (G' : CS) (M' : MS), fX1_polled (nI m) S.1 S.2.1 = some (r, G') ∧ fX9_polled (nI m) M = some (r, M') ∧ ST A' (sGr S G') (M'.1 0) ∧ FX0 M M' ∧ ∀ k, k ≠ 2 → A'.2.1 k = A.2.1 k := sim_poll hS hm 4 FU FU 0 (by omega) (fu_lt (by omega)) (fu_lt (by omega))
theorem s_poll : S_poll Rel := by
  intro a1 K M h
  obtain ⟨A, hS, ht⟩ := h.1
  unfold fX8_poll fX9_poll
  rw [ck_mem]
  rcases ck_log a1 with ⟨m, hm, rfl, e1, e2⟩ | ⟨e1, e2⟩
  · have hin := (hS.1.2.1.1 m hm).1
    have hle := (hS.2.2.1 m hm).2.1
    rw [e1, e2, zb_s, zb_s, i10, i10, zi_ok hm (by omega), nI_clamp (by omega : m < 2 ^ 31), hin, in_bit hS hm, zb_s]
    by_cases hq : A.2.1 0 m = 1
    · obtain ⟨r, A', G', M', c1, c2, c3, c4, c5⟩ := polled_eq hS hm
      rw [if_neg (show ¬ nI (A.2.1 0 m) = 0 by rw [hq]; decide), if_pos hq, if_neg (by decide), c1, c2, zb2_s, zb2_s, zl_d]
      exact ⟨r, _, M', rfl, rfl, h.live c3 (by rw [c5 7 (by omega)]; exact ht) c4.oth, rfl⟩
    · rw [if_pos (show nI (A.2.1 0 m) = 0 by rw [show A.2.1 0 m = 0 by omega]; rfl), if_neg hq, i00]
      exact ⟨_, K, M, rfl, rfl, h, rfl⟩
  · rw [e1, e2, zb_s, zb_s, i00, i00]
    exact ⟨_, K, M, rfl, rfl, h, rfl⟩
theorem s_seek : S_seek Rel := by
  intro a1 a2 K M h
  obtain ⟨A, hS, ht⟩ := h.1
  unfold fX8_seek fX9_seek
  rcases ck_log a1 with ⟨i, hi, rfl, e1, e2⟩ | ⟨e1, e2⟩
  · have he := (hS.ai hi).2.1
    rw [e1, e2, zb_s, zb_s, i10, i10, show (1271 : Int32) = nI 1271 from rfl, m_end hi (hS.m hi), zb_s, zi_ok hi (by omega), nI_clamp (by omega : i < 2 ^ 31), (hS.c hi).2.2.1]
    rcases rg a2 ((A.1 i).1 6 0) (by omega) with ⟨k, hk, rfl⟩ | hs | ⟨h0, hs, hs2, -, -⟩
    · rw [in_ok hk (by omega), zb_s, i10, if_neg (nI_pos (by omega)), if_pos (nI_le hk (by omega)), zi_ok hi (by omega), zl_d, zi_ok hi (by omega), zl_d, (hS.1.2.1.1 i hi).2.2, show (1273 : Int32) = nI 1273 from rfl, m_at _ hi (by omega), zb_s, (hS.2.1.1 i hi).2.2, m_sets _ _ hi (by omega), zb_s]
      exact ⟨_, _, _, rfl, rfl, h.live (hS.done hi hk) (by rw [aN_n (by omega)]; exact ht) Oth.rf.S, rfl⟩
    · rw [in_lo hs, zb_s, i00, if_pos hs]
      exact ⟨_, K, M, rfl, rfl, h, rfl⟩
    · rw [in_hi hs, zb_s, i00, if_neg h0, if_neg hs2]
      exact ⟨_, K, M, rfl, rfl, h, rfl⟩
  · rw [e1, e2, zb_s, zb_s, i00, i00]
    exact ⟨_, K, M, rfl, rfl, h, rfl⟩
theorem m_lag_in (hS : ST A S (M.1 0)) {m o : Nat} (hm : m < 4) (ho : o < 4) (hx : A.2.1 1 o = m + 1) (K4 : Int32 → Int32 → Option Int32) : ∀ (d n acc p : Nat), p + d = 200 → d < n → fX9_lag_19 (nI m) (nI o) M K4 n (nI acc) (nI p) = K4 (nI (acc + sg (hb (A.1 o)) p d)) (nI (o + 1)) := by
  have hw := (hS.2.2.1 o ho).2.2.1
  have hm1 := (hS.2.1.1 o ho).2.1
  intro d
  induction d with
  | zero =>
    intro n acc p h1 h2
    obtain ⟨q9, rfl⟩ : ∃ q9, n = q9 + 1 := ⟨n - 1, by omega⟩
    rw [fX9_lag_19, if_pos (show (200 : Int32) ≤ nI p from nI_le (a := 200) (by omega) (by omega)), nI_1]
    rfl
  | succ d ih =>
    intro n acc p h1 h2
    obtain ⟨q9, rfl⟩ : ∃ q9, n = q9 + 1 := ⟨n - 1, by omega⟩
    have hf := ((hS.m ho).1 p (by omega)).1
    rw [fX9_lag_19, if_neg (show ¬ (200 : Int32) ≤ nI p from nI_ge (b := 200) (by omega) (by omega)), show (1272 : Int32) = nI 1272 from rfl, m_at _ ho (by omega), zb_s, hm1, if_pos ((cd1_eq (by omega) (by omega)).mpr hx), show (0 : Int32) = nI 0 from rfl, nI_add, Nat.zero_add, m_at _ ho (by omega), zb_s, hf, nI_add, nI_1, ih _ _ _ (by omega) (by omega), sg_s, Nat.add_assoc]
theorem sim_lag (hS : ST A S (M.1 0)) {m : Nat} (hm : m < 4) : ∀ (d n1 n2 o acc : Nat), o + d = 4 → d < n1 → d < n2 → ∃ r : Int32, fX1_lag_5 S.1 (nI m) S.2.1 n1 (nI acc) (nI o) = some r ∧ fX9_lag_4 (nI m) M n2 (nI acc) (nI o) = some r := by
  intro d
  induction d with
  | zero =>
    intro n1 n2 o acc h1 h2 h3
    obtain ⟨m1, rfl⟩ : ∃ m, n1 = m + 1 := ⟨n1 - 1, by omega⟩
    obtain ⟨m2, rfl⟩ : ∃ m, n2 = m + 1 := ⟨n2 - 1, by omega⟩
    refine ⟨nI acc, ?_, ?_⟩
    · rw [fX1_lag_5, if_pos (show (4 : Int32) ≤ nI o from nI_le (a := 4) (by omega) (by omega))]
    · rw [fX9_lag_4, if_pos (show (4 : Int32) ≤ nI o from nI_le (a := 4) (by omega) (by omega))]
  | succ d ih =>
    intro n1 n2 o acc h1 h2 h3
    obtain ⟨m1, rfl⟩ : ∃ m, n1 = m + 1 := ⟨n1 - 1, by omega⟩
    obtain ⟨m2, rfl⟩ : ∃ m, n2 = m + 1 := ⟨n2 - 1, by omega⟩
    have ho : o < 4 := by omega
    have hw := (hS.2.2.1 o ho).2.2.1
    have hdn := (hS.2.2.1 o ho).2.2.2.2
    have hA := hS.ai ho
    have he := hA.2.1
    have ho1 := (hS.1.2.1.1 o ho).2.1
    have ho2 := (hS.1.2.1.1 o ho).2.2
    have hm1 := (hS.2.1.1 o ho).2.1
    have hm2 := (hS.2.1.1 o ho).2.2
    rw [fX1_lag_5, fX9_lag_4, if_neg (show ¬ (4 : Int32) ≤ nI o from nI_ge (b := 4) (by omega) (by omega)), if_neg (show ¬ (4 : Int32) ≤ nI o from nI_ge (b := 4) (by omega) (by omega)), zi_ok (by omega) (by omega), nI_clamp (by omega), ho1, show (1273 : Int32) = nI 1273 from rfl, m_at _ (by omega) (by omega), zb_s, hm2]
    by_cases hx : A.2.1 1 o = m + 1
    · rw [if_pos ((cd5_eq (by omega) (by omega)).mpr hx), zi_ok (by omega) (by omega), zi_ok (by omega) (by omega), zi_ok (by omega) (by omega), ho2, (hS.c ho).2.2.1, c_rec (hS.c ho) hA hdn (Nat.le_refl _), zb_s, m_lag_in hS hm ho hx _ (200 - A.2.1 2 o) FU acc (A.2.1 2 o) (by omega) (fu_lt (by omega)), sg_tail (lo := A.2.1 2 o) (e := (A.1 o).1 6 0) hdn he (fun p q1 q2 => hA.hb0 q1 q2), nI_add, nI_1]
      exact ih m1 m2 (o + 1) _ (by omega) (by omega) (by omega)
    · have hl : fX9_lag_19 (nI m) (nI o) M (fX9_lag_4 (nI m) M m2) FU (nI acc) (nI (A.2.1 2 o)) = fX9_lag_4 (nI m) M m2 (nI acc) (nI (o + 1)) := by
        obtain ⟨n9, hn9⟩ : ∃ n9, FU = n9 + 1 := ⟨9999, rfl⟩
        rw [hn9, fX9_lag_19, show (1272 : Int32) = nI 1272 from rfl, m_at _ ho (by omega), zb_s, hm1, if_neg (fun e => hx ((cd1_eq (by omega) (by omega)).mp e)), nI_1, ite_self]
      rw [if_neg (fun e => hx ((cd5_eq (by omega) (by omega)).mp e)), hl, nI_1]
      exact ih m1 m2 (o + 1) acc (by omega) (by omega) (by omega)
theorem s_member : S_member Rel := by
  intro a1 a2 K M h
  obtain ⟨A, hS, ht⟩ := h.1
  unfold fX8_member fX9_member
  rw [ck_mem]
  rcases ck_log a1 with ⟨m, hm, rfl, e1, e2⟩ | ⟨e1, e2⟩
  · have hin := (hS.1.2.1.1 m hm).1
    have hle := (hS.2.2.1 m hm).2.1
    rw [e1, e2, zb_s, zb_s, i10, i10]
    rcases rg a2 2 (by omega) with ⟨k, hk, rfl⟩ | hs | ⟨h0, hs, -, -, -⟩
    · have hin2 : fX9_in (nI k) 0 2 = some 1 := in_ok (n := 2) hk (by omega)
      rw [hin2, zb_s, i10]
      have hk3 : k = 0 ∨ k = 1 ∨ k = 2 := by omega
      rcases hk3 with rfl | rfl | rfl
      · rw [if_pos (show nI 0 = (0 : Int32) from rfl), if_pos (show nI 0 = (0 : Int32) from rfl)]
        rw [zi_ok hm (by omega), nI_clamp (by omega), hin, in_bit hS hm, zb_s]
        by_cases hq : A.2.1 0 m = 1
        · rw [if_neg (show ¬ nI (A.2.1 0 m) = 0 by rw [hq]; decide), if_pos hq, i10]
          exact ⟨_, rfl, rfl, h⟩
        · rw [if_pos (show nI (A.2.1 0 m) = 0 by rw [show A.2.1 0 m = 0 by omega]; rfl), if_neg hq, i00]
          exact ⟨_, rfl, rfl, h⟩
      · rw [if_neg (show ¬ nI 1 = (0 : Int32) by decide), if_neg (show ¬ nI 1 = (0 : Int32) by decide), if_pos (show nI 1 = (1 : Int32) from rfl), if_pos (show nI 1 = (1 : Int32) from rfl)]
        rw [c_logBits (ow := A.2.1 1) (fun j hj => (hS.2.2.1 j hj).2.2.1) (fun j hj => (hS.1.2.1.1 j hj).2.1) hm, m_logsOf (ow := A.2.1 1) (fun j hj => (hS.2.2.1 j hj).2.2.1) (fun j hj => (hS.2.1.1 j hj).2.1) hm, zb_s]
        exact ⟨_, rfl, rfl, h⟩
      · obtain ⟨r, r1, r2⟩ := sim_lag hS hm 4 FU FU 0 0 (by omega) (fu_lt (by omega)) (fu_lt (by omega))
        have r1' : fX1_lag (nI m) K.1.1 K.1.2.1 = some r := r1
        have r2' : fX9_lag (nI m) M = some r := r2
        rw [if_neg (show ¬ nI 2 = (0 : Int32) by decide), if_neg (show ¬ nI 2 = (0 : Int32) by decide), if_neg (show ¬ nI 2 = (1 : Int32) by decide), if_neg (show ¬ nI 2 = (1 : Int32) by decide), if_pos (show nI 2 = (2 : Int32) from rfl)]
        rw [r1', r2', zb_s]
        exact ⟨_, rfl, rfl, h⟩
    · refine ⟨(-1 : Int32), ?_, ?_, h⟩
      rotate_left
      · rw [in_lo hs, zb_s, i00]
      · rw [if_neg (show ¬ a2 = (0 : Int32) from fun e => by rw [e] at hs; exact absurd hs (by decide)), if_neg (show ¬ a2 = (1 : Int32) from fun e => by rw [e] at hs; exact absurd hs (by decide)), if_neg (show ¬ a2 = (2 : Int32) from fun e => by rw [e] at hs; exact absurd hs (by decide))]
    · refine ⟨(-1 : Int32), ?_, ?_, h⟩
      rotate_left
      · rw [show (2 : Int32) = nI 2 from rfl, in_hi hs, zb_s, i00]
      · rw [if_neg (show ¬ a2 = (0 : Int32) from fun e => by rw [e] at hs; exact absurd hs (by decide)), if_neg (show ¬ a2 = (1 : Int32) from fun e => by rw [e] at hs; exact absurd hs (by decide)), if_neg (show ¬ a2 = (2 : Int32) from fun e => by rw [e] at hs; exact absurd hs (by decide))]
  · rw [e1, e2, zb_s, zb_s, i00, i00]
    exact ⟨_, rfl, rfl, h⟩
theorem s_told : S_told Rel := by
  intro a1 K M h
  obtain ⟨A, hS, ht⟩ := h.1
  obtain ⟨w0, w1, w2, w3⟩ := hS.w
  obtain ⟨g0, g1, g2, g3⟩ := hS.g
  have hb := c_inBits (q := inq A) (G := K.1.2.1) (inq_le hS.2.2) (fun m hm => by rw [inq_i hm]; exact (hS.1.2.1.1 m hm).1)
  rw [← inq_sg] at hb
  unfold fX8_told fX9_told
  rcases rg a1 5 (by omega) with ⟨k, hk, rfl⟩ | hs | ⟨h0, hs, -, -, -⟩
  · have hin : fX9_in (nI k) 0 5 = some 1 := in_ok (n := 5) hk (by omega)
    rw [hin, zb_s, i10]
    have hk6 : k = 0 ∨ k = 1 ∨ k = 2 ∨ k = 3 ∨ k = 4 ∨ k = 5 := by omega
    rcases hk6 with rfl | rfl | rfl | rfl | rfl | rfl
    · rw [if_pos (show nI 0 = (0 : Int32) from rfl)]
      simp (disch := omega) only [nlit, zl_d, zb_s, zb2_s, nI_leI, nI_ltI, nI_eq, nI_add, nI_clamp, zi_ok, w0, g0]
      exact ⟨_, rfl, rfl, h⟩
    · rw [if_neg (show ¬ nI 1 = (0 : Int32) by decide), if_pos (show nI 1 = (1 : Int32) from rfl)]
      simp (disch := omega) only [nlit, zl_d, zb_s, zb2_s, nI_leI, nI_ltI, nI_eq, nI_add, nI_clamp, zi_ok, w1, g1]
      exact ⟨_, rfl, rfl, h⟩
    · rw [if_neg (show ¬ nI 2 = (0 : Int32) by decide), if_neg (show ¬ nI 2 = (1 : Int32) by decide), if_pos (show nI 2 = (2 : Int32) from rfl)]
      simp (disch := omega) only [nlit, zl_d, zb_s, zb2_s, nI_leI, nI_ltI, nI_eq, nI_add, nI_clamp, zi_ok, w2, g2]
      exact ⟨_, rfl, rfl, h⟩
    · rw [if_neg (show ¬ nI 3 = (0 : Int32) by decide), if_neg (show ¬ nI 3 = (1 : Int32) by decide), if_neg (show ¬ nI 3 = (2 : Int32) by decide), if_pos (show nI 3 = (3 : Int32) from rfl)]
      simp (disch := omega) only [nlit, zl_d, zb_s, zb2_s, nI_leI, nI_ltI, nI_eq, nI_add, nI_clamp, zi_ok, w3, g3]
      exact ⟨_, rfl, rfl, h⟩
    · rw [if_neg (show ¬ nI 4 = (0 : Int32) by decide), if_neg (show ¬ nI 4 = (1 : Int32) by decide), if_neg (show ¬ nI 4 = (2 : Int32) by decide), if_neg (show ¬ nI 4 = (3 : Int32) by decide), if_pos (show nI 4 = (4 : Int32) from rfl)]
      simp (disch := omega) only [nlit, zl_d, zb_s, zb2_s, nI_leI, nI_ltI, nI_eq, nI_add, nI_clamp, zi_ok, hS.1.2.1.2, hS.2.1.2.2.1]
      exact ⟨_, rfl, rfl, h⟩
    · rw [if_neg (show ¬ nI 5 = (0 : Int32) by decide), if_neg (show ¬ nI 5 = (1 : Int32) by decide), if_neg (show ¬ nI 5 = (2 : Int32) by decide), if_neg (show ¬ nI 5 = (3 : Int32) by decide), if_neg (show ¬ nI 5 = (4 : Int32) by decide), if_pos (show nI 5 = (5 : Int32) from rfl)]
      simp (disch := omega) only [nlit, zl_d, zb_s, zb2_s, nI_leI, nI_ltI, nI_eq, nI_add, nI_clamp, zi_ok, hb, hS.2.1.2.2.2.1]
      exact ⟨_, rfl, rfl, h⟩
  · refine ⟨(-1 : Int32), ?_, ?_, h⟩
    rotate_left
    · rw [in_lo hs, zb_s, i00]
    · rw [if_neg (show ¬ a1 = (0 : Int32) from fun e => by rw [e] at hs; exact absurd hs (by decide)), if_neg (show ¬ a1 = (1 : Int32) from fun e => by rw [e] at hs; exact absurd hs (by decide)), if_neg (show ¬ a1 = (2 : Int32) from fun e => by rw [e] at hs; exact absurd hs (by decide)), if_neg (show ¬ a1 = (3 : Int32) from fun e => by rw [e] at hs; exact absurd hs (by decide)), if_neg (show ¬ a1 = (4 : Int32) from fun e => by rw [e] at hs; exact absurd hs (by decide)), if_neg (show ¬ a1 = (5 : Int32) from fun e => by rw [e] at hs; exact absurd hs (by decide))]
  · refine ⟨(-1 : Int32), ?_, ?_, h⟩
    rotate_left
    · rw [show (5 : Int32) = nI 5 from rfl, in_hi hs, zb_s, i00]
    · rw [if_neg (show ¬ a1 = (0 : Int32) from fun e => by rw [e] at hs; exact absurd hs (by decide)), if_neg (show ¬ a1 = (1 : Int32) from fun e => by rw [e] at hs; exact absurd hs (by decide)), if_neg (show ¬ a1 = (2 : Int32) from fun e => by rw [e] at hs; exact absurd hs (by decide)), if_neg (show ¬ a1 = (3 : Int32) from fun e => by rw [e] at hs; exact absurd hs (by decide)), if_neg (show ¬ a1 = (4 : Int32) from fun e => by rw [e] at hs; exact absurd hs (by decide)), if_neg (show ¬ a1 = (5 : Int32) from fun e => by rw [e] at hs; exact absurd hs (by decide))]
theorem recs_l (hS : ST A S (M.1 0)) : ∀ (d n1 n2 o acc : Nat), o + d = 4 → d < n1 → d < n2 → ∃ r : Int32, fX5_records_4 S n1 (nI acc) (nI o) = some r ∧ fX9_allLogs_4 M n2 (nI acc) (nI o) = some r := by
  intro d
  induction d with
  | zero =>
    intro n1 n2 o acc h1 h2 h3
    obtain ⟨m1, rfl⟩ : ∃ m, n1 = m + 1 := ⟨n1 - 1, by omega⟩
    obtain ⟨m2, rfl⟩ : ∃ m, n2 = m + 1 := ⟨n2 - 1, by omega⟩
    refine ⟨nI acc, ?_, ?_⟩
    · rw [fX5_records_4, if_pos (show (4 : Int32) ≤ nI o from nI_le (a := 4) (by omega) (by omega))]
    · rw [fX9_allLogs_4, if_pos (show (4 : Int32) ≤ nI o from nI_le (a := 4) (by omega) (by omega))]
  | succ d ih =>
    intro n1 n2 o acc h1 h2 h3
    obtain ⟨m1, rfl⟩ : ∃ m, n1 = m + 1 := ⟨n1 - 1, by omega⟩
    obtain ⟨m2, rfl⟩ : ∃ m, n2 = m + 1 := ⟨n2 - 1, by omega⟩
    have ho : o < 4 := by omega
    rw [fX5_records_4, fX9_allLogs_4, if_neg (show ¬ (4 : Int32) ≤ nI o from nI_ge (b := 4) (by omega) (by omega)), if_neg (show ¬ (4 : Int32) ≤ nI o from nI_ge (b := 4) (by omega) (by omega)), zi_ok (by omega) (by omega), nI_clamp (by omega), c_records (hS.c ho) (hS.ai ho), m_all ho (hS.m ho) (hS.ai ho), zb_s, zb_s, nI_add, nI_1]
    exact ih m1 m2 (o + 1) _ (by omega) (by omega) (by omega)
theorem recs (hS : ST A S (M.1 0)) : ∃ r : Int32, fX5_records S = some r ∧ fX9_allLogs M = some r := recs_l hS 4 FU FU 0 0 (by omega) (fu_lt (by omega)) (fu_lt (by omega))
theorem s_count : S_count Rel := by
  intro a1 K M h
  obtain ⟨A, hS, ht⟩ := h.1
  obtain ⟨nt, tt, t1, t2, t3, t4⟩ := h.2.1
  unfold fX8_count fX9_count
  rcases rg a1 4 (by omega) with ⟨k, hk, rfl⟩ | hs | ⟨h0, hs, -, -, -⟩
  · have hk6 : k = 0 ∨ k = 1 ∨ k = 2 ∨ k = 3 ∨ k = 4 := by omega
    rcases hk6 with rfl | rfl | rfl | rfl | rfl
    · obtain ⟨r, r1, r2⟩ := recs hS
      rw [if_pos (show nI 0 = (0 : Int32) from rfl), if_pos (show nI 0 = (0 : Int32) from rfl)]
      rw [r1, r2, zb_s]
      exact ⟨_, rfl, rfl, h⟩
    · have c1 := c_members (q := inq A) (G := K.1.2.1) (inq_le hS.2.2) (fun m hm => by rw [inq_i hm]; exact (hS.1.2.1.1 m hm).1)
      have c2 := m_members (q := inq A) (M := M) (inq_le hS.2.2) (by rw [hS.2.1.2.2.2.1, inq_sg])
      rw [if_neg (show ¬ nI 1 = (0 : Int32) by decide), if_neg (show ¬ nI 1 = (0 : Int32) by decide), if_pos (show nI 1 = (1 : Int32) from rfl), if_pos (show nI 1 = (1 : Int32) from rfl)]
      rw [c1, c2, zb_s]
      exact ⟨_, rfl, rfl, h⟩
    · rw [if_neg (show ¬ nI 2 = (0 : Int32) by decide), if_neg (show ¬ nI 2 = (0 : Int32) by decide), if_neg (show ¬ nI 2 = (1 : Int32) by decide), if_neg (show ¬ nI 2 = (1 : Int32) by decide), if_pos (show nI 2 = (2 : Int32) from rfl), if_pos (show nI 2 = (2 : Int32) from rfl)]
      simp (disch := omega) only [nlit, zl_d, zb_s, zb2_s, nI_leI, nI_ltI, nI_eq, nI_add, nI_clamp, zi_ok, hS.1.2.2.1.2, hS.2.1.2.2.2.2.1]
      exact ⟨_, rfl, rfl, h⟩
    · rw [if_neg (show ¬ nI 3 = (0 : Int32) by decide), if_neg (show ¬ nI 3 = (0 : Int32) by decide), if_neg (show ¬ nI 3 = (1 : Int32) by decide), if_neg (show ¬ nI 3 = (1 : Int32) by decide), if_neg (show ¬ nI 3 = (2 : Int32) by decide), if_neg (show ¬ nI 3 = (2 : Int32) by decide), if_pos (show nI 3 = (3 : Int32) from rfl), if_pos (show nI 3 = (3 : Int32) from rfl)]
      simp (disch := omega) only [nlit, zl_d, zb_s, zb2_s, nI_leI, nI_ltI, nI_eq, nI_add, nI_clamp, zi_ok, hS.1.2.2.2.1.2, hS.2.1.2.2.2.2.2.2.1]
      exact ⟨_, rfl, rfl, h⟩
    · rw [if_neg (show ¬ nI 4 = (0 : Int32) by decide), if_neg (show ¬ nI 4 = (0 : Int32) by decide), if_neg (show ¬ nI 4 = (1 : Int32) by decide), if_neg (show ¬ nI 4 = (1 : Int32) by decide), if_neg (show ¬ nI 4 = (2 : Int32) by decide), if_neg (show ¬ nI 4 = (2 : Int32) by decide), if_neg (show ¬ nI 4 = (3 : Int32) by decide), if_neg (show ¬ nI 4 = (3 : Int32) by decide), if_pos (show nI 4 = (4 : Int32) from rfl), if_pos (show nI 4 = (4 : Int32) from rfl)]
      rw [t2, t3]
      exact ⟨_, rfl, rfl, h⟩
  · rw [if_neg (show ¬ a1 = (0 : Int32) from fun e => by rw [e] at hs; exact absurd hs (by decide)), if_neg (show ¬ a1 = (1 : Int32) from fun e => by rw [e] at hs; exact absurd hs (by decide)), if_neg (show ¬ a1 = (2 : Int32) from fun e => by rw [e] at hs; exact absurd hs (by decide)), if_neg (show ¬ a1 = (3 : Int32) from fun e => by rw [e] at hs; exact absurd hs (by decide)), if_neg (show ¬ a1 = (4 : Int32) from fun e => by rw [e] at hs; exact absurd hs (by decide))]
    rw [if_neg (show ¬ a1 = (0 : Int32) from fun e => by rw [e] at hs; exact absurd hs (by decide)), if_neg (show ¬ a1 = (1 : Int32) from fun e => by rw [e] at hs; exact absurd hs (by decide)), if_neg (show ¬ a1 = (2 : Int32) from fun e => by rw [e] at hs; exact absurd hs (by decide)), if_neg (show ¬ a1 = (3 : Int32) from fun e => by rw [e] at hs; exact absurd hs (by decide)), if_neg (show ¬ a1 = (4 : Int32) from fun e => by rw [e] at hs; exact absurd hs (by decide))]
    exact ⟨_, rfl, rfl, h⟩
  · rw [if_neg (show ¬ a1 = (0 : Int32) from fun e => by rw [e] at hs; exact absurd hs (by decide)), if_neg (show ¬ a1 = (1 : Int32) from fun e => by rw [e] at hs; exact absurd hs (by decide)), if_neg (show ¬ a1 = (2 : Int32) from fun e => by rw [e] at hs; exact absurd hs (by decide)), if_neg (show ¬ a1 = (3 : Int32) from fun e => by rw [e] at hs; exact absurd hs (by decide)), if_neg (show ¬ a1 = (4 : Int32) from fun e => by rw [e] at hs; exact absurd hs (by decide))]
    rw [if_neg (show ¬ a1 = (0 : Int32) from fun e => by rw [e] at hs; exact absurd hs (by decide)), if_neg (show ¬ a1 = (1 : Int32) from fun e => by rw [e] at hs; exact absurd hs (by decide)), if_neg (show ¬ a1 = (2 : Int32) from fun e => by rw [e] at hs; exact absurd hs (by decide)), if_neg (show ¬ a1 = (3 : Int32) from fun e => by rw [e] at hs; exact absurd hs (by decide)), if_neg (show ¬ a1 = (4 : Int32) from fun e => by rw [e] at hs; exact absurd hs (by decide))]
    exact ⟨_, rfl, rfl, h⟩
end OPS3
