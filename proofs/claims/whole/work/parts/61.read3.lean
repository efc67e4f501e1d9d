/-! ===== read: all clauses, and their records ===== -/
/-- what the class does behind a clause -/
def pcs (k : Nat) (T : CS) : Option (Int32 × CS) := if (T.2 2) = (T.2 0) then (some ((1 : Int32), T)) else (if (T.2 1) = (12 : Int32) then (some ((0 : Int32), T)) else (zb2 (fX7_skipped (59 : Int32) T) (fun r_10 st_11 => if r_10 = 0 then (some ((0 : Int32), st_11)) else (fX7_parsed_10 k st_11))))
section READ3
variable {n : Nat} {t : Nat → Nat} {M0 : MS}
theorem XT.s1 {p c : Nat} {T : CS} (h : XT n t p c T) (d : Nat) : XT n t p d (sF T 1 (nI d)) := ⟨by rw [sF_2, up_n (by omega)]; exact h.1, by rw [sF_2, up_s rfl], by rw [sF_2, up_n (by omega)]; exact h.2.2.1, h.2.2.2⟩
theorem parsed_s {p c : Nat} {T : CS} (hT : XT n t p c T) (hc : c < 12) (k : Nat) : fX7_parsed_10 (k + 1) T = zb2 (fX7_clauseParsed T) (fun r_4 st_5 => if r_4 = 0 then (some ((0 : Int32), st_5)) else pcs k (sF st_5 1 ((st_5.2 1) + (1 : Int32)))) := by
  rw [fX7_parsed_10, hT.2.1, if_neg (show ¬ (12 : Int32) ≤ nI c from nI_ge (b := 12) hc (by omega))]
  rfl
theorem read17_f {f : Nat} (hf : f < 2 ^ 31) {M : MS} (h : M.2.1 4 = nI f) (k : Nat) (x : Int32) : fX9_read_17 (k + 1) x M = fX9_read_74 x M := by
  rw [fX9_read_17, h, if_pos (nI_pos' hf)]
theorem sim_parse (hq : ∀ x y : Int32, ∃ v, fX0_quotient x y = some v ∧ fX9_valueOf x y = some v) (hn : n ≤ 100) (ht : ∀ k, k < n → t k ≤ 127) : ∀ (d n1 n2 c p : Nat) (T : CS) (M : MS), c + d = 12 → d < n1 → d + 2 < n2 → p ≤ n → XT n t p c T → XM n t p M → FR M0 M → (∀ j, j < c → CD j T M) →
    (∃ (T' : CS) (M' : MS) (c' : Nat), pcs n1 T = some (1, T') ∧ fX9_read_17 n2 (nI c) M = fX9_read_74 (nI c') M' ∧ T'.2 1 = nI c' ∧ c' ≤ 12 ∧ M'.2.1 4 = -1 ∧ FR M0 M' ∧ ∀ j, j < c' → CD j T' M') ∨
    (∃ (T' : CS) (M' : MS) (f : Nat) (x : Int32), pcs n1 T = some (0, T') ∧ fX9_read_17 n2 (nI c) M = fX9_read_74 x M' ∧ T'.2 2 = nI f ∧ f ≤ n ∧ M'.2.1 4 = nI f ∧ FR M0 M') := by
  intro d
  induction d with
  | zero =>
    intro n1 n2 c p T M h1 h2 h3 hp hT hM hF hD
    obtain ⟨m2, rfl⟩ : ∃ m, n2 = m + 1 + 1 := ⟨n2 - 2, by omega⟩
    have hc12 : c = 12 := by omega
    unfold pcs
    rw [hT.1, hT.2.1, hT.2.2.1, fX9_read_17, hM.2.1, if_neg (show ¬ (0 : Int32) ≤ -1 by decide), hM.1, hM.2.2.1]
    by_cases hpn : p = n
    · left
      refine ⟨T, M, c, ?_, ?_, hT.2.1, by omega, hM.2.1, hF, hD⟩
      · rw [if_pos (show nI p = nI n by rw [hpn])]
      · rw [if_pos (nI_le (by omega) (by omega))]
    · right
      refine ⟨T, sFm M 4 (nI p), p, nI c, ?_, ?_, hT.2.2.1, hp, by rw [sFm_21, up_s rfl], hF.tr FR.s4⟩
      · rw [if_neg (show ¬ nI p = nI n from fun e => hpn ((nI_eq (by omega) (by omega)).mp e)), if_pos (show nI c = (12 : Int32) by rw [hc12]; rfl)]
      · rw [if_neg (show ¬ nI n ≤ nI p from nI_ge (by omega) (by omega)), if_pos (show nI c = (12 : Int32) by rw [hc12]; rfl), zl_d, read17_f (f := p) (by omega) (by rw [sFm_21, up_s rfl])]
  | succ d ih =>
    intro n1 n2 c p T M h1 h2 h3 hp hT hM hF hD
    obtain ⟨m1, rfl⟩ : ∃ m, n1 = m + 1 := ⟨n1 - 1, by omega⟩
    obtain ⟨m2, rfl⟩ : ∃ m, n2 = m + 1 + 1 := ⟨n2 - 2, by omega⟩
    have hc12 : c < 12 := by omega
    have hsk : fX7_skipped 59 T = _ := c_skip (lo := 59) hT hn hp ht (by omega)
    have x12 : ¬ nI c = (12 : Int32) := fun e => by have := (nI_eq (b := 12) (by omega) (by omega)).mp e; omega
    unfold pcs
    rw [hT.1, hT.2.1, hT.2.2.1, fX9_read_17, hM.2.1, if_neg (show ¬ (0 : Int32) ≤ -1 by decide), hM.1, hM.2.2.1]
    by_cases hpn : p = n
    · left
      refine ⟨T, M, c, ?_, ?_, hT.2.1, by omega, hM.2.1, hF, hD⟩
      · rw [if_pos (show nI p = nI n by rw [hpn])]
      · rw [if_pos (nI_le (by omega) (by omega))]
    · rw [if_neg (show ¬ nI p = nI n from fun e => hpn ((nI_eq (by omega) (by omega)).mp e)), if_neg x12, if_neg (show ¬ nI n ≤ nI p from nI_ge (by omega) (by omega)), if_neg x12, hsk, show (5 : Int32) = nI 5 from rfl, pk_mul]
      by_cases hs : sb n t p 59 59 = true
      · have hmu : fX9_must 59 59 M = _ := m_must (lo := 59) (hi := 59) hM hn hp ht (by omega) (by omega) hs
        have hTa := hT.s2 (p + 1)
        have hMa := hM.s3 (p + 1)
        rw [if_pos hs, zb2_s, i10, parsed_s hTa hc12, hmu, zb2_s]
        rcases sim_clause hq hn ht hc12 (by omega) hTa hMa with ⟨T', M', p', w1, w2, w3, w4, w5, w6, w7, w8, w9, w10⟩ | ⟨T', M', f, w1, w2, w3, w4, w5, w6⟩
        · rw [w1, zb2_s, i10, w2, zb_s, w3.2.1, nI_1]
          exact ih m1 (m2 + 1) (c + 1) p' (sF T' 1 (nI (c + 1))) M' (by omega) (by omega) (by omega) w6 (w3.s1 (c + 1)) w4 ((hF.tr FR.s3).tr w7) (fun j hj => by
            by_cases e : j = c
            · rw [e]
              exact w8.cg (fun k _ _ => rfl) (fun _ _ => rfl)
            · exact (hD j (by omega)).cg (fun k k1 k2 => by rw [sF_1, w9 k j k1 k2 (by omega)]; rfl) (fun x hx => by rw [w10 x (by omega)]; rfl))
        · rw [w1, zb2_s, i00, w2, zb_s, read17_f (f := f) (by omega) w5]
          right
          exact ⟨T', M', f, _, rfl, rfl, w3, w4, w5, (hF.tr FR.s3).tr w6⟩
      · have hmu : fX9_must 59 59 M = _ := m_must_n (lo := 59) (hi := 59) hM hn hp ht (by omega) (by omega) hs
        have hFM : FM p M0 (sFm M 4 (nI p)) := ⟨by rw [sFm_21, up_s rfl], hF.tr FR.s4⟩
        obtain ⟨M', m1', m2'⟩ := fcl (by omega) hc12 hFM
        rw [if_neg hs, zb2_s, i00, hmu, zb2_s, m1', zb_s, read17_f (f := p) (by omega) m2'.1]
        right
        exact ⟨T, M', p, _, rfl, rfl, hT.2.2.1, hp, m2'.1, m2'.2⟩
theorem nr_ok {A : AS} {S : SS} {M : MS} (hS : ST A S (M.1 0)) {lg key : Nat} (h1 : lg < 4) (h2 : key < 26) : fX9_noRecord (nI lg) (nI key) 1 M = some (if (A.1 lg).1 6 0 = 200 then -4 else 0) := by
  have he := (hS.ai h1).2.1
  unfold fX9_noRecord
  have e1 : fX9_isLog (nI lg) = some 1 := by
    rcases ck_log (nI lg) with ⟨i, -, -, -, e⟩ | ⟨-, e⟩
    · exact e
    · exfalso
      unfold fX9_isLog at e
      rw [in_any, if_pos ⟨nI_pos' (by omega), show nI lg ≤ 3 from nI_le (b := 3) (by omega) (by omega)⟩] at e
      exact absurd e (by decide)
  have e2 : fX9_in (nI key) 0 25 = some 1 := in_ok (n := 25) (by omega) (by omega)
  have e3 : fX9_in 1 1 9 = some 1 := by decide
  rw [e1, zb_s, i10, e2, zb_s, i10, e3, zb_s, i10, show (1271 : Int32) = nI 1271 from rfl, m_end h1 (hS.m h1), zb_s]
  by_cases q : (A.1 lg).1 6 0 = 200
  · rw [if_pos q, if_pos (by rw [q]; rfl)]
  · rw [if_neg q, if_neg (show ¬ nI ((A.1 lg).1 6 0) = (200 : Int32) from fun e => q ((nI_eq (b := 200) (by omega) (by omega)).mp e))]
theorem sim_come {c : Nat} (hc : c ≤ 12) : ∀ (d n1 n2 i came : Nat) (K : KS) (M : MS), i + d = c → d < n1 → d < n2 → Rel K M → K.2.1.2 1 = nI c → (∀ j, j < c → CD j K.2.1 M) → ∃ (r : Int32) (K' : KS) (M' : MS), fX8_clausesCome_4 n1 (nI came) (nI i) K = some (r, K') ∧ fX9_read_98 (nI c) n2 (nI came) (nI (5 * i)) M = some (r, M') ∧ Rel K' M' ∧ K'.2.2.2.2 = K.2.2.2.2 := by
  intro d
  induction d with
  | zero =>
    intro n1 n2 i came K M h1 h2 h3 h hk hD
    obtain ⟨m1, rfl⟩ : ∃ m, n1 = m + 1 := ⟨n1 - 1, by omega⟩
    obtain ⟨m2, rfl⟩ : ∃ m, n2 = m + 1 := ⟨n2 - 1, by omega⟩
    refine ⟨nI came, K, M, ?_, ?_, h, rfl⟩
    · rw [fX8_clausesCome_4, hk, if_pos (nI_le (by omega) (by omega))]
    · rw [fX9_read_98, show (5 : Int32) = nI 5 from rfl, pk_mul, if_pos (nI_le (by omega) (by omega))]
  | succ d ih =>
    intro n1 n2 i came K M h1 h2 h3 h hk hD
    obtain ⟨m1, rfl⟩ : ∃ m, n1 = m + 1 := ⟨n1 - 1, by omega⟩
    obtain ⟨m2, rfl⟩ : ∃ m, n2 = m + 1 := ⟨n2 - 1, by omega⟩
    obtain ⟨A, hS, hti⟩ := h.1
    obtain ⟨lg, key, form, bits, d1, d2, d3, d4, d5, d6, d7, d8, d9, d10, d11, d12, d13⟩ := hD i (by omega)
    have he := (hS.ai d1).2.1
    have hnr := nr_ok hS d1 d2
    rw [fX8_clausesCome_4, hk, if_neg (nI_ge (by omega) (by omega)), zi_ok (by omega) (by omega), zi_ok (by omega) (by omega), zi_ok (by omega) (by omega), zi_ok (by omega) (by omega), nI_clamp (by omega), d5, d6, d7, d8, fX9_read_98, show (5 : Int32) = nI 5 from rfl, pk_mul, if_neg (nI_ge (by omega) (by omega)), zi_ok (by omega) (by omega), nI_clamp (by omega), d9, show (1271 : Int32) = nI 1271 from rfl, m_end d1 (hS.m d1), zb_s, nI_add, show 5 * i + 5 = 5 * (i + 1) by omega]
    rcases rc_eq hS (form := form) d3 d4 (nI lg) (nI key) 1 with ⟨r, r0, r1, e1, e2⟩ | ⟨q, A', S', M', q1, q2, q3, e1, e2, e3, e4, e5, e6⟩
    · rw [hnr] at e2
      have h200 : (A.1 lg).1 6 0 = 200 := Decidable.byContradiction (fun e => by
        rw [if_neg e] at e2
        exact r1 (Option.some.inj e2).symm)
      rw [e1, zb2_s, if_pos r0, if_pos (show (200 : Int32) ≤ nI ((A.1 lg).1 6 0) from nI_le (a := 200) (by omega) (by omega)), nI_1]
      exact ih m1 m2 (i + 1) came K M (by omega) (by omega) (by omega) h hk hD
    · have hql : q = lg := ((nI_eq (by omega) (by omega)).mp q2).symm
      subst hql
      have hrel := h.live e4 (by rw [e6]; exact hti) e5.oth
      have hfin := ih m1 m2 (i + 1) (came + 1) (kLv K S') M' (by omega) (by omega) (by omega) hrel hk (fun j hj => (hD j hj).cg (fun _ _ _ => rfl) (fun x _ => by rw [e5.1 4 (by omega)]))
      rw [e1, zb2_s, if_neg (nI_pos (by omega)), if_neg (show ¬ (200 : Int32) ≤ nI ((A.1 q).1 6 0) from nI_ge (b := 200) q3 (by omega)), show nI (5 * i) + (2 : Int32) = nI (5 * i + 2) from nI_add _ 2, zi_ok (by omega) (by omega), nI_clamp (by omega), d11, nI_1, nI_1]
      unfold fX9_read_141 fX9_read_186
      simp only [show nI (5 * i) + (1 : Int32) = nI (5 * i + 1) from nI_1 _, show nI (5 * i) + (3 : Int32) = nI (5 * i + 3) from nI_add _ 3, show nI (5 * i) + (4 : Int32) = nI (5 * i + 4) from nI_add _ 4, show nI (5 * i) + (5 : Int32) = nI (5 * (i + 1)) from (nI_add (5 * i) 5).trans (by rw [show 5 * i + 5 = 5 * (i + 1) by omega]), zi_ok (show 5 * i < 60 by omega) (show 60 < 2 ^ 31 by omega), zi_ok (show 5 * i + 1 < 60 by omega) (show 60 < 2 ^ 31 by omega), zi_ok (show 5 * i + 3 < 60 by omega) (show 60 < 2 ^ 31 by omega), zi_ok (show 5 * i + 4 < 60 by omega) (show 60 < 2 ^ 31 by omega), nI_clamp (show 5 * i < 2 ^ 31 by omega), nI_clamp (show 5 * i + 1 < 2 ^ 31 by omega), nI_clamp (show 5 * i + 3 < 2 ^ 31 by omega), nI_clamp (show 5 * i + 4 < 2 ^ 31 by omega), d9, d10, i10, i00, nI_1]
      obtain ⟨r, K2, M2, g1, g2, g3, g4⟩ := hfin
      refine ⟨r, K2, M2, g1, ?_, g3, g4⟩
      rcases d3 with rfl | rfl
      · have e3' : fX9_comes (nI q) (nI key) bits 0 1 M = some (nI ((A.1 q).1 6 0), M') := e3
        rw [if_neg (show ¬ nI (1 - 1) = (1 : Int32) by decide), d13 rfl, zb_s, e3', zb2_s]
        exact g2
      · have hb0 := d12 rfl
        subst hb0
        have e3' : fX9_comes (nI q) (nI key) 0 1 1 M = some (nI ((A.1 q).1 6 0), M') := e3
        rw [if_pos (show nI (2 - 1) = (1 : Int32) from rfl), e3', zb2_s]
        exact g2
theorem Rel.rd {K : KS} {M M' : MS} {T' : CS} (h : Rel K M) (hF : FR M M') : Rel (kTx K (sF T' 0 0)) (sFm M' 1 0) := by
  refine ⟨?_, ⟨0, fun _ => 0, by omega, ?_, ?_, fun k hk => absurd hk (by omega)⟩, ?_, ?_, ?_⟩
  · rw [sFm_1, hF.1 0 (by omega)]; exact h.1
  · show (sF T' 0 0).2 0 = _
    rw [sF_2, up_s rfl]; rfl
  · rw [sFm_21, up_s rfl]; rfl
  · obtain ⟨n, f, k1, k2, k3, k4⟩ := h.2.2.1
    exact ⟨n, f, k1, k2, by rw [sFm_21, up_n (by omega), hF.2.2 2 (by omega) (by omega)]; exact k3, by rw [sFm_1, hF.1 7 (by omega)]; exact k4⟩
  · intro t ht
    obtain ⟨z, n, k1, k2, k3, k4, k5, k6, k7, k8⟩ := h.2.2.2.1 t ht
    exact ⟨z, n, k1, k2, k3, k4, by rw [sFm_1, hF.1 8 (by omega)]; exact k5, k6, by rw [sFm_1, hF.1 9 (by omega)]; exact k7, by rw [sFm_22, hF.2.1]; exact k8⟩
  · rcases h.2.2.2.2 with ⟨i1, i2⟩ | ⟨S, i1, i2, i3⟩
    · exact Or.inl ⟨i1, by rw [sFm_21, up_n (by omega), hF.2.2 0 (by omega) (by omega)]; exact i2⟩
    · exact Or.inr ⟨S, i1, by rw [sFm_21, up_n (by omega), hF.2.2 0 (by omega) (by omega)]; exact i2, by rw [sFm_1, hF.1 2 (by omega)]; exact i3⟩
theorem s_read (hq : ∀ x y : Int32, ∃ v, fX0_quotient x y = some v ∧ fX9_valueOf x y = some v) : S_read Rel := by
  intro K M h
  obtain ⟨n, t, t1, t2, t3, t4⟩ := h.2.1
  have hT0 : XT n t 0 0 (sF (sF K.2.1 2 0) 1 0) := ⟨by rw [sF_2, up_n (by omega), sF_2, up_n (by omega)]; exact t2, by rw [sF_2, up_s rfl]; rfl, by rw [sF_2, up_n (by omega), sF_2, up_s rfl]; rfl, fun k hk => (t4 k hk).1⟩
  have hM0 : XM n t 0 (sFm (sFm M 3 0) 4 (-1)) := ⟨by rw [sFm_21, up_n (by omega), sFm_21, up_n (by omega)]; exact t3, by rw [sFm_21, up_s rfl], by rw [sFm_21, up_n (by omega), sFm_21, up_s rfl]; rfl, fun k hk => (t4 k hk).2.1⟩
  have hF0 : FR M (sFm (sFm M 3 0) 4 (-1)) := FR.s3.tr FR.s4
  have htt : ∀ k, k < n → t k ≤ 127 := fun k hk => (t4 k hk).2.2
  have hfault : ∀ (T' : CS) (M' : MS) (f : Nat) (x : Int32), fX7_parsed K.2.1 = some (0, T') → fX9_read M = fX9_read_74 x M' → T'.2 2 = nI f → f ≤ n → M'.2.1 4 = nI f → FR M M' → ∃ (r : Int32) (K' : KS) (M' : MS), fX8_read K = some (r, K') ∧ fX9_read M = some (r, M') ∧ Rel K' M' ∧ K'.2.2.2.2 = K.2.2.2.2 := by
    intro T' M' f x e1 e2 e3 e4 e5 e6
    refine ⟨-10 - nI f, kTx K (sF T' 0 0), sFm M' 1 0, ?_, ?_, h.rd e6, rfl⟩
    · unfold fX8_read
      rw [e1, zb2_s, zl_d, zl_d, i00]
      show some (-10 - T'.2 2, _) = _
      rw [e3]
      rfl
    · rw [e2]
      unfold fX9_read_74
      rw [zl_d, sFm_21, up_n (by omega), e5, if_neg (nI_pos (by omega))]
  obtain ⟨n9, hn9⟩ : ∃ n9, FU = n9 + 1 := ⟨9999, rfl⟩
  have hpa : fX7_parsed K.2.1 = fX7_parsed_10 (9999 + 1) (sF (sF K.2.1 2 0) 1 0) := rfl
  have hrd : fX9_read M = zb (fX9_clause (nI (5 * 0)) (sFm (sFm M 3 0) 4 (-1))) (fun st_3 => fX9_read_17 FU (nI 1) st_3) := rfl
  rw [parsed_s hT0 (by omega)] at hpa
  rcases sim_clause hq t1 htt (c := 0) (by omega) (Nat.zero_le _) hT0 hM0 with ⟨T', M', p', w1, w2, w3, w4, w5, w6, w7, w8, w9, w10⟩ | ⟨T', M', f, w1, w2, w3, w4, w5, w6⟩
  · rw [w1, zb2_s, i10, w3.2.1, nI_1] at hpa
    rw [w2, zb_s] at hrd
    rcases sim_parse (M0 := M) hq t1 htt 11 9999 FU 1 p' (sF T' 1 (nI (0 + 1))) M' (by omega) (by omega) (fu_lt (by omega)) w6 (w3.s1 (0 + 1)) w4 (hF0.tr w7) (fun j hj => by
      rw [show j = 0 by omega]
      exact w8.cg (fun k _ _ => rfl) (fun _ _ => rfl)) with ⟨T2, M2, c', v1, v2, v3, v4, v5, v6, v7⟩ | ⟨T2, M2, f, x, v1, v2, v3, v4, v5, v6⟩
    · rw [v1] at hpa
      rw [v2] at hrd
      have hrel := h.rd (T' := T2) v6
      obtain ⟨r, K3, M3, g1, g2, g3, g4⟩ := sim_come v4 c' FU FU 0 0 (kTx K (sF T2 0 0)) (sFm M2 1 0) (by omega) (fu_lt (by omega)) (fu_lt (by omega)) hrel (by show (sF T2 0 0).2 1 = _; rw [sF_2, up_n (by omega)]; exact v3) (fun j hj => (v7 j hj).cg (fun _ _ _ => rfl) (fun _ _ => rfl))
      have g1' : fX8_clausesCome (kTx K (sF T2 0 0)) = some (r, K3) := g1
      have g2' : fX9_read_98 (nI c') FU 0 0 (sFm M2 1 0) = some (r, M3) := g2
      refine ⟨r, K3, M3, ?_, ?_, g3, g4⟩
      · unfold fX8_read
        rw [hpa, zb2_s, zl_d, zl_d, i10]
        show zb2 (fX8_clausesCome (kTx K (sF T2 0 0))) _ = _
        rw [g1', zb2_s]
      · rw [hrd]
        unfold fX9_read_74
        rw [zl_d, sFm_21, up_n (by omega), v5, if_pos (by decide), g2']
    · rw [v1] at hpa
      rw [v2] at hrd
      exact hfault T2 M2 f x hpa hrd v3 v4 v5 v6
  · rw [w1, zb2_s, i00] at hpa
    rw [w2, zb_s, hn9, read17_f (f := f) (by omega) w5] at hrd
    exact hfault T' M' f _ hpa hrd w3 w4 w5 (hF0.tr w6)
end READ3
