/-! ===== members: a change, step by step on both sides ===== -/
section GRP2
variable {q hd : Nat → Nat} {G0 : CS} {M0 : MS}
theorem ow_up_ok {ow : Nat → Nat} (ho : ∀ j, j < 4 → ow j ≤ 4) {o v : Nat} (hv : v ≤ 4) : ∀ j, j < 4 → va_up ow o v j ≤ 4 := fun j hj => by
  by_cases e : j = o
  · rw [up_s e]; exact hv
  · rw [up_n e]; exact ho j hj
theorem GS.own {ow : Nat → Nat} {G : CS} (h : GS q ow hd G0 G) {o v : Nat} (ho : o < 4) : GS q (va_up ow o v) hd G0 (wA G 1 (nI o) (cd5 v)) := by
  refine ⟨fun m hm => ?_, ?_, h.2.2⟩
  · obtain ⟨h0, h1, h2⟩ := h.1 m hm
    have e1 : (wA G 1 (nI o) (cd5 v)).1 1 = upd (G.1 1) o (cd5 v) := by rw [wA_1, up_s rfl, nI_clamp (by omega)]
    have e0 : ∀ k, k ≠ 1 → (wA G 1 (nI o) (cd5 v)).1 k = G.1 k := fun k hk => by rw [wA_1, up_n hk]
    rw [e0 0 (by omega), e0 2 (by omega), e1]
    refine ⟨h0, ?_, h2⟩
    by_cases e : m = o
    · rw [upd_s e, up_s e]
    · rw [upd_n e, up_n e]; exact h1
  · rw [wA_1, up_n (by omega)]; exact h.2.1
theorem MG.own {ow : Nat → Nat} {M : MS} (h : MG q ow M0 M) {o v : Nat} (ho : o < 4) : MG q (va_up ow o v) M0 (mS M (o * 1274 + 1272) (cd1 v)) := by
  obtain ⟨h1, h2, h3, h4, h5⟩ := h
  refine ⟨fun m hm => ?_, ?_, fun j hj => ?_, fun k hk hk2 => ?_, h5⟩
  · rw [mS_g]
    by_cases e : m = o
    · rw [upd_s (by omega), up_s e]
    · rw [upd_n (by omega), up_n e]; exact h1 m hm
  · rw [mS_g, upd_n (by omega)]; exact h2
  · rw [mS_g, upd_n (hj o ho)]; exact h3 j hj
  · rw [mS_k _ _ _ hk]; exact h4 k hk hk2
/-- the logs of those who are absent -/
theorem sim_absent (hq : ∀ j, q j ≤ 1) (hh : ∀ j, j < 4 → hd j ≤ 4) : ∀ (d n1 n2 o : Nat) (ow : Nat → Nat) (G : CS) (M : MS), o + d = 4 → d < n1 → d < n2 → (∀ j, j < 4 → ow j ≤ 4) → GS q ow hd G0 G → MG q ow M0 M → (∀ j, o ≤ j → j < 4 → ow j = hd j) → (∀ j, j < o → M.1 6 j = cd1 (hd j)) → (∀ j, j < o → ow j ≠ 0 → q (ow j - 1) = 1) → ∃ (ow' : Nat → Nat) (G' : CS) (M' : MS), fX1_freeLogsOfAbsent_2 n1 (nI o) G = some G' ∧ fX9_shares_2 n2 (nI o) M = zb (fX9_membersIn M') (fun r_2 => if r_2 = 0 then (fX9_shares_74 r_2 (0 : Int32) M') else (zz r_2 (fX9_shares_74 r_2 ((4 : Int32) / r_2) M'))) ∧ (∀ j, j < 4 → ow' j ≤ 4) ∧ GS q ow' hd G0 G' ∧ MG q ow' M0 M' ∧ (∀ j, j < 4 → M'.1 6 j = cd1 (hd j)) ∧ (∀ j, j < 4 → ow' j ≠ 0 → q (ow' j - 1) = 1) := by
  intro d
  induction d with
  | zero =>
    intro n1 n2 o ow G M h1 h2 h3 ho hG hM e1 e2 e3
    obtain ⟨m1, rfl⟩ : ∃ m, n1 = m + 1 := ⟨n1 - 1, by omega⟩
    obtain ⟨m2, rfl⟩ : ∃ m, n2 = m + 1 := ⟨n2 - 1, by omega⟩
    refine ⟨ow, G, M, ?_, ?_, ho, hG, hM, fun j hj => e2 j (by omega), fun j hj => e3 j (by omega)⟩
    · rw [fX1_freeLogsOfAbsent_2, if_pos (show (4 : Int32) ≤ nI o from nI_le (a := 4) (by omega) (by omega))]
    · rw [fX9_shares_2, if_pos (show (4 : Int32) ≤ nI o from nI_le (a := 4) (by omega) (by omega))]
  | succ d ih =>
    intro n1 n2 o ow G M h1 h2 h3 ho hG hM e1 e2 e3
    obtain ⟨m1, rfl⟩ : ∃ m, n1 = m + 1 := ⟨n1 - 1, by omega⟩
    obtain ⟨m2, rfl⟩ : ∃ m, n2 = m + 1 := ⟨n2 - 1, by omega⟩
    have hw := ho o (by omega)
    have ho1 := (hG.1 o (by omega)).2.1
    have hm1 := hM.1 o (by omega)
    have heq := e1 o (Nat.le_refl _) (by omega)
    have hM6 : MG q ow M0 (wAm M 6 (nI o) (cd1 (ow o))) := by
      obtain ⟨g1, g2, g3, g4, g5⟩ := hM
      exact ⟨fun m hm => by rw [wAm_1, up_n (by omega)]; exact g1 m hm, by rw [wAm_1, up_n (by omega)]; exact g2, fun j hj => by rw [wAm_1, up_n (by omega)]; exact g3 j hj, fun k hk hk2 => by rw [wAm_1, up_n hk2]; exact g4 k hk hk2, g5⟩
    have h6 : ∀ j, j < o + 1 → (wAm M 6 (nI o) (cd1 (ow o))).1 6 j = cd1 (hd j) := fun j hj => by
      rw [wAm_1, up_s rfl, nI_clamp (by omega)]
      by_cases e : j = o
      · rw [upd_s e, e, heq]
      · rw [upd_n e]; exact e2 j (by omega)
    have h6o : (wAm M 6 (nI o) (cd1 (ow o))).1 6 o = cd1 (ow o) := by rw [h6 o (by omega), heq]
    rw [fX1_freeLogsOfAbsent_2, fX9_shares_2, if_neg (show ¬ (4 : Int32) ≤ nI o from nI_ge (b := 4) (by omega) (by omega)), if_neg (show ¬ (4 : Int32) ≤ nI o from nI_ge (b := 4) (by omega) (by omega)), show (1272 : Int32) = nI 1272 from rfl]
    simp only [zi_ok (show o < 4 by omega) (show 4 < 2 ^ 31 by omega), nI_clamp (show o < 2 ^ 31 by omega), ho1, m_at M (show o < 4 by omega) (show 1272 < 1274 by omega), zb_s, hm1, zl_d, h6o]
    by_cases hz : ow o = 0
    · rw [if_pos ((cd5_lt (by omega)).mpr hz), if_pos ((cd1_lt (by omega)).mpr hz), nI_1]
      exact ih m1 m2 (o + 1) ow G _ (by omega) (by omega) (by omega) ho hG hM6 (fun j q1 q2 => e1 j (by omega) q2) h6 (fun j hj hne => by
        by_cases e : j = o
        · rw [e] at hne; exact absurd hz hne
        · exact e3 j (by omega) hne)
    · have hc5 : cd5 (ow o) = nI (ow o - 1) := if_neg hz
      have hc1 : cd1 (ow o) = nI (ow o - 1) := if_neg hz
      have hin := (hG.1 (ow o - 1) (by omega)).1
      have hqq := hq (ow o - 1)
      rw [if_neg (fun e => hz ((cd5_lt (by omega)).mp e)), if_neg (fun e => hz ((cd1_lt (by omega)).mp e)), hc5, hc1, zi_ok (x := ow o - 1) (by omega) (by omega), nI_clamp (by omega), hin, m_isIn hq (by rw [wAm_1, up_n (by omega)]; exact hM.2.1) (by omega), zb_s]
      by_cases hp : q (ow o - 1) = 1
      · rw [if_neg (fun e => by have := (nI_eq0 (by omega)).mp e; omega), if_pos hp, i10, nI_1]
        rw [hc1] at hM6 h6
        exact ih m1 m2 (o + 1) ow G _ (by omega) (by omega) (by omega) ho hG hM6 (fun j q1 q2 => e1 j (by omega) q2) h6 (fun j hj hne => by
          by_cases e : j = o
          · rw [e]; exact hp
          · exact e3 j (by omega) hne)
      · rw [if_pos ((nI_eq0 (by omega)).mpr (by omega)), if_neg hp, i00, m_sets _ _ (by omega) (by omega), zb_s, nI_1]
        rw [hc1] at hM6 h6
        have hG2 := hG.own (o := o) (v := 0) (by omega)
        have hM2 := hM6.own (o := o) (v := 0) (by omega)
        exact ih m1 m2 (o + 1) _ _ _ (by omega) (by omega) (by omega) (ow_up_ok ho (by omega)) hG2 hM2 (fun j q1 q2 => by rw [up_n (by omega)]; exact e1 j (by omega) q2) (fun j hj => by rw [mS_k _ _ _ (by omega)]; exact h6 j hj) (fun j hj hne => by
          by_cases e : j = o
          · rw [up_s e] at hne; exact absurd rfl hne
          · rw [up_n e] at hne ⊢; exact e3 j (by omega) hne)
/-- what is kept through the later steps -/
def GI (q hd : Nat → Nat) (G0 : CS) (M0 : MS) (ow : Nat → Nat) (G : CS) (M : MS) : Prop := (∀ j, j < 4 → ow j ≤ 4) ∧ GS q ow hd G0 G ∧ MG q ow M0 M ∧ (∀ j, j < 4 → M.1 6 j = cd1 (hd j)) ∧ (∀ j, j < 4 → ow j ≠ 0 → q (ow j - 1) = 1)
theorem GI.own {ow : Nat → Nat} {G : CS} {M : MS} (h : GI q hd G0 M0 ow G M) {o v : Nat} (ho : o < 4) (hv : v ≤ 4) (hi : v ≠ 0 → q (v - 1) = 1) : GI q hd G0 M0 (va_up ow o v) (wA G 1 (nI o) (cd5 v)) (mS M (o * 1274 + 1272) (cd1 v)) := by
  obtain ⟨h1, h2, h3, h4, h5⟩ := h
  refine ⟨ow_up_ok h1 hv, h2.own ho, h3.own ho, fun j hj => by rw [mS_k _ _ _ (by omega)]; exact h4 j hj, fun j hj hne => ?_⟩
  by_cases e : j = o
  · rw [up_s e] at hne ⊢; exact hi hne
  · rw [up_n e] at hne ⊢; exact h5 j hj hne
theorem sim_lets {m k : Nat} (hm : m < 4) (hk : k < 100) : ∀ (d n1 n2 o seen : Nat) (ow : Nat → Nat) (G : CS) (M : MS), o + d = 4 → d < n1 → d < n2 → seen ≤ o → GI q hd G0 M0 ow G M → ∃ (ow' : Nat → Nat) (G' : CS) (M' : MS), fX1_freeAllButLeast_5 (nI m) (nI k) n1 (nI seen) (nI o) G = some G' ∧ fX9_lets_5 (nI m) n2 (nI (k - seen)) (nI o) M = some M' ∧ GI q hd G0 M0 ow' G' M' := by
  intro d
  induction d with
  | zero =>
    intro n1 n2 o seen ow G M h1 h2 h3 hs hI
    obtain ⟨m1, rfl⟩ : ∃ m, n1 = m + 1 := ⟨n1 - 1, by omega⟩
    obtain ⟨m2, rfl⟩ : ∃ m, n2 = m + 1 := ⟨n2 - 1, by omega⟩
    refine ⟨ow, G, M, ?_, ?_, hI⟩
    · rw [fX1_freeAllButLeast_5, if_pos (show (4 : Int32) ≤ nI o from nI_le (a := 4) (by omega) (by omega))]
    · rw [fX9_lets_5, if_pos (show (4 : Int32) ≤ nI o from nI_le (a := 4) (by omega) (by omega))]
  | succ d ih =>
    intro n1 n2 o seen ow G M h1 h2 h3 hs hI
    obtain ⟨m1, rfl⟩ : ∃ m, n1 = m + 1 := ⟨n1 - 1, by omega⟩
    obtain ⟨m2, rfl⟩ : ∃ m, n2 = m + 1 := ⟨n2 - 1, by omega⟩
    have hw := hI.1 o (by omega)
    have ho1 := (hI.2.1.1 o (by omega)).2.1
    have hm1 := hI.2.2.1.1 o (by omega)
    rw [fX1_freeAllButLeast_5, fX9_lets_5, if_neg (show ¬ (4 : Int32) ≤ nI o from nI_ge (b := 4) (by omega) (by omega)), if_neg (show ¬ (4 : Int32) ≤ nI o from nI_ge (b := 4) (by omega) (by omega)), zi_ok (by omega) (by omega), nI_clamp (by omega), ho1, show (1272 : Int32) = nI 1272 from rfl, m_at _ (by omega) (by omega), zb_s, hm1]
    by_cases he : ow o = m + 1
    · rw [if_pos ((cd5_eq (by omega) (by omega)).mpr he), if_pos ((cd1_eq (by omega) (by omega)).mpr he), nI_1, nI_1]
      by_cases hl : seen + 1 ≤ k
      · rw [if_pos (nI_le hl (by omega)), if_neg (fun e => by have := (nI_eq0 (by omega)).mp e; omega), show k - seen = (k - (seen + 1)) + 1 by omega, pk_m1]
        exact ih m1 m2 (o + 1) (seen + 1) ow G M (by omega) (by omega) (by omega) (by omega) hI
      · rw [if_neg (nI_ge (by omega) (by omega)), if_pos ((nI_eq0 (by omega)).mpr (by omega)), zi_ok (by omega) (by omega), zl_d, m_sets _ _ (by omega) (by omega), zb_s]
        have hI2 := hI.own (o := o) (v := 0) (by omega) (by omega) (fun e => absurd rfl e)
        rw [show k - seen = k - (seen + 1) by omega]
        exact ih m1 m2 (o + 1) (seen + 1) _ _ _ (by omega) (by omega) (by omega) (by omega) hI2
    · rw [if_neg (fun e => he ((cd5_eq (by omega) (by omega)).mp e)), if_neg (fun e => he ((cd1_eq (by omega) (by omega)).mp e)), nI_1]
      exact ih m1 m2 (o + 1) seen ow G M (by omega) (by omega) (by omega) (by omega) hI
theorem sim_beyond {share larger many : Nat} (hs : share ≤ 4) (hl : larger ≤ 4) (h0 : 0 < many) (hm4 : many ≤ 4) : ∀ (d n1 n2 o ls : Nat) (ow : Nat → Nat) (G : CS) (M : MS), o + d = 4 → d < n1 → d < n2 → ls ≤ o → GI q hd G0 M0 ow G M → ∃ (ow' : Nat → Nat) (G' : CS) (M' : MS), fX1_freeLogsBeyond_5 (nI share) (nI larger) n1 (nI ls) (nI o) G = some G' ∧ fX9_shares_84 (nI many) (nI share) n2 (nI (larger - ls)) (nI o) M = fX9_shares_148 0 FU 0 M' ∧ GI q hd G0 M0 ow' G' M' := by
  intro d
  induction d with
  | zero =>
    intro n1 n2 o ls ow G M h1 h2 h3 hlo hI
    obtain ⟨m1, rfl⟩ : ∃ m, n1 = m + 1 := ⟨n1 - 1, by omega⟩
    obtain ⟨m2, rfl⟩ : ∃ m, n2 = m + 1 := ⟨n2 - 1, by omega⟩
    refine ⟨ow, G, M, ?_, ?_, hI⟩
    · rw [fX1_freeLogsBeyond_5, if_pos (show (4 : Int32) ≤ nI o from nI_le (a := 4) (by omega) (by omega))]
    · rw [fX9_shares_84, if_pos (show (4 : Int32) ≤ nI o from nI_le (a := 4) (by omega) (by omega))]
  | succ d ih =>
    intro n1 n2 o ls ow G M h1 h2 h3 hlo hI
    obtain ⟨m1, rfl⟩ : ∃ m, n1 = m + 1 := ⟨n1 - 1, by omega⟩
    obtain ⟨m2, rfl⟩ : ∃ m, n2 = m + 1 := ⟨n2 - 1, by omega⟩
    have hp := pop_le (lm ow o)
    rw [fX1_freeLogsBeyond_5, fX9_shares_84, if_neg (show ¬ (4 : Int32) ≤ nI o from nI_ge (b := 4) (by omega) (by omega)), if_neg (show ¬ (4 : Int32) ≤ nI o from nI_ge (b := 4) (by omega) (by omega)), if_neg (nI_nle h0 (by omega)), c_logsOf hI.1 (fun j hj => (hI.2.1.1 j hj).2.1) (by omega), m_logsOf hI.1 hI.2.2.1.1 (by omega), zb_s, zb_s, pop_m (lm_lt ow o), zb_s]
    by_cases hx : pop (lm ow o) ≤ share
    · rw [if_pos (show nI (pop (lm ow o)) ≤ nI share from nI_le hx (by omega)), if_pos (show nI (pop (lm ow o)) ≤ nI share from nI_le hx (by omega)), nI_1]
      exact ih m1 m2 (o + 1) ls ow G M (by omega) (by omega) (by omega) (by omega) hI
    · rw [if_neg (show ¬ nI (pop (lm ow o)) ≤ nI share from nI_ge (by omega) (by omega)), if_neg (show ¬ nI (pop (lm ow o)) ≤ nI share from nI_ge (by omega) (by omega))]
      unfold fX1_freeLogsBeyond_31 fX1_freeLogsBeyond_41 fX1_freeLogsBeyond_56 fX9_shares_121 fX1_freeAllButLeast fX9_lets
      by_cases hy : larger ≤ ls
      · obtain ⟨ow2, G2, M2, r1, r2, r3⟩ := sim_lets (m := o) (k := share) (by omega) (by omega) 4 FU FU 0 0 ow G M (by omega) (fu_lt (by omega)) (fu_lt (by omega)) (by omega) hI
        rw [Nat.sub_zero] at r2
        simp only [if_pos (show nI larger ≤ nI ls from nI_le hy (by omega)), i00, if_pos (show nI (larger - ls) ≤ 0 from (nI_le0 (by omega)).mpr (by omega))]
        have r1' : fX1_freeAllButLeast_5 (nI o) (nI share) FU 0 0 G = some G2 := r1
        have r2' : fX9_lets_5 (nI o) FU (nI share) 0 M = some M2 := r2
        rw [r1', r2', zb_s, zb_s, nI_1, Int32.sub_zero]
        exact ih m1 m2 (o + 1) ls ow2 G2 M2 (by omega) (by omega) (by omega) (by omega) r3
      · obtain ⟨ow2, G2, M2, r1, r2, r3⟩ := sim_lets (m := o) (k := share + 1) (by omega) (by omega) 4 FU FU 0 0 ow G M (by omega) (fu_lt (by omega)) (fu_lt (by omega)) (by omega) hI
        rw [Nat.sub_zero] at r2
        simp only [if_neg (show ¬ nI larger ≤ nI ls from nI_ge (by omega) (by omega)), i10, if_neg (show ¬ nI (larger - ls) ≤ 0 from nI_nle (by omega) (by omega))]
        have r1' : fX1_freeAllButLeast_5 (nI o) (nI (share + 1)) FU 0 0 G = some G2 := r1
        have r2' : fX9_lets_5 (nI o) FU (nI (share + 1)) 0 M = some M2 := r2
        rw [nI_1, r1', r2', zb_s, zb_s, nI_1, nI_1, nI_m1 (by omega), show larger - ls - 1 = larger - (ls + 1) by omega]
        exact ih m1 m2 (o + 1) (ls + 1) ow2 G2 M2 (by omega) (by omega) (by omega) (by omega) r3
theorem sim_least {ow : Nat → Nat} {G : CS} {M : MS} (hq : ∀ j, q j ≤ 1) (hI : GI q hd G0 M0 ow G M) : ∀ (d n1 n2 o v : Nat), o + d = 4 → d < n1 → d < n2 → v ≤ 4 → (v ≠ 0 → q (v - 1) = 1) → (v = 0 → ∀ j, j < o → q j = 0) → ∃ v', fX1_leastLaden_5 G n1 (cd5 v) (nI o) = some (cd5 v') ∧ fX9_least_4 M n2 (cd1 v) (nI o) = some (cd1 v') ∧ v' ≤ 4 ∧ (v' ≠ 0 → q (v' - 1) = 1) ∧ (v' = 0 → ∀ j, j < 4 → q j = 0) := by
  intro d
  induction d with
  | zero =>
    intro n1 n2 o v h1 h2 h3 hv hvq hv0
    obtain ⟨m1, rfl⟩ : ∃ m, n1 = m + 1 := ⟨n1 - 1, by omega⟩
    obtain ⟨m2, rfl⟩ : ∃ m, n2 = m + 1 := ⟨n2 - 1, by omega⟩
    refine ⟨v, ?_, ?_, hv, hvq, fun e j hj => hv0 e j (by omega)⟩
    · rw [fX1_leastLaden_5, if_pos (show (4 : Int32) ≤ nI o from nI_le (a := 4) (by omega) (by omega))]
    · rw [fX9_least_4, if_pos (show (4 : Int32) ≤ nI o from nI_le (a := 4) (by omega) (by omega))]
  | succ d ih =>
    intro n1 n2 o v h1 h2 h3 hv hvq hv0
    obtain ⟨m1, rfl⟩ : ∃ m, n1 = m + 1 := ⟨n1 - 1, by omega⟩
    obtain ⟨m2, rfl⟩ : ∃ m, n2 = m + 1 := ⟨n2 - 1, by omega⟩
    have hin := (hI.2.1.1 o (by omega)).1
    have hqo := hq o
    have hnew : q o = 1 → ∃ v', fX1_leastLaden_5 G m1 (nI o) (nI (o + 1)) = some (cd5 v') ∧ fX9_least_4 M m2 (nI o) (nI (o + 1)) = some (cd1 v') ∧ v' ≤ 4 ∧ (v' ≠ 0 → q (v' - 1) = 1) ∧ (v' = 0 → ∀ j, j < 4 → q j = 0) := fun hq1 => by
      have := ih m1 m2 (o + 1) (o + 1) (by omega) (by omega) (by omega) (by omega) (fun _ => hq1) (fun e => absurd e (by omega))
      rw [show cd5 (o + 1) = nI o from rfl, show cd1 (o + 1) = nI o from rfl] at this
      exact this
    rw [fX1_leastLaden_5, fX9_least_4, if_neg (show ¬ (4 : Int32) ≤ nI o from nI_ge (b := 4) (by omega) (by omega)), if_neg (show ¬ (4 : Int32) ≤ nI o from nI_ge (b := 4) (by omega) (by omega)), zi_ok (by omega) (by omega), nI_clamp (by omega), hin, m_isIn hq hI.2.2.1.2.1 (by omega), zb_s, nI_1]
    by_cases hq1 : q o = 1
    · rw [if_neg (show ¬ nI (q o) = 0 from fun e => by have := (nI_eq0 (by omega)).mp e; omega), if_pos hq1, i10]
      by_cases hz : v = 0
      · rw [if_pos ((cd5_n (by omega)).mpr hz), if_pos ((cd1_lt (by omega)).mpr hz)]
        exact hnew hq1
      · have hc5 : cd5 v = nI (v - 1) := if_neg hz
        have hc1 : cd1 v = nI (v - 1) := if_neg hz
        have hp1 := pop_le (lm ow o)
        have hp2 := pop_le (lm ow (v - 1))
        rw [if_neg (fun e => hz ((cd5_n (by omega)).mp e)), if_neg (fun e => hz ((cd1_lt (by omega)).mp e)), hc5, hc1, c_logsOf hI.1 (fun j hj => (hI.2.1.1 j hj).2.1) (by omega), m_logsOf hI.1 hI.2.2.1.1 (by omega), zb_s, zb_s, pop_m (lm_lt ow o), zb_s, c_logsOf hI.1 (fun j hj => (hI.2.1.1 j hj).2.1) (by omega), m_logsOf hI.1 hI.2.2.1.1 (by omega), zb_s, zb_s, pop_m (lm_lt ow _), zb_s]
        by_cases hle : pop (lm ow (v - 1)) ≤ pop (lm ow o)
        · rw [if_pos (nI_le hle (by omega)), if_pos (nI_le hle (by omega))]
          have := ih m1 m2 (o + 1) v (by omega) (by omega) (by omega) hv hvq (fun e => absurd e hz)
          rw [hc5, hc1] at this
          exact this
        · rw [if_neg (nI_ge (by omega) (by omega)), if_neg (nI_ge (by omega) (by omega))]
          exact hnew hq1
    · rw [if_pos (show nI (q o) = 0 from (nI_eq0 (by omega)).mpr (by omega)), if_neg hq1, i00]
      exact ih m1 m2 (o + 1) v (by omega) (by omega) (by omega) hv hvq (fun e j hj => by
        by_cases ej : j = o
        · rw [ej]; omega
        · exact hv0 e j (by omega))
theorem sim_give (hq : ∀ j, q j ≤ 1) (hsome : ∃ j, j < 4 ∧ q j = 1) : ∀ (d n1 n2 o : Nat) (ow : Nat → Nat) (G : CS) (M : MS), o + d = 4 → d < n1 → d < n2 → GI q hd G0 M0 ow G M → ∃ (ow' : Nat → Nat) (G' : CS) (M' : MS), fX1_giveFreeLogs_2 n1 (nI o) G = some G' ∧ fX9_shares_148 0 n2 (nI o) M = fX9_shares_188 FU 0 0 M' ∧ GI q hd G0 M0 ow' G' M' := by
  intro d
  induction d with
  | zero =>
    intro n1 n2 o ow G M h1 h2 h3 hI
    obtain ⟨m1, rfl⟩ : ∃ m, n1 = m + 1 := ⟨n1 - 1, by omega⟩
    obtain ⟨m2, rfl⟩ : ∃ m, n2 = m + 1 := ⟨n2 - 1, by omega⟩
    refine ⟨ow, G, M, ?_, ?_, hI⟩
    · rw [fX1_giveFreeLogs_2, if_pos (show (4 : Int32) ≤ nI o from nI_le (a := 4) (by omega) (by omega))]
    · rw [fX9_shares_148, if_pos (show (4 : Int32) ≤ nI o from nI_le (a := 4) (by omega) (by omega))]
  | succ d ih =>
    intro n1 n2 o ow G M h1 h2 h3 hI
    obtain ⟨m1, rfl⟩ : ∃ m, n1 = m + 1 := ⟨n1 - 1, by omega⟩
    obtain ⟨m2, rfl⟩ : ∃ m, n2 = m + 1 := ⟨n2 - 1, by omega⟩
    have hw := hI.1 o (by omega)
    have ho1 := (hI.2.1.1 o (by omega)).2.1
    have hm1 := hI.2.2.1.1 o (by omega)
    rw [fX1_giveFreeLogs_2, fX9_shares_148, if_neg (show ¬ (4 : Int32) ≤ nI o from nI_ge (b := 4) (by omega) (by omega)), if_neg (show ¬ (4 : Int32) ≤ nI o from nI_ge (b := 4) (by omega) (by omega)), zi_ok (by omega) (by omega), nI_clamp (by omega), ho1, show (1272 : Int32) = nI 1272 from rfl, m_at _ (by omega) (by omega), zb_s, hm1]
    by_cases hz : ow o = 0
    · obtain ⟨v, l1, l2, l3, l4, l5⟩ := sim_least hq hI 4 FU FU 0 0 (by omega) (fu_lt (by omega)) (fu_lt (by omega)) (by omega) (fun e => absurd rfl e) (fun _ j hj => absurd hj (by omega))
      have l1' : fX1_leastLaden G = some (cd5 v) := l1
      have l2' : fX9_least M = some (cd1 v) := l2
      rw [if_pos ((cd5_n (by omega)).mpr hz), if_neg (fun e => (cd1_le (by omega)).mp e hz), l1', l2', zb_s, zb_s, zi_ok (by omega) (by omega), zl_d, m_sets _ _ (by omega) (by omega), zb_s, nI_1]
      exact ih m1 m2 (o + 1) _ _ _ (by omega) (by omega) (by omega) (hI.own (o := o) (v := v) (by omega) l3 l4)
    · rw [if_neg (fun e => hz ((cd5_n (by omega)).mp e)), if_pos ((cd1_le (by omega)).mpr hz), nI_1]
      exact ih m1 m2 (o + 1) ow G M (by omega) (by omega) (by omega) hI
/-- nobody is in: the model's step leaves all as it is -/
theorem m_nobody (hq : ∀ j, q j ≤ 1) (hno : ∀ j, j < 4 → q j = 0) : ∀ (d n2 o : Nat) (ow : Nat → Nat) (G : CS) (M : MS), o + d = 4 → d < n2 → GI q hd G0 M0 ow G M → ∃ (M' : MS), fX9_shares_148 0 n2 (nI o) M = fX9_shares_188 FU 0 0 M' ∧ GI q hd G0 M0 ow G M' := by
  intro d
  induction d with
  | zero =>
    intro n2 o ow G M h1 h3 hI
    obtain ⟨m2, rfl⟩ : ∃ m, n2 = m + 1 := ⟨n2 - 1, by omega⟩
    refine ⟨M, ?_, hI⟩
    rw [fX9_shares_148, if_pos (show (4 : Int32) ≤ nI o from nI_le (a := 4) (by omega) (by omega))]
  | succ d ih =>
    intro n2 o ow G M h1 h3 hI
    obtain ⟨m2, rfl⟩ : ∃ m, n2 = m + 1 := ⟨n2 - 1, by omega⟩
    have hw := hI.1 o (by omega)
    have hm1 := hI.2.2.1.1 o (by omega)
    rw [fX9_shares_148, if_neg (show ¬ (4 : Int32) ≤ nI o from nI_ge (b := 4) (by omega) (by omega)), show (1272 : Int32) = nI 1272 from rfl, m_at _ (by omega) (by omega), zb_s, hm1]
    by_cases hz : ow o = 0
    · obtain ⟨v, l1, l2, l3, l4, l5⟩ := sim_least hq hI 4 FU FU 0 0 (by omega) (fu_lt (by omega)) (fu_lt (by omega)) (by omega) (fun e => absurd rfl e) (fun _ j hj => absurd hj (by omega))
      have l2' : fX9_least M = some (cd1 v) := l2
      have hv : v = 0 := by
        by_cases e : v = 0
        · exact e
        · have k1 := l4 e
          rw [hno (v - 1) (by omega)] at k1
          exact absurd k1 (by omega)
      subst hv
      rw [if_neg (fun e => (cd1_le (by omega)).mp e hz), l2', zb_s, m_sets _ _ (by omega) (by omega), zb_s, nI_1]
      have hI2 : GI q hd G0 M0 ow G (mS M (o * 1274 + 1272) (cd1 0)) := by
        obtain ⟨h1, h2, h3, h4, h5⟩ := hI
        have hM2 := h3.own (o := o) (v := 0) (by omega)
        have he : va_up ow o 0 = ow := funext fun j => by
          by_cases e : j = o
          · rw [up_s e, e, hz]
          · rw [up_n e]
        rw [he] at hM2
        exact ⟨h1, h2, hM2, fun j hj => by rw [mS_k _ _ _ (by omega)]; exact h4 j hj, h5⟩
      exact ih m2 (o + 1) ow G _ (by omega) (by omega) hI2
    · rw [if_pos ((cd1_le (by omega)).mpr hz), nI_1]
      exact ih m2 (o + 1) ow G M (by omega) (by omega) hI
theorem sim_moves (hh : ∀ j, j < 4 → hd j ≤ 4) {ow : Nat → Nat} {G : CS} {M : MS} (hI : GI q hd G0 M0 ow G M) : ∀ (d n1 n2 o acc : Nat), o + d = 4 → d < n1 → d < n2 → ∃ r : Int32, fX1_moves_4 G n1 (nI acc) (nI o) = some r ∧ fX9_shares_188 n2 (nI acc) (nI o) M = some (r, M) := by
  intro d
  induction d with
  | zero =>
    intro n1 n2 o acc h1 h2 h3
    obtain ⟨m1, rfl⟩ : ∃ m, n1 = m + 1 := ⟨n1 - 1, by omega⟩
    obtain ⟨m2, rfl⟩ : ∃ m, n2 = m + 1 := ⟨n2 - 1, by omega⟩
    refine ⟨nI acc, ?_, ?_⟩
    · rw [fX1_moves_4, if_pos (show (4 : Int32) ≤ nI o from nI_le (a := 4) (by omega) (by omega))]
    · rw [fX9_shares_188, if_pos (show (4 : Int32) ≤ nI o from nI_le (a := 4) (by omega) (by omega))]
  | succ d ih =>
    intro n1 n2 o acc h1 h2 h3
    obtain ⟨m1, rfl⟩ : ∃ m, n1 = m + 1 := ⟨n1 - 1, by omega⟩
    obtain ⟨m2, rfl⟩ : ∃ m, n2 = m + 1 := ⟨n2 - 1, by omega⟩
    have hw := hI.1 o (by omega)
    have hw2 := hh o (by omega)
    have ho1 := (hI.2.1.1 o (by omega)).2.1
    have ho2 := (hI.2.1.1 o (by omega)).2.2
    have hm1 := hI.2.2.1.1 o (by omega)
    have hm2 := hI.2.2.2.1 o (by omega)
    rw [fX1_moves_4, fX9_shares_188, if_neg (show ¬ (4 : Int32) ≤ nI o from nI_ge (b := 4) (by omega) (by omega)), if_neg (show ¬ (4 : Int32) ≤ nI o from nI_ge (b := 4) (by omega) (by omega)), zi_ok (by omega) (by omega), zi_ok (by omega) (by omega), nI_clamp (by omega), ho1, ho2, show (1272 : Int32) = nI 1272 from rfl, m_at _ (by omega) (by omega), zb_s, hm1, zi_ok (by omega) (by omega), hm2, Int32.add_zero, nI_1, nI_1]
    by_cases e : ow o = hd o
    · rw [if_pos ((cd5_inj (by omega) (by omega)).mpr e), if_pos ((cd1_inj (by omega) (by omega)).mpr e)]
      exact ih m1 m2 (o + 1) acc (by omega) (by omega) (by omega)
    · rw [if_neg (fun k => e ((cd5_inj (by omega) (by omega)).mp k)), if_neg (fun k => e ((cd1_inj (by omega) (by omega)).mp k))]
      exact ih m1 m2 (o + 1) (acc + 1) (by omega) (by omega) (by omega)
end GRP2
