/-! ===== members: the calls ===== -/
section GRP3
variable {A : AS} {K : KS} {M : MS}
theorem imk_sg (A : AS) : imk A = sg (fun j => A.2.1 0 j * 2 ^ j) 0 4 := by
  unfold imk
  rw [sg2_4]
/-- the members beyond the fourth don't count -/
def inq (A : AS) (j : Nat) : Nat := if j < 4 then A.2.1 0 j else 0
theorem inq_sg (A : AS) : imk A = sg (fun j => inq A j * 2 ^ j) 0 4 := by
  rw [imk_sg]
  exact sg_congr _ _ (fun j _ h2 => by unfold inq; rw [if_pos (by omega)])
theorem inq_le (h : SI A) : ∀ j, inq A j ≤ 1 := fun j => by
  unfold inq
  split
  · exact (h.1 j (by assumption)).2.1
  · omega
theorem inq_i {j : Nat} (h : j < 4) : inq A j = A.2.1 0 j := if_pos h
/-- the store behind a change of the group -/
def aG (A : AS) (q ow : Nat → Nat) : AS := (A.1, fun k => if k = 0 then q else if k = 1 then ow else A.2.1 k, A.2.2)
theorem aG_k {q ow : Nat → Nat} {k : Nat} (h : 2 ≤ k) : (aG A q ow).2.1 k = A.2.1 k := by
  show (if k = 0 then q else if k = 1 then ow else A.2.1 k) = _
  rw [if_neg (by omega), if_neg (by omega)]
theorem aG_0 {q ow : Nat → Nat} : (aG A q ow).2.1 0 = q := rfl
theorem aG_1 {q ow : Nat → Nat} : (aG A q ow).2.1 1 = ow := rfl
theorem zc_ok4 {α : Type} {K : Option α} : zc (0 : Int32) 0 4 4 4 K = K := if_neg (by decide)
theorem change (hS : ST A K.1 (M.1 0)) {m v : Nat} (hm : m < 4) (hv : v ≤ 1) (hne : A.2.1 0 m ≠ v) {x : Int32} (hx : x = nI (sg (fun j => va_up (inq A) m v j * 2 ^ j) 0 4)) : ∃ (r : Int32) (G' : CS) (M' : MS) (ow : Nat → Nat), fX1_changed (nI m) (nI v) K.1.2.1 = some (r, G') ∧ fX9_shares (mS M 5101 x) = some (r, M') ∧ ST (aG A (va_up (inq A) m v) ow) (sGr K.1 G') (M'.1 0) ∧ Oth M M' := by
  have hq : ∀ j, va_up (inq A) m v j ≤ 1 := fun j => by
    by_cases e : j = m
    · rw [up_s e]; exact hv
    · rw [up_n e]; exact inq_le hS.2.2 j
  have hh : ∀ j, j < 4 → A.2.1 1 j ≤ 4 := fun j hj => (hS.2.2.1 j hj).2.2.1
  have hGC := hS.1.2.1
  have hnar : vp_nar .boolean (nI v) = nI v := by
    have : v = 0 ∨ v = 1 := by omega
    rcases this with rfl | rfl <;> rfl
  have hG : GS (va_up (inq A) m v) (A.2.1 1) (A.2.1 1) K.1.2.1 (sA (wA K.1.2.1 0 (nI m) (nI v)) 2 (va_cpy ((wA K.1.2.1 0 (nI m) (nI v)).1 1) ((wA K.1.2.1 0 (nI m) (nI v)).1 2) 0 0 4)) := by
    refine ⟨fun j hj => ?_, ?_, rfl⟩
    · obtain ⟨g0, g1, g3⟩ := hGC.1 j hj
      have f0 : (wA K.1.2.1 0 (nI m) (nI v)).1 0 = upd (K.1.2.1.1 0) m (nI v) := by rw [wA_1, up_s rfl, nI_clamp (by omega)]
      have f1 : (wA K.1.2.1 0 (nI m) (nI v)).1 1 = K.1.2.1.1 1 := by rw [wA_1, up_n (by omega)]
      rw [sA_1, up_n (show ¬ 0 = 2 by omega), up_n (show ¬ 1 = 2 by omega), up_s rfl, pk_cpy_in (by omega) (by omega), f0, f1, Nat.sub_zero, Nat.zero_add]
      refine ⟨?_, g1, g1⟩
      by_cases e : j = m
      · rw [upd_s e, up_s e]
      · rw [upd_n e, up_n e, g0, inq_i hj]
    · rw [sA_1, up_n (by omega), wA_1, up_n (by omega)]
  have hMG : MG (va_up (inq A) m v) (A.2.1 1) (mS M 5101 x) (mS M 5101 x) := by
    refine ⟨fun j hj => ?_, ?_, fun _ _ => rfl, fun _ _ _ => rfl, rfl⟩
    · rw [mS_g, upd_n (by omega)]
      exact (hS.2.1.1 j hj).2.1
    · rw [mS_g, upd_s rfl, hx]
  have hun : fX1_changed (nI m) (nI v) K.1.2.1 = zb (fX1_freeLogsOfAbsent (sA (wA K.1.2.1 0 (nI m) (nI v)) 2 (va_cpy ((wA K.1.2.1 0 (nI m) (nI v)).1 1) ((wA K.1.2.1 0 (nI m) (nI v)).1 2) 0 0 4))) (fun st_5 => zb (fX1_membersIn st_5) (fun r_6 => if r_6 ≤ 0 then (fX1_changed_55 st_5) else (zz r_6 (zb (fX1_freeLogsBeyond ((4 : Int32) / r_6) ((4 : Int32) - (((4 : Int32) / r_6) * r_6)) st_5) (fun st_10 => zb (fX1_giveFreeLogs st_10) (fun st_11 => fX1_changed_55 st_11)))))) := by
    unfold fX1_changed
    rw [zi_ok hm (by omega), zl_d, hnar, zc_ok4, zl_d]
    rfl
  generalize sA (wA K.1.2.1 0 (nI m) (nI v)) 2 (va_cpy ((wA K.1.2.1 0 (nI m) (nI v)).1 1) ((wA K.1.2.1 0 (nI m) (nI v)).1 2) 0 0 4) = G1 at hG hun
  have hfin : ∀ (r : Int32) (G' : CS) (M' : MS) (ow : Nat → Nat), GI (va_up (inq A) m v) (A.2.1 1) K.1.2.1 (mS M 5101 x) ow G' M' → ST (aG A (va_up (inq A) m v) ow) (sGr K.1 G') (M'.1 0) ∧ Oth M M' := by
    intro r G' M' ow hI
    obtain ⟨i1, i2, i3, i4, i5⟩ := hI
    obtain ⟨⟨c1, c2, c3, c4, c5⟩, ⟨m1, m2, m3, m4, m5, m6, m7, m8⟩, ⟨s1, s2, s3, s4, s5, s6, s7, s8⟩⟩ := hS
    have hgo : ∀ j, (∀ m, m < 4 → j ≠ m * 1274 + 1272) → j ≠ 5101 → M'.1 0 j = M.1 0 j := fun j hj hj2 => by
      rw [i3.2.2.1 j hj, mS_g, upd_n hj2]
    refine ⟨⟨⟨c1, ?_, ?_, ?_, fun j hj => ?_⟩, ⟨fun i hi => ⟨?_, ?_, ?_⟩, fun i hi => ?_, ?_, ?_, ?_, fun k hk => ?_, ?_, fun k hk => ?_⟩, ⟨fun i hi => ?_, ?_, ?_, ?_, ?_, ?_, fun k hk => ?_, fun k hk => ?_⟩⟩, ?_⟩
    · refine ⟨fun j hj => ?_, ?_⟩
      · obtain ⟨g0, g1, -⟩ := i2.1 j hj
        rw [aG_0, aG_1, aG_k (by omega)]
        refine ⟨g0, g1, ?_⟩
        show G'.1 3 j = _
        rw [i2.2.1]
        exact (c2.1 j hj).2.2
      · show G'.2 0 = _
        rw [i2.2.2]
        exact c2.2
    · rw [aG_k (by omega), aG_k (by omega), aG_k (by omega)]; exact c3
    · rw [aG_k (by omega), aG_k (by omega), aG_k (by omega)]; exact c4
    · rw [aG_k (by omega)]; exact c5 j hj
    · exact (m1 i hi).1.cg (s1 i hi).1 (fun y hy => hgo _ (fun k hk => by omega) (by omega))
    · rw [aG_1]; exact i3.1 i hi
    · rw [aG_k (by omega), hgo _ (fun k hk => by omega) (by omega)]; exact (m1 i hi).2.2
    · rw [aG_k (by omega), hgo _ (fun k hk => by omega) (by omega)]; exact m2 i hi
    · rw [hgo _ (fun k hk => by omega) (by omega)]; exact m3
    · rw [i3.2.1, imk_sg, aG_0]
    · rw [aG_k (by omega), hgo _ (fun k hk => by omega) (by omega)]; exact m5
    · rw [aG_k (by omega)] at hk
      rw [aG_k (by omega), aG_k (by omega), hgo _ (fun k hk => by omega) (by omega), hgo _ (fun k hk => by omega) (by omega)]; exact m6 k hk
    · rw [aG_k (by omega), hgo _ (fun k hk => by omega) (by omega)]; exact m7
    · rw [aG_k (by omega)] at hk
      rw [aG_k (by omega), aG_k (by omega), hgo _ (fun k hk => by omega) (by omega), hgo _ (fun k hk => by omega) (by omega)]; exact m8 k hk
    · obtain ⟨q1, q2, q3, q4, q5⟩ := s1 i hi
      rw [aG_k (by omega), aG_0, aG_1, aG_k (by omega)]
      exact ⟨q1, hq i, i1 i hi, i5 i hi, q5⟩
    · rw [aG_k (by omega)]; exact s2
    · rw [aG_k (by omega)]; exact s3
    · rw [aG_k (by omega)]; exact s4
    · rw [aG_k (by omega)]; exact s5
    · rw [aG_k (by omega)]; exact s6
    · rw [aG_k (by omega)] at hk
      rw [aG_k (by omega), aG_k (by omega)]; exact s7 k hk
    · rw [aG_k (by omega)] at hk
      rw [aG_k (by omega), aG_k (by omega)]; exact s8 k hk
    · have e := i3.2.2.2.1
      have e2 := i3.2.2.2.2
      exact ⟨by rw [e 2 (by omega) (by omega), mS_k _ _ _ (by omega)], by rw [e 3 (by omega) (by omega), mS_k _ _ _ (by omega)], by rw [e 7 (by omega) (by omega), mS_k _ _ _ (by omega)], by rw [e 8 (by omega) (by omega), mS_k _ _ _ (by omega)], by rw [e 9 (by omega) (by omega), mS_k _ _ _ (by omega)], by rw [e2]; rfl, by rw [e2]; rfl, by rw [e2]; rfl, by rw [e2]; rfl⟩
  obtain ⟨ow1, G2, M2, a1, a2, a3, a4, a5, a6, a7⟩ := sim_absent (G0 := K.1.2.1) (M0 := mS M 5101 x) hq hh 4 FU FU 0 (A.2.1 1) G1 (mS M 5101 x) (by omega) (fu_lt (by omega)) (fu_lt (by omega)) hh hG hMG (fun _ _ _ => rfl) (fun j hj => absurd hj (by omega)) (fun j hj => absurd hj (by omega))
  have hI1 : GI (va_up (inq A) m v) (A.2.1 1) K.1.2.1 (mS M 5101 x) ow1 G2 M2 := ⟨a3, a4, a5, a6, a7⟩
  have hcm := c_members hq (fun j hj => (a4.1 j hj).1)
  have hmm := m_members hq a5.2.1
  have hps := pop_sum hq
  have hp4 := pop_le (sg (fun j => va_up (inq A) m v j * 2 ^ j) 0 4)
  have h55 : ∀ (ow : Nat → Nat) (G' : CS) (M' : MS), GI (va_up (inq A) m v) (A.2.1 1) K.1.2.1 (mS M 5101 x) ow G' M' → ∃ r, fX1_changed_55 G' = some (r, G') ∧ fX9_shares_188 FU 0 0 M' = some (r, M') := by
    intro ow G' M' hI
    obtain ⟨r, r1, r2⟩ := sim_moves hh hI 4 FU FU 0 0 (by omega) (fu_lt (by omega)) (fu_lt (by omega))
    refine ⟨r, ?_, r2⟩
    have r1' : fX1_moves G' = some r := r1
    unfold fX1_changed_55
    rw [r1', zb_s]
  have a1' : fX1_freeLogsOfAbsent G1 = some G2 := a1
  have a2' : fX9_shares (mS M 5101 x) = _ := a2
  rw [hun, a2', a1', zb_s, hcm, hmm, zb_s, zb_s]
  by_cases hz : pop (sg (fun j => va_up (inq A) m v j * 2 ^ j) 0 4) = 0
  · have hno : ∀ j, j < 4 → va_up (inq A) m v j = 0 := by
      intro j hj
      rw [hz] at hps
      rw [sg_4] at hps
      have : j = 0 ∨ j = 1 ∨ j = 2 ∨ j = 3 := by omega
      rcases this with rfl | rfl | rfl | rfl <;> omega
    obtain ⟨M3, b1, b2⟩ := m_nobody hq hno 4 FU 0 ow1 G2 M2 (by omega) (fu_lt (by omega)) hI1
    obtain ⟨r, r1, r2⟩ := h55 _ _ _ b2
    obtain ⟨f1, f2⟩ := hfin r _ _ _ b2
    refine ⟨r, G2, M3, ow1, ?_, ?_, f1, f2⟩
    · rw [hz, if_pos (by decide), r1]
    · rw [hz, if_pos (by decide)]
      unfold fX9_shares_74
      rw [zl_d]
      obtain ⟨n9, hn9⟩ : ∃ n9, FU = n9 + 1 := ⟨9999, rfl⟩
      have : fX9_shares_84 (nI 0) 0 FU (4 - 0 * nI 0) 0 M2 = fX9_shares_148 0 FU 0 M2 := by
        have e : ∀ k, fX9_shares_84 (nI 0) 0 (k + 1) (4 - 0 * nI 0) 0 M2 = fX9_shares_148 0 FU 0 M2 := fun k => by
          rw [fX9_shares_84, if_neg (by decide), if_pos (by decide)]
        have := e n9
        rw [← hn9] at this
        exact this
      rw [this]
      have b1' : fX9_shares_148 0 FU 0 M2 = fX9_shares_188 FU 0 0 M3 := b1
      rw [b1', r2]
  · have hsome : ∃ j, j < 4 ∧ va_up (inq A) m v j = 1 := by
      have q0 := hq 0
      have q1 := hq 1
      have q2 := hq 2
      have q3 := hq 3
      rw [hps] at hz
      rw [sg_4] at hz
      by_cases e0 : va_up (inq A) m v 0 = 1
      · exact ⟨0, by omega, e0⟩
      · by_cases e1 : va_up (inq A) m v 1 = 1
        · exact ⟨1, by omega, e1⟩
        · by_cases e2 : va_up (inq A) m v 2 = 1
          · exact ⟨2, by omega, e2⟩
          · exact ⟨3, by omega, by omega⟩
    generalize pop (sg (fun j => va_up (inq A) m v j * 2 ^ j) 0 4) = y at hz hp4 ⊢
    have hy : y / y = 1 := Nat.div_self (by omega)
    have hsh : 4 / y ≤ 4 := Nat.div_le_self 4 y
    have hmul : 4 / y * y ≤ 4 := Nat.div_mul_le_self 4 y
    obtain ⟨ow2, G3, M3, b1, b2, b3⟩ := sim_beyond (share := 4 / y) (larger := 4 - 4 / y * y) (many := y) hsh (by omega) (by omega) hp4 4 FU FU 0 0 ow1 G2 M2 (by omega) (fu_lt (by omega)) (fu_lt (by omega)) (by omega) hI1
    obtain ⟨ow3, G4, M4, c1, c2, c3⟩ := sim_give hq hsome 4 FU FU 0 ow2 G3 M3 (by omega) (fu_lt (by omega)) (fu_lt (by omega)) b3
    obtain ⟨r, r1, r2⟩ := h55 _ _ _ c3
    obtain ⟨f1, f2⟩ := hfin r _ _ _ c3
    have hdv : (4 : Int32) / nI y = nI (4 / y) := pk_div (a := 4) (by omega) (by omega) (by omega)
    have hsb : (4 : Int32) - nI (4 / y) * nI y = nI (4 - 4 / y * y) := by
      rw [pk_mul]
      exact pk_sub (a := 4) hmul
    have hne : ¬ nI y = 0 := nI_ne0 (by omega) (by omega)
    have b1' : fX1_freeLogsBeyond (nI (4 / y)) (nI (4 - 4 / y * y)) G2 = some G3 := b1
    have c1' : fX1_giveFreeLogs G3 = some G4 := c1
    refine ⟨r, G4, M4, ow3, ?_, ?_, f1, f2⟩
    · rw [if_neg (nI_nle (by omega) (by omega))]
      unfold zz
      rw [if_neg hne, hdv, hsb, b1', zb_s, c1', zb_s, r1]
    · rw [if_neg hne]
      unfold zz fX9_shares_74
      rw [if_neg hne, hdv, hsb, zl_d]
      rw [Nat.sub_zero] at b2
      have b2' : fX9_shares_84 (nI y) (nI (4 / y)) FU (nI (4 - 4 / y * y)) 0 M2 = fX9_shares_148 0 FU 0 M3 := b2
      have c2' : fX9_shares_148 0 FU 0 M3 = fX9_shares_188 FU 0 0 M4 := c2
      rw [b2', c2', r2]
theorem in_bit (hS : ST A K.1 (M.1 0)) {m : Nat} (hm : m < 4) : fX9_isIn (nI m) M = some (if A.2.1 0 m = 1 then 1 else 0) := by
  have h := m_isIn (q := inq A) (M := M) (m := m) (inq_le hS.2.2) (by rw [hS.2.1.2.2.2.1, inq_sg]) hm
  rw [inq_i hm] at h
  exact h
theorem inq_msk (hS : ST A K.1 (M.1 0)) {m v : Nat} (hm : m < 4) : sg (fun j => va_up (inq A) m v j * 2 ^ j) 0 4 + inq A m * 2 ^ m = imk A + v * 2 ^ m := by
  rw [inq_sg, sg2_4, sg2_4]
  have hm4 : m = 0 ∨ m = 1 ∨ m = 2 ∨ m = 3 := by omega
  rcases hm4 with rfl | rfl | rfl | rfl <;> simp [va_up] <;> omega
theorem s_join : S_join Rel := by
  intro a1 K M h
  obtain ⟨A, hS, ht⟩ := h.1
  unfold fX8_join fX9_join
  rw [ck_mem]
  rcases ck_log a1 with ⟨m, hm, rfl, e1, e2⟩ | ⟨e1, e2⟩
  · have hin := (hS.1.2.1.1 m hm).1
    have hle := (hS.2.2.1 m hm).2.1
    have hmk : imk A < 16 := by rw [inq_sg]; exact sg2_lt (inq_le hS.2.2)
    rw [e1, e2, zb_s, zb_s, i10, i10, zi_ok hm (by omega), nI_clamp (by omega : m < 2 ^ 31), hin, in_bit hS hm, zb_s]
    by_cases hq : A.2.1 0 m = 1
    · rw [if_neg (show ¬ nI (A.2.1 0 m) = 0 by rw [hq]; decide), if_pos hq, i10]
      exact ⟨_, K, M, rfl, rfl, h, rfl⟩
    · have h0 : A.2.1 0 m = 0 := by omega
      have hb := set_bit m hm (imk A) hmk (by
        have := msk_bit (q := inq A) (m := m) (inq_le hS.2.2) hm
        rw [← inq_sg, inq_i hm, h0] at this
        exact this)
      have hx := inq_msk hS (v := 1) hm
      rw [inq_i hm, h0] at hx
      obtain ⟨r, G', M', ow, c1, c2, c3, c4⟩ := change hS (m := m) (v := 1) (x := nI (imk A + 2 ^ m)) hm (by omega) (by omega) (by
        congr 1
        omega)
      rw [if_pos (show nI (A.2.1 0 m) = 0 by rw [h0]; rfl), if_neg hq, i00, show (5101 : Int32) = nI 5101 from rfl, zi_ok (by omega) (by omega), zi_ok (by omega) (by omega), zl_d, nI_clamp (by omega), hS.2.1.2.2.2.1, hb, wAm_S _ _ (by omega), c2, zb2_s, show (1 : Int32) = nI 1 from rfl, c1, zb2_s, zl_d]
      exact ⟨r, _, M', rfl, rfl, h.live c3 (by rw [aG_k (by omega)]; exact ht) c4, rfl⟩
  · rw [e1, e2, zb_s, zb_s, i00, i00]
    exact ⟨_, K, M, rfl, rfl, h, rfl⟩
theorem s_leave : S_leave Rel := by
  intro a1 K M h
  obtain ⟨A, hS, ht⟩ := h.1
  unfold fX8_leave fX9_leave
  rw [ck_mem]
  rcases ck_log a1 with ⟨m, hm, rfl, e1, e2⟩ | ⟨e1, e2⟩
  · have hin := (hS.1.2.1.1 m hm).1
    have hle := (hS.2.2.1 m hm).2.1
    have hmk : imk A < 16 := by rw [inq_sg]; exact sg2_lt (inq_le hS.2.2)
    rw [e1, e2, zb_s, zb_s, i10, i10, zi_ok hm (by omega), nI_clamp (by omega : m < 2 ^ 31), hin, in_bit hS hm, zb_s]
    by_cases hq : A.2.1 0 m = 1
    · have hb := clr_bit m hm (imk A) hmk (by
        have := msk_bit (q := inq A) (m := m) (inq_le hS.2.2) hm
        rw [← inq_sg, inq_i hm, hq] at this
        exact this)
      have hx := inq_msk hS (v := 0) hm
      rw [inq_i hm, hq] at hx
      obtain ⟨r, G', M', ow, c1, c2, c3, c4⟩ := change hS (m := m) (v := 0) (x := nI (imk A - 2 ^ m)) hm (by omega) (by omega) (by
        congr 1
        omega)
      rw [if_neg (show ¬ nI (A.2.1 0 m) = 0 by rw [hq]; decide), if_pos hq, i10, show (5101 : Int32) = nI 5101 from rfl, zi_ok (by omega) (by omega), zi_ok (by omega) (by omega), zl_d, nI_clamp (by omega), hS.2.1.2.2.2.1, hb, wAm_S _ _ (by omega), c2, zb2_s, show (0 : Int32) = nI 0 from rfl, c1, zb2_s, zl_d]
      exact ⟨r, _, M', rfl, rfl, h.live c3 (by rw [aG_k (by omega)]; exact ht) c4, rfl⟩
    · rw [if_pos (show nI (A.2.1 0 m) = 0 by rw [show A.2.1 0 m = 0 by omega]; rfl), if_neg hq, i00]
      exact ⟨_, K, M, rfl, rfl, h, rfl⟩
  · rw [e1, e2, zb_s, zb_s, i00, i00]
    exact ⟨_, K, M, rfl, rfl, h, rfl⟩
end GRP3
