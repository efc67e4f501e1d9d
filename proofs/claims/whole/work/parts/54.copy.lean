/-! ===== copies: image, undo, ends ===== -/
section COPY
variable {A : AS} {K : KS} {M : MS}
theorem zc_200 {α : Type} {B : Option α} : zc (0 : Int32) 0 200 200 200 B = B := if_neg (by decide)
theorem zc_201 {α : Type} {B : Option α} : zc (0 : Int32) 0 201 201 201 B = B := if_neg (by decide)
theorem c_copyL (X T : CS) : ∃ T', fX3_copyFrom X T = some T' ∧ ∀ a, CR a X → a.1 6 1 ≤ 201 → CR a T' := by
  have z0 : (0 : Int32).toNatClampNeg = 0 := rfl
  have z2 : (200 : Int32).toNatClampNeg = 200 := by decide
  have z3 : (201 : Int32).toNatClampNeg = 201 := by decide
  unfold fX3_copyFrom
  simp only [zc_200, zc_201, zl_d, z0, z2, z3]
  refine ⟨_, rfl, fun a h hn => ⟨fun o ho => ?_, fun k hk => ?_, ?_, ?_⟩⟩
  · obtain ⟨h0, h1, h2, h3, h4⟩ := h.1 o ho
    simp (disch := omega) only [sF_1, sA_1, up_s, up_n, pk_cpy_in, Nat.sub_zero, Nat.zero_add]
    exact ⟨h0, h1, h2, h3, h4⟩
  · simp (disch := omega) only [sF_1, sA_1, up_s, up_n, pk_cpy_in, Nat.sub_zero, Nat.zero_add]
    exact h.2.1 k hk
  · rw [sF_2, up_n (by omega), sF_2, up_s rfl]
    exact h.2.2.1
  · rw [sF_2, up_s rfl]
    exact h.2.2.2
theorem c_copyG_l {X : CS} (h : GC A X) (hI : SI A) : ∀ (d n o : Nat) (T : CS), o + d = 4 → d < n → (∀ m, m < o → T.1 0 m = nI (A.2.1 0 m)) → ∃ T', fX1_copyFrom_2 X n (nI o) T = some T' ∧ GC A T' := by
  have z0 : (0 : Int32).toNatClampNeg = 0 := rfl
  have z4 : (4 : Int32).toNatClampNeg = 4 := by decide
  intro d
  induction d with
  | zero =>
    intro n o T h1 h2 h3
    obtain ⟨q9, rfl⟩ : ∃ q9, n = q9 + 1 := ⟨n - 1, by omega⟩
    rw [fX1_copyFrom_2, if_pos (show (4 : Int32) ≤ nI o from nI_le (a := 4) (by omega) (by omega))]
    simp only [zc_ok4, zl_d, z0, z4]
    refine ⟨_, rfl, fun m hm => ?_, ?_⟩
    · simp (disch := omega) only [sF_1, sA_1, up_s, up_n, pk_cpy_in, Nat.sub_zero, Nat.zero_add]
      exact ⟨h3 m (by omega), (h.1 m hm).2⟩
    · rw [sF_2, up_s rfl]
      exact h.2
  | succ d ih =>
    intro n o T h1 h2 h3
    obtain ⟨q9, rfl⟩ : ∃ q9, n = q9 + 1 := ⟨n - 1, by omega⟩
    have hnar : vp_nar .boolean (X.1 0 o) = nI (A.2.1 0 o) := by
      have h4 := (hI.1 o (by omega)).2.1
      rw [(h.1 o (by omega)).1]
      have : A.2.1 0 o = 0 ∨ A.2.1 0 o = 1 := by omega
      rcases this with e | e <;> rw [e] <;> rfl
    rw [fX1_copyFrom_2, if_neg (show ¬ (4 : Int32) ≤ nI o from nI_ge (b := 4) (by omega) (by omega)), zi_ok (by omega) (by omega), zi_ok (by omega) (by omega), nI_clamp (by omega), hnar, zl_d, nI_1]
    refine ih q9 (o + 1) _ (by omega) (by omega) (fun m hm => ?_)
    rw [wA_1, up_s rfl, nI_clamp (by omega)]
    by_cases e : m = o
    · rw [upd_s e, e]
    · rw [upd_n e]
      exact h3 m (by omega)
theorem c_copyG {X : CS} (T : CS) (h : GC A X) (hI : SI A) : ∃ T', fX1_copyFrom X T = some T' ∧ GC A T' := c_copyG_l h hI 4 FU 0 T (by omega) (fu_lt (by omega)) (fun i hi => absurd hi (by omega))
theorem c_copyR {f s : Nat → Nat} {n nR : Nat} {X : CS} (T : CS) (h : RC f s n X) (hn : n ≤ nR) (hR : nR < 1000) : ∃ T', fX4_copyFrom nR X T = some T' ∧ RC f s n T' := by
  have z0 : (0 : Int32).toNatClampNeg = 0 := rfl
  have zc_n : ∀ (B : Option CS), zc (0 : Int32) 0 (nI n) nR nR B = B := fun B => by
    unfold zc
    rw [z0, nI_clamp (by omega), if_neg]
    intro q
    rcases q with q | q | q | q | q
    · exact absurd q (by decide)
    · exact absurd q (by decide)
    · exact nI_pos (by omega) q
    · omega
    · omega
  unfold fX4_copyFrom
  rw [h.2, if_neg (nI_nlt hn (by omega)), zl_d]
  have e1 : (sF T 0 (nI n)).2 0 = nI n := by rw [sF_2, up_s rfl]
  simp only [e1, sA_2, zc_n, zl_d, z0, nI_clamp (show n < 2 ^ 31 by omega)]
  refine ⟨_, rfl, fun k hk => ?_, ?_⟩
  · simp (disch := omega) only [sF_1, sA_1, up_s, up_n, pk_cpy_in, Nat.sub_zero, Nat.zero_add]
    exact h.1 k hk
  · rw [sA_2, sA_2, e1]
theorem c_copy_l {S : SS} (h : CSt A S) (hI : SI A) : ∀ (d n o : Nat) (T : SS), o + d = 4 → d < n → (∀ i, i < o → CR (A.1 i) (T.1 i)) → ∃ T', fX5_copyFrom_2 S n (nI o) T = some T' ∧ CSt A T' := by
  intro d
  induction d with
  | zero =>
    intro n o T h1 h2 h3
    obtain ⟨q9, rfl⟩ : ∃ q9, n = q9 + 1 := ⟨n - 1, by omega⟩
    obtain ⟨G, g1, g2⟩ := c_copyG T.2.1 h.2.1 hI
    obtain ⟨P, p1, p2⟩ := c_copyR (nR := 10) T.2.2.1 h.2.2.1 hI.2.2.2.2.1 (by omega)
    obtain ⟨B, b1, b2⟩ := c_copyR (nR := 8) T.2.2.2.1 h.2.2.2.1 hI.2.2.2.2.2.1 (by omega)
    refine ⟨(T.1, G, P, B, va_up (va_up (va_up (va_up T.2.2.2.2 0 (S.2.2.2.2 0)) 1 (S.2.2.2.2 1)) 2 (S.2.2.2.2 2)) 3 (S.2.2.2.2 3)), ?_, fun i hi => h3 i (by omega), g2, p2, b2, fun j hj => ?_⟩
    · rw [fX5_copyFrom_2, if_pos (show (4 : Int32) ≤ nI o from nI_le (a := 4) (by omega) (by omega)), g1, zb_s, zl_d]
      show zb (fX4_copyFrom 10 S.2.2.1 T.2.2.1) _ = _
      rw [p1, zb_s, zl_d]
      show zb (fX4_copyFrom 8 S.2.2.2.1 T.2.2.2.1) _ = _
      rw [b1, zb_s, zl_d, zl_d, zl_d, zl_d, zl_d]
      rfl
    · have h4 := h.2.2.2.2 j hj
      show va_up (va_up (va_up (va_up T.2.2.2.2 0 (S.2.2.2.2 0)) 1 (S.2.2.2.2 1)) 2 (S.2.2.2.2 2)) 3 (S.2.2.2.2 3) j = _
      have hj4 : j = 0 ∨ j = 1 ∨ j = 2 ∨ j = 3 := by omega
      rcases hj4 with rfl | rfl | rfl | rfl <;> simp (disch := omega) only [up_s, up_n] <;> exact h4
  | succ d ih =>
    intro n o T h1 h2 h3
    obtain ⟨q9, rfl⟩ : ∃ q9, n = q9 + 1 := ⟨n - 1, by omega⟩
    obtain ⟨L, l1, l2⟩ := c_copyL (S.1 o) (T.1 o)
    rw [fX5_copyFrom_2, if_neg (show ¬ (4 : Int32) ≤ nI o from nI_ge (b := 4) (by omega) (by omega)), zi_ok (by omega) (by omega), zi_ok (by omega) (by omega), nI_clamp (by omega), l1, zb_s, zl_d, nI_1]
    refine ih q9 (o + 1) _ (by omega) (by omega) (fun i hi => ?_)
    show CR (A.1 i) (va_up T.1 o L i)
    by_cases e : i = o
    · rw [up_s e, e]
      exact l2 _ (h.1 o (by omega)) (by have := (hI.1 o (by omega)).1.few; omega)
    · rw [up_n e]
      exact h3 i (by omega)
theorem c_copy {S : SS} (h : CSt A S) (hI : SI A) (T : SS) : ∃ T', fX5_copyFrom S T = some T' ∧ CSt A T' := c_copy_l h hI 4 FU 0 T (by omega) (fu_lt (by omega)) (fun i hi => absurd hi (by omega))
theorem s_image : S_image Rel := by
  intro K M h
  obtain ⟨A, hS, ht⟩ := h.1
  obtain ⟨T', c1, c2⟩ := c_copy hS.1 hS.2.2 (K.2.2.2.2.1.getD st0)
  obtain ⟨M1, m1, m2, m3, m4⟩ := m_copy 0 2 (by omega) M
  have hS1 : ST A K.1 ((sFm M1 0 1).1 0) := by rw [sFm_1, m3 0 (by omega)]; exact hS
  obtain ⟨r, r1, r2⟩ := recs (M := sFm M1 0 1) hS1
  refine ⟨r, kTk K (some T'), sFm M1 0 1, ?_, ?_, ⟨⟨A, hS1, ht⟩, ?_, ?_, ?_, ?_⟩⟩
  · unfold fX8_image
    rw [c1, zb_s, r1, zb_s]
  · unfold fX9_image
    rw [m1, zb_s, zl_d, r2, zb_s]
  · obtain ⟨n, f, k1, k2, k3, k4⟩ := h.2.1
    exact ⟨n, f, k1, k2, by rw [sFm_21, up_n (by omega), m2]; exact k3, by rw [sFm_1, m3 3 (by omega)]; exact k4⟩
  · obtain ⟨n, f, k1, k2, k3, k4⟩ := h.2.2.1
    exact ⟨n, f, k1, k2, by rw [sFm_21, up_n (by omega), m2]; exact k3, by rw [sFm_1, m3 7 (by omega)]; exact k4⟩
  · intro t ht
    obtain ⟨z, n, k1, k2, k3, k4, k5, k6, k7, k8⟩ := h.2.2.2.1 t ht
    exact ⟨z, n, k1, k2, k3, k4, by rw [sFm_1, m3 8 (by omega)]; exact k5, k6, by rw [sFm_1, m3 9 (by omega)]; exact k7, by rw [sFm_22, m2]; exact k8⟩
  · refine Or.inr ⟨T', rfl, by rw [sFm_21, up_s rfl], A, ⟨c2, ?_, hS.2.2⟩, ht⟩
    exact hS.2.1.cg hS.2.2 (fun j hj => by rw [sFm_1]; exact m4 j hj)
theorem s_undo : S_undo Rel := by
  intro K M h
  unfold fX8_undo fX9_undo
  rcases h.2.2.2.2 with ⟨i1, i2⟩ | ⟨S, i1, i2, B, i3, i4⟩
  · rw [i1, i2, if_pos rfl]
    exact ⟨_, K, M, rfl, rfl, h, rfl⟩
  · obtain ⟨T', c1, c2⟩ := c_copy i3.1 i3.2.2 K.1
    obtain ⟨M1, m1, m2, m3, m4⟩ := m_copy 2 0 (by omega) M
    have hx : FX0 M M1 := ⟨m3, m2⟩
    have hS1 : ST B T' (M1.1 0) := ⟨c2, i3.2.1.cg i3.2.2 m4, i3.2.2⟩
    obtain ⟨r, r1, r2⟩ := recs hS1
    rw [i1, i2, if_neg (show ¬ (1 : Int32) = 0 by decide), m1, zb_s, r2, zb_s]
    refine ⟨r, kLv K T', M1, ?_, rfl, h.live hS1 i4 hx.oth, rfl⟩
    show zb (fX5_copyFrom S K.1) _ = _
    rw [c1, zb_s, zl_d]
    show zb (fX5_records T') _ = _
    rw [r1, zb_s]
/-- one who isn't in has no logs -/
theorem c_poll_out {S : SS} {g : Nat → Int32} (hS : ST A S g) {m : Nat} (hm : m < 4) (hq : A.2.1 0 m ≠ 1) : ∀ (d n o : Nat), o + d = 4 → d < n → fX1_polled_2 S.1 (nI m) n (nI o) S.2.1 = some (-5, S.2.1) := by
  intro d
  induction d with
  | zero =>
    intro n o h1 h2
    obtain ⟨q9, rfl⟩ : ∃ q9, n = q9 + 1 := ⟨n - 1, by omega⟩
    rw [fX1_polled_2, if_pos (show (4 : Int32) ≤ nI o from nI_le (a := 4) (by omega) (by omega))]
  | succ d ih =>
    intro n o h1 h2
    obtain ⟨q9, rfl⟩ : ∃ q9, n = q9 + 1 := ⟨n - 1, by omega⟩
    obtain ⟨-, -, s3, s4, -⟩ := hS.2.2.1 o (by omega)
    have ho1 := (hS.1.2.1.1 o (by omega)).2.1
    have hx : ¬ A.2.1 1 o = m + 1 := fun e => hq (by
      have := s4 (by omega)
      rw [e] at this
      exact this)
    rw [fX1_polled_2, if_neg (show ¬ (4 : Int32) ≤ nI o from nI_ge (b := 4) (by omega) (by omega)), zi_ok (by omega) (by omega), nI_clamp (by omega), ho1, if_neg (fun e => hx ((cd5_eq (by omega) (by omega)).mp e))]
    unfold fX1_polled_34
    rw [if_pos (by decide), nI_1, ih _ _ (by omega) (by omega)]
theorem sim_follow {S : SS} (hS : ST A S (M.1 0)) (ht : A.2.1 7 0 + 99 < 100000) {x y : Nat} (hx : x ≤ 3) (hy : y ≤ 99) (hxy : x < 3 → y < 4) : ∃ (A' : AS) (S' : SS) (M' : MS), fX5_follow (nI x) (nI y) S = some S' ∧ fX9_does (nI x) (nI y) M = some M' ∧ ST A' S' (M'.1 0) ∧ FX0 M M' ∧ A'.2.1 3 = A.2.1 3 ∧ A'.2.1 4 = A.2.1 4 ∧ A'.2.1 7 4 = A.2.1 7 4 ∧ A'.2.1 7 0 ≤ A.2.1 7 0 + 99 := by
  have hbd := hS.b
  unfold fX5_follow fX9_does
  have hx4 : x = 0 ∨ x = 1 ∨ x = 2 ∨ x = 3 := by omega
  rcases hx4 with rfl | rfl | rfl | rfl
  · have hi := hxy (by omega)
    obtain ⟨a', L', M', c1, c2, c3, c4, c5, c6, c7⟩ := compacted_eq (gr := A.2.1 7 1) hi (hS.c hi) (hS.m hi) (hS.ai hi) (by omega) hS.g.1 hS.g.2.1
    refine ⟨aL A y a', sLg S y L', M', ?_, ?_, hS.log hi c3 c4 c5 c6 (by omega), c6.x, rfl, rfl, rfl, Nat.le_add_right _ _⟩
    · rw [if_pos (show nI 0 = (0 : Int32) from rfl), zi_ok hi (by omega), nI_clamp (by omega), hS.w.1, hS.w.2.1, c1, zb2_s, zl_d]
    · rw [if_pos (show nI 0 = (0 : Int32) from rfl), c2, zb2_s]
  · have hi := hxy (by omega)
    obtain ⟨L', c1, c2⟩ := c_ret (kp := A.2.1 7 2) (ag := A.2.1 7 3) (hS.c hi) (hS.ai hi) (by omega) (by omega)
    obtain ⟨M', d1, d2, d3⟩ := m_ret (kp := A.2.1 7 2) (ag := A.2.1 7 3) hi (hS.m hi) (hS.ai hi) (by omega) (by omega) hS.g.1 hS.g.2.2.2 hS.g.2.2.1
    refine ⟨aL A y _, sLg S y L', M', ?_, ?_, hS.log hi c2 d2 (rt_I (hS.ai hi) (gN_lt (hS.ai hi))) d3 (by rw [rt_end]; omega), d3.x, rfl, rfl, rfl, Nat.le_add_right _ _⟩
    · rw [if_neg (show ¬ nI 1 = (0 : Int32) by decide), if_pos (show nI 1 = (1 : Int32) from rfl), zi_ok hi (by omega), nI_clamp (by omega), hS.w.1, hS.w.2.2.1, hS.w.2.2.2, c1, zb2_s, zl_d]
    · rw [if_neg (show ¬ nI 1 = (0 : Int32) by decide), if_pos (show nI 1 = (1 : Int32) from rfl), d1, zb2_s]
  · have hi := hxy (by omega)
    rw [if_neg (show ¬ nI 2 = (0 : Int32) by decide), if_neg (show ¬ nI 2 = (1 : Int32) by decide), if_pos (show nI 2 = (2 : Int32) from rfl), if_neg (show ¬ nI 2 = (0 : Int32) by decide), if_neg (show ¬ nI 2 = (1 : Int32) by decide), if_neg (show ¬ nI 2 = (3 : Int32) by decide)]
    have hin : fX9_isIn (nI y) M = some (if A.2.1 0 y = 1 then 1 else 0) := by
      have h := m_isIn (q := inq A) (M := M) (m := y) (inq_le hS.2.2) (by rw [hS.2.1.2.2.2.1, inq_sg]) hi
      rw [inq_i hi] at h
      exact h
    rw [hin, zb_s]
    by_cases hq : A.2.1 0 y = 1
    · obtain ⟨r, A', G', M', c1, c2, c3, c4, c5⟩ := polled_eq hS hi
      rw [if_pos hq, i10, c1, c2, zb2_s, zb2_s, zl_d]
      exact ⟨A', _, M', rfl, rfl, c3, c4, c5 3 (by omega), c5 4 (by omega), by rw [c5 7 (by omega)], by rw [c5 7 (by omega)]; omega⟩
    · have hp : fX1_polled (nI y) S.1 S.2.1 = some (-5, S.2.1) := c_poll_out hS hi hq 4 FU 0 (by omega) (fu_lt (by omega))
      rw [if_neg hq, i00, hp, zb2_s, zl_d]
      exact ⟨A, _, M, rfl, rfl, hS, FX0.rf, rfl, rfl, rfl, Nat.le_add_right _ _⟩
  · rw [if_neg (show ¬ nI 3 = (0 : Int32) by decide), if_neg (show ¬ nI 3 = (1 : Int32) by decide), if_neg (show ¬ nI 3 = (2 : Int32) by decide), if_neg (show ¬ nI 3 = (0 : Int32) by decide), if_neg (show ¬ nI 3 = (1 : Int32) by decide), if_pos (show nI 3 = (3 : Int32) from rfl), zl_d, hS.w.1, show (5096 : Int32) = nI 5096 from rfl, zi_ok (by omega) (by omega), zi_ok (by omega) (by omega), zl_d, nI_clamp (by omega), hS.g.1, nI_add, wAm_S _ _ (by omega)]
    exact ⟨aN A 7 0 (A.2.1 7 0 + y), _, _, rfl, rfl, hS.num (j := 0) (v := A.2.1 7 0 + y) (by omega) (by omega) (by omega) (by omega) (by omega), FX0.S, funext fun j => aN_n (by omega), funext fun j => aN_n (by omega), aN_n (by omega), by rw [aN_s ⟨rfl, rfl⟩]; omega⟩
/-- how an end of the trial is told -/
def endv (x : Int32) (M : MS) : Option (Int32 × MS) := if x = 0 then (zb (fX9_allLogs M) (fun r_9 => fX9_ends_91 r_9 M)) else (zi (5100 : Int32) 5140 (fX9_ends_91 (M.1 0 (5100 : Int32).toNatClampNeg) M))
theorem sim_plan {f s : Nat → Nat} {n : Nat} {M1 : MS} (hn : n ≤ 10) (hf : ∀ k, k < n → f k ≤ 3 ∧ s k ≤ 99 ∧ (f k < 3 → s k < 4)) (hg : M1.1 1 5102 = nI n ∧ ∀ k, k < n → M1.1 1 (5103 + 2 * k) = nI (f k) ∧ M1.1 1 (5103 + 2 * k + 1) = nI (s k)) (x : Int32) : ∀ (d n1 n2 o : Nat) (A : AS) (S : SS) (M : MS), o + d = n → d < n1 → d < n2 → ST A S (M.1 0) → FX0 M1 M → A.2.1 3 = f → A.2.1 4 = s → A.2.1 7 4 = n → A.2.1 7 0 ≤ 9999 + 99 * o → ∃ (A' : AS) (S' : SS) (M' : MS), fX5_followPlan_2 n1 (nI o) S = some S' ∧ fX9_ends_24 x n2 (nI o) M = endv x M' ∧ ST A' S' (M'.1 0) ∧ FX0 M1 M' := by
  intro d
  induction d with
  | zero =>
    intro n1 n2 o A S M h1 h2 h3 hS hF e3 e4 e7 ht
    obtain ⟨m1, rfl⟩ : ∃ m, n1 = m + 1 := ⟨n1 - 1, by omega⟩
    obtain ⟨m2, rfl⟩ : ∃ m, n2 = m + 1 := ⟨n2 - 1, by omega⟩
    refine ⟨A, S, M, ?_, ?_, hS, hF⟩
    · rw [fX5_followPlan_2, hS.1.2.2.1.2, e7, if_pos (nI_le (by omega) (by omega))]
    · rw [fX9_ends_24, show (5102 : Int32) = nI 5102 from rfl, zi_ok (by omega) (by omega), nI_clamp (by omega), hF.1 1 (by omega), hg.1, if_pos (nI_le (by omega) (by omega))]
      rfl
  | succ d ih =>
    intro n1 n2 o A S M h1 h2 h3 hS hF e3 e4 e7 ht
    obtain ⟨m1, rfl⟩ : ∃ m, n1 = m + 1 := ⟨n1 - 1, by omega⟩
    obtain ⟨m2, rfl⟩ : ∃ m, n2 = m + 1 := ⟨n2 - 1, by omega⟩
    obtain ⟨f1, f2, f3⟩ := hf o (by omega)
    obtain ⟨g1, g2⟩ := hg.2 o (by omega)
    obtain ⟨p1, p2⟩ := hS.1.2.2.1.1 o (by omega)
    rw [e3] at p1
    rw [e4] at p2
    obtain ⟨A', S', M', c1, c2, c3, c4, c5, c6, c7, c8⟩ := sim_follow hS (by omega) f1 f2 f3
    rw [fX5_followPlan_2, hS.1.2.2.1.2, e7, if_neg (nI_ge (by omega) (by omega)), zi_ok (by omega) (by omega), zi_ok (by omega) (by omega), nI_clamp (by omega), p1, p2, c1, zb_s, fX9_ends_24, show (5102 : Int32) = nI 5102 from rfl, zi_ok (by omega) (by omega), nI_clamp (by omega), hF.1 1 (by omega), hg.1, if_neg (nI_ge (by omega) (by omega)), show (5103 : Int32) = nI 5103 from rfl, show (2 : Int32) = nI 2 from rfl, pk_mul, nI_add, nI_1, nI_1, zi_ok (by omega) (by omega), zi_ok (by omega) (by omega), nI_clamp (by omega), nI_clamp (by omega), g1, g2, c2, zb_s]
    exact ih m1 m2 (o + 1) A' S' M' (by omega) (by omega) (by omega) c3 (hF.tr c4) (by rw [c5, e3]) (by rw [c6, e4]) (by rw [c7, e7]) (by omega)
theorem s_ends : S_ends Rel := by
  intro a1 K M h
  obtain ⟨A, hS, ht⟩ := h.1
  have hbd := hS.b
  unfold fX8_ends fX9_ends
  rcases rg a1 1 (by omega) with ⟨k, hk, rfl⟩ | hs | ⟨h0, hs, hs2, -, -⟩
  · obtain ⟨T', c1, c2⟩ := c_copy hS.1 hS.2.2 (K.2.2.2.2.2.getD st0)
    obtain ⟨M1, s1, s2, s3⟩ := save M
    have hS1 : ST A T' (M1.1 0) := ⟨c2, by rw [s2]; exact hS.2.1, hS.2.2⟩
    obtain ⟨A', S', M2, p1, p2, p3, p4⟩ := sim_plan (f := A.2.1 3) (s := A.2.1 4) (n := A.2.1 7 4) (M1 := M1) (by omega) hS.2.2.2.2.2.2.2.2.1 ⟨by rw [s3.2 _ (by omega)]; exact hS.2.1.2.2.2.2.1, fun k hk => by rw [s3.2 _ (by omega), s3.2 _ (by omega)]; exact hS.2.1.2.2.2.2.2.1 k hk⟩ (nI k) (A.2.1 7 4) FU FU 0 A T' M1 (by omega) (fu_lt (by omega)) (fu_lt (by omega)) hS1 FX0.rf rfl rfl rfl (by omega)
    have p1' : fX5_followPlan T' = some S' := p1
    have p2' : fX9_ends_24 (nI k) FU 0 M1 = endv (nI k) M2 := p2
    obtain ⟨M3, b1, b2, b3⟩ := back s3 p4
    obtain ⟨r, r1, r2⟩ := recs p3
    have hin : fX9_in (nI k) 0 1 = some 1 := in_ok (n := 1) hk (by omega)
    rw [if_neg (nI_pos (by omega)), if_pos (show nI k ≤ (1 : Int32) from nI_le (b := 1) hk (by omega)), hin, zb_s, i10, c1, zb_s, p1', zb_s, s1, zb_s, p2']
    unfold endv fX9_ends_91
    have hk2 : k = 0 ∨ k = 1 := by omega
    rcases hk2 with rfl | rfl
    · rw [if_pos (show nI 0 = (0 : Int32) from rfl), if_pos (show nI 0 = (0 : Int32) from rfl), r1, r2, zb_s, zb_s, b1, zb_s]
      exact ⟨r, kTr K (some S'), M3, rfl, rfl, h.same (hS.cg b3) ht b2.1⟩
    · rw [if_neg (show ¬ nI 1 = (0 : Int32) by decide), if_neg (show ¬ nI 1 = (0 : Int32) by decide), show (5100 : Int32) = nI 5100 from rfl, zi_ok (by omega) (by omega), nI_clamp (by omega), b1, zb_s, p3.1.2.1.2, p3.2.1.2.2.1]
      exact ⟨_, kTr K (some S'), M3, rfl, rfl, h.same (hS.cg b3) ht b2.1⟩
  · rw [if_pos hs, in_lo hs, zb_s, i00]
    exact ⟨_, K, M, rfl, rfl, h⟩
  · rw [if_neg h0, if_neg (show ¬ a1 ≤ 1 from hs2), in_hi (show (1 : Int32) < a1 from hs), zb_s, i00]
    exact ⟨_, K, M, rfl, rfl, h⟩
end COPY
