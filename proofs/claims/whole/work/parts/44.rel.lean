/-! ===== the store on both sides, and the relation ===== -/
/-- A.1 i: the log i; A.2.1 0 m: in or not; 1 i: whose the log is (0 none); 2 i: done; 3, 4: the plan's rows; 5, 6: the book's rows; 7: time, grace, keep, age, plan's size, book's size; A.2.2: reads -/
abbrev AS : Type := (Nat → AB) × (Nat → Nat → Nat) × Int32
def aL (A : AS) (i : Nat) (a : AB) : AS := (va_up A.1 i a, A.2)
def aN (A : AS) (k j v : Nat) : AS := (A.1, va_up A.2.1 k (va_up (A.2.1 k) j v), A.2.2)
def aR (A : AS) (r : Int32) : AS := (A.1, A.2.1, r)
theorem aN_s {A : AS} {k j v k' j' : Nat} (h : k' = k ∧ j' = j) : (aN A k j v).2.1 k' j' = v := by
  obtain ⟨rfl, rfl⟩ := h
  simp [aN, va_up]
theorem aN_n {A : AS} {k j v k' j' : Nat} (h : ¬ (k' = k ∧ j' = j)) : (aN A k j v).2.1 k' j' = A.2.1 k' j' := by
  unfold aN va_up
  by_cases h1 : k' = k
  · have h2 : ¬ j' = j := fun h2 => h ⟨h1, h2⟩
    simp [h1, h2]
  · simp [h1]
theorem aN_1 (A : AS) (k j v : Nat) : (aN A k j v).1 = A.1 := Eq.trans rfl rfl
theorem aN_2 (A : AS) (k j v : Nat) : (aN A k j v).2.2 = A.2.2 := Eq.trans rfl rfl
def GC (A : AS) (G : CS) : Prop := (∀ m, m < 4 → G.1 0 m = nI (A.2.1 0 m) ∧ G.1 1 m = cd5 (A.2.1 1 m) ∧ G.1 3 m = nI (A.2.1 2 m)) ∧ G.2 0 = A.2.2
def RC (f s : Nat → Nat) (n : Nat) (R : CS) : Prop := (∀ k, k < n → R.1 0 k = nI (f k) ∧ R.1 1 k = nI (s k)) ∧ R.2 0 = nI n
def CSt (A : AS) (S : SS) : Prop := (∀ i, i < 4 → CR (A.1 i) (S.1 i)) ∧ GC A S.2.1 ∧ RC (A.2.1 3) (A.2.1 4) (A.2.1 7 4) S.2.2.1 ∧ RC (A.2.1 5) (A.2.1 6) (A.2.1 7 5) S.2.2.2.1 ∧ ∀ j, j < 4 → S.2.2.2.2 j = nI (A.2.1 7 j)
def imk (A : AS) : Nat := A.2.1 0 0 + 2 * A.2.1 0 1 + 4 * A.2.1 0 2 + 8 * A.2.1 0 3
def MSt (A : AS) (g : Nat → Int32) : Prop :=
  (∀ i, i < 4 → MR (A.1 i) g (i * 1274) ∧ g (i * 1274 + 1272) = cd1 (A.2.1 1 i) ∧ g (i * 1274 + 1273) = nI (A.2.1 2 i)) ∧
  (∀ j, j < 4 → g (5096 + j) = nI (A.2.1 7 j)) ∧ g 5100 = A.2.2 ∧ g 5101 = nI (imk A) ∧
  g 5102 = nI (A.2.1 7 4) ∧ (∀ k, k < A.2.1 7 4 → g (5103 + 2 * k) = nI (A.2.1 3 k) ∧ g (5103 + 2 * k + 1) = nI (A.2.1 4 k)) ∧
  g 5123 = nI (A.2.1 7 5) ∧ (∀ k, k < A.2.1 7 5 → g (5124 + 2 * k) = nI (A.2.1 5 k) ∧ g (5124 + 2 * k + 1) = nI (A.2.1 6 k))
def SI (A : AS) : Prop :=
  (∀ i, i < 4 → AI (A.1 i) (A.2.1 7 0) ∧ A.2.1 0 i ≤ 1 ∧ A.2.1 1 i ≤ 4 ∧ (A.2.1 1 i ≠ 0 → A.2.1 0 (A.2.1 1 i - 1) = 1) ∧ A.2.1 2 i ≤ (A.1 i).1 6 0) ∧
  A.2.1 7 1 ≤ 99 ∧ A.2.1 7 2 ≤ 999 ∧ A.2.1 7 3 ≤ 999 ∧ A.2.1 7 4 ≤ 10 ∧ A.2.1 7 5 ≤ 8 ∧
  (∀ k, k < A.2.1 7 4 → A.2.1 3 k ≤ 3 ∧ A.2.1 4 k ≤ 99 ∧ (A.2.1 3 k < 3 → A.2.1 4 k < 4)) ∧
  (∀ k, k < A.2.1 7 5 → A.2.1 5 k < 4 ∧ A.2.1 6 k ≤ 200)
def ST (A : AS) (S : SS) (g : Nat → Int32) : Prop := CSt A S ∧ MSt A g ∧ SI A
def TXr (K : CS) (M : MS) : Prop := ∃ (n : Nat) (t : Nat → Nat), n ≤ 100 ∧ K.2 0 = nI n ∧ M.2.1 1 = nI n ∧ ∀ k, k < n → K.1 0 k = nI (t k) ∧ M.1 3 k = nI (t k) ∧ t k ≤ 127
def KPr (K : CS) (M : MS) : Prop := ∃ (n : Nat) (f : Nat → Nat), n ≤ 60 ∧ K.2 0 = nI n ∧ M.2.1 2 = nI n ∧ ∀ k, k < n → M.1 7 (4 * k) = K.1 0 k ∧ M.1 7 (4 * k + 1) = K.1 1 k ∧ (f k = 1 ∨ f k = 2) ∧ K.1 2 k = nI (f k) ∧ M.1 7 (4 * k + 2) = nI (f k - 1) ∧ M.1 7 (4 * k + 3) = K.1 3 k
def TP1 (T : TS) (M : MS) (t z n : Nat) : Prop := z ≤ 5 ∧ n ≤ 60 ∧ (z = 0 → n = 0) ∧ T.2 0 = cd1 z ∧ M.1 8 t = cd1 z ∧ T.2 1 = nI n ∧ M.1 9 t = nI n ∧ ∀ j, j < n → M.2.2 t j = T.1 j
def TPr (T : Nat → TS) (M : MS) : Prop := ∀ t, t < 6 → ∃ z n : Nat, TP1 (T t) M t z n
def IMr (o : Option SS) (M : MS) : Prop := (o = none ∧ M.2.1 0 = 0) ∨ ∃ S, o = some S ∧ M.2.1 0 = 1 ∧ ∃ B, ST B S (M.1 2) ∧ B.2.1 7 0 ≤ 9999
def Rel (K : KS) (M : MS) : Prop := (∃ A, ST A K.1 (M.1 0) ∧ A.2.1 7 0 ≤ 9999) ∧ TXr K.2.1 M ∧ KPr K.2.2.1 M ∧ TPr K.2.2.2.1 M ∧ IMr K.2.2.2.2.1 M
/-- what but the live store a call leaves as it was -/
def Oth (M M' : MS) : Prop := M'.1 2 = M.1 2 ∧ M'.1 3 = M.1 3 ∧ M'.1 7 = M.1 7 ∧ M'.1 8 = M.1 8 ∧ M'.1 9 = M.1 9 ∧ M'.2.1 0 = M.2.1 0 ∧ M'.2.1 1 = M.2.1 1 ∧ M'.2.1 2 = M.2.1 2 ∧ M'.2.2 = M.2.2
theorem Oth.rf {M : MS} : Oth M M := ⟨rfl, rfl, rfl, rfl, rfl, rfl, rfl, rfl, rfl⟩
theorem Oth.tr {M M1 M2 : MS} (h : Oth M M1) (k : Oth M1 M2) : Oth M M2 := by
  obtain ⟨a1, a2, a3, a4, a5, a6, a7, a8, a9⟩ := h
  obtain ⟨b1, b2, b3, b4, b5, b6, b7, b8, b9⟩ := k
  exact ⟨b1.trans a1, b2.trans a2, b3.trans a3, b4.trans a4, b5.trans a5, b6.trans a6, b7.trans a7, b8.trans a8, b9.trans a9⟩
theorem Fm.oth {M M' : MS} {b : Nat} (h : Fm M M' b) : Oth M M' := ⟨h.1 2 (by omega), h.1 3 (by omega), h.1 7 (by omega), h.1 8 (by omega), h.1 9 (by omega), by rw [h.2.1], by rw [h.2.1], by rw [h.2.1], by rw [h.2.1]⟩
theorem F5.oth {M M' : MS} (h : F5 M M') : Oth M M' := ⟨h.1 2 (by omega), h.1 3 (by omega), h.1 7 (by omega), h.1 8 (by omega), h.1 9 (by omega), by rw [h.2], by rw [h.2], by rw [h.2], by rw [h.2]⟩
theorem Oth.S {M M' : MS} {j : Nat} {v : Int32} (h : Oth M M') : Oth M (mS M' j v) := by
  refine h.tr ⟨mS_k _ _ _ (by omega), mS_k _ _ _ (by omega), mS_k _ _ _ (by omega), mS_k _ _ _ (by omega), mS_k _ _ _ (by omega), rfl, rfl, rfl, rfl⟩
theorem TXr.cg {K : CS} {M M' : MS} (h : TXr K M) (o : Oth M M') : TXr K M' := by
  obtain ⟨n, t, h1, h2, h3, h4⟩ := h
  exact ⟨n, t, h1, h2, by rw [o.2.2.2.2.2.2.1]; exact h3, by rw [o.2.1]; exact h4⟩
theorem KPr.cg {K : CS} {M M' : MS} (h : KPr K M) (o : Oth M M') : KPr K M' := by
  obtain ⟨n, f, h1, h2, h3, h4⟩ := h
  exact ⟨n, f, h1, h2, by rw [o.2.2.2.2.2.2.2.1]; exact h3, by rw [o.2.2.1]; exact h4⟩
theorem TP1.cg {T : TS} {M M' : MS} {t z n : Nat} (h : TP1 T M t z n) (o : Oth M M') : TP1 T M' t z n := by
  obtain ⟨h1, h2, h3, h4, h5, h6, h7, h8⟩ := h
  exact ⟨h1, h2, h3, h4, by rw [o.2.2.2.1]; exact h5, h6, by rw [o.2.2.2.2.1]; exact h7, by rw [o.2.2.2.2.2.2.2.2]; exact h8⟩
theorem TPr.cg {T : Nat → TS} {M M' : MS} (h : TPr T M) (o : Oth M M') : TPr T M' := fun t ht => by
  obtain ⟨z, n, k⟩ := h t ht
  exact ⟨z, n, k.cg o⟩
theorem IMr.cg {o : Option SS} {M M' : MS} (h : IMr o M) (q : Oth M M') : IMr o M' := by
  rcases h with ⟨h1, h2⟩ | ⟨S, h1, h2, h3⟩
  · exact Or.inl ⟨h1, by rw [q.2.2.2.2.2.1]; exact h2⟩
  · exact Or.inr ⟨S, h1, by rw [q.2.2.2.2.2.1]; exact h2, by rw [q.1]; exact h3⟩
theorem Rel.live {K : KS} {M M' : MS} {A' : AS} {S' : SS} (h : Rel K M) (hS : ST A' S' (M'.1 0)) (ht : A'.2.1 7 0 ≤ 9999) (o : Oth M M') : Rel (kLv K S') M' := ⟨⟨A', hS, ht⟩, h.2.1.cg o, h.2.2.1.cg o, h.2.2.2.1.cg o, h.2.2.2.2.cg o⟩
theorem Rel.same {K : KS} {M M' : MS} (h : Rel K M) {A : AS} (hS : ST A K.1 (M'.1 0)) (ht : A.2.1 7 0 ≤ 9999) (o : Oth M M') : Rel K M' := ⟨⟨A, hS, ht⟩, h.2.1.cg o, h.2.2.1.cg o, h.2.2.2.1.cg o, h.2.2.2.2.cg o⟩
theorem MR.cg {a : AB} {g g' : Nat → Int32} {b w : Nat} (h : MR a g b) (hA : AI a w) (e : ∀ x, x < 1272 → g' (b + x) = g (b + x)) : MR a g' b := by
  have hf := hA.few
  refine ⟨fun o ho => ?_, fun k hk => ?_, ?_, ?_⟩
  · rw [e o (by omega), e (200 + o) (by omega), e (400 + o) (by omega), e (600 + o) (by omega), e (800 + o) (by omega), e (1000 + o) (by omega)]
    exact h.1 o ho
  · rw [e (1200 + k) (by omega)]
    exact h.2.1 k hk
  · rw [e 1270 (by omega)]
    exact h.2.2.1
  · rw [e 1271 (by omega)]
    exact h.2.2.2
theorem MSt.cg {A : AS} {g g' : Nat → Int32} (h : MSt A g) (hI : SI A) (e : ∀ j, j < 5140 → g' j = g j) : MSt A g' := by
  obtain ⟨h1, h2, h3, h4, h5, h6, h7, h8⟩ := h
  obtain ⟨i1, i2, i3, i4, i5, i6, -⟩ := hI
  refine ⟨fun i hi => ⟨(h1 i hi).1.cg (i1 i hi).1 (fun x hx => e _ (by omega)), ?_, ?_⟩, fun j hj => ?_, ?_, ?_, ?_, fun k hk => ?_, ?_, fun k hk => ?_⟩
  · rw [e _ (by omega)]; exact (h1 i hi).2.1
  · rw [e _ (by omega)]; exact (h1 i hi).2.2
  · rw [e _ (by omega)]; exact h2 j hj
  · rw [e _ (by omega)]; exact h3
  · rw [e _ (by omega)]; exact h4
  · rw [e _ (by omega)]; exact h5
  · rw [e _ (by omega), e _ (by omega)]; exact h6 k hk
  · rw [e _ (by omega)]; exact h7
  · rw [e _ (by omega), e _ (by omega)]; exact h8 k hk
theorem ST.cg {A : AS} {S : SS} {g g' : Nat → Int32} (h : ST A S g) (e : ∀ j, j < 5140 → g' j = g j) : ST A S g' := ⟨h.1, h.2.1.cg h.2.2 e, h.2.2⟩
section STL
variable {A : AS} {S : SS} {M M' : MS} {i : Nat} {gg : Nat → Int32}
theorem ST.c (h : ST A S gg) (hi : i < 4) : CR (A.1 i) (S.1 i) := h.1.1 i hi
theorem ST.m (h : ST A S gg) (hi : i < 4) : MR (A.1 i) gg (i * 1274) := (h.2.1.1 i hi).1
theorem ST.ai (h : ST A S gg) (hi : i < 4) : AI (A.1 i) (A.2.1 7 0) := (h.2.2.1 i hi).1
theorem ST.w (h : ST A S gg) : S.2.2.2.2 0 = nI (A.2.1 7 0) ∧ S.2.2.2.2 1 = nI (A.2.1 7 1) ∧ S.2.2.2.2 2 = nI (A.2.1 7 2) ∧ S.2.2.2.2 3 = nI (A.2.1 7 3) := ⟨h.1.2.2.2.2 0 (by omega), h.1.2.2.2.2 1 (by omega), h.1.2.2.2.2 2 (by omega), h.1.2.2.2.2 3 (by omega)⟩
theorem ST.g (h : ST A S gg) : gg 5096 = nI (A.2.1 7 0) ∧ gg 5097 = nI (A.2.1 7 1) ∧ gg 5098 = nI (A.2.1 7 2) ∧ gg 5099 = nI (A.2.1 7 3) := ⟨h.2.1.2.1 0 (by omega), h.2.1.2.1 1 (by omega), h.2.1.2.1 2 (by omega), h.2.1.2.1 3 (by omega)⟩
theorem ST.b (h : ST A S gg) : A.2.1 7 0 < 100000 ∧ A.2.1 7 1 ≤ 99 ∧ A.2.1 7 2 ≤ 999 ∧ A.2.1 7 3 ≤ 999 ∧ A.2.1 7 4 ≤ 10 ∧ A.2.1 7 5 ≤ 8 := ⟨(h.ai (i := 0) (by omega)).1, h.2.2.2.1, h.2.2.2.2.1, h.2.2.2.2.2.1, h.2.2.2.2.2.2.1, h.2.2.2.2.2.2.2.1⟩
theorem ST.log {a' : AB} {L' : CS} (h : ST A S (M.1 0)) (hi : i < 4) (hC : CR a' L') (hM : MR a' (M'.1 0) (i * 1274)) (hA : AI a' (A.2.1 7 0)) (hF : Fm M M' (i * 1274)) (he : (A.1 i).1 6 0 ≤ a'.1 6 0) : ST (aL A i a') (sLg S i L') (M'.1 0) := by
  obtain ⟨⟨c1, c2⟩, ⟨m1, m2, m3, m4, m5, m6, m7, m8⟩, ⟨s1, s2, s3, s4, s5, s6, s7⟩⟩ := h
  have hx := hF.2.2
  refine ⟨⟨fun j hj => ?_, c2⟩, ⟨fun j hj => ?_, fun j hj => ?_, ?_, ?_, ?_, fun k hk => ?_, ?_, fun k hk => ?_⟩, ⟨fun j hj => ?_, s2, s3, s4, s5, s6, s7⟩⟩
  · show CR (va_up A.1 i a' j) (va_up S.1 i L' j)
    by_cases e : j = i
    · subst e
      rw [va_up_self, va_up_self]
      exact hC
    · rw [va_up_ne _ _ e, va_up_ne _ _ e]
      exact c1 j hj
  · refine ⟨?_, ?_, ?_⟩
    · show MR (va_up A.1 i a' j) _ _
      by_cases e : j = i
      · subst e
        rw [va_up_self]
        exact hM
      · rw [va_up_ne _ _ e]
        exact (m1 j hj).1.cg (s1 j hj).1 (fun x hx2 => hx _ (by omega))
    · rw [hx _ (by omega)]; exact (m1 j hj).2.1
    · rw [hx _ (by omega)]; exact (m1 j hj).2.2
  · rw [hx _ (by omega)]; exact m2 j hj
  · rw [hx _ (by omega)]; exact m3
  · rw [hx _ (by omega)]; exact m4
  · rw [hx _ (by omega)]; exact m5
  · rw [hx _ (by omega), hx _ (by omega)]; exact m6 k hk
  · rw [hx _ (by omega)]; exact m7
  · rw [hx _ (by omega), hx _ (by omega)]; exact m8 k hk
  · obtain ⟨q1, q2, q3, q4, q5⟩ := s1 j hj
    refine ⟨?_, q2, q3, q4, ?_⟩
    · show AI (va_up A.1 i a' j) _
      by_cases e : j = i
      · subst e
        rw [va_up_self]
        exact hA
      · rw [va_up_ne _ _ e]
        exact q1
    · show A.2.1 2 j ≤ (va_up A.1 i a' j).1 6 0
      by_cases e : j = i
      · subst e
        rw [va_up_self]
        omega
      · rw [va_up_ne _ _ e]
        exact q5
theorem ST.lst {L' : CS} (h : ST A S gg) (_hi : i < 4) (hC : CR (A.1 i) L') : ST A (sLg S i L') gg := by
  refine ⟨⟨fun j hj => ?_, h.1.2⟩, h.2⟩
  show CR (A.1 j) (va_up S.1 i L' j)
  by_cases e : j = i
  · subst e
    rw [va_up_self]
    exact hC
  · rw [va_up_ne _ _ e]
    exact h.1.1 j hj
end STL
/-! ===== arguments ===== -/
theorem ck_log (x : Int32) : (∃ i, i < 4 ∧ x = nI i ∧ fX8_isLog x = some 1 ∧ fX9_isLog x = some 1) ∨ (fX8_isLog x = some 0 ∧ fX9_isLog x = some 0) := by
  unfold fX8_isLog fX9_isLog
  rw [in_any]
  rcases pk_ix x (n := 4) (by omega) with h | h | ⟨i, hi, rfl⟩
  · right
    rw [if_pos h, if_neg (fun q => absurd h (Int32.not_lt.mpr q.1))]
    exact ⟨rfl, rfl⟩
  · right
    have h0 : ¬ x < 0 := fun q => absurd (Int32.lt_of_le_of_lt h q) (by decide)
    rw [if_neg h0, if_pos (show (4 : Int32) ≤ x from h), if_neg (fun q => absurd (Int32.le_trans h q.2) (by decide))]
    exact ⟨rfl, rfl⟩
  · left
    refine ⟨i, hi, rfl, ?_, ?_⟩
    · simp (disch := omega) only [nlit, zl_d, zb_s, zb2_s, nI_leI, nI_ltI, nI_eq, nI_add, nI_clamp, zi_ok, in_any, if_pos, if_neg]
    · simp (disch := omega) only [nlit, zl_d, zb_s, zb2_s, nI_leI, nI_ltI, nI_eq, nI_add, nI_clamp, zi_ok, in_any, if_pos, if_neg]
      rfl
theorem ck_mem (x : Int32) : fX8_isMember x = fX8_isLog x := rfl
theorem ck_tape (x : Int32) : (∃ i, i < 6 ∧ x = nI i ∧ fX8_isTape x = some 1 ∧ fX9_isTape x = some 1) ∨ (fX8_isTape x = some 0 ∧ fX9_isTape x = some 0) := by
  unfold fX8_isTape fX9_isTape
  rw [in_any]
  rcases pk_ix x (n := 6) (by omega) with h | h | ⟨i, hi, rfl⟩
  · right
    rw [if_pos h, if_neg (fun q => absurd h (Int32.not_lt.mpr q.1))]
    exact ⟨rfl, rfl⟩
  · right
    have h0 : ¬ x < 0 := fun q => absurd (Int32.lt_of_le_of_lt h q) (by decide)
    rw [if_neg h0, if_pos (show (6 : Int32) ≤ x from h), if_neg (fun q => absurd (Int32.le_trans h q.2) (by decide))]
    exact ⟨rfl, rfl⟩
  · left
    refine ⟨i, hi, rfl, ?_, ?_⟩
    · simp (disch := omega) only [nlit, zl_d, zb_s, zb2_s, nI_leI, nI_ltI, nI_eq, nI_add, nI_clamp, zi_ok, in_any, if_pos, if_neg]
    · simp (disch := omega) only [nlit, zl_d, zb_s, zb2_s, nI_leI, nI_ltI, nI_eq, nI_add, nI_clamp, zi_ok, in_any, if_pos, if_neg]
      rfl
theorem ck_key (x : Int32) : (∃ i, i < 26 ∧ x = nI i ∧ fX8_isKey x = some 1 ∧ fX9_in x 0 25 = some 1) ∨ (fX8_isKey x = some 0 ∧ fX9_in x 0 25 = some 0) := by
  unfold fX8_isKey
  rw [in_any]
  rcases pk_ix x (n := 26) (by omega) with h | h | ⟨i, hi, rfl⟩
  · right
    rw [if_pos h, if_neg (fun q => absurd h (Int32.not_lt.mpr q.1))]
    exact ⟨rfl, rfl⟩
  · right
    have h0 : ¬ x < 0 := fun q => absurd (Int32.lt_of_le_of_lt h q) (by decide)
    rw [if_neg h0, if_pos (show (26 : Int32) ≤ x from h), if_neg (fun q => absurd (Int32.le_trans h q.2) (by decide))]
    exact ⟨rfl, rfl⟩
  · left
    refine ⟨i, hi, rfl, ?_, ?_⟩
    · simp (disch := omega) only [nlit, zl_d, zb_s, zb2_s, nI_leI, nI_ltI, nI_eq, nI_add, nI_clamp, zi_ok, in_any, if_pos, if_neg]
    · simp (disch := omega) only [nlit, zl_d, zb_s, zb2_s, nI_leI, nI_ltI, nI_eq, nI_add, nI_clamp, zi_ok, in_any, if_pos, if_neg]
/-- a number from 0 to n, or below, or above -/
theorem rg (x : Int32) (n : Nat) (hn : n < 2 ^ 30) : (∃ k, k ≤ n ∧ x = nI k) ∨ x < 0 ∨ (¬ x < 0 ∧ nI n < x ∧ ¬ x ≤ nI n ∧ ¬ x ≤ 0 ∧ ¬ x = 0) := by
  rcases pk_ix x (n := n + 1) (by omega) with h | h | ⟨i, hi, rfl⟩
  · exact Or.inr (Or.inl h)
  · have h1 : nI n < x := Int32.lt_of_lt_of_le (nI_lt (by omega) (by omega)) h
    have h0 : ¬ x < 0 := fun q => absurd (Int32.lt_trans h1 q) (nI_pos (by omega))
    have h2 : ¬ x ≤ 0 := fun q => absurd (Int32.lt_of_lt_of_le h1 q) (nI_pos (by omega))
    exact Or.inr (Or.inr ⟨h0, h1, Int32.not_le.mpr h1, h2, fun e => h2 (by rw [e]; exact Int32.le_refl _)⟩)
  · exact Or.inl ⟨i, by omega, rfl⟩
theorem in_lo {x hi : Int32} (h : x < 0) : fX9_in x 0 hi = some 0 := by
  rw [in_any, if_neg (fun q => absurd h (Int32.not_lt.mpr q.1))]
theorem in_hi {x lo hi : Int32} (h : hi < x) : fX9_in x lo hi = some 0 := by
  rw [in_any, if_neg (fun q => absurd h (Int32.not_lt.mpr q.2))]
theorem in_ok {k n : Nat} (h : k ≤ n) (hn : n < 2 ^ 31) : fX9_in (nI k) 0 (nI n) = some 1 := by
  rw [in_any, if_pos ⟨nI_pos' (by omega), nI_le h hn⟩]
/-- copying the row of numbers -/
theorem m_copy_l (k1 k2 : Nat) (h12 : k1 ≠ k2) (M0 : MS) : ∀ (d n o : Nat) (M : MS), o + d = 5140 → d < n → M.2 = M0.2 → (∀ k, k ≠ k2 → M.1 k = M0.1 k) → (∀ j, j < o → M.1 k2 j = M0.1 k1 j) → ∃ M', fX9_copy_2 k1 k2 n (nI o) M = some M' ∧ M'.2 = M0.2 ∧ (∀ k, k ≠ k2 → M'.1 k = M0.1 k) ∧ (∀ j, j < 5140 → M'.1 k2 j = M0.1 k1 j) := by
  intro d
  induction d with
  | zero =>
    intro n o M h1 h2 h3 h4 h5
    obtain ⟨m, rfl⟩ : ∃ m, n = m + 1 := ⟨n - 1, by omega⟩
    refine ⟨M, ?_, h3, h4, fun j hj => h5 j (by omega)⟩
    rw [fX9_copy_2]
    simp (disch := omega) only [nlit, zl_d, zb_s, zb2_s, nI_leI, nI_ltI, nI_eq, nI_add, nI_clamp, zi_ok, in_any, if_pos, if_neg]
  | succ d ih =>
    intro n o M h1 h2 h3 h4 h5
    obtain ⟨m, rfl⟩ : ∃ m, n = m + 1 := ⟨n - 1, by omega⟩
    rw [fX9_copy_2]
    simp (disch := omega) only [nlit, zl_d, zb_s, zb2_s, nI_leI, nI_ltI, nI_eq, nI_add, nI_clamp, zi_ok, in_any, if_pos, if_neg]
    refine ih m (o + 1) _ (by omega) (by omega) h3 (fun k hk => ?_) (fun j hj => ?_)
    · rw [wAm_1, up_n hk, h4 k hk]
    · rw [wAm_1, up_s rfl, nI_clamp (by omega)]
      by_cases e : j = o
      · rw [upd_s e, h4 k1 h12, e]
      · rw [upd_n e, h5 j (by omega)]
theorem m_copy (k1 k2 : Nat) (h12 : k1 ≠ k2) (M : MS) : ∃ M', fX9_copy k1 k2 M = some M' ∧ M'.2 = M.2 ∧ (∀ k, k ≠ k2 → M'.1 k = M.1 k) ∧ (∀ j, j < 5140 → M'.1 k2 j = M.1 k1 j) := by
  unfold fX9_copy
  exact m_copy_l k1 k2 h12 M 5140 FU 0 M (by omega) (fu_lt (by omega)) rfl (fun _ _ => rfl) (fun j hj => absurd hj (by omega))
theorem i10 {α : Type} {x y : α} : (if (1 : Int32) = 0 then x else y) = y := if_neg (by decide)
theorem i00 {α : Type} {x y : α} : (if (0 : Int32) = 0 then x else y) = x := if_pos rfl
theorem iTr {α : Type} {x y : α} {d : Decidable True} : @ite α True d x y = x := if_pos trivial
theorem iFa {α : Type} {x y : α} {d : Decidable False} : @ite α False d x y = y := if_neg (fun h => h)
