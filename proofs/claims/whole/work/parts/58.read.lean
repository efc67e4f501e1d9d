/-! ===== the text: signs, numbers ===== -/
def XT (n : Nat) (t : Nat → Nat) (p c : Nat) (T : CS) : Prop := T.2 0 = nI n ∧ T.2 1 = nI c ∧ T.2 2 = nI p ∧ ∀ k, k < n → T.1 0 k = nI (t k)
/-- the model's text: read up to p; no fault yet -/
def XM (n : Nat) (t : Nat → Nat) (p : Nat) (M : MS) : Prop := M.2.1 1 = nI n ∧ M.2.1 4 = -1 ∧ M.2.1 3 = nI p ∧ ∀ k, k < n → M.1 3 k = nI (t k)
def sb (n : Nat) (t : Nat → Nat) (p lo hi : Nat) : Bool := decide (p < n ∧ lo ≤ t p ∧ t p ≤ hi)
theorem sb_is {n : Nat} {t : Nat → Nat} {p lo hi : Nat} (h : sb n t p lo hi = true) : p < n ∧ lo ≤ t p ∧ t p ≤ hi := of_decide_eq_true h
theorem sb_of {n : Nat} {t : Nat → Nat} {p lo hi : Nat} (h : p < n ∧ lo ≤ t p ∧ t p ≤ hi) : sb n t p lo hi = true := decide_eq_true h
/-- all but the told row, the spot and the fault -/
def FR (M0 M : MS) : Prop := (∀ k, k ≠ 4 → M.1 k = M0.1 k) ∧ M.2.2 = M0.2.2 ∧ ∀ j, j ≠ 3 → j ≠ 4 → M.2.1 j = M0.2.1 j
theorem FR.rf {M : MS} : FR M M := ⟨fun _ _ => rfl, rfl, fun _ _ _ => rfl⟩
theorem FR.tr {M0 M1 M2 : MS} (h : FR M0 M1) (k : FR M1 M2) : FR M0 M2 := ⟨fun j hj => (k.1 j hj).trans (h.1 j hj), k.2.1.trans h.2.1, fun j h1 h2 => (k.2.2 j h1 h2).trans (h.2.2 j h1 h2)⟩
theorem FR.w4 {M : MS} {i v : Int32} : FR M (wAm M 4 i v) := ⟨fun k hk => by rw [wAm_1, up_n hk], rfl, fun _ _ _ => rfl⟩
theorem FR.s3 {M : MS} {v : Int32} : FR M (sFm M 3 v) := ⟨fun _ _ => rfl, rfl, fun j h1 _ => by rw [sFm_21, up_n h1]⟩
theorem FR.s4 {M : MS} {v : Int32} : FR M (sFm M 4 v) := ⟨fun _ _ => rfl, rfl, fun j _ h2 => by rw [sFm_21, up_n h2]⟩
/-- the text itself stays -/
def FT (T0 T : CS) : Prop := T.1 0 = T0.1 0 ∧ T.2 0 = T0.2 0
section READ
variable {n : Nat} {t : Nat → Nat} {p c lo hi : Nat} {T : CS} {M : MS}
theorem XM.w4 (h : XM n t p M) {i v : Int32} : XM n t p (wAm M 4 i v) := ⟨h.1, h.2.1, h.2.2.1, fun k hk => by rw [wAm_1, up_n (by omega)]; exact h.2.2.2 k hk⟩
theorem XM.s3 (h : XM n t p M) (q : Nat) : XM n t q (sFm M 3 (nI q)) := ⟨by rw [sFm_21, up_n (by omega)]; exact h.1, by rw [sFm_21, up_n (by omega)]; exact h.2.1, by rw [sFm_21, up_s rfl], h.2.2.2⟩
theorem XT.s2 (h : XT n t p c T) (q : Nat) : XT n t q c (sF T 2 (nI q)) := ⟨by rw [sF_2, up_n (by omega)]; exact h.1, by rw [sF_2, up_n (by omega)]; exact h.2.1, by rw [sF_2, up_s rfl], h.2.2.2⟩
theorem XT.wr (h : XT n t p c T) {k : Nat} (hk : k ≠ 0) {i v : Int32} : XT n t p c (wA T k i v) := ⟨h.1, h.2.1, h.2.2.1, fun j hj => by rw [wA_1, up_n (fun e => hk e.symm)]; exact h.2.2.2 j hj⟩
theorem c_btw (h : XT n t p c T) (hn : n ≤ 100) (hp : p ≤ n) (ht : ∀ k, k < n → t k ≤ 127) (hl : lo < 2 ^ 31) (hh : hi < 2 ^ 31) : fX7_isBetween (nI lo) (nI hi) T = some (if sb n t p lo hi = true then 1 else 0) := by
  unfold fX7_isBetween
  rw [h.1, h.2.2.1]
  by_cases hpn : p < n
  · have hs := h.2.2.2 p hpn
    have hb := ht p hpn
    rw [if_neg (nI_ge hpn (by omega)), zi_ok (by omega) (by omega), zi_ok (by omega) (by omega), nI_clamp (by omega), hs]
    by_cases h1 : t p < lo
    · rw [if_pos (nI_lt h1 hl), if_neg (fun q => by have := sb_is q; omega)]
    · rw [if_neg (nI_nlt (by omega) (by omega))]
      by_cases h2 : hi < t p
      · rw [if_pos (nI_lt h2 (by omega)), if_neg (fun q => by have := sb_is q; omega)]
      · rw [if_neg (nI_nlt (by omega) hh), if_pos (sb_of ⟨hpn, by omega, by omega⟩)]
  · rw [if_pos (nI_le (by omega) (by omega)), if_neg (fun q => hpn (sb_is q).1)]
theorem m_sees (h : XM n t p M) (hn : n ≤ 100) (hp : p ≤ n) (ht : ∀ k, k < n → t k ≤ 127) (hl : lo < 2 ^ 31) (hh : hi < 2 ^ 31) : fX9_sees (nI lo) (nI hi) M = some (if sb n t p lo hi = true then 1 else 0) := by
  unfold fX9_sees
  rw [h.2.1, if_neg (by decide), h.1, h.2.2.1]
  by_cases hpn : p < n
  · have hs := h.2.2.2 p hpn
    have hb := ht p hpn
    rw [if_neg (nI_ge hpn (by omega)), zi_ok (by omega) (by omega), nI_clamp (by omega), hs, in_any]
    by_cases h1 : lo ≤ t p ∧ t p ≤ hi
    · rw [if_pos (show nI lo ≤ nI (t p) ∧ nI (t p) ≤ nI hi from ⟨nI_le h1.1 (by omega), nI_le h1.2 hh⟩), zb_s, i10, if_pos (sb_of ⟨hpn, h1⟩)]
    · rw [if_neg (show ¬ (nI lo ≤ nI (t p) ∧ nI (t p) ≤ nI hi) from fun q => h1 ⟨(nI_leI hl (by omega)).mp q.1, (nI_leI (by omega) hh).mp q.2⟩), zb_s, i00, if_neg (fun q => h1 (sb_is q).2)]
  · rw [if_pos (nI_le (by omega) (by omega)), if_neg (fun q => hpn (sb_is q).1)]
theorem m_sees_f {f : Nat} (hf : f < 2 ^ 31) (h : M.2.1 4 = nI f) (x y : Int32) : fX9_sees x y M = some 0 := by
  unfold fX9_sees
  rw [h, if_pos (nI_pos' hf)]
theorem m_must (h : XM n t p M) (hn : n ≤ 100) (hp : p ≤ n) (ht : ∀ k, k < n → t k ≤ 127) (hl : lo < 2 ^ 31) (hh : hi < 2 ^ 31) (hs : sb n t p lo hi = true) : fX9_must (nI lo) (nI hi) M = some (nI (t p), sFm M 3 (nI (p + 1))) := by
  have hpn := (sb_is hs).1
  unfold fX9_must
  rw [m_sees h hn hp ht hl hh, zb_s, if_pos hs, i10, zl_d, h.2.2.1, zi_ok (by omega) (by omega), nI_1, sFm_1, nI_clamp (by omega), h.2.2.2 p hpn]
theorem m_must_n (h : XM n t p M) (hn : n ≤ 100) (hp : p ≤ n) (ht : ∀ k, k < n → t k ≤ 127) (hl : lo < 2 ^ 31) (hh : hi < 2 ^ 31) (hs : ¬ sb n t p lo hi = true) : fX9_must (nI lo) (nI hi) M = some (nI lo, sFm M 4 (nI p)) := by
  unfold fX9_must fX9_must_28
  rw [m_sees h hn hp ht hl hh, zb_s, if_neg hs, i00, h.2.1, if_neg (by decide), zl_d, h.2.2.1]
theorem m_must_f {f : Nat} (hf : f < 2 ^ 31) (h : M.2.1 4 = nI f) (x y : Int32) : fX9_must x y M = some (x, sFm M 4 (nI f)) := by
  unfold fX9_must fX9_must_28
  rw [m_sees_f hf h, zb_s, i00, h, if_pos (nI_pos' hf), zl_d]
theorem c_skip (h : XT n t p c T) (hn : n ≤ 100) (hp : p ≤ n) (ht : ∀ k, k < n → t k ≤ 127) (hl : lo < 2 ^ 31) : fX7_skipped (nI lo) T = (if sb n t p lo lo = true then some (1, sF T 2 (nI (p + 1))) else some (0, T)) := by
  unfold fX7_skipped
  rw [c_btw h hn hp ht hl hl, zb_s]
  by_cases hs : sb n t p lo lo = true
  · rw [if_pos hs, if_pos hs, i10, zl_d, h.2.2.1, nI_1]
  · rw [if_neg hs, if_neg hs, i00]
/-- the digits behind the first -/
theorem sim_digits (hn : n ≤ 100) (ht : ∀ k, k < n → t k ≤ 127) {mx : Nat} (hm : mx < 100) : ∀ (d n1 n2 i p : Nat) (x : Int32) (T : CS) (M : MS), i + d = mx → d < n1 → d < n2 → p ≤ n → XT n t p c T → XM n t p M → ∃ (y : Int32) (p' : Nat), fX7_digits_4 (nI mx) n1 x (nI i) T = some (y, sF T 2 (nI p')) ∧ fX9_number_14 (nI mx) n2 x (nI i) M = some (y, sFm M 3 (nI p')) ∧ p ≤ p' ∧ p' ≤ n := by
  have sF_same : ∀ (T : CS) (p : Nat), T.2 2 = nI p → sF T 2 (nI p) = T := fun T p h => Prod.ext rfl (funext fun j => by
    show va_up T.2 2 (nI p) j = T.2 j
    by_cases e : j = 2
    · rw [up_s e, e, h]
    · rw [up_n e])
  have sFm_same : ∀ (M : MS) (p : Nat), M.2.1 3 = nI p → sFm M 3 (nI p) = M := fun M p h => Prod.ext rfl (Prod.ext (funext fun j => by
    show va_up M.2.1 3 (nI p) j = M.2.1 j
    by_cases e : j = 3
    · rw [up_s e, e, h]
    · rw [up_n e]) rfl)
  have sF2 : ∀ (T : CS) (x y : Int32), sF (sF T 2 x) 2 y = sF T 2 y := fun T x y => Prod.ext rfl (funext fun j => by
    show va_up (va_up T.2 2 x) 2 y j = va_up T.2 2 y j
    by_cases e : j = 2
    · rw [up_s e, up_s e]
    · rw [up_n e, up_n e, up_n e])
  have sFm2 : ∀ (M : MS) (x y : Int32), sFm (sFm M 3 x) 3 y = sFm M 3 y := fun M x y => Prod.ext rfl (Prod.ext (funext fun j => by
    show va_up (va_up M.2.1 3 x) 3 y j = va_up M.2.1 3 y j
    by_cases e : j = 3
    · rw [up_s e, up_s e]
    · rw [up_n e, up_n e, up_n e]) rfl)
  intro d
  induction d with
  | zero =>
    intro n1 n2 i p x T M h1 h2 h3 hp hT hM
    obtain ⟨m1, rfl⟩ : ∃ m, n1 = m + 1 := ⟨n1 - 1, by omega⟩
    obtain ⟨m2, rfl⟩ : ∃ m, n2 = m + 1 := ⟨n2 - 1, by omega⟩
    refine ⟨x, p, ?_, ?_, Nat.le_refl _, hp⟩
    · rw [fX7_digits_4, if_pos (nI_le (by omega) (by omega)), sF_same T p hT.2.2.1]
    · rw [fX9_number_14, if_pos (nI_le (by omega) (by omega)), sFm_same M p hM.2.2.1]
  | succ d ih =>
    intro n1 n2 i p x T M h1 h2 h3 hp hT hM
    obtain ⟨m1, rfl⟩ : ∃ m, n1 = m + 1 := ⟨n1 - 1, by omega⟩
    obtain ⟨m2, rfl⟩ : ∃ m, n2 = m + 1 := ⟨n2 - 1, by omega⟩
    have hb : fX7_isBetween 48 57 T = _ := c_btw (lo := 48) (hi := 57) hT hn hp ht (by omega) (by omega)
    have hs : fX9_sees 48 57 M = _ := m_sees (lo := 48) (hi := 57) hM hn hp ht (by omega) (by omega)
    rw [fX7_digits_4, if_neg (nI_ge (by omega) (by omega)), hb, zb_s, fX9_number_14, if_neg (nI_ge (by omega) (by omega)), hs, zb_s]
    by_cases hq : sb n t p 48 57 = true
    · have hpn := (sb_is hq).1
      obtain ⟨y, p', e1, e2, e3, e4⟩ := ih m1 m2 (i + 1) (p + 1) ((10 * x + nI (t p)) - 48) (sF T 2 (nI (p + 1))) (sFm M 3 (nI (p + 1))) (by omega) (by omega) (by omega) (by omega) (hT.s2 _) (hM.s3 _)
      rw [sF2] at e1
      rw [sFm2] at e2
      refine ⟨y, p', ?_, ?_, by omega, e4⟩
      · rw [if_pos hq, i10, hT.2.2.1, zi_ok (by omega) (by omega), zl_d, zl_d, nI_1, nI_1, nI_clamp (by omega), hT.2.2.2 p hpn, e1]
      · rw [if_pos hq, i10, zl_d, hM.2.2.1, zi_ok (by omega) (by omega), zl_d, nI_1, nI_1, sFm_1, nI_clamp (by omega), hM.2.2.2 p hpn, e2]
    · refine ⟨x, p, ?_, ?_, Nat.le_refl _, hp⟩
      · rw [if_neg hq, i00, sF_same T p hT.2.2.1]
      · rw [if_neg hq, i00, sFm_same M p hM.2.2.1]
/-- a number whose first digit is there -/
theorem sim_number (hn : n ≤ 100) (ht : ∀ k, k < n → t k ≤ 127) {mx : Nat} (h1 : 1 ≤ mx) (hm : mx < 100) (hp : p ≤ n) (hT : XT n t p c T) (hM : XM n t p M) (hq : sb n t p 48 57 = true) : ∃ (y : Int32) (p' : Nat), fX7_digits (nI mx) T = some (y, sF T 2 (nI p')) ∧ fX9_number (nI mx) M = some (y, sFm M 3 (nI p')) ∧ p < p' ∧ p' ≤ n := by
  have hpn := (sb_is hq).1
  have sF2 : ∀ (T : CS) (x y : Int32), sF (sF T 2 x) 2 y = sF T 2 y := fun T x y => Prod.ext rfl (funext fun j => by
    show va_up (va_up T.2 2 x) 2 y j = va_up T.2 2 y j
    by_cases e : j = 2
    · rw [up_s e, up_s e]
    · rw [up_n e, up_n e, up_n e])
  have sFm2 : ∀ (M : MS) (x y : Int32), sFm (sFm M 3 x) 3 y = sFm M 3 y := fun M x y => Prod.ext rfl (Prod.ext (funext fun j => by
    show va_up (va_up M.2.1 3 x) 3 y j = va_up M.2.1 3 y j
    by_cases e : j = 3
    · rw [up_s e, up_s e]
    · rw [up_n e, up_n e, up_n e]) rfl)
  obtain ⟨y, p', e1, e2, e3, e4⟩ := sim_digits (c := c) hn ht hm (mx - 1) 9999 FU 1 (p + 1) (nI (t p) - 48) (sF T 2 (nI (p + 1))) (sFm M 3 (nI (p + 1))) (by omega) (by omega) (fu_lt (by omega)) (by omega) (hT.s2 _) (hM.s3 _)
  rw [sF2] at e1
  rw [sFm2] at e2
  refine ⟨y, p', ?_, ?_, by omega, e4⟩
  · have hb : fX7_isBetween 48 57 T = _ := c_btw (lo := 48) (hi := 57) hT hn hp ht (by omega) (by omega)
    have h0 : ∀ k, fX7_digits_4 (nI mx) (k + 1) 0 0 T = fX7_digits_4 (nI mx) k (nI (t p) - 48) (nI 1) (sF T 2 (nI (p + 1))) := fun k => by
      rw [fX7_digits_4, if_neg (show ¬ nI mx ≤ 0 from nI_nle (by omega) (by omega)), hb, zb_s, if_pos hq, i10, hT.2.2.1, zi_ok (by omega) (by omega), zl_d, zl_d, nI_1, nI_clamp (by omega), hT.2.2.2 p hpn, show (10 : Int32) * 0 = 0 from rfl, Int32.zero_add]
      rfl
    have h1 := h0 9999
    unfold fX7_digits
    rw [show FU = 9999 + 1 from rfl, h1, e1]
  · unfold fX9_number
    have hmu : fX9_must 48 57 M = _ := m_must (lo := 48) (hi := 57) hM hn hp ht (by omega) (by omega) hq
    rw [hmu, zb2_s]
    exact e2
end READ
