/-! ===== the last record of each key ===== -/
/-- 0: none; o + 1: the last record of the key ahead of the limit lies at o -/
def lst (a : AB) (key : Nat) : Nat → Nat
  | 0 => 0
  | o + 1 => if a.1 0 o ≠ 0 ∧ a.1 1 o = key then o + 1 else lst a key o
def cd5 (v : Nat) : Int32 := if v = 0 then -5 else nI (v - 1)
def cd1 (v : Nat) : Int32 := if v = 0 then -1 else nI (v - 1)
def mpd (a : AB) (m key : Nat) : Bool := decide (lst a key m ≠ 0 ∧ a.1 0 (lst a key m - 1) = 1)
def mb (a : AB) (m key : Nat) : Nat := if mpd a m key = true then 1 else 0
def CL (a : AB) (m : Nat) (L : CS) : Prop := ∀ key, key < 26 → L.1 6 key = cd5 (lst a key m)
def ML (a : AB) (m : Nat) (M : MS) : Prop := ∀ key, key < 26 → M.1 5 key = cd1 (lst a key m)
def F5 (M M' : MS) : Prop := (∀ k, k ≠ 5 → M'.1 k = M.1 k) ∧ M'.2 = M.2
theorem F5.rf {M : MS} : F5 M M := ⟨fun _ _ => rfl, rfl⟩
theorem F5.up {M M' : MS} (h : F5 M M') (i v : Int32) : F5 M (wAm M' 5 i v) := ⟨fun k hk => by rw [wAm_1, up_n hk, h.1 k hk], by rw [wAm_2, h.2]⟩
section LAST
variable {a : AB} {L : CS} {M : MS} {w i : Nat}
theorem lst_s (key o : Nat) : lst a key (o + 1) = if a.1 0 o ≠ 0 ∧ a.1 1 o = key then o + 1 else lst a key o := rfl
theorem lst_le (key : Nat) : ∀ m, lst a key m ≤ m := by
  intro m
  induction m with
  | zero => exact Nat.le_refl _
  | succ o ih => rw [lst_s]; split <;> omega
theorem lst_ok (key : Nat) : ∀ m, lst a key m ≠ 0 → lst a key m - 1 < m ∧ a.1 0 (lst a key m - 1) ≠ 0 ∧ a.1 1 (lst a key m - 1) = key := by
  intro m
  induction m with
  | zero => intro h; exact absurd rfl h
  | succ o ih =>
    rw [lst_s]
    split
    · rename_i h
      intro _
      exact ⟨by omega, h.1, h.2⟩
    · intro h
      obtain ⟨h1, h2⟩ := ih h
      exact ⟨by omega, h2⟩
theorem lst_tail (hA : AI a w) (key : Nat) : ∀ r, a.1 6 0 + r ≤ 200 → lst a key (a.1 6 0 + r) = lst a key (a.1 6 0) := by
  intro r
  induction r with
  | zero => intro _; rfl
  | succ r ih =>
    intro h
    rw [show a.1 6 0 + (r + 1) = (a.1 6 0 + r) + 1 by omega, lst_s, if_neg (fun q => q.1 ((hA.2.2.2.1 _ (by omega)).2.2.2.2.1 (by omega))), ih (by omega)]
theorem CR.six {x v : Int32} (h : CR a L) : CR a (wA L 6 x v) := by
  refine ⟨fun o ho => ?_, fun q hq => ?_, ?_, ?_⟩
  · simp (disch := omega) only [wA_1, up_n]
    exact h.1 o ho
  · rw [wA_1, up_n (by omega), h.2.1 q hq]
  · rw [wA_2, h.2.2.1]
  · rw [wA_2, h.2.2.2]
theorem c_last_l (hA : AI a w) {lim m : Nat} (hl : lim < 2 ^ 31) (hm : m = min lim (a.1 6 0)) : ∀ (d n o : Nat) (L : CS), CR a L → o + d = m → d < n → CL a o L → ∃ L', fX3_findLast_24 (nI lim) n (nI o) L = some L' ∧ CR a L' ∧ CL a m L' := by
  have he := hA.2.1
  intro d
  induction d with
  | zero =>
    intro n o L hC h1 h2 hL
    obtain ⟨q9, rfl⟩ : ∃ q9, n = q9 + 1 := ⟨n - 1, by omega⟩
    refine ⟨L, ?_, hC, by rw [← h1]; exact hL⟩
    rw [fX3_findLast_24, hC.2.2.1]
    simp (disch := omega) only [nlit, zl_d, zb_s, zb2_s, nI_leI, nI_ltI, nI_eq, nI_add, nI_clamp, zi_ok]
    by_cases h : lim ≤ o
    · rw [if_pos h]
    · rw [if_neg h, if_pos (by omega)]
  | succ d ih =>
    intro n o L hC h1 h2 hL
    obtain ⟨q9, rfl⟩ : ∃ q9, n = q9 + 1 := ⟨n - 1, by omega⟩
    have hf := (hC.1 o (by omega)).1
    have hk := (hC.1 o (by omega)).2.1
    have hf2 := (hA.2.2.2.1 o (by omega)).1
    have hk2 := (hA.2.2.2.1 o (by omega)).2.1
    rw [fX3_findLast_24, hC.2.2.1]
    simp (disch := omega) only [nlit, zl_d, zb_s, zb2_s, nI_leI, nI_ltI, nI_eq, nI_add, nI_clamp, zi_ok, hf, hk]
    rw [if_neg (by omega), if_neg (by omega)]
    by_cases h0 : a.1 0 o = 0
    · rw [if_pos h0]
      refine ih q9 (o + 1) L hC (by omega) (by omega) (fun key hkey => ?_)
      rw [lst_s, if_neg (fun q => q.1 h0)]
      exact hL key hkey
    · rw [if_neg h0]
      refine ih q9 (o + 1) _ hC.six (by omega) (by omega) (fun key hkey => ?_)
      rw [lst_s, wA_1, up_s rfl, nI_clamp (by omega)]
      by_cases e : key = a.1 1 o
      · rw [upd_s e, if_pos ⟨h0, e.symm⟩]
        rfl
      · rw [upd_n e, if_neg (fun q => e q.2.symm)]
        exact hL key hkey
theorem c_last_0 (hA : AI a w) {lim m : Nat} (hl : lim < 2 ^ 31) (hm : m = min lim (a.1 6 0)) : ∀ (d n k : Nat) (L : CS), CR a L → k + d = 26 → d < n → (∀ key, key < k → L.1 6 key = -5) → ∃ L', fX3_findLast_2 (nI lim) n (nI k) L = some L' ∧ CR a L' ∧ CL a m L' := by
  have he := hA.2.1
  intro d
  induction d with
  | zero =>
    intro n k L hC h1 h2 hL
    obtain ⟨q9, rfl⟩ : ∃ q9, n = q9 + 1 := ⟨n - 1, by omega⟩
    obtain ⟨L', e1, e2⟩ := c_last_l hA hl hm m FU 0 L hC (by omega) (fu_lt (by omega)) (fun key hk => hL key (by omega))
    refine ⟨L', ?_, e2⟩
    rw [fX3_findLast_2]
    simp (disch := omega) only [nlit, zl_d, zb_s, zb2_s, nI_leI, nI_ltI, nI_eq, nI_add, nI_clamp, zi_ok]
    rw [if_pos (by omega), e1]
  | succ d ih =>
    intro n k L hC h1 h2 hL
    obtain ⟨q9, rfl⟩ : ∃ q9, n = q9 + 1 := ⟨n - 1, by omega⟩
    obtain ⟨L', e1, e2⟩ := ih q9 (k + 1) (wA L 6 (nI k) (-5)) hC.six (by omega) (by omega) (fun key hk => by
      rw [wA_1, up_s rfl, nI_clamp (by omega)]
      by_cases e : key = k
      · rw [upd_s e]
      · rw [upd_n e, hL key (by omega)])
    refine ⟨L', ?_, e2⟩
    rw [fX3_findLast_2, if_neg (show ¬ (26 : Int32) ≤ nI k from nI_ge (b := 26) (by omega) (by omega)), zi_ok (by omega) (by omega), zl_d, nI_1, e1]
theorem c_last (hC : CR a L) (hA : AI a w) {lim m : Nat} (hl : lim < 2 ^ 31) (hm : m = min lim (a.1 6 0)) : ∃ L', fX3_findLast (nI lim) L = some L' ∧ CR a L' ∧ CL a m L' :=
  c_last_0 hA hl hm 26 FU 0 L hC (by omega) (fu_lt (by omega)) (fun key h => absurd h (by omega))
theorem m_last_l (hi : i < 4) (hA : AI a w) {lim m : Nat} (hl : lim < 2 ^ 31) (hm : m = min lim 200) {M0 : MS} : ∀ (d n o : Nat) (M : MS), MR a (M.1 0) (i * 1274) → F5 M0 M → o + d = m → d < n → ML a o M → ∃ M', fX9_replays_23 (nI i) (nI lim) n (nI o) M = some M' ∧ F5 M0 M' ∧ ML a m M' := by
  intro d
  induction d with
  | zero =>
    intro n o M hM hF h1 h2 hL
    obtain ⟨q9, rfl⟩ : ∃ q9, n = q9 + 1 := ⟨n - 1, by omega⟩
    refine ⟨M, ?_, hF, by rw [← h1]; exact hL⟩
    rw [fX9_replays_23]
    simp (disch := omega) only [nlit, zl_d, zb_s, zb2_s, nI_leI, nI_ltI, nI_eq, nI_add, nI_clamp, zi_ok]
    by_cases h : 200 ≤ o
    · rw [if_pos h]
    · rw [if_neg h, if_pos (by omega)]
  | succ d ih =>
    intro n o M hM hF h1 h2 hL
    obtain ⟨q9, rfl⟩ : ∃ q9, n = q9 + 1 := ⟨n - 1, by omega⟩
    have hf := (hM.1 o (by omega)).1
    have hk := (hM.1 o (by omega)).2.1
    have hf2 := hb_le a o
    have hk2 := (hA.2.2.2.1 o (by omega)).2.1
    rw [fX9_replays_23]
    simp (disch := omega) only [nlit, zl_d, zb_s, zb2_s, nI_leI, nI_ltI, nI_eq, nI_add, nI_clamp, zi_ok, Nat.zero_add, m_at, hf, hk]
    rw [if_neg (by omega), if_neg (by omega)]
    by_cases h0 : a.1 0 o = 0
    · have hx : hb a o = 0 := if_pos h0
      rw [if_neg (by omega)]
      refine ih q9 (o + 1) M hM hF (by omega) (by omega) (fun key hkey => ?_)
      rw [lst_s, if_neg (fun q => q.1 h0)]
      exact hL key hkey
    · have hx : hb a o = 1 := if_neg h0
      rw [if_pos hx]
      refine ih q9 (o + 1) _ (by rw [wAm_1, up_n (by omega)]; exact hM) (hF.up _ _) (by omega) (by omega) (fun key hkey => ?_)
      rw [lst_s, wAm_1, up_s rfl, nI_clamp (by omega)]
      by_cases e : key = a.1 1 o
      · rw [upd_s e, if_pos ⟨h0, e.symm⟩]
        rfl
      · rw [upd_n e, if_neg (fun q => e q.2.symm)]
        exact hL key hkey
theorem m_last_0 (hi : i < 4) (hA : AI a w) {lim m : Nat} (hl : lim < 2 ^ 31) (hm : m = min lim 200) {M0 : MS} : ∀ (d n k : Nat) (M : MS), MR a (M.1 0) (i * 1274) → F5 M0 M → k + d = 26 → d < n → (∀ key, key < k → M.1 5 key = -1) → ∃ M', fX9_replays_2 (nI i) (nI lim) n (nI k) M = some M' ∧ F5 M0 M' ∧ ML a m M' := by
  intro d
  induction d with
  | zero =>
    intro n k M hM hF h1 h2 hL
    obtain ⟨q9, rfl⟩ : ∃ q9, n = q9 + 1 := ⟨n - 1, by omega⟩
    obtain ⟨M', e1, e2⟩ := m_last_l hi hA hl hm m FU 0 M hM hF (by omega) (fu_lt (by omega)) (fun key hk => hL key (by omega))
    refine ⟨M', ?_, e2⟩
    rw [fX9_replays_2]
    simp (disch := omega) only [nlit, zl_d, zb_s, zb2_s, nI_leI, nI_ltI, nI_eq, nI_add, nI_clamp, zi_ok]
    rw [if_pos (by omega), e1]
  | succ d ih =>
    intro n k M hM hF h1 h2 hL
    obtain ⟨q9, rfl⟩ : ∃ q9, n = q9 + 1 := ⟨n - 1, by omega⟩
    obtain ⟨M', e1, e2⟩ := ih q9 (k + 1) (wAm M 5 (nI k) (-1)) (by rw [wAm_1, up_n (by omega)]; exact hM) (hF.up _ _) (by omega) (by omega) (fun key hk => by
      rw [wAm_1, up_s rfl, nI_clamp (by omega)]
      by_cases e : key = k
      · rw [upd_s e]
      · rw [upd_n e, hL key (by omega)])
    refine ⟨M', ?_, e2⟩
    rw [fX9_replays_2, if_neg (show ¬ (26 : Int32) ≤ nI k from nI_ge (b := 26) (by omega) (by omega)), zi_ok (by omega) (by omega), zl_d, nI_1, e1]
theorem m_last (hi : i < 4) (hM : MR a (M.1 0) (i * 1274)) (hA : AI a w) {lim m : Nat} (hl : lim < 2 ^ 31) (hm : m = min lim (a.1 6 0)) : ∃ M', fX9_replays (nI i) (nI lim) M = some M' ∧ F5 M M' ∧ ML a m M' := by
  have he := hA.2.1
  obtain ⟨M', e1, e2, e3⟩ := m_last_0 hi hA hl (m := min lim 200) rfl 26 FU 0 M hM F5.rf (by omega) (fu_lt (by omega)) (fun key h => absurd h (by omega))
  refine ⟨M', e1, e2, fun key hk => ?_⟩
  rw [e3 key hk]
  by_cases h : lim ≤ a.1 6 0
  · rw [show min lim 200 = m by omega]
  · have := lst_tail hA key (min lim 200 - a.1 6 0) (by omega)
    rw [show a.1 6 0 + (min lim 200 - a.1 6 0) = min lim 200 by omega] at this
    rw [this, show m = a.1 6 0 by omega]
theorem F5.MR {M M' : MS} (h : F5 M M') {b : Nat} (hM : MR a (M.1 0) b) : MR a (M'.1 0) b := by rw [h.1 0 (by omega)]; exact hM
theorem mpd_lt {m key : Nat} (h : mpd a m key = true) : lst a key m ≠ 0 ∧ a.1 0 (lst a key m - 1) = 1 := of_decide_eq_true h
theorem mpd_of {m key : Nat} (h0 : lst a key m ≠ 0) (h1 : a.1 0 (lst a key m - 1) = 1) : mpd a m key = true := decide_eq_true ⟨h0, h1⟩
theorem c_mapped (hC : CR a L) (hA : AI a w) {m key : Nat} (hL : CL a m L) (hm : m ≤ a.1 6 0) (hk : key < 26) : fX3_isMapped (nI key) L = some (if mpd a m key = true then 1 else 0) := by
  have he := hA.2.1
  have hl := lst_le (a := a) key m
  have h6 := hL key hk
  unfold fX3_isMapped
  rw [zi_ok hk (by omega), nI_clamp (by omega), h6]
  by_cases h0 : lst a key m = 0
  · rw [cd5, if_pos h0, if_pos (by decide), if_neg (fun q => (mpd_lt q).1 h0)]
  · obtain ⟨h1, h2, h3⟩ := lst_ok (a := a) key m h0
    have hf := (hC.1 (lst a key m - 1) (by omega)).1
    have hf2 := (hA.2.2.2.1 (lst a key m - 1) (by omega)).1
    rw [cd5, if_neg h0, if_neg (nI_pos (by omega)), zi_ok hk (by omega), zi_ok (by omega) (by omega), nI_clamp (by omega), hf, show (1 : Int32) = nI 1 from rfl]
    by_cases h4 : a.1 0 (lst a key m - 1) = 1
    · rw [if_pos ((nI_eq (by omega) (by omega)).mpr h4), if_pos (mpd_of h0 h4)]
    · rw [if_neg (fun q => h4 ((nI_eq (by omega) (by omega)).mp q)), if_neg (fun q => h4 (mpd_lt q).2)]
theorem m_mapped (hi : i < 4) (hM : MR a (M.1 0) (i * 1274)) (hA : AI a w) {m key : Nat} (hL : ML a m M) (hm : m ≤ a.1 6 0) (hk : key < 26) : fX9_isMapped (nI i) (nI key) M = some (if mpd a m key = true then 1 else 0) := by
  have he := hA.2.1
  have hl := lst_le (a := a) key m
  have h6 := hL key hk
  unfold fX9_isMapped
  rw [zi_ok hk (by omega), nI_clamp (by omega), h6]
  by_cases h0 : lst a key m = 0
  · rw [cd1, if_pos h0, if_pos (by decide), if_neg (fun q => (mpd_lt q).1 h0)]
  · obtain ⟨h1, h2, h3⟩ := lst_ok (a := a) key m h0
    have hf := (hM.1 (lst a key m - 1) (by omega)).2.2.2.2.1 h2
    have hf2 := (hA.2.2.2.1 (lst a key m - 1) (by omega)).1
    rw [cd1, if_neg h0, if_neg (nI_pos (by omega)), zi_ok hk (by omega), show (800 : Int32) = nI 800 from rfl, nI_add, m_at _ hi (by omega), zb_s, hf]
    by_cases h4 : a.1 0 (lst a key m - 1) = 1
    · rw [if_pos ((nI_eq0 (by omega)).mpr (by omega)), if_pos (mpd_of h0 h4)]
    · rw [if_neg (fun q => h4 (by have := (nI_eq0 (by omega)).mp q; omega)), if_neg (fun q => h4 (mpd_lt q).2)]
theorem mb_le (m key : Nat) : mb a m key ≤ 1 := by unfold mb; split <;> omega
theorem c_msize_l (hC : CR a L) (hA : AI a w) {m : Nat} (hL : CL a m L) (hm : m ≤ a.1 6 0) : ∀ (d n acc k : Nat), k + d = 26 → d < n → acc ≤ k → fX3_mapSize_9 n (nI acc) (nI k) L = some (nI (acc + sg (mb a m) k d), L) := by
  intro d
  induction d with
  | zero =>
    intro n acc k h1 h2 h3
    obtain ⟨q9, rfl⟩ : ∃ q9, n = q9 + 1 := ⟨n - 1, by omega⟩
    rw [fX3_mapSize_9]
    simp (disch := omega) only [nlit, zl_d, zb_s, zb2_s, nI_leI, nI_ltI, nI_eq, nI_add, nI_clamp, zi_ok]
    rw [if_pos (by omega)]
    rfl
  | succ d ih =>
    intro n acc k h1 h2 h3
    obtain ⟨q9, rfl⟩ : ∃ q9, n = q9 + 1 := ⟨n - 1, by omega⟩
    rw [fX3_mapSize_9, if_neg (show ¬ (26 : Int32) ≤ nI k from nI_ge (b := 26) (by omega) (by omega)), c_mapped hC hA hL hm (by omega), zb_s, nI_1 k, nI_1 acc, ih _ _ _ (by omega) (by omega) (by omega), ih _ _ _ (by omega) (by omega) (by omega), sg_s]
    unfold mb
    split
    · rw [if_neg (by decide), Nat.add_assoc]
    · rw [if_pos rfl, Nat.zero_add]
theorem m_msize_l (hi : i < 4) (hM : MR a (M.1 0) (i * 1274)) (hA : AI a w) {m : Nat} (hL : ML a m M) (hm : m ≤ a.1 6 0) : ∀ (d n acc k : Nat), k + d = 26 → d < n → acc ≤ k → fX9_mapped_4 (nI i) M n (nI acc) (nI k) = some (nI (acc + sg (mb a m) k d)) := by
  intro d
  induction d with
  | zero =>
    intro n acc k h1 h2 h3
    obtain ⟨q9, rfl⟩ : ∃ q9, n = q9 + 1 := ⟨n - 1, by omega⟩
    rw [fX9_mapped_4]
    simp (disch := omega) only [nlit, zl_d, zb_s, zb2_s, nI_leI, nI_ltI, nI_eq, nI_add, nI_clamp, zi_ok]
    rw [if_pos (by omega)]
    rfl
  | succ d ih =>
    intro n acc k h1 h2 h3
    obtain ⟨q9, rfl⟩ : ∃ q9, n = q9 + 1 := ⟨n - 1, by omega⟩
    rw [fX9_mapped_4, if_neg (show ¬ (26 : Int32) ≤ nI k from nI_ge (b := 26) (by omega) (by omega)), m_mapped hi hM hA hL hm (by omega), zb_s, nI_1 k, nI_1 acc, Int32.add_zero, ih _ _ _ (by omega) (by omega) (by omega), ih _ _ _ (by omega) (by omega) (by omega), sg_s]
    unfold mb
    split
    · rw [if_neg (by decide), Nat.add_assoc]
    · rw [if_pos rfl, Nat.zero_add]
theorem mapSize_eq (hC : CR a L) (hi : i < 4) (hM : MR a (M.1 0) (i * 1274)) (hA : AI a w) {lim m : Nat} (hl : lim < 2 ^ 31) (hm : m = min lim (a.1 6 0)) : ∃ L', fX3_mapSize (nI lim) L = some (nI (sg (mb a m) 0 26), L') ∧ CR a L' ∧ CL a m L' := by
  obtain ⟨L', e1, e2, e3⟩ := c_last hC hA hl hm
  refine ⟨L', ?_, e2, e3⟩
  unfold fX3_mapSize
  rw [e1, zb_s, show (0 : Int32) = nI 0 from rfl, c_msize_l e2 hA e3 (by omega) 26 FU 0 0 (by omega) (fu_lt (by omega)) (by omega), Nat.zero_add]
theorem m_msize (hi : i < 4) (hM : MR a (M.1 0) (i * 1274)) (hA : AI a w) {m : Nat} (hL : ML a m M) (hm : m ≤ a.1 6 0) : fX9_mapped (nI i) M = some (nI (sg (mb a m) 0 26)) := by
  unfold fX9_mapped
  rw [show (0 : Int32) = nI 0 from rfl, m_msize_l hi hM hA hL hm 26 FU 0 0 (by omega) (fu_lt (by omega)) (by omega), Nat.zero_add]
def mval (a : AB) (m key : Nat) : Int64 := if mpd a m key = true then (a.2 (lst a key m - 1)).toInt64 else -9223372036854775808
theorem c_mval (hC : CR a L) (hA : AI a w) {lim m key : Nat} (hl : lim < 2 ^ 31) (hm : m = min lim (a.1 6 0)) (hk : key < 26) : ∃ L', fX3_mapValue (nI key) (nI lim) L = some (mval a m key, L') ∧ CR a L' := by
  have he := hA.2.1
  obtain ⟨L', e1, e2, e3⟩ := c_last hC hA hl hm
  refine ⟨L', ?_, e2⟩
  unfold fX3_mapValue mval
  rw [e1, zb_s, c_mapped e2 hA e3 (by omega) hk, zb_s]
  by_cases h : mpd a m key = true
  · have h0 := (mpd_lt h).1
    obtain ⟨h1, h2, h3⟩ := lst_ok (a := a) key m h0
    have h6 := e3 key hk
    have hv := (e2.1 (lst a key m - 1) (by omega)).2.2.2.2
    rw [if_pos h, if_neg (by decide), if_pos h, zi_ok hk (by omega), nI_clamp (by omega), h6, cd5, if_neg h0, zi_ok (by omega) (by omega), nI_clamp (by omega), hv]
  · rw [if_neg h, if_pos rfl, if_neg h]
theorem m_mval (hi : i < 4) (hM : MR a (M.1 0) (i * 1274)) (hA : AI a w) {lim m key : Nat} (hl : lim < 2 ^ 31) (hm : m = min lim (a.1 6 0)) (hk : key < 26) : ∃ M', fX9_valueIn (nI i) (nI lim) (nI key) M = some (mval a m key, M') ∧ F5 M M' := by
  have he := hA.2.1
  obtain ⟨M', e1, e2, e3⟩ := m_last hi hM hA hl hm
  refine ⟨M', ?_, e2⟩
  have hM' := e2.MR hM
  unfold fX9_valueIn mval
  rw [e1, zb_s, m_mapped hi hM' hA e3 (by omega) hk, zb_s]
  by_cases h : mpd a m key = true
  · have h0 := (mpd_lt h).1
    obtain ⟨h1, h2, h3⟩ := lst_ok (a := a) key m h0
    have h6 := e3 key hk
    have hv := (hM'.1 (lst a key m - 1) (by omega)).2.2.2.2.2
    rw [if_pos h, if_neg (by decide), if_pos h, zi_ok hk (by omega), nI_clamp (by omega), h6, cd1, if_neg h0, show (1000 : Int32) = nI 1000 from rfl, nI_add, m_at _ hi (by omega), zb_s, hv]
  · rw [if_neg h, if_pos rfl, if_neg h]
end LAST
