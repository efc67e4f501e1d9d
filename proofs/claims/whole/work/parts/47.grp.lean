/-! ===== members: bits ===== -/
theorem or_bit : ∀ o, o < 4 → ∀ m, m < 2 ^ o → nI m ||| ((1 : Int32) <<< (nI o &&& 31)) = nI (m + 2 ^ o) := by decide +kernel
theorem or_nil : ∀ m, m < 16 → nI m ||| (0 : Int32) = nI m := by decide +kernel
theorem is_bit : ∀ o, o < 4 → ∀ m, m < 16 → (((nI m >>> (nI o &&& 31)) &&& (1 : Int32) = 1) ↔ m / 2 ^ o % 2 = 1) := by decide +kernel
theorem set_bit : ∀ o, o < 4 → ∀ m, m < 16 → m / 2 ^ o % 2 = 0 → nI m ||| ((1 : Int32) <<< (nI o &&& 31)) = nI (m + 2 ^ o) := by decide +kernel
theorem clr_bit : ∀ o, o < 4 → ∀ m, m < 16 → m / 2 ^ o % 2 = 1 → nI m &&& (((1 : Int32) <<< (nI o &&& 31)) ^^^ (-1 : Int32)) = nI (m - 2 ^ o) := by decide +kernel
def pop (m : Nat) : Nat := m % 2 + m / 2 % 2 + m / 4 % 2 + m / 8 % 2
theorem pop_le (m : Nat) : pop m ≤ 4 := by unfold pop; omega
theorem pop_c : ∀ m, m < 16 → fJ6_bitCount_0f7a4 (nI m) = some (nI (pop m)) := by decide +kernel
theorem bits_mono : ∀ (n k : Nat) (x y r : Int32), fX9_bits_4 n x y = some r → fX9_bits_4 (n + k) x y = some r := by
  intro n
  induction n with
  | zero => intro k x y r h; cases h
  | succ n ih =>
    intro k x y r h
    rw [show n + 1 + k = (n + k) + 1 by omega]
    rw [fX9_bits_4] at h ⊢
    by_cases q : y = 0
    · rw [if_pos q] at h ⊢
      exact h
    · rw [if_neg q, zl_d] at h ⊢
      exact ih _ _ _ _ h
theorem pop_m0 : ∀ m, m < 16 → fX9_bits_4 5 0 (nI m) = some (nI (pop m)) := by decide +kernel
theorem pop_m {m : Nat} (h : m < 16) : fX9_bits (nI m) = some (nI (pop m)) := by
  unfold fX9_bits
  rw [show FU = 5 + 9995 from rfl]
  exact bits_mono _ _ _ _ _ (pop_m0 m h)
theorem sg2_4 (q : Nat → Nat) : sg (fun j => q j * 2 ^ j) 0 4 = q 0 + 2 * q 1 + 4 * q 2 + 8 * q 3 := by
  have h : sg (fun j => q j * 2 ^ j) 0 4 = q 0 * 1 + (q 1 * 2 + (q 2 * 4 + (q 3 * 8 + 0))) := rfl
  omega
theorem sg_4 (q : Nat → Nat) : sg q 0 4 = q 0 + q 1 + q 2 + q 3 := by
  have h : sg q 0 4 = q 0 + (q 1 + (q 2 + (q 3 + 0))) := rfl
  omega
theorem sg2_lt {q : Nat → Nat} (hq : ∀ j, q j ≤ 1) : sg (fun j => q j * 2 ^ j) 0 4 < 16 := by
  have h0 := hq 0
  have h1 := hq 1
  have h2 := hq 2
  have h3 := hq 3
  rw [sg2_4]
  omega
theorem cd5_eq {v m : Nat} (hv : v < 1000) (hm : m < 1000) : (cd5 v = nI m) ↔ v = m + 1 := by
  unfold cd5
  by_cases h : v = 0
  · rw [if_pos h]
    constructor
    · intro q
      have : nI m < 0 := by rw [← q]; decide
      exact absurd this (nI_pos (by omega))
    · intro q; omega
  · rw [if_neg h, nI_eq (by omega) (by omega)]
    omega
theorem cd1_eq {v m : Nat} (hv : v < 1000) (hm : m < 1000) : (cd1 v = nI m) ↔ v = m + 1 := by
  unfold cd1
  by_cases h : v = 0
  · rw [if_pos h]
    constructor
    · intro q
      have : nI m < 0 := by rw [← q]; decide
      exact absurd this (nI_pos (by omega))
    · intro q; omega
  · rw [if_neg h, nI_eq (by omega) (by omega)]
    omega
theorem cd5_lt {v : Nat} (hv : v < 1000) : (cd5 v < 0) ↔ v = 0 := by
  unfold cd5
  by_cases h : v = 0
  · rw [if_pos h]; exact ⟨fun _ => h, fun _ => by decide⟩
  · rw [if_neg h, nI_lt0 (by omega)]; simp [h]
theorem cd1_lt {v : Nat} (hv : v < 1000) : (cd1 v < 0) ↔ v = 0 := by
  unfold cd1
  by_cases h : v = 0
  · rw [if_pos h]; exact ⟨fun _ => h, fun _ => by decide⟩
  · rw [if_neg h, nI_lt0 (by omega)]; simp [h]
theorem cd1_le {v : Nat} (hv : v < 1000) : (0 ≤ cd1 v) ↔ v ≠ 0 := by
  rw [← Int32.not_lt, cd1_lt hv]
theorem cd5_n {v : Nat} (hv : v < 1000) : (cd5 v = -5) ↔ v = 0 := by
  unfold cd5
  by_cases h : v = 0
  · rw [if_pos h]; exact ⟨fun _ => h, fun _ => rfl⟩
  · rw [if_neg h]
    constructor
    · intro q
      have : nI (v - 1) < 0 := by rw [q]; decide
      exact absurd this (nI_pos (by omega))
    · intro q; exact absurd q h
theorem cd5_inj {u v : Nat} (hu : u < 1000) (hv : v < 1000) : (cd5 u = cd5 v) ↔ u = v := by
  constructor
  · intro h
    by_cases q : v = 0
    · rw [q] at h ⊢
      exact (cd5_n hu).mp h
    · have : cd5 v = nI (v - 1) := if_neg q
      rw [this] at h
      have := (cd5_eq hu (by omega)).mp h
      omega
  · intro h; rw [h]
theorem cd1_inj {u v : Nat} (hu : u < 1000) (hv : v < 1000) : (cd1 u = cd1 v) ↔ u = v := by
  constructor
  · intro h
    by_cases q : v = 0
    · have h0 : cd1 v < 0 := (cd1_lt hv).mpr q
      rw [← h] at h0
      rw [q]
      exact (cd1_lt hu).mp h0
    · have : cd1 v = nI (v - 1) := if_neg q
      rw [this] at h
      have := (cd1_eq hu (by omega)).mp h
      omega
  · intro h; rw [h]
/-! ===== the group in the middle of a change ===== -/
def GS (q ow hd : Nat → Nat) (G0 G : CS) : Prop := (∀ m, m < 4 → G.1 0 m = nI (q m) ∧ G.1 1 m = cd5 (ow m) ∧ G.1 2 m = cd5 (hd m)) ∧ G.1 3 = G0.1 3 ∧ G.2 = G0.2
def MG (q ow : Nat → Nat) (M0 M : MS) : Prop := (∀ m, m < 4 → M.1 0 (m * 1274 + 1272) = cd1 (ow m)) ∧ M.1 0 5101 = nI (sg (fun j => q j * 2 ^ j) 0 4) ∧ (∀ j, (∀ m, m < 4 → j ≠ m * 1274 + 1272) → M.1 0 j = M0.1 0 j) ∧ (∀ k, k ≠ 0 → k ≠ 6 → M.1 k = M0.1 k) ∧ M.2 = M0.2
def OQ (q ow : Nat → Nat) : Prop := (∀ j, q j ≤ 1) ∧ (∀ j, j < 4 → ow j ≤ 4)
section GRP
variable {q ow hd : Nat → Nat} {G0 G : CS} {M0 M : MS} {m : Nat}
def lm (ow : Nat → Nat) (m : Nat) : Nat := sg (fun j => (if ow j = m + 1 then 1 else 0) * 2 ^ j) 0 4
theorem lm_lt (ow : Nat → Nat) (m : Nat) : lm ow m < 16 := sg2_lt (q := fun j => if ow j = m + 1 then 1 else 0) (fun j => by show (if ow j = m + 1 then 1 else 0) ≤ 1; split <;> omega)
theorem c_inBits_l (hq : ∀ j, q j ≤ 1) (hG : ∀ m, m < 4 → G.1 0 m = nI (q m)) : ∀ (d n acc o : Nat), o + d = 4 → d < n → acc < 2 ^ o → fX1_inBits_4 G n (nI acc) (nI o) = some (nI (acc + sg (fun j => q j * 2 ^ j) o d)) := by
  intro d
  induction d with
  | zero =>
    intro n acc o h1 h2 h3
    obtain ⟨q9, rfl⟩ : ∃ q9, n = q9 + 1 := ⟨n - 1, by omega⟩
    rw [fX1_inBits_4]
    simp (disch := omega) only [nlit, zl_d, zb_s, zb2_s, nI_leI, nI_ltI, nI_eq, nI_add, nI_clamp, zi_ok]
    rw [if_pos (by omega)]
    rfl
  | succ d ih =>
    intro n acc o h1 h2 h3
    obtain ⟨q9, rfl⟩ : ∃ q9, n = q9 + 1 := ⟨n - 1, by omega⟩
    have hp := Nat.pow_succ 2 o
    have hp0 := Nat.two_pow_pos o
    have hf := hG o (by omega)
    have hf2 := hq o
    rw [fX1_inBits_4, if_neg (show ¬ (4 : Int32) ≤ nI o from nI_ge (b := 4) (by omega) (by omega)), zi_ok (by omega) (by omega), nI_clamp (by omega), hf, nI_1, sg_s]
    by_cases h0 : q o = 0
    · rw [if_pos ((nI_eq0 (by omega)).mpr h0), ih _ _ _ (by omega) (by omega) (by omega), h0]
      simp
    · have hx : q o = 1 := by omega
      rw [if_neg (fun e => h0 ((nI_eq0 (by omega)).mp e)), zl_d, or_bit o (by omega) acc h3, ih _ _ _ (by omega) (by omega) (by omega), hx, Nat.add_assoc, Nat.one_mul]
theorem c_inBits (hq : ∀ j, q j ≤ 1) (hG : ∀ m, m < 4 → G.1 0 m = nI (q m)) : fX1_inBits G = some (nI (sg (fun j => q j * 2 ^ j) 0 4)) := by
  unfold fX1_inBits
  have := c_inBits_l hq hG 4 FU 0 0 (by omega) (fu_lt (by omega)) (by omega)
  rw [Nat.zero_add] at this
  exact this
theorem c_members (hq : ∀ j, q j ≤ 1) (hG : ∀ m, m < 4 → G.1 0 m = nI (q m)) : fX1_membersIn G = some (nI (pop (sg (fun j => q j * 2 ^ j) 0 4))) := by
  unfold fX1_membersIn
  rw [c_inBits hq hG, zb_s, pop_c _ (sg2_lt hq), zb_s]
theorem c_logBits_l (ho : ∀ j, j < 4 → ow j ≤ 4) (hG : ∀ j, j < 4 → G.1 1 j = cd5 (ow j)) (hm : m < 4) : ∀ (d n acc o : Nat), o + d = 4 → d < n → acc < 2 ^ o → fX1_logBits_4 (nI m) G n (nI acc) (nI o) = some (nI (acc + sg (fun j => (if ow j = m + 1 then 1 else 0) * 2 ^ j) o d)) := by
  intro d
  induction d with
  | zero =>
    intro n acc o h1 h2 h3
    obtain ⟨q9, rfl⟩ : ∃ q9, n = q9 + 1 := ⟨n - 1, by omega⟩
    rw [fX1_logBits_4]
    simp (disch := omega) only [nlit, zl_d, zb_s, zb2_s, nI_leI, nI_ltI, nI_eq, nI_add, nI_clamp, zi_ok]
    rw [if_pos (by omega)]
    rfl
  | succ d ih =>
    intro n acc o h1 h2 h3
    obtain ⟨q9, rfl⟩ : ∃ q9, n = q9 + 1 := ⟨n - 1, by omega⟩
    have hp := Nat.pow_succ 2 o
    have hp0 := Nat.two_pow_pos o
    have hf := hG o (by omega)
    have hf2 := ho o (by omega)
    rw [fX1_logBits_4, if_neg (show ¬ (4 : Int32) ≤ nI o from nI_ge (b := 4) (by omega) (by omega)), zi_ok (by omega) (by omega), nI_clamp (by omega), hf, nI_1, sg_s]
    by_cases h0 : ow o = m + 1
    · rw [if_pos ((cd5_eq (by omega) (by omega)).mpr h0), zl_d, or_bit o (by omega) acc h3, ih _ _ _ (by omega) (by omega) (by omega), if_pos h0, Nat.add_assoc, Nat.one_mul]
    · rw [if_neg (fun e => h0 ((cd5_eq (by omega) (by omega)).mp e)), ih _ _ _ (by omega) (by omega) (by omega), if_neg h0]
      simp
theorem c_logBits (ho : ∀ j, j < 4 → ow j ≤ 4) (hG : ∀ j, j < 4 → G.1 1 j = cd5 (ow j)) (hm : m < 4) : fX1_logBits (nI m) G = some (nI (lm ow m)) := by
  unfold fX1_logBits
  have := c_logBits_l ho hG hm 4 FU 0 0 (by omega) (fu_lt (by omega)) (by omega)
  rw [Nat.zero_add] at this
  exact this
theorem c_logsOf (ho : ∀ j, j < 4 → ow j ≤ 4) (hG : ∀ j, j < 4 → G.1 1 j = cd5 (ow j)) (hm : m < 4) : fX1_logsOf (nI m) G = some (nI (pop (lm ow m))) := by
  unfold fX1_logsOf
  rw [c_logBits ho hG hm, zb_s, pop_c _ (lm_lt ow m), zb_s]
theorem m_logsOf_l (ho : ∀ j, j < 4 → ow j ≤ 4) (hG : ∀ j, j < 4 → M.1 0 (j * 1274 + 1272) = cd1 (ow j)) (hm : m < 4) : ∀ (d n acc o : Nat), o + d = 4 → d < n → acc < 2 ^ o → fX9_logsOf_4 (nI m) M n (nI acc) (nI o) = some (nI (acc + sg (fun j => (if ow j = m + 1 then 1 else 0) * 2 ^ j) o d)) := by
  intro d
  induction d with
  | zero =>
    intro n acc o h1 h2 h3
    obtain ⟨q9, rfl⟩ : ∃ q9, n = q9 + 1 := ⟨n - 1, by omega⟩
    rw [fX9_logsOf_4]
    simp (disch := omega) only [nlit, zl_d, zb_s, zb2_s, nI_leI, nI_ltI, nI_eq, nI_add, nI_clamp, zi_ok]
    rw [if_pos (by omega)]
    rfl
  | succ d ih =>
    intro n acc o h1 h2 h3
    obtain ⟨q9, rfl⟩ : ∃ q9, n = q9 + 1 := ⟨n - 1, by omega⟩
    have hp := Nat.pow_succ 2 o
    have hp0 := Nat.two_pow_pos o
    have hp4 : 2 ^ o ≤ 16 := by
      have := Nat.pow_le_pow_right (n := 2) (by omega) (show o ≤ 4 by omega)
      omega
    have hf := hG o (by omega)
    have hf2 := ho o (by omega)
    rw [fX9_logsOf_4, if_neg (show ¬ (4 : Int32) ≤ nI o from nI_ge (b := 4) (by omega) (by omega)), show (1272 : Int32) = nI 1272 from rfl, m_at _ (by omega) (by omega), zb_s, hf, nI_1, sg_s]
    by_cases h0 : ow o = m + 1
    · rw [if_pos ((cd1_eq (by omega) (by omega)).mpr h0), zl_d, or_bit o (by omega) acc h3, ih _ _ _ (by omega) (by omega) (by omega), if_pos h0, Nat.add_assoc, Nat.one_mul]
    · rw [if_neg (fun e => h0 ((cd1_eq (by omega) (by omega)).mp e)), or_nil acc (by omega), ih _ _ _ (by omega) (by omega) (by omega), if_neg h0]
      simp
theorem m_logsOf (ho : ∀ j, j < 4 → ow j ≤ 4) (hG : ∀ j, j < 4 → M.1 0 (j * 1274 + 1272) = cd1 (ow j)) (hm : m < 4) : fX9_logsOf (nI m) M = some (nI (lm ow m)) := by
  unfold fX9_logsOf
  have := m_logsOf_l ho hG hm 4 FU 0 0 (by omega) (fu_lt (by omega)) (by omega)
  rw [Nat.zero_add] at this
  exact this
theorem msk_bit (hq : ∀ j, q j ≤ 1) (hm : m < 4) : sg (fun j => q j * 2 ^ j) 0 4 / 2 ^ m % 2 = q m := by
  have h0 := hq 0
  have h1 := hq 1
  have h2 := hq 2
  have h3 := hq 3
  have hm4 : m = 0 ∨ m = 1 ∨ m = 2 ∨ m = 3 := by omega
  rw [sg2_4]
  rcases hm4 with rfl | rfl | rfl | rfl
  · show _ / 1 % 2 = _
    omega
  · show _ / 2 % 2 = _
    omega
  · show _ / 4 % 2 = _
    omega
  · show _ / 8 % 2 = _
    omega
theorem m_isIn (hq : ∀ j, q j ≤ 1) (hG : M.1 0 5101 = nI (sg (fun j => q j * 2 ^ j) 0 4)) (hm : m < 4) : fX9_isIn (nI m) M = some (if q m = 1 then 1 else 0) := by
  unfold fX9_isIn
  rw [show (5101 : Int32) = nI 5101 from rfl, zi_ok (by omega) (by omega), nI_clamp (by omega), hG]
  by_cases h : q m = 1
  · rw [if_pos h, if_pos ((is_bit m hm _ (sg2_lt hq)).mpr (by rw [msk_bit hq hm]; exact h))]
  · rw [if_neg h, if_neg (fun e => h (by rw [← msk_bit hq hm]; exact (is_bit m hm _ (sg2_lt hq)).mp e))]
theorem m_members_l (hq : ∀ j, q j ≤ 1) (hG : M.1 0 5101 = nI (sg (fun j => q j * 2 ^ j) 0 4)) : ∀ (d n acc o : Nat), o + d = 4 → d < n → fX9_membersIn_4 M n (nI acc) (nI o) = some (nI (acc + sg q o d)) := by
  intro d
  induction d with
  | zero =>
    intro n acc o h1 h2
    obtain ⟨q9, rfl⟩ : ∃ q9, n = q9 + 1 := ⟨n - 1, by omega⟩
    rw [fX9_membersIn_4]
    simp (disch := omega) only [nlit, zl_d, zb_s, zb2_s, nI_leI, nI_ltI, nI_eq, nI_add, nI_clamp, zi_ok]
    rw [if_pos (by omega)]
    rfl
  | succ d ih =>
    intro n acc o h1 h2
    obtain ⟨q9, rfl⟩ : ∃ q9, n = q9 + 1 := ⟨n - 1, by omega⟩
    have hf2 := hq o
    rw [fX9_membersIn_4, if_neg (show ¬ (4 : Int32) ≤ nI o from nI_ge (b := 4) (by omega) (by omega)), m_isIn hq hG (by omega), zb_s, nI_1 o, nI_1 acc, Int32.add_zero, ih _ _ _ (by omega) (by omega), ih _ _ _ (by omega) (by omega), sg_s]
    by_cases h0 : q o = 1
    · rw [if_pos h0, if_neg (by decide), h0, Nat.add_assoc]
    · rw [if_neg h0, if_pos rfl, show q o = 0 by omega, Nat.zero_add]
theorem pop_sum (hq : ∀ j, q j ≤ 1) : pop (sg (fun j => q j * 2 ^ j) 0 4) = sg q 0 4 := by
  have h0 := hq 0
  have h1 := hq 1
  have h2 := hq 2
  have h3 := hq 3
  unfold pop
  rw [sg2_4, sg_4]
  omega
theorem m_members (hq : ∀ j, q j ≤ 1) (hG : M.1 0 5101 = nI (sg (fun j => q j * 2 ^ j) 0 4)) : fX9_membersIn M = some (nI (pop (sg (fun j => q j * 2 ^ j) 0 4))) := by
  unfold fX9_membersIn
  have := m_members_l hq hG 4 FU 0 0 (by omega) (fu_lt (by omega))
  rw [Nat.zero_add] at this
  rw [pop_sum hq]
  exact this
end GRP
