/-! ===== PURE PART: numbers, sums, what a log is ===== -/
theorem nlit (k : Nat) : (OfNat.ofNat k : Int32) = nI k := Eq.trans rfl rfl
theorem zi_ok {α : Type} {x n : Nat} {K : Option α} (h : x < n) (hn : n < 2 ^ 31) : zi (nI x) n K = K := by
  unfold zi
  rw [if_neg (nI_in h hn)]
theorem zl_d {α β : Type} (x : α) (K : α → β) : zl x K = K x := Eq.trans rfl rfl
theorem zb_s {α β : Type} (v : α) (K : α → Option β) : zb (some v) K = K v := Eq.trans rfl rfl
theorem zb2_s {α β γ : Type} (v : α) (w : β) (K : α → β → Option γ) : zb2 (some (v, w)) K = K v w := Eq.trans rfl rfl
theorem zb_id {α : Type} (o : Option α) : zb o (fun v => some v) = o := by cases o <;> rfl
theorem nI_lt0 {a : Nat} (h : a < 2 ^ 31) : (nI a < 0) ↔ False := ⟨fun k => nI_pos h k, False.elim⟩
theorem nI_le0 {a : Nat} (h : a < 2 ^ 31) : (nI a ≤ 0) ↔ a = 0 := by
  rw [← nI_0, nI_leI h (by decide)]
  omega
theorem nI_0le {a : Nat} (h : a < 2 ^ 31) : (0 ≤ nI a) ↔ True := ⟨fun _ => trivial, fun _ => nI_pos' h⟩
theorem nI_eq0 {a : Nat} (h : a < 2 ^ 31) : (nI a = 0) ↔ a = 0 := by
  rw [← nI_0, nI_eq h (by decide)]
theorem upd_s {f : Nat → Int32} {k j : Nat} {x : Int32} (h : j = k) : upd f k x j = x := if_pos h
theorem upd_n {f : Nat → Int32} {k j : Nat} {x : Int32} (h : ¬ j = k) : upd f k x j = f j := if_neg h
theorem up_s {α : Type} {f : Nat → α} {k j : Nat} {x : α} (h : j = k) : va_up f k x j = x := by rw [h, va_up_self]
theorem up_n {α : Type} {f : Nat → α} {k j : Nat} {x : α} (h : ¬ j = k) : va_up f k x j = f j := va_up_ne _ _ h
theorem sA_1 (st : CS) (k : Nat) (f : Nat → Int32) : (sA st k f).1 = va_up st.1 k f := rfl
theorem sA_2 (st : CS) (k : Nat) (f : Nat → Int32) : (sA st k f).2 = st.2 := rfl
theorem sF_1 (st : CS) (k : Nat) (v : Int32) : (sF st k v).1 = st.1 := rfl
theorem sF_2 (st : CS) (k : Nat) (v : Int32) : (sF st k v).2 = va_up st.2 k v := rfl
theorem wA_1 (st : CS) (k : Nat) (i v : Int32) : (wA st k i v).1 = va_up st.1 k (upd (st.1 k) i.toNatClampNeg v) := rfl
theorem wA_2 (st : CS) (k : Nat) (i v : Int32) : (wA st k i v).2 = st.2 := rfl
theorem wAm_1 (st : MS) (k : Nat) (i v : Int32) : (wAm st k i v).1 = va_up st.1 k (upd (st.1 k) i.toNatClampNeg v) := rfl
theorem wAm_2 (st : MS) (k : Nat) (i v : Int32) : (wAm st k i v).2 = st.2 := rfl
theorem sFm_1 (st : MS) (k : Nat) (v : Int32) : (sFm st k v).1 = st.1 := rfl
theorem sFm_21 (st : MS) (k : Nat) (v : Int32) : (sFm st k v).2.1 = va_up st.2.1 k v := rfl
theorem sFm_22 (st : MS) (k : Nat) (v : Int32) : (sFm st k v).2.2 = st.2.2 := rfl
theorem wLm_1 (st : MS) (k : Nat) (i : Int32) (v : Int64) : (wLm st k i v).1 = st.1 := rfl
theorem wLm_21 (st : MS) (k : Nat) (i : Int32) (v : Int64) : (wLm st k i v).2.1 = st.2.1 := rfl
theorem wLm_22 (st : MS) (k : Nat) (i : Int32) (v : Int64) : (wLm st k i v).2.2 = va_up st.2.2 k (vp_updL (st.2.2 k) i.toNatClampNeg v) := rfl
/-- f o + f (o + 1) + .. (d of them) -/
def sg (f : Nat → Nat) : Nat → Nat → Nat
  | _, 0 => 0
  | o, d + 1 => f o + sg f (o + 1) d
theorem sg_0 (f : Nat → Nat) (o : Nat) : sg f o 0 = 0 := rfl
theorem sg_s (f : Nat → Nat) (o d : Nat) : sg f o (d + 1) = f o + sg f (o + 1) d := rfl
theorem sg_add (f : Nat → Nat) : ∀ (d1 o d2 : Nat), sg f o (d1 + d2) = sg f o d1 + sg f (o + d1) d2 := by
  intro d1
  induction d1 with
  | zero => intro o d2; simp [sg]
  | succ d1 ih =>
    intro o d2
    rw [show d1 + 1 + d2 = (d1 + d2) + 1 by omega, sg_s, sg_s, ih, show o + 1 + d1 = o + (d1 + 1) by omega]
    omega
theorem sg_congr {f g : Nat → Nat} : ∀ (d o : Nat), (∀ i, o ≤ i → i < o + d → f i = g i) → sg f o d = sg g o d := by
  intro d
  induction d with
  | zero => intro o _; rfl
  | succ d ih =>
    intro o h
    rw [sg_s, sg_s, h o (by omega) (by omega), ih (o + 1) (fun i h1 h2 => h i (by omega) (by omega))]
theorem sg_le {f : Nat → Nat} {c : Nat} : ∀ (d o : Nat), (∀ i, o ≤ i → i < o + d → f i ≤ c) → sg f o d ≤ c * d := by
  intro d
  induction d with
  | zero => intro o _; simp [sg]
  | succ d ih =>
    intro o h
    rw [sg_s, Nat.mul_succ]
    have h1 := h o (by omega) (by omega)
    have h2 := ih (o + 1) (fun i h1 h2 => h i (by omega) (by omega))
    omega
theorem sg_zero {f : Nat → Nat} : ∀ (d o : Nat), (∀ i, o ≤ i → i < o + d → f i = 0) → sg f o d = 0 := by
  intro d o h
  have := sg_le (f := f) (c := 0) d o (fun i h1 h2 => by rw [h i h1 h2]; exact Nat.le_refl 0)
  omega
theorem sg_split (f : Nat → Nat) {o m h : Nat} (h1 : o ≤ m) (h2 : m ≤ h) : sg f o (h - o) = sg f o (m - o) + sg f m (h - m) := by
  rw [show h - o = (m - o) + (h - m) by omega, sg_add, show o + (m - o) = m by omega]
/-- a log: a.1 k o: the form (0 gone, 1 value, 2 tomb), the key, the time, the size at the offset o; a.1 5 k: the base of segment k; a.1 6 0: the end; a.1 6 1: how many segments; a.2 o: the bits -/
abbrev AB : Type := (Nat → Nat → Nat) × (Nat → Int32)
def hb (a : AB) (o : Nat) : Nat := if a.1 0 o = 0 then 0 else 1
def wb (a : AB) (o : Nat) : Nat := if a.1 0 o = 0 then 0 else a.1 3 o
def VAL (v : Int32) : Prop := ∃ x y : Int32, fX0_quotient x y = some v
def CR (a : AB) (L : CS) : Prop := (∀ o, o < 200 → L.1 0 o = nI (a.1 0 o) ∧ L.1 1 o = nI (a.1 1 o) ∧ L.1 2 o = nI (a.1 2 o) ∧ L.1 3 o = nI (a.1 3 o) ∧ L.1 4 o = a.2 o) ∧ (∀ k, k < a.1 6 1 → L.1 5 k = nI (a.1 5 k)) ∧ L.2 0 = nI (a.1 6 0) ∧ L.2 1 = nI (a.1 6 1)
def MR (a : AB) (g : Nat → Int32) (b : Nat) : Prop := (∀ o, o < 200 → g (b + o) = nI (hb a o) ∧ g (b + (200 + o)) = nI (a.1 1 o) ∧ g (b + (400 + o)) = nI (a.1 2 o) ∧ g (b + (600 + o)) = nI (a.1 3 o) ∧ (a.1 0 o ≠ 0 → g (b + (800 + o)) = nI (a.1 0 o - 1)) ∧ g (b + (1000 + o)) = a.2 o) ∧ (∀ k, k < a.1 6 1 → g (b + (1200 + k)) = nI (a.1 5 k)) ∧ g (b + 1270) = nI (a.1 6 1) ∧ g (b + 1271) = nI (a.1 6 0)
def AI (a : AB) (w : Nat) : Prop := w < 100000 ∧ a.1 6 0 ≤ 200 ∧ 1 ≤ a.1 6 1 ∧ (∀ o, o < 200 → a.1 0 o ≤ 2 ∧ a.1 1 o < 26 ∧ a.1 2 o ≤ w ∧ a.1 3 o ≤ 9 ∧ (a.1 6 0 ≤ o → a.1 0 o = 0) ∧ (o < a.1 5 0 → a.1 0 o = 0) ∧ (a.1 0 o ≠ 0 → 1 ≤ a.1 3 o) ∧ VAL (a.2 o)) ∧ (∀ o, o + 1 < a.1 6 0 → a.1 2 o ≤ a.1 2 (o + 1)) ∧ (∀ k, k + 1 < a.1 6 1 → a.1 5 k + 3 ≤ a.1 5 (k + 1)) ∧ a.1 5 (a.1 6 1 - 1) ≤ a.1 6 0
theorem hb_le (a : AB) (o : Nat) : hb a o ≤ 1 := by unfold hb; split <;> omega
theorem AI.base {a : AB} {w : Nat} (h : AI a w) : ∀ (d k : Nat), k + d < a.1 6 1 → a.1 5 k + 3 * d ≤ a.1 5 (k + d) := by
  intro d
  induction d with
  | zero => intro k _; simp
  | succ d ih =>
    intro k hk
    have h1 := ih k (by omega)
    have h2 := h.2.2.2.2.2.1 (k + d) (by omega)
    rw [show k + (d + 1) = k + d + 1 by omega]
    omega
theorem AI.mono {a : AB} {w : Nat} (h : AI a w) {j k : Nat} (hj : j ≤ k) (hk : k < a.1 6 1) : a.1 5 j + 3 * (k - j) ≤ a.1 5 k := by
  have := h.base (k - j) j (by omega)
  rw [show j + (k - j) = k by omega] at this
  exact this
theorem AI.ble {a : AB} {w : Nat} (h : AI a w) {k : Nat} (hk : k < a.1 6 1) : a.1 5 k ≤ a.1 6 0 := by
  have h1 := h.mono (j := k) (k := a.1 6 1 - 1) (by omega) (by have := h.2.2.1; omega)
  have h2 := h.2.2.2.2.2.2
  omega
theorem AI.few {a : AB} {w : Nat} (h : AI a w) : a.1 6 1 ≤ 67 := by
  have h1 := h.mono (j := 0) (k := a.1 6 1 - 1) (by omega) (by have := h.2.2.1; omega)
  have h2 := h.2.2.2.2.2.2
  have h3 := h.2.1
  omega
/-- where segment k ends -/
def se (a : AB) (k : Nat) : Nat := if k + 1 < a.1 6 1 then a.1 5 (k + 1) else a.1 6 0
theorem AI.sele {a : AB} {w : Nat} (h : AI a w) {k : Nat} : se a k ≤ a.1 6 0 := by
  unfold se
  split
  · exact h.ble (by assumption)
  · exact Nat.le_refl _
theorem AI.bse {a : AB} {w : Nat} (h : AI a w) {k : Nat} (hk : k < a.1 6 1) : a.1 5 k ≤ se a k := by
  unfold se
  split
  · have := h.mono (j := k) (k := k + 1) (by omega) (by assumption)
    omega
  · exact h.ble hk
theorem fu_lt {d : Nat} (h : d < 10000) : d < FU := h
