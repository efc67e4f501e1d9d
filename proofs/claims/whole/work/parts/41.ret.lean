/-! ===== retention ===== -/
def nb (a : AB) (w ag o : Nat) : Nat := if a.1 0 o ≠ 0 ∧ w ≤ a.1 2 o + ag then 1 else 0
def goj (a : AB) (kp w ag j : Nat) : Bool := decide (kp < sg (wb a) (a.1 5 j) (a.1 6 0 - a.1 5 j) ∨ sg (nb a w ag) (a.1 5 j) (a.1 5 (j + 1) - a.1 5 j) = 0)
def gng (a : AB) (kp w ag : Nat) : Nat → Nat → Nat
  | 0, j => j
  | d + 1, j => if goj a kp w ag j = true then gng a kp w ag d (j + 1) else j
def zr (a : AB) (c : Nat) : AB := (fun k o => if k = 0 ∧ o < c then 0 else a.1 k o, a.2)
def rt (a : AB) (j : Nat) : AB := drp (zr a (a.1 5 j)) 0 j
theorem lim_lt {t ag w : Nat} (ht : t < 2 ^ 29) (ha : ag < 2 ^ 29) (hw : w < 2 ^ 29) : (nI t < nI w - nI ag) ↔ t + ag < w := by
  rw [Int32.lt_iff_toInt_lt, pk_sub_toInt (by omega) (by omega), nI_toInt (by omega)]
  omega
section RET
variable {a : AB} {L : CS} {M : MS} {w i ag kp : Nat}
theorem gng_s (d j : Nat) : gng a kp w ag (d + 1) j = if goj a kp w ag j = true then gng a kp w ag d (j + 1) else j := rfl
theorem gng_le : ∀ (d j : Nat), j ≤ gng a kp w ag d j ∧ gng a kp w ag d j ≤ j + d := by
  intro d
  induction d with
  | zero => intro j; exact ⟨Nat.le_refl _, Nat.le_refl _⟩
  | succ d ih =>
    intro j
    rw [gng_s]
    have := ih (j + 1)
    split <;> omega
theorem nb_le (o : Nat) : nb a w ag o ≤ 1 := by unfold nb; split <;> omega
theorem zr_k {c k o : Nat} (h : k ≠ 0) : (zr a c).1 k o = a.1 k o := if_neg (fun q => h q.1)
theorem zr_ge {c o : Nat} (h : c ≤ o) : (zr a c).1 0 o = a.1 0 o := if_neg (fun q => by omega)
theorem zr_lt {c o : Nat} (h : o < c) : (zr a c).1 0 o = 0 := if_pos ⟨rfl, h⟩
theorem zr_2 {c : Nat} : (zr a c).2 = a.2 := rfl
theorem zr_s (c : Nat) : zr a (c + 1) = au (zr a c) 0 c 0 := by
  refine Prod.ext (funext fun k => funext fun o => ?_) rfl
  by_cases e : k = 0 ∧ o = c
  · rw [au_s e]
    exact if_pos ⟨e.1, by omega⟩
  · rw [au_n e]
    show (if k = 0 ∧ o < c + 1 then 0 else a.1 k o) = (if k = 0 ∧ o < c then 0 else a.1 k o)
    by_cases h1 : k = 0 ∧ o < c
    · rw [if_pos h1, if_pos (by omega)]
    · rw [if_neg h1, if_neg (by omega)]
theorem zr_0 : zr a 0 = a := Prod.ext (funext fun k => funext fun o => if_neg (fun q => by omega)) rfl
theorem zr_base (hA : AI a w) : zr a (a.1 5 0) = a := by
  refine Prod.ext (funext fun k => funext fun o => ?_) rfl
  show (if k = 0 ∧ o < a.1 5 0 then 0 else a.1 k o) = a.1 k o
  by_cases h : k = 0 ∧ o < a.1 5 0
  · have h1 := hA.ble (k := 0) hA.2.2.1
    have h2 := hA.2.1
    rw [if_pos h, h.1, (hA.2.2.2.1 o (by omega)).2.2.2.2.2.1 h.2]
  · rw [if_neg h]
theorem zr_I (hA : AI a w) {c : Nat} : AI (zr a c) w := by
  obtain ⟨i1, i2, i3, i4, i5, i6, i7⟩ := hA
  refine ⟨i1, ?_, ?_, fun o ho => ?_, fun o ho => ?_, fun k hk => ?_, ?_⟩
  · rw [zr_k (by omega)]; exact i2
  · rw [zr_k (by omega)]; exact i3
  · obtain ⟨j1, j2, j3, j4, j5, j6, j7, j8⟩ := i4 o ho
    rw [zr_k (k := 1) (by omega), zr_k (k := 2) (by omega), zr_k (k := 3) (by omega), zr_k (k := 6) (by omega), zr_k (k := 5) (by omega), zr_2]
    by_cases h : o < c
    · rw [zr_lt h]
      exact ⟨by omega, j2, j3, j4, fun _ => rfl, fun _ => rfl, fun q => absurd rfl q, j8⟩
    · rw [zr_ge (by omega)]
      exact ⟨j1, j2, j3, j4, j5, j6, j7, j8⟩
  · rw [zr_k (by omega)] at ho
    rw [zr_k (by omega), zr_k (by omega)]
    exact i5 o ho
  · rw [zr_k (by omega)] at hk
    rw [zr_k (by omega), zr_k (by omega)]
    exact i6 k hk
  · rw [zr_k (by omega), zr_k (by omega), zr_k (by omega)]
    exact i7
theorem rt_I (hA : AI a w) {j : Nat} (hj : j < a.1 6 1) : AI (rt a j) w := drp_I (zr_I hA) (by rw [zr_k (by omega)]; omega) (fun _ o ho => by
  rw [zr_k (by omega)] at ho
  exact zr_lt ho)
theorem rt_0 (hA : AI a w) : rt a 0 = a := by
  unfold rt
  rw [zr_base hA]
  refine Prod.ext (funext fun k => funext fun o => ?_) rfl
  show (if k = 5 then (if o < 0 then a.1 5 o else a.1 5 (o + 0)) else if k = 6 ∧ o = 1 then a.1 6 1 - 0 else a.1 k o) = a.1 k o
  by_cases h : k = 5
  · rw [if_pos h, if_neg (by omega), h]; rfl
  · rw [if_neg h]
    by_cases h2 : k = 6 ∧ o = 1
    · rw [if_pos h2, h2.1, h2.2]; rfl
    · rw [if_neg h2]
theorem rt_5 (j o : Nat) : (rt a j).1 5 o = a.1 5 (o + j) := by
  unfold rt
  rw [drp_5g (by omega), zr_k (by omega)]
theorem rt_n (j : Nat) : (rt a j).1 6 1 = a.1 6 1 - j := by
  unfold rt
  rw [drp_n, zr_k (by omega)]
theorem rt_e (j : Nat) : (rt a j).1 6 0 = a.1 6 0 := by
  unfold rt
  rw [drp_e, zr_k (by omega)]
theorem rt_k {j k o : Nat} (h : k ≠ 0) (h2 : k < 5) : (rt a j).1 k o = a.1 k o := by
  unfold rt
  rw [drp_o h2, zr_k h]
theorem rt_ge {j o : Nat} (h : a.1 5 j ≤ o) : (rt a j).1 0 o = a.1 0 o := by
  unfold rt
  rw [drp_o (by omega), zr_ge h]
theorem rt_lt {j o : Nat} (h : o < a.1 5 j) : (rt a j).1 0 o = 0 := by
  unfold rt
  rw [drp_o (by omega), zr_lt h]
theorem rt_hb {j o : Nat} (h : a.1 5 j ≤ o) : hb (rt a j) o = hb a o := by unfold hb; rw [rt_ge h]
theorem rt_wb {j o : Nat} (h : a.1 5 j ≤ o) : wb (rt a j) o = wb a o := by unfold wb; rw [rt_ge h, rt_k (by omega) (by omega)]
theorem rt_nb {j o : Nat} (h : a.1 5 j ≤ o) : nb (rt a j) w ag o = nb a w ag o := by unfold nb; rw [rt_ge h, rt_k (by omega) (by omega)]
theorem rt_hb0 {j o : Nat} (h : o < a.1 5 j) : hb (rt a j) o = 0 := if_pos (rt_lt h)
theorem rt_wb0 {j o : Nat} (h : o < a.1 5 j) : wb (rt a j) o = 0 := if_pos (rt_lt h)
theorem rt_next (hA : AI a w) {j : Nat} (hj : j + 1 < a.1 6 1) : drp (zr (rt a j) ((rt a j).1 5 1)) 0 1 = rt a (j + 1) := by
  have hm := hA.mono (j := j) (k := j + 1) (by omega) hj
  rw [rt_5, show 1 + j = j + 1 by omega]
  refine Prod.ext (funext fun k => funext fun o => ?_) rfl
  by_cases h5 : k = 5
  · subst h5
    rw [drp_5g (by omega), zr_k (by omega), rt_5, rt_5, show o + 1 + j = o + (j + 1) by omega]
  · by_cases h6 : k = 6 ∧ o = 1
    · obtain ⟨rfl, rfl⟩ := h6
      rw [drp_n, zr_k (by omega), rt_n, rt_n]
      omega
    · have e1 : ∀ (b : AB) (t : Nat), (drp b 0 t).1 k o = b.1 k o := fun b t => by
        show (if k = 5 then _ else _) = _
        rw [if_neg h5, if_neg h6]
      rw [e1]
      have e2 : ∀ q, (rt a q).1 k o = (zr a (a.1 5 q)).1 k o := fun q => e1 _ _
      rw [e2]
      by_cases hk : k = 0
      · subst hk
        by_cases ho : o < a.1 5 (j + 1)
        · rw [zr_lt ho, zr_lt ho]
        · rw [zr_ge (by omega), zr_ge (by omega), e2, zr_ge (by omega)]
      · rw [zr_k hk, zr_k hk, e2, zr_k hk]
end RET
