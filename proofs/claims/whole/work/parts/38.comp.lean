/-! ===== compaction ===== -/
def goes (a : AB) (now gr o : Nat) : Bool := decide (a.1 0 o ≠ 0 ∧ (o + 1 < lst a (a.1 1 o) (a.1 6 0) ∨ (a.1 0 o = 2 ∧ gr ≤ now - a.1 2 o)))
def gb (a : AB) (now gr o : Nat) : Nat := if goes a now gr o = true then 1 else 0
def cut (a : AB) (now gr c : Nat) : AB := (fun k o => if k = 0 ∧ o < c ∧ goes a now gr o = true then 0 else a.1 k o, a.2)
section COMP
variable {a : AB} {L : CS} {M : MS} {w i gr : Nat}
theorem goes_of {now o : Nat} (h : a.1 0 o ≠ 0 ∧ (o + 1 < lst a (a.1 1 o) (a.1 6 0) ∨ (a.1 0 o = 2 ∧ gr ≤ now - a.1 2 o))) : goes a now gr o = true := decide_eq_true h
theorem goes_is {now o : Nat} (h : goes a now gr o = true) : a.1 0 o ≠ 0 ∧ (o + 1 < lst a (a.1 1 o) (a.1 6 0) ∨ (a.1 0 o = 2 ∧ gr ≤ now - a.1 2 o)) := of_decide_eq_true h
theorem gb_le (now gr o : Nat) : gb a now gr o ≤ 1 := by unfold gb; split <;> omega
theorem cut_k {now c k o : Nat} (h : k ≠ 0) : (cut a now gr c).1 k o = a.1 k o := if_neg (fun q => h q.1)
theorem cut_ge {now c o : Nat} (h : c ≤ o) : (cut a now gr c).1 0 o = a.1 0 o := if_neg (fun q => by omega)
theorem cut_2 {now c : Nat} : (cut a now gr c).2 = a.2 := rfl
theorem cut_0 {now : Nat} : cut a now gr 0 = a := by
  refine Prod.ext (funext fun k => funext fun o => if_neg (fun q => by omega)) rfl
theorem cut_go {now c : Nat} (h : goes a now gr c = true) : cut a now gr (c + 1) = au (cut a now gr c) 0 c 0 := by
  refine Prod.ext (funext fun k => funext fun o => ?_) rfl
  by_cases e : k = 0 ∧ o = c
  · rw [au_s e]
    exact if_pos ⟨e.1, by omega, by rw [e.2]; exact h⟩
  · rw [au_n e]
    show (if k = 0 ∧ o < c + 1 ∧ goes a now gr o = true then 0 else a.1 k o) = (if k = 0 ∧ o < c ∧ goes a now gr o = true then 0 else a.1 k o)
    by_cases h1 : k = 0 ∧ o < c ∧ goes a now gr o = true
    · rw [if_pos h1, if_pos ⟨h1.1, by omega, h1.2.2⟩]
    · rw [if_neg h1, if_neg (fun q => h1 ⟨q.1, by omega, q.2.2⟩)]
theorem cut_stay {now c : Nat} (h : ¬ goes a now gr c = true) : cut a now gr (c + 1) = cut a now gr c := by
  refine Prod.ext (funext fun k => funext fun o => ?_) rfl
  show (if k = 0 ∧ o < c + 1 ∧ goes a now gr o = true then 0 else a.1 k o) = (if k = 0 ∧ o < c ∧ goes a now gr o = true then 0 else a.1 k o)
  by_cases h1 : k = 0 ∧ o < c ∧ goes a now gr o = true
  · rw [if_pos h1, if_pos ⟨h1.1, by omega, h1.2.2⟩]
  · rw [if_neg h1, if_neg (fun q => h1 ⟨q.1, by
      have : o ≠ c := fun e => h (by rw [← e]; exact q.2.2)
      omega, q.2.2⟩)]
theorem cut_le {now c o : Nat} : (cut a now gr c).1 0 o = 0 ∨ (cut a now gr c).1 0 o = a.1 0 o := by
  by_cases h1 : 0 = 0 ∧ o < c ∧ goes a now gr o = true
  · exact Or.inl (if_pos h1)
  · exact Or.inr (if_neg h1)
theorem cut_I (hA : AI a w) {now c : Nat} : AI (cut a now gr c) w := by
  obtain ⟨i1, i2, i3, i4, i5, i6, i7⟩ := hA
  refine ⟨i1, ?_, ?_, fun o ho => ?_, fun o ho => ?_, fun k hk => ?_, ?_⟩
  · rw [cut_k (by omega)]; exact i2
  · rw [cut_k (by omega)]; exact i3
  · obtain ⟨j1, j2, j3, j4, j5, j6, j7, j8⟩ := i4 o ho
    have hc := cut_le (a := a) (gr := gr) (now := now) (c := c) (o := o)
    rw [cut_k (k := 1) (by omega), cut_k (k := 2) (by omega), cut_k (k := 3) (by omega), cut_k (k := 6) (by omega), cut_k (k := 5) (by omega), cut_2]
    rcases hc with hc | hc
    · rw [hc]
      exact ⟨by omega, j2, j3, j4, fun _ => rfl, fun _ => rfl, fun q => absurd rfl q, j8⟩
    · rw [hc]
      exact ⟨j1, j2, j3, j4, j5, j6, j7, j8⟩
  · rw [cut_k (by omega)] at ho
    rw [cut_k (by omega), cut_k (by omega)]
    exact i5 o ho
  · rw [cut_k (by omega)] at hk
    rw [cut_k (by omega), cut_k (by omega)]
    exact i6 k hk
  · rw [cut_k (by omega), cut_k (by omega), cut_k (by omega)]
    exact i7
theorem c_goes (hA : AI a w) {c o : Nat} (hC : CR (cut a w gr c) L) (hL : CL a (a.1 6 0) L) (hc : c ≤ o) (ho : o < a.1 6 0) (hg : gr < 2 ^ 30) : fX3_goesCompacted (nI o) (nI w) (nI gr) L = some (if goes a w gr o = true then 1 else 0) := by
  have he := hA.2.1
  have hw := hA.1
  obtain ⟨c0, c1, c2, c3, c4⟩ := hC.1 o (by omega)
  obtain ⟨a0, a1, a2, a3, -⟩ := hA.2.2.2.1 o (by omega)
  rw [cut_ge hc] at c0
  rw [cut_k (by omega)] at c1 c2
  have h6 := hL (a.1 1 o) a1
  have hl := lst_le (a := a) (a.1 1 o) (a.1 6 0)
  unfold fX3_goesCompacted
  simp (disch := omega) only [nlit, zl_d, zb_s, zb2_s, nI_leI, nI_ltI, nI_eq, nI_add, nI_clamp, zi_ok, c0, c1, c2, pk_sub]
  rw [h6]
  by_cases h0 : a.1 0 o = 0
  · rw [if_pos h0, if_neg (fun q => (goes_is q).1 h0)]
  · rw [if_neg h0]
    have hlt : (nI o < cd5 (lst a (a.1 1 o) (a.1 6 0))) ↔ o + 1 < lst a (a.1 1 o) (a.1 6 0) := by
      unfold cd5
      by_cases hz : lst a (a.1 1 o) (a.1 6 0) = 0
      · rw [if_pos hz, hz]
        constructor
        · intro q
          have := Int32.lt_trans q (show (-5 : Int32) < 0 by decide)
          exact absurd this (nI_pos (by omega))
        · intro q
          omega
      · rw [if_neg hz, nI_ltI (by omega) (by omega)]
        omega
    by_cases h1 : o + 1 < lst a (a.1 1 o) (a.1 6 0)
    · rw [if_pos (hlt.mpr h1), if_pos (goes_of ⟨h0, Or.inl h1⟩)]
    · rw [if_neg (fun q => h1 (hlt.mp q))]
      by_cases h2 : a.1 0 o = 2
      · rw [if_pos h2]
        by_cases h3 : w - a.1 2 o < gr
        · rw [if_pos h3, if_neg (fun q => by have := (goes_is q).2; omega)]
        · rw [if_neg h3, if_pos (goes_of ⟨h0, Or.inr ⟨h2, by omega⟩⟩)]
      · rw [if_neg h2, if_neg (fun q => by have := (goes_is q).2; omega)]
theorem CR.clast {c : Nat} {x v : Int32} (h : CL a c L) {k : Nat} (hk : k ≠ 6) : CL a c (wA L k x v) := fun key hkey => by rw [wA_1, up_n (fun e => hk e.symm)]; exact h key hkey
theorem c_comp_l (hA : AI a w) (hg : gr < 2 ^ 30) {f : CS → Option CS} (hf : ∀ L, f L = fX3_joinSegments L) : ∀ (d n c acc : Nat) (L : CS), CR (cut a w gr c) L → CL a (a.1 6 0) L → c + d = a.1 5 (a.1 6 1 - 1) → d < n → acc ≤ c → ∃ L', fX3_compacted_13 (nI w) (nI gr) n (nI acc) (nI c) L = zb (fX3_joinSegments L') (fun q => some (nI (acc + sg (gb a w gr) c d), q)) ∧ CR (cut a w gr (a.1 5 (a.1 6 1 - 1))) L' := by
  have he := hA.2.1
  have hn := hA.2.2.1
  have hfew := hA.few
  have hbl := hA.ble (k := a.1 6 1 - 1) (by omega)
  intro d
  induction d with
  | zero =>
    intro n c acc L hC hL h1 h2 h3
    obtain ⟨q9, rfl⟩ : ∃ q9, n = q9 + 1 := ⟨n - 1, by omega⟩
    have hN := hC.2.2.2
    rw [cut_k (by omega)] at hN
    have hB := hC.2.1 (a.1 6 1 - 1) (by rw [cut_k (by omega)]; omega)
    rw [cut_k (by omega)] at hB
    refine ⟨L, ?_, by rw [← h1]; exact hC⟩
    rw [fX3_compacted_13, hN]
    simp (disch := omega) only [nlit, zl_d, zb_s, zb2_s, nI_leI, nI_ltI, nI_eq, nI_add, nI_clamp, zi_ok, pk_sub, hB]
    rw [if_pos (by omega)]
    rfl
  | succ d ih =>
    intro n c acc L hC hL h1 h2 h3
    obtain ⟨q9, rfl⟩ : ∃ q9, n = q9 + 1 := ⟨n - 1, by omega⟩
    have hN := hC.2.2.2
    rw [cut_k (by omega)] at hN
    have hB := hC.2.1 (a.1 6 1 - 1) (by rw [cut_k (by omega)]; omega)
    rw [cut_k (by omega)] at hB
    rw [fX3_compacted_13, hN]
    simp (disch := omega) only [nlit, zl_d, zb_s, zb2_s, nI_leI, nI_ltI, nI_eq, nI_add, nI_clamp, zi_ok, pk_sub, hB]
    rw [if_neg (by omega), c_goes hA hC hL (Nat.le_refl _) (by omega) hg, zb_s, sg_s]
    by_cases h : goes a w gr c = true
    · have hx : gb a w gr c = 1 := if_pos h
      rw [if_pos h, if_neg (by decide)]
      obtain ⟨L', e1, e2⟩ := ih q9 (c + 1) (acc + 1) _ (by rw [cut_go h]; exact hC.row (k := 0) (j := c) (v := 0) (by omega) (by omega)) (CR.clast hL (k := 0) (x := nI c) (v := nI 0) (by omega)) (by omega) (by omega) (by omega)
      refine ⟨L', ?_, e2⟩
      rw [e1, hx, Nat.add_assoc]
    · have hx : gb a w gr c = 0 := if_neg h
      rw [if_neg h, if_pos nI_0.symm]
      obtain ⟨L', e1, e2⟩ := ih q9 (c + 1) acc L (by rw [cut_stay h]; exact hC) hL (by omega) (by omega) (by omega)
      refine ⟨L', ?_, e2⟩
      rw [e1, hx, Nat.zero_add]
theorem c_gone_l (hA : AI a w) (hg : gr < 2 ^ 30) (hC : CR a L) (hL : CL a (a.1 6 0) L) : ∀ (d n c acc : Nat), c + d = a.1 5 (a.1 6 1 - 1) → d < n → acc ≤ c → fX3_goneIfCompacted_13 (nI w) (nI gr) n (nI acc) (nI c) L = some (nI (acc + sg (gb a w gr) c d), L) := by
  have he := hA.2.1
  have hn := hA.2.2.1
  have hfew := hA.few
  have hbl := hA.ble (k := a.1 6 1 - 1) (by omega)
  have hN := hC.2.2.2
  have hB := hC.2.1 (a.1 6 1 - 1) (by omega)
  have hC0 : CR (cut a w gr 0) L := by rw [cut_0]; exact hC
  intro d
  induction d with
  | zero =>
    intro n c acc h1 h2 h3
    obtain ⟨q9, rfl⟩ : ∃ q9, n = q9 + 1 := ⟨n - 1, by omega⟩
    rw [fX3_goneIfCompacted_13, hN]
    simp (disch := omega) only [nlit, zl_d, zb_s, zb2_s, nI_leI, nI_ltI, nI_eq, nI_add, nI_clamp, zi_ok, pk_sub, hB]
    rw [if_pos (by omega)]
    rfl
  | succ d ih =>
    intro n c acc h1 h2 h3
    obtain ⟨q9, rfl⟩ : ∃ q9, n = q9 + 1 := ⟨n - 1, by omega⟩
    rw [fX3_goneIfCompacted_13, hN]
    simp (disch := omega) only [nlit, zl_d, zb_s, zb2_s, nI_leI, nI_ltI, nI_eq, nI_add, nI_clamp, zi_ok, pk_sub, hB]
    rw [if_neg (by omega), c_goes hA hC0 hL (by omega) (by omega) hg, zb_s, sg_s, ih _ _ _ (by omega) (by omega) (by omega), ih _ _ _ (by omega) (by omega) (by omega)]
    by_cases h : goes a w gr c = true
    · have hx : gb a w gr c = 1 := if_pos h
      rw [if_pos h, if_neg (by decide), hx, Nat.add_assoc]
    · have hx : gb a w gr c = 0 := if_neg h
      rw [if_neg h, if_pos nI_0.symm, hx, Nat.zero_add]
theorem c_gone (hA : AI a w) (hg : gr < 2 ^ 30) (hC : CR a L) : ∃ L', fX3_goneIfCompacted (nI w) (nI gr) L = some (nI (sg (gb a w gr) 0 (a.1 5 (a.1 6 1 - 1))), L') ∧ CR a L' := by
  have he := hA.2.1
  have hn := hA.2.2.1
  have hbl := hA.ble (k := a.1 6 1 - 1) (by omega)
  obtain ⟨L', e1, e2, e3⟩ := c_last hC hA (lim := a.1 6 0) (m := a.1 6 0) (by omega) (by omega)
  refine ⟨L', ?_, e2⟩
  unfold fX3_goneIfCompacted
  rw [hC.2.2.1, e1, zb_s, show (0 : Int32) = nI 0 from rfl, c_gone_l hA hg e2 e3 (a.1 5 (a.1 6 1 - 1)) FU 0 0 (by omega) (fu_lt (by omega)) (by omega), Nat.zero_add]
theorem lst_gt (key : Nat) {o : Nat} : ∀ m, o < lst a key m ↔ ∃ q, o ≤ q ∧ q < m ∧ a.1 0 q ≠ 0 ∧ a.1 1 q = key := by
  intro m
  induction m with
  | zero => exact ⟨fun h => absurd h (Nat.not_lt_zero _), fun ⟨q, _, h, _⟩ => absurd h (Nat.not_lt_zero _)⟩
  | succ m ih =>
    rw [lst_s]
    by_cases h : a.1 0 m ≠ 0 ∧ a.1 1 m = key
    · rw [if_pos h]
      exact ⟨fun q => ⟨m, by omega, by omega, h⟩, fun ⟨q, h1, h2, _⟩ => by omega⟩
    · rw [if_neg h, ih]
      constructor
      · rintro ⟨q, h1, h2, h3⟩
        exact ⟨q, h1, by omega, h3⟩
      · rintro ⟨q, h1, h2, h3⟩
        exact ⟨q, h1, by
          have : q ≠ m := fun e => h (by rw [← e]; exact h3)
          omega, h3⟩
end COMP
