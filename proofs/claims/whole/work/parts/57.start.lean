/-! ===== the start ===== -/
def a0 : AB := (fun k o => if k = 6 ∧ o = 1 then 1 else 0, fun _ => 0)
def A0 : AS := (fun _ => a0, fun k j => if k = 7 then (if j = 1 then 5 else if j = 2 then 100 else if j = 3 then 50 else 0) else 0, 0)
theorem a0_k {k o : Nat} (h : ¬ (k = 6 ∧ o = 1)) : a0.1 k o = 0 := if_neg h
theorem a0_n : a0.1 6 1 = 1 := by decide
theorem a0_I : AI a0 0 := by
  refine ⟨by omega, ?_, ?_, fun o ho => ?_, fun o ho => ?_, fun k hk => ?_, ?_⟩
  · rw [a0_k (by omega)]; omega
  · rw [a0_n]; omega
  · rw [a0_k (k := 0) (by omega), a0_k (k := 1) (by omega), a0_k (k := 2) (by omega), a0_k (k := 3) (by omega)]
    exact ⟨by omega, by omega, by omega, by omega, fun _ => rfl, fun _ => rfl, fun h => absurd rfl h, VAL0⟩
  · rw [a0_k (by omega)] at ho
    omega
  · rw [a0_n] at hk
    omega
  · rw [a0_n, a0_k (by omega)]
    omega
theorem a0_C : CR a0 lg0 := by
  refine ⟨fun o ho => ?_, fun k hk => ?_, ?_, ?_⟩
  · rw [a0_k (k := 0) (by omega), a0_k (k := 1) (by omega), a0_k (k := 2) (by omega), a0_k (k := 3) (by omega)]
    exact ⟨rfl, rfl, rfl, rfl, rfl⟩
  · rw [a0_k (by omega)]
    rfl
  · rw [a0_k (by omega)]
    rfl
  · rw [a0_n]
    rfl
theorem mo_gu : mo_17.1 0 = upd (upd (upd (upd (upd (upd (upd (upd (upd (upd (upd (fun _ => 0) 1270 1) 1272 (-1)) 2544 1) 2546 (-1)) 3818 1) 3820 (-1)) 5092 1) 5094 (-1)) 5097 5) 5098 100) 5099 50 := by
  have c1 : (((0 : Int32) * (1274 : Int32)) + (1270 : Int32)).toNatClampNeg = 1270 := by decide
  have c2 : (((0 : Int32) * (1274 : Int32)) + (1272 : Int32)).toNatClampNeg = 1272 := by decide
  have c3 : (((1 : Int32) * (1274 : Int32)) + (1270 : Int32)).toNatClampNeg = 2544 := by decide
  have c4 : (((1 : Int32) * (1274 : Int32)) + (1272 : Int32)).toNatClampNeg = 2546 := by decide
  have c5 : (((2 : Int32) * (1274 : Int32)) + (1270 : Int32)).toNatClampNeg = 3818 := by decide
  have c6 : (((2 : Int32) * (1274 : Int32)) + (1272 : Int32)).toNatClampNeg = 3820 := by decide
  have c7 : (((3 : Int32) * (1274 : Int32)) + (1270 : Int32)).toNatClampNeg = 5092 := by decide
  have c8 : (((3 : Int32) * (1274 : Int32)) + (1272 : Int32)).toNatClampNeg = 5094 := by decide
  have c9 : (5097 : Int32).toNatClampNeg = 5097 := by decide
  have c10 : (5098 : Int32).toNatClampNeg = 5098 := by decide
  have c11 : (5099 : Int32).toNatClampNeg = 5099 := by decide
  unfold mo_17 mo_16 mo_15 mo_14 mo_13 mo_12 mo_11 mo_10 mo_9 mo_8 mo_7 mo_6 mo_5 mo_4 mo_3 mo_2 mo_1
  simp (disch := omega) only [wAm_1, up_n, up_s, c1, c2, c3, c4, c5, c6, c7, c8, c9, c10, c11]
  rfl
theorem mo_z {j : Nat} (h : j ≠ 1270 ∧ j ≠ 1272 ∧ j ≠ 2544 ∧ j ≠ 2546 ∧ j ≠ 3818 ∧ j ≠ 3820 ∧ j ≠ 5092 ∧ j ≠ 5094 ∧ j ≠ 5097 ∧ j ≠ 5098 ∧ j ≠ 5099) : mo_17.1 0 j = 0 := by
  rw [mo_gu]
  simp (disch := omega) only [upd_n]
theorem mo_8t {t : Nat} (h : t < 6) : mo_17.1 8 t = -1 := by
  have c0 : (0 : Int32).toNatClampNeg = 0 := by decide
  have c1 : (1 : Int32).toNatClampNeg = 1 := by decide
  have c2 : (2 : Int32).toNatClampNeg = 2 := by decide
  have c3 : (3 : Int32).toNatClampNeg = 3 := by decide
  have c4 : (4 : Int32).toNatClampNeg = 4 := by decide
  have c5 : (5 : Int32).toNatClampNeg = 5 := by decide
  unfold mo_17 mo_16 mo_15 mo_14 mo_13 mo_12
  simp (disch := omega) only [wAm_1, up_s, c0, c1, c2, c3, c4, c5]
  have ht : t = 0 ∨ t = 1 ∨ t = 2 ∨ t = 3 ∨ t = 4 ∨ t = 5 := by omega
  rcases ht with rfl | rfl | rfl | rfl | rfl | rfl <;> simp (disch := omega) only [upd_s, upd_n]
theorem mo_9t (t : Nat) : mo_17.1 9 t = 0 := by
  unfold mo_17 mo_16 mo_15 mo_14 mo_13 mo_12 mo_11 mo_10 mo_9 mo_8 mo_7 mo_6 mo_5 mo_4 mo_3 mo_2 mo_1
  simp (disch := omega) only [wAm_1, up_n]
  rfl
theorem mo_S : ST A0 st0 (mo_17.1 0) := by
  have e0 : ∀ k j, k ≠ 7 → A0.2.1 k j = 0 := fun k j h => if_neg h
  refine ⟨⟨fun i hi => a0_C, ⟨fun m hm => ?_, rfl⟩, ⟨fun k hk => absurd hk (Nat.not_lt_zero k), rfl⟩, ⟨fun k hk => absurd hk (Nat.not_lt_zero k), rfl⟩, fun j hj => ?_⟩, ⟨fun i hi => ⟨⟨fun o ho => ?_, fun k hk => ?_, ?_, ?_⟩, ?_, ?_⟩, fun j hj => ?_, ?_, ?_, ?_, fun k hk => absurd hk (Nat.not_lt_zero k), ?_, fun k hk => absurd hk (Nat.not_lt_zero k)⟩, ⟨fun i hi => ?_, ?_, ?_, ?_, ?_, ?_, fun k hk => absurd hk (Nat.not_lt_zero k), fun k hk => absurd hk (Nat.not_lt_zero k)⟩⟩
  · rw [e0 0 m (by omega), e0 1 m (by omega), e0 2 m (by omega)]
    have hm4 : m = 0 ∨ m = 1 ∨ m = 2 ∨ m = 3 := by omega
    rcases hm4 with rfl | rfl | rfl | rfl <;> exact ⟨by decide, by decide, by decide⟩
  · have hj4 : j = 0 ∨ j = 1 ∨ j = 2 ∨ j = 3 := by omega
    rcases hj4 with rfl | rfl | rfl | rfl <;> rfl
  · have hz : hb a0 o = 0 := if_pos (a0_k (by omega))
    show mo_17.1 0 _ = nI (hb a0 o) ∧ mo_17.1 0 _ = nI (a0.1 1 o) ∧ mo_17.1 0 _ = nI (a0.1 2 o) ∧ mo_17.1 0 _ = nI (a0.1 3 o) ∧ _ ∧ mo_17.1 0 _ = a0.2 o
    rw [hz, a0_k (k := 1) (by omega), a0_k (k := 2) (by omega), a0_k (k := 3) (by omega), mo_z (by omega), mo_z (by omega), mo_z (by omega), mo_z (by omega), mo_z (j := i * 1274 + (1000 + o)) (by omega)]
    exact ⟨rfl, rfl, rfl, rfl, fun h => absurd (a0_k (by omega)) h, rfl⟩
  · have hk1 : k < 1 := by
      have : k < a0.1 6 1 := hk
      rw [a0_n] at this
      exact this
    show mo_17.1 0 _ = nI (a0.1 5 k)
    rw [a0_k (by omega), mo_z (by omega)]
    rfl
  · show mo_17.1 0 _ = nI (a0.1 6 1)
    rw [a0_n, mo_gu]
    have hi4 : i = 0 ∨ i = 1 ∨ i = 2 ∨ i = 3 := by omega
    rcases hi4 with rfl | rfl | rfl | rfl <;> simp (disch := omega) only [upd_s, upd_n] <;> rfl
  · show mo_17.1 0 _ = nI (a0.1 6 0)
    rw [a0_k (by omega), mo_z (by omega)]
    rfl
  · rw [e0 1 i (by omega), mo_gu]
    have hi4 : i = 0 ∨ i = 1 ∨ i = 2 ∨ i = 3 := by omega
    rcases hi4 with rfl | rfl | rfl | rfl <;> simp (disch := omega) only [upd_s, upd_n] <;> rfl
  · rw [e0 2 i (by omega), mo_z (by omega)]
    rfl
  · rw [mo_gu]
    have hj4 : j = 0 ∨ j = 1 ∨ j = 2 ∨ j = 3 := by omega
    rcases hj4 with rfl | rfl | rfl | rfl <;> simp (disch := omega) only [upd_s, upd_n] <;> rfl
  · rw [mo_z (by omega)]
    rfl
  · rw [mo_z (by omega)]
    rfl
  · rw [mo_z (by omega)]
    rfl
  · rw [mo_z (by omega)]
    rfl
  · rw [e0 0 i (by omega), e0 1 i (by omega), e0 2 i (by omega)]
    exact ⟨a0_I, by omega, by omega, fun h => absurd rfl h, by omega⟩
  · show (5 : Nat) ≤ 99
    omega
  · show (100 : Nat) ≤ 999
    omega
  · show (50 : Nat) ≤ 999
    omega
  · show (0 : Nat) ≤ 10
    omega
  · show (0 : Nat) ≤ 8
    omega
theorem rel0 : Rel kl0 mo_17 := by
  refine ⟨⟨A0, mo_S, ?_⟩, ⟨0, fun _ => 0, by omega, rfl, rfl, fun k hk => absurd hk (by omega)⟩, ⟨0, fun _ => 0, by omega, rfl, rfl, fun k hk => absurd hk (by omega)⟩, fun t ht => ⟨0, 0, by omega, by omega, fun _ => rfl, ?_, ?_, rfl, ?_, fun j hj => absurd hj (by omega)⟩, Or.inl ⟨rfl, rfl⟩⟩
  · show (0 : Nat) ≤ 9999
    omega
  · rfl
  · rw [mo_8t ht]
    rfl
  · rw [mo_9t]
    rfl
