def mo_0 : MS := (fun _ _ => 0, fun _ => 0, fun _ _ => 0)
def mo_1 : MS := wAm mo_0 0 (((0 : Int32) * (1274 : Int32)) + (1270 : Int32)) (1 : Int32)
def mo_2 : MS := wAm mo_1 0 (((0 : Int32) * (1274 : Int32)) + (1272 : Int32)) (-1 : Int32)
def mo_3 : MS := wAm mo_2 0 (((1 : Int32) * (1274 : Int32)) + (1270 : Int32)) (1 : Int32)
def mo_4 : MS := wAm mo_3 0 (((1 : Int32) * (1274 : Int32)) + (1272 : Int32)) (-1 : Int32)
def mo_5 : MS := wAm mo_4 0 (((2 : Int32) * (1274 : Int32)) + (1270 : Int32)) (1 : Int32)
def mo_6 : MS := wAm mo_5 0 (((2 : Int32) * (1274 : Int32)) + (1272 : Int32)) (-1 : Int32)
def mo_7 : MS := wAm mo_6 0 (((3 : Int32) * (1274 : Int32)) + (1270 : Int32)) (1 : Int32)
def mo_8 : MS := wAm mo_7 0 (((3 : Int32) * (1274 : Int32)) + (1272 : Int32)) (-1 : Int32)
def mo_9 : MS := wAm mo_8 0 (5097 : Int32) (5 : Int32)
def mo_10 : MS := wAm mo_9 0 (5098 : Int32) (100 : Int32)
def mo_11 : MS := wAm mo_10 0 (5099 : Int32) (50 : Int32)
def mo_12 : MS := wAm mo_11 8 (0 : Int32) (-1 : Int32)
def mo_13 : MS := wAm mo_12 8 (1 : Int32) (-1 : Int32)
def mo_14 : MS := wAm mo_13 8 (2 : Int32) (-1 : Int32)
def mo_15 : MS := wAm mo_14 8 (3 : Int32) (-1 : Int32)
def mo_16 : MS := wAm mo_15 8 (4 : Int32) (-1 : Int32)
def mo_17 : MS := wAm mo_16 8 (5 : Int32) (-1 : Int32)
set_option maxHeartbeats 4000000 in
set_option maxRecDepth 100000 in
theorem nX9_init {l : Launch} {D : va_G} {ct : Nat → ClassId} {J : List Nat} {ad : Nat → Nat} {c0 : CF} {b sz : Nat} (hbJ : b ∈ J) (hnew : ∀ k, 1 ≤ k → k ≤ 18 → b + k ∉ J) (had : ∀ k, 1 ≤ k → k ≤ 18 → ad (b + k) = sz + (k - 1)) (f_0 : c0 b = .inr (8, [.null, .null, .null, .int 0, .null, .int 0, .null, .null, .null, .int 0, .null, .null, .null, .null, .null, .int 0, .int 0])) : MN l D ct J ad yX9_init cX9_init 2 { frames := 1, cells := 18, slots := 16288, locals := 23 } [.ref (ad b)] c0 sz (fun J' c' => (∀ i, i ∈ J' ↔ i ∈ J ∨ (b < i ∧ i ≤ b + 18)) ∧ MoB ct J' ad c' b mo_17 ∧ Fr c0 c' b 19) 18 16288 := by
  refine MN_of (own := RX9) (by decide) rfl rfl (Nat.le_of_ble_eq_true rfl) (fun p e s m below meth cd hsz hE hr hlk hin hW ls hl => ?_)
  subst hsz
  have hx := hE.1
  have hb := hE.2.1
  have hA : ∀ q, s.heap.size ≤ q → aA J ad s.heap.size q := fun q h => Or.inr h
  have hz : s.heap.size + 0 ≤ s.heap.size := Nat.le_refl _
  have hl : lv_has ls 2 [(0, .ref (ad b))] := hl
  refine lv_aload_n hx hb dX9_init_0 rfl (lv_at hl 0 rfl) ?_
  refine W.objInit hx hb hE.2.2.2.1 (hE.2.2.2.2.1 _ q861) (hE.2.2.2.2.1 _ q22) (hE.2.2.2.2.1 _ q23) rfl (by rw [hE.2.2.1]; exact hl.1) rfl dX9_init_1 (Nat.le_of_ble_eq_true rfl) (Nat.le_of_ble_eq_true rfl) ?_
  refine W.eq (g2 := F0 m 4 ls []) rfl ?_
  refine lv_aload_n hx hb dX9_init_4 rfl (lv_at hl 0 rfl) ?_
  refine lv_sipush (v := (5140 : Int32)) hx hb dX9_init_5 (by decide) ?_
  refine W_sized (fun hup => ?_)
  refine k_newA (z := s.heap.size + 0) (i := (b + 1)) (t := 0) (N := 5140) (atype := .int) (x := (5140, .inl (fun _ => 0))) hE hW hA rfl rfl q79 (by omega) (had 1 (Nat.le_of_ble_eq_true rfl) (Nat.le_of_ble_eq_true rfl)) (hnew 1 (Nat.le_of_ble_eq_true rfl) (Nat.le_of_ble_eq_true rfl)) (fun _ => rfl) (fun _ => Iff.rfl) (by decide) (by decide) (Nat.le_of_ble_eq_true rfl) (Nat.le_of_ble_eq_true rfl) (Nat.le_of_ble_eq_true rfl) dX9_init_8 (fun H hz2 hWn => ?_)
  have hzn : s.heap.size + 1 ≤ H.size := by omega
  clear hz hz2 hup
  have hz := hzn
  clear hzn
  clear hW
  obtain ⟨J1, c, hJ1, f_0_1, f_1_1, hF1, hW1⟩ : ∃ (J' : List Nat) (c' : CF), (∀ i, i ∈ J' ↔ i ∈ J ∨ (b < i ∧ i ≤ b + 1)) ∧ c' b = .inr (8, [.null, .null, .null, .int 0, .null, .int 0, .null, .null, .null, .int 0, .null, .null, .null, .null, .null, .int 0, .int 0]) ∧ c' (b + 1) = .inl (ct 0, 5140, .inl (fun _ => 0)) ∧ Fr c0 c' b 19 ∧ HW D J' ad c' (aA J ad s.heap.size) s.heap H [] := ⟨_, _, (fun i => by rw [List.mem_append, List.mem_singleton]; by_cases hm : i ∈ J <;> simp only [hm, true_or, false_or, iff_true, or_true] <;> omega), (va_up_ne _ _ (by omega)).trans f_0, va_up_self _ _ _, Fr.rf.up (by omega) (by omega), hWn⟩
  clear f_0 hWn
  refine k_putF hE hW1.self ((hJ1 _).mpr (Or.inl hbJ)) f_0_1 rfl inX9 tyX9 tyX9_ok nmX9 0 (by decide) q868 rfl hin rfl rfl rfl (Nat.le_of_ble_eq_true rfl) dX9_init_10 (fun H locs hw1 => ?_)
  have hzn := Nat.le_trans hz hw1.2.2.1
  clear hz
  have hz := hzn
  clear hzn
  have hwn := hW1.trans hw1
  clear hW1 hw1
  have hW1 := hwn
  clear hwn
  obtain ⟨J1, c, hJ2, f_0_2, f_1_2, hF2, hW2⟩ : ∃ (J' : List Nat) (c' : CF), (∀ i, i ∈ J' ↔ i ∈ J ∨ (b < i ∧ i ≤ b + 1)) ∧ c' b = .inr (8, [.ref (ad (b + 1)), .null, .null, .int 0, .null, .int 0, .null, .null, .null, .int 0, .null, .null, .null, .null, .null, .int 0, .int 0]) ∧ c' (b + 1) = .inl (ct 0, 5140, .inl (fun _ => 0)) ∧ Fr c0 c' b 19 ∧ HW D J' ad c' (aA J ad s.heap.size) s.heap H locs := ⟨_, _, hJ1, va_up_self _ _ _, (va_up_ne _ _ (by omega)).trans f_1_1, hF1.up (by omega) (by omega), hW1⟩
  clear f_0_1 f_1_1 hJ1 hF1 hW1
  refine lv_aload_n hx hb dX9_init_13 rfl (lv_at hl 0 rfl) ?_
  refine lv_sipush (v := (5140 : Int32)) hx hb dX9_init_14 (by decide) ?_
  refine W_sized (fun hup => ?_)
  refine k_newA (z := s.heap.size + 1) (i := (b + 2)) (t := 0) (N := 5140) (atype := .int) (x := (5140, .inl (fun _ => 0))) hE hW2 hA rfl rfl q79 (by omega) (had 2 (Nat.le_of_ble_eq_true rfl) (Nat.le_of_ble_eq_true rfl)) (fun hh => by rcases (hJ2 _).mp hh with h1 | h1; exact hnew 2 (Nat.le_of_ble_eq_true rfl) (Nat.le_of_ble_eq_true rfl) h1; omega) (fun _ => rfl) (fun _ => Iff.rfl) (by decide) (by decide) (Nat.le_of_ble_eq_true rfl) (Nat.le_of_ble_eq_true rfl) (Nat.le_of_ble_eq_true rfl) dX9_init_17 (fun H hz2 hWn => ?_)
  have hzn : s.heap.size + 2 ≤ H.size := by omega
  clear hz hz2 hup
  have hz := hzn
  clear hzn
  clear hW2
  obtain ⟨J1, c, hJ3, f_0_3, f_1_3, f_2_3, hF3, hW3⟩ : ∃ (J' : List Nat) (c' : CF), (∀ i, i ∈ J' ↔ i ∈ J ∨ (b < i ∧ i ≤ b + 2)) ∧ c' b = .inr (8, [.ref (ad (b + 1)), .null, .null, .int 0, .null, .int 0, .null, .null, .null, .int 0, .null, .null, .null, .null, .null, .int 0, .int 0]) ∧ c' (b + 1) = .inl (ct 0, 5140, .inl (fun _ => 0)) ∧ c' (b + 2) = .inl (ct 0, 5140, .inl (fun _ => 0)) ∧ Fr c0 c' b 19 ∧ HW D J' ad c' (aA J ad s.heap.size) s.heap H locs := ⟨_, _, (fun i => by rw [List.mem_append, List.mem_singleton, hJ2 i]; by_cases hm : i ∈ J <;> simp only [hm, true_or, false_or, iff_true, or_true] <;> omega), (va_up_ne _ _ (by omega)).trans f_0_2, (va_up_ne _ _ (by omega)).trans f_1_2, va_up_self _ _ _, hF2.up (by omega) (by omega), hWn⟩
  clear f_0_2 f_1_2 hJ2 hF2 hWn
  refine k_putF hE hW3.self ((hJ3 _).mpr (Or.inl hbJ)) f_0_3 rfl inX9 tyX9 tyX9_ok nmX9 1 (by decide) q869 rfl hin rfl rfl rfl (Nat.le_of_ble_eq_true rfl) dX9_init_19 (fun H locs hw1 => ?_)
  have hzn := Nat.le_trans hz hw1.2.2.1
  clear hz
  have hz := hzn
  clear hzn
  have hwn := hW3.trans hw1
  clear hW3 hw1
  have hW3 := hwn
  clear hwn
  obtain ⟨J1, c, hJ4, f_0_4, f_1_4, f_2_4, hF4, hW4⟩ : ∃ (J' : List Nat) (c' : CF), (∀ i, i ∈ J' ↔ i ∈ J ∨ (b < i ∧ i ≤ b + 2)) ∧ c' b = .inr (8, [.ref (ad (b + 1)), .ref (ad (b + 2)), .null, .int 0, .null, .int 0, .null, .null, .null, .int 0, .null, .null, .null, .null, .null, .int 0, .int 0]) ∧ c' (b + 1) = .inl (ct 0, 5140, .inl (fun _ => 0)) ∧ c' (b + 2) = .inl (ct 0, 5140, .inl (fun _ => 0)) ∧ Fr c0 c' b 19 ∧ HW D J' ad c' (aA J ad s.heap.size) s.heap H locs := ⟨_, _, hJ3, va_up_self _ _ _, (va_up_ne _ _ (by omega)).trans f_1_3, (va_up_ne _ _ (by omega)).trans f_2_3, hF3.up (by omega) (by omega), hW3⟩
  clear f_0_3 f_1_3 f_2_3 hJ3 hF3 hW3
  refine lv_aload_n hx hb dX9_init_22 rfl (lv_at hl 0 rfl) ?_
  refine lv_sipush (v := (5140 : Int32)) hx hb dX9_init_23 (by decide) ?_
  refine W_sized (fun hup => ?_)
  refine k_newA (z := s.heap.size + 2) (i := (b + 3)) (t := 0) (N := 5140) (atype := .int) (x := (5140, .inl (fun _ => 0))) hE hW4 hA rfl rfl q79 (by omega) (had 3 (Nat.le_of_ble_eq_true rfl) (Nat.le_of_ble_eq_true rfl)) (fun hh => by rcases (hJ4 _).mp hh with h1 | h1; exact hnew 3 (Nat.le_of_ble_eq_true rfl) (Nat.le_of_ble_eq_true rfl) h1; omega) (fun _ => rfl) (fun _ => Iff.rfl) (by decide) (by decide) (Nat.le_of_ble_eq_true rfl) (Nat.le_of_ble_eq_true rfl) (Nat.le_of_ble_eq_true rfl) dX9_init_26 (fun H hz2 hWn => ?_)
  have hzn : s.heap.size + 3 ≤ H.size := by omega
  clear hz hz2 hup
  have hz := hzn
  clear hzn
  clear hW4
  obtain ⟨J1, c, hJ5, f_0_5, f_1_5, f_2_5, f_3_5, hF5, hW5⟩ : ∃ (J' : List Nat) (c' : CF), (∀ i, i ∈ J' ↔ i ∈ J ∨ (b < i ∧ i ≤ b + 3)) ∧ c' b = .inr (8, [.ref (ad (b + 1)), .ref (ad (b + 2)), .null, .int 0, .null, .int 0, .null, .null, .null, .int 0, .null, .null, .null, .null, .null, .int 0, .int 0]) ∧ c' (b + 1) = .inl (ct 0, 5140, .inl (fun _ => 0)) ∧ c' (b + 2) = .inl (ct 0, 5140, .inl (fun _ => 0)) ∧ c' (b + 3) = .inl (ct 0, 5140, .inl (fun _ => 0)) ∧ Fr c0 c' b 19 ∧ HW D J' ad c' (aA J ad s.heap.size) s.heap H locs := ⟨_, _, (fun i => by rw [List.mem_append, List.mem_singleton, hJ4 i]; by_cases hm : i ∈ J <;> simp only [hm, true_or, false_or, iff_true, or_true] <;> omega), (va_up_ne _ _ (by omega)).trans f_0_4, (va_up_ne _ _ (by omega)).trans f_1_4, (va_up_ne _ _ (by omega)).trans f_2_4, va_up_self _ _ _, hF4.up (by omega) (by omega), hWn⟩
  clear f_0_4 f_1_4 f_2_4 hJ4 hF4 hWn
  refine k_putF hE hW5.self ((hJ5 _).mpr (Or.inl hbJ)) f_0_5 rfl inX9 tyX9 tyX9_ok nmX9 2 (by decide) q870 rfl hin rfl rfl rfl (Nat.le_of_ble_eq_true rfl) dX9_init_28 (fun H locs hw1 => ?_)
  have hzn := Nat.le_trans hz hw1.2.2.1
  clear hz
  have hz := hzn
  clear hzn
  have hwn := hW5.trans hw1
  clear hW5 hw1
  have hW5 := hwn
  clear hwn
  obtain ⟨J1, c, hJ6, f_0_6, f_1_6, f_2_6, f_3_6, hF6, hW6⟩ : ∃ (J' : List Nat) (c' : CF), (∀ i, i ∈ J' ↔ i ∈ J ∨ (b < i ∧ i ≤ b + 3)) ∧ c' b = .inr (8, [.ref (ad (b + 1)), .ref (ad (b + 2)), .ref (ad (b + 3)), .int 0, .null, .int 0, .null, .null, .null, .int 0, .null, .null, .null, .null, .null, .int 0, .int 0]) ∧ c' (b + 1) = .inl (ct 0, 5140, .inl (fun _ => 0)) ∧ c' (b + 2) = .inl (ct 0, 5140, .inl (fun _ => 0)) ∧ c' (b + 3) = .inl (ct 0, 5140, .inl (fun _ => 0)) ∧ Fr c0 c' b 19 ∧ HW D J' ad c' (aA J ad s.heap.size) s.heap H locs := ⟨_, _, hJ5, va_up_self _ _ _, (va_up_ne _ _ (by omega)).trans f_1_5, (va_up_ne _ _ (by omega)).trans f_2_5, (va_up_ne _ _ (by omega)).trans f_3_5, hF5.up (by omega) (by omega), hW5⟩
  clear f_0_5 f_1_5 f_2_5 f_3_5 hJ5 hF5 hW5
  refine lv_aload_n hx hb dX9_init_31 rfl (lv_at hl 0 rfl) ?_
  refine lv_bipush (v := (100 : Int32)) hx hb dX9_init_32 (by decide) ?_
  refine W_sized (fun hup => ?_)
  refine k_newA (z := s.heap.size + 3) (i := (b + 4)) (t := 0) (N := 100) (atype := .int) (x := (100, .inl (fun _ => 0))) hE hW6 hA rfl rfl q79 (by omega) (had 4 (Nat.le_of_ble_eq_true rfl) (Nat.le_of_ble_eq_true rfl)) (fun hh => by rcases (hJ6 _).mp hh with h1 | h1; exact hnew 4 (Nat.le_of_ble_eq_true rfl) (Nat.le_of_ble_eq_true rfl) h1; omega) (fun _ => rfl) (fun _ => Iff.rfl) (by decide) (by decide) (Nat.le_of_ble_eq_true rfl) (Nat.le_of_ble_eq_true rfl) (Nat.le_of_ble_eq_true rfl) dX9_init_34 (fun H hz2 hWn => ?_)
  have hzn : s.heap.size + 4 ≤ H.size := by omega
  clear hz hz2 hup
  have hz := hzn
  clear hzn
  clear hW6
  obtain ⟨J1, c, hJ7, f_0_7, f_1_7, f_2_7, f_3_7, f_4_7, hF7, hW7⟩ : ∃ (J' : List Nat) (c' : CF), (∀ i, i ∈ J' ↔ i ∈ J ∨ (b < i ∧ i ≤ b + 4)) ∧ c' b = .inr (8, [.ref (ad (b + 1)), .ref (ad (b + 2)), .ref (ad (b + 3)), .int 0, .null, .int 0, .null, .null, .null, .int 0, .null, .null, .null, .null, .null, .int 0, .int 0]) ∧ c' (b + 1) = .inl (ct 0, 5140, .inl (fun _ => 0)) ∧ c' (b + 2) = .inl (ct 0, 5140, .inl (fun _ => 0)) ∧ c' (b + 3) = .inl (ct 0, 5140, .inl (fun _ => 0)) ∧ c' (b + 4) = .inl (ct 0, 100, .inl (fun _ => 0)) ∧ Fr c0 c' b 19 ∧ HW D J' ad c' (aA J ad s.heap.size) s.heap H locs := ⟨_, _, (fun i => by rw [List.mem_append, List.mem_singleton, hJ6 i]; by_cases hm : i ∈ J <;> simp only [hm, true_or, false_or, iff_true, or_true] <;> omega), (va_up_ne _ _ (by omega)).trans f_0_6, (va_up_ne _ _ (by omega)).trans f_1_6, (va_up_ne _ _ (by omega)).trans f_2_6, (va_up_ne _ _ (by omega)).trans f_3_6, va_up_self _ _ _, hF6.up (by omega) (by omega), hWn⟩
  clear f_0_6 f_1_6 f_2_6 f_3_6 hJ6 hF6 hWn
  refine k_putF hE hW7.self ((hJ7 _).mpr (Or.inl hbJ)) f_0_7 rfl inX9 tyX9 tyX9_ok nmX9 4 (by decide) q872 rfl hin rfl rfl rfl (Nat.le_of_ble_eq_true rfl) dX9_init_36 (fun H locs hw1 => ?_)
  have hzn := Nat.le_trans hz hw1.2.2.1
  clear hz
  have hz := hzn
  clear hzn
  have hwn := hW7.trans hw1
  clear hW7 hw1
  have hW7 := hwn
  clear hwn
  obtain ⟨J1, c, hJ8, f_0_8, f_1_8, f_2_8, f_3_8, f_4_8, hF8, hW8⟩ : ∃ (J' : List Nat) (c' : CF), (∀ i, i ∈ J' ↔ i ∈ J ∨ (b < i ∧ i ≤ b + 4)) ∧ c' b = .inr (8, [.ref (ad (b + 1)), .ref (ad (b + 2)), .ref (ad (b + 3)), .int 0, .ref (ad (b + 4)), .int 0, .null, .null, .null, .int 0, .null, .null, .null, .null, .null, .int 0, .int 0]) ∧ c' (b + 1) = .inl (ct 0, 5140, .inl (fun _ => 0)) ∧ c' (b + 2) = .inl (ct 0, 5140, .inl (fun _ => 0)) ∧ c' (b + 3) = .inl (ct 0, 5140, .inl (fun _ => 0)) ∧ c' (b + 4) = .inl (ct 0, 100, .inl (fun _ => 0)) ∧ Fr c0 c' b 19 ∧ HW D J' ad c' (aA J ad s.heap.size) s.heap H locs := ⟨_, _, hJ7, va_up_self _ _ _, (va_up_ne _ _ (by omega)).trans f_1_7, (va_up_ne _ _ (by omega)).trans f_2_7, (va_up_ne _ _ (by omega)).trans f_3_7, (va_up_ne _ _ (by omega)).trans f_4_7, hF7.up (by omega) (by omega), hW7⟩
  clear f_0_7 f_1_7 f_2_7 f_3_7 f_4_7 hJ7 hF7 hW7
  refine lv_aload_n hx hb dX9_init_39 rfl (lv_at hl 0 rfl) ?_
  refine lv_bipush (v := (60 : Int32)) hx hb dX9_init_40 (by decide) ?_
  refine W_sized (fun hup => ?_)
  refine k_newA (z := s.heap.size + 4) (i := (b + 5)) (t := 0) (N := 60) (atype := .int) (x := (60, .inl (fun _ => 0))) hE hW8 hA rfl rfl q79 (by omega) (had 5 (Nat.le_of_ble_eq_true rfl) (Nat.le_of_ble_eq_true rfl)) (fun hh => by rcases (hJ8 _).mp hh with h1 | h1; exact hnew 5 (Nat.le_of_ble_eq_true rfl) (Nat.le_of_ble_eq_true rfl) h1; omega) (fun _ => rfl) (fun _ => Iff.rfl) (by decide) (by decide) (Nat.le_of_ble_eq_true rfl) (Nat.le_of_ble_eq_true rfl) (Nat.le_of_ble_eq_true rfl) dX9_init_42 (fun H hz2 hWn => ?_)
  have hzn : s.heap.size + 5 ≤ H.size := by omega
  clear hz hz2 hup
  have hz := hzn
  clear hzn
  clear hW8
  obtain ⟨J1, c, hJ9, f_0_9, f_1_9, f_2_9, f_3_9, f_4_9, f_5_9, hF9, hW9⟩ : ∃ (J' : List Nat) (c' : CF), (∀ i, i ∈ J' ↔ i ∈ J ∨ (b < i ∧ i ≤ b + 5)) ∧ c' b = .inr (8, [.ref (ad (b + 1)), .ref (ad (b + 2)), .ref (ad (b + 3)), .int 0, .ref (ad (b + 4)), .int 0, .null, .null, .null, .int 0, .null, .null, .null, .null, .null, .int 0, .int 0]) ∧ c' (b + 1) = .inl (ct 0, 5140, .inl (fun _ => 0)) ∧ c' (b + 2) = .inl (ct 0, 5140, .inl (fun _ => 0)) ∧ c' (b + 3) = .inl (ct 0, 5140, .inl (fun _ => 0)) ∧ c' (b + 4) = .inl (ct 0, 100, .inl (fun _ => 0)) ∧ c' (b + 5) = .inl (ct 0, 60, .inl (fun _ => 0)) ∧ Fr c0 c' b 19 ∧ HW D J' ad c' (aA J ad s.heap.size) s.heap H locs := ⟨_, _, (fun i => by rw [List.mem_append, List.mem_singleton, hJ8 i]; by_cases hm : i ∈ J <;> simp only [hm, true_or, false_or, iff_true, or_true] <;> omega), (va_up_ne _ _ (by omega)).trans f_0_8, (va_up_ne _ _ (by omega)).trans f_1_8, (va_up_ne _ _ (by omega)).trans f_2_8, (va_up_ne _ _ (by omega)).trans f_3_8, (va_up_ne _ _ (by omega)).trans f_4_8, va_up_self _ _ _, hF8.up (by omega) (by omega), hWn⟩
  clear f_0_8 f_1_8 f_2_8 f_3_8 f_4_8 hJ8 hF8 hWn
  refine k_putF hE hW9.self ((hJ9 _).mpr (Or.inl hbJ)) f_0_9 rfl inX9 tyX9 tyX9_ok nmX9 6 (by decide) q874 rfl hin rfl rfl rfl (Nat.le_of_ble_eq_true rfl) dX9_init_44 (fun H locs hw1 => ?_)
  have hzn := Nat.le_trans hz hw1.2.2.1
  clear hz
  have hz := hzn
  clear hzn
  have hwn := hW9.trans hw1
  clear hW9 hw1
  have hW9 := hwn
  clear hwn
  obtain ⟨J1, c, hJ10, f_0_10, f_1_10, f_2_10, f_3_10, f_4_10, f_5_10, hF10, hW10⟩ : ∃ (J' : List Nat) (c' : CF), (∀ i, i ∈ J' ↔ i ∈ J ∨ (b < i ∧ i ≤ b + 5)) ∧ c' b = .inr (8, [.ref (ad (b + 1)), .ref (ad (b + 2)), .ref (ad (b + 3)), .int 0, .ref (ad (b + 4)), .int 0, .ref (ad (b + 5)), .null, .null, .int 0, .null, .null, .null, .null, .null, .int 0, .int 0]) ∧ c' (b + 1) = .inl (ct 0, 5140, .inl (fun _ => 0)) ∧ c' (b + 2) = .inl (ct 0, 5140, .inl (fun _ => 0)) ∧ c' (b + 3) = .inl (ct 0, 5140, .inl (fun _ => 0)) ∧ c' (b + 4) = .inl (ct 0, 100, .inl (fun _ => 0)) ∧ c' (b + 5) = .inl (ct 0, 60, .inl (fun _ => 0)) ∧ Fr c0 c' b 19 ∧ HW D J' ad c' (aA J ad s.heap.size) s.heap H locs := ⟨_, _, hJ9, va_up_self _ _ _, (va_up_ne _ _ (by omega)).trans f_1_9, (va_up_ne _ _ (by omega)).trans f_2_9, (va_up_ne _ _ (by omega)).trans f_3_9, (va_up_ne _ _ (by omega)).trans f_4_9, (va_up_ne _ _ (by omega)).trans f_5_9, hF9.up (by omega) (by omega), hW9⟩
  clear f_0_9 f_1_9 f_2_9 f_3_9 f_4_9 f_5_9 hJ9 hF9 hW9
  refine lv_aload_n hx hb dX9_init_47 rfl (lv_at hl 0 rfl) ?_
  refine lv_bipush (v := (26 : Int32)) hx hb dX9_init_48 (by decide) ?_
  refine W_sized (fun hup => ?_)
  refine k_newA (z := s.heap.size + 5) (i := (b + 6)) (t := 0) (N := 26) (atype := .int) (x := (26, .inl (fun _ => 0))) hE hW10 hA rfl rfl q79 (by omega) (had 6 (Nat.le_of_ble_eq_true rfl) (Nat.le_of_ble_eq_true rfl)) (fun hh => by rcases (hJ10 _).mp hh with h1 | h1; exact hnew 6 (Nat.le_of_ble_eq_true rfl) (Nat.le_of_ble_eq_true rfl) h1; omega) (fun _ => rfl) (fun _ => Iff.rfl) (by decide) (by decide) (Nat.le_of_ble_eq_true rfl) (Nat.le_of_ble_eq_true rfl) (Nat.le_of_ble_eq_true rfl) dX9_init_50 (fun H hz2 hWn => ?_)
  have hzn : s.heap.size + 6 ≤ H.size := by omega
  clear hz hz2 hup
  have hz := hzn
  clear hzn
  clear hW10
  obtain ⟨J1, c, hJ11, f_0_11, f_1_11, f_2_11, f_3_11, f_4_11, f_5_11, f_6_11, hF11, hW11⟩ : ∃ (J' : List Nat) (c' : CF), (∀ i, i ∈ J' ↔ i ∈ J ∨ (b < i ∧ i ≤ b + 6)) ∧ c' b = .inr (8, [.ref (ad (b + 1)), .ref (ad (b + 2)), .ref (ad (b + 3)), .int 0, .ref (ad (b + 4)), .int 0, .ref (ad (b + 5)), .null, .null, .int 0, .null, .null, .null, .null, .null, .int 0, .int 0]) ∧ c' (b + 1) = .inl (ct 0, 5140, .inl (fun _ => 0)) ∧ c' (b + 2) = .inl (ct 0, 5140, .inl (fun _ => 0)) ∧ c' (b + 3) = .inl (ct 0, 5140, .inl (fun _ => 0)) ∧ c' (b + 4) = .inl (ct 0, 100, .inl (fun _ => 0)) ∧ c' (b + 5) = .inl (ct 0, 60, .inl (fun _ => 0)) ∧ c' (b + 6) = .inl (ct 0, 26, .inl (fun _ => 0)) ∧ Fr c0 c' b 19 ∧ HW D J' ad c' (aA J ad s.heap.size) s.heap H locs := ⟨_, _, (fun i => by rw [List.mem_append, List.mem_singleton, hJ10 i]; by_cases hm : i ∈ J <;> simp only [hm, true_or, false_or, iff_true, or_true] <;> omega), (va_up_ne _ _ (by omega)).trans f_0_10, (va_up_ne _ _ (by omega)).trans f_1_10, (va_up_ne _ _ (by omega)).trans f_2_10, (va_up_ne _ _ (by omega)).trans f_3_10, (va_up_ne _ _ (by omega)).trans f_4_10, (va_up_ne _ _ (by omega)).trans f_5_10, va_up_self _ _ _, hF10.up (by omega) (by omega), hWn⟩
  clear f_0_10 f_1_10 f_2_10 f_3_10 f_4_10 f_5_10 hJ10 hF10 hWn
  refine k_putF hE hW11.self ((hJ11 _).mpr (Or.inl hbJ)) f_0_11 rfl inX9 tyX9 tyX9_ok nmX9 7 (by decide) q875 rfl hin rfl rfl rfl (Nat.le_of_ble_eq_true rfl) dX9_init_52 (fun H locs hw1 => ?_)
  have hzn := Nat.le_trans hz hw1.2.2.1
  clear hz
  have hz := hzn
  clear hzn
  have hwn := hW11.trans hw1
  clear hW11 hw1
  have hW11 := hwn
  clear hwn
  obtain ⟨J1, c, hJ12, f_0_12, f_1_12, f_2_12, f_3_12, f_4_12, f_5_12, f_6_12, hF12, hW12⟩ : ∃ (J' : List Nat) (c' : CF), (∀ i, i ∈ J' ↔ i ∈ J ∨ (b < i ∧ i ≤ b + 6)) ∧ c' b = .inr (8, [.ref (ad (b + 1)), .ref (ad (b + 2)), .ref (ad (b + 3)), .int 0, .ref (ad (b + 4)), .int 0, .ref (ad (b + 5)), .ref (ad (b + 6)), .null, .int 0, .null, .null, .null, .null, .null, .int 0, .int 0]) ∧ c' (b + 1) = .inl (ct 0, 5140, .inl (fun _ => 0)) ∧ c' (b + 2) = .inl (ct 0, 5140, .inl (fun _ => 0)) ∧ c' (b + 3) = .inl (ct 0, 5140, .inl (fun _ => 0)) ∧ c' (b + 4) = .inl (ct 0, 100, .inl (fun _ => 0)) ∧ c' (b + 5) = .inl (ct 0, 60, .inl (fun _ => 0)) ∧ c' (b + 6) = .inl (ct 0, 26, .inl (fun _ => 0)) ∧ Fr c0 c' b 19 ∧ HW D J' ad c' (aA J ad s.heap.size) s.heap H locs := ⟨_, _, hJ11, va_up_self _ _ _, (va_up_ne _ _ (by omega)).trans f_1_11, (va_up_ne _ _ (by omega)).trans f_2_11, (va_up_ne _ _ (by omega)).trans f_3_11, (va_up_ne _ _ (by omega)).trans f_4_11, (va_up_ne _ _ (by omega)).trans f_5_11, (va_up_ne _ _ (by omega)).trans f_6_11, hF11.up (by omega) (by omega), hW11⟩
  clear f_0_11 f_1_11 f_2_11 f_3_11 f_4_11 f_5_11 f_6_11 hJ11 hF11 hW11
  refine lv_aload_n hx hb dX9_init_55 rfl (lv_at hl 0 rfl) ?_
  refine lv_iconst (v := (4 : Int32)) hx hb dX9_init_56 (by decide) ?_
  refine W_sized (fun hup => ?_)
  refine k_newA (z := s.heap.size + 6) (i := (b + 7)) (t := 0) (N := 4) (atype := .int) (x := (4, .inl (fun _ => 0))) hE hW12 hA rfl rfl q79 (by omega) (had 7 (Nat.le_of_ble_eq_true rfl) (Nat.le_of_ble_eq_true rfl)) (fun hh => by rcases (hJ12 _).mp hh with h1 | h1; exact hnew 7 (Nat.le_of_ble_eq_true rfl) (Nat.le_of_ble_eq_true rfl) h1; omega) (fun _ => rfl) (fun _ => Iff.rfl) (by decide) (by decide) (Nat.le_of_ble_eq_true rfl) (Nat.le_of_ble_eq_true rfl) (Nat.le_of_ble_eq_true rfl) dX9_init_57 (fun H hz2 hWn => ?_)
  have hzn : s.heap.size + 7 ≤ H.size := by omega
  clear hz hz2 hup
  have hz := hzn
  clear hzn
  clear hW12
  obtain ⟨J1, c, hJ13, f_0_13, f_1_13, f_2_13, f_3_13, f_4_13, f_5_13, f_6_13, f_7_13, hF13, hW13⟩ : ∃ (J' : List Nat) (c' : CF), (∀ i, i ∈ J' ↔ i ∈ J ∨ (b < i ∧ i ≤ b + 7)) ∧ c' b = .inr (8, [.ref (ad (b + 1)), .ref (ad (b + 2)), .ref (ad (b + 3)), .int 0, .ref (ad (b + 4)), .int 0, .ref (ad (b + 5)), .ref (ad (b + 6)), .null, .int 0, .null, .null, .null, .null, .null, .int 0, .int 0]) ∧ c' (b + 1) = .inl (ct 0, 5140, .inl (fun _ => 0)) ∧ c' (b + 2) = .inl (ct 0, 5140, .inl (fun _ => 0)) ∧ c' (b + 3) = .inl (ct 0, 5140, .inl (fun _ => 0)) ∧ c' (b + 4) = .inl (ct 0, 100, .inl (fun _ => 0)) ∧ c' (b + 5) = .inl (ct 0, 60, .inl (fun _ => 0)) ∧ c' (b + 6) = .inl (ct 0, 26, .inl (fun _ => 0)) ∧ c' (b + 7) = .inl (ct 0, 4, .inl (fun _ => 0)) ∧ Fr c0 c' b 19 ∧ HW D J' ad c' (aA J ad s.heap.size) s.heap H locs := ⟨_, _, (fun i => by rw [List.mem_append, List.mem_singleton, hJ12 i]; by_cases hm : i ∈ J <;> simp only [hm, true_or, false_or, iff_true, or_true] <;> omega), (va_up_ne _ _ (by omega)).trans f_0_12, (va_up_ne _ _ (by omega)).trans f_1_12, (va_up_ne _ _ (by omega)).trans f_2_12, (va_up_ne _ _ (by omega)).trans f_3_12, (va_up_ne _ _ (by omega)).trans f_4_12, (va_up_ne _ _ (by omega)).trans f_5_12, (va_up_ne _ _ (by omega)).trans f_6_12, va_up_self _ _ _, hF12.up (by omega) (by omega), hWn⟩
  clear f_0_12 f_1_12 f_2_12 f_3_12 f_4_12 f_5_12 f_6_12 hJ12 hF12 hWn
  refine k_putF hE hW13.self ((hJ13 _).mpr (Or.inl hbJ)) f_0_13 rfl inX9 tyX9 tyX9_ok nmX9 8 (by decide) q876 rfl hin rfl rfl rfl (Nat.le_of_ble_eq_true rfl) dX9_init_59 (fun H locs hw1 => ?_)
  have hzn := Nat.le_trans hz hw1.2.2.1
  clear hz
  have hz := hzn
  clear hzn
  have hwn := hW13.trans hw1
  clear hW13 hw1
  have hW13 := hwn
  clear hwn
  obtain ⟨J1, c, hJ14, f_0_14, f_1_14, f_2_14, f_3_14, f_4_14, f_5_14, f_6_14, f_7_14, hF14, hW14⟩ : ∃ (J' : List Nat) (c' : CF), (∀ i, i ∈ J' ↔ i ∈ J ∨ (b < i ∧ i ≤ b + 7)) ∧ c' b = .inr (8, [.ref (ad (b + 1)), .ref (ad (b + 2)), .ref (ad (b + 3)), .int 0, .ref (ad (b + 4)), .int 0, .ref (ad (b + 5)), .ref (ad (b + 6)), .ref (ad (b + 7)), .int 0, .null, .null, .null, .null, .null, .int 0, .int 0]) ∧ c' (b + 1) = .inl (ct 0, 5140, .inl (fun _ => 0)) ∧ c' (b + 2) = .inl (ct 0, 5140, .inl (fun _ => 0)) ∧ c' (b + 3) = .inl (ct 0, 5140, .inl (fun _ => 0)) ∧ c' (b + 4) = .inl (ct 0, 100, .inl (fun _ => 0)) ∧ c' (b + 5) = .inl (ct 0, 60, .inl (fun _ => 0)) ∧ c' (b + 6) = .inl (ct 0, 26, .inl (fun _ => 0)) ∧ c' (b + 7) = .inl (ct 0, 4, .inl (fun _ => 0)) ∧ Fr c0 c' b 19 ∧ HW D J' ad c' (aA J ad s.heap.size) s.heap H locs := ⟨_, _, hJ13, va_up_self _ _ _, (va_up_ne _ _ (by omega)).trans f_1_13, (va_up_ne _ _ (by omega)).trans f_2_13, (va_up_ne _ _ (by omega)).trans f_3_13, (va_up_ne _ _ (by omega)).trans f_4_13, (va_up_ne _ _ (by omega)).trans f_5_13, (va_up_ne _ _ (by omega)).trans f_6_13, (va_up_ne _ _ (by omega)).trans f_7_13, hF13.up (by omega) (by omega), hW13⟩
  clear f_0_13 f_1_13 f_2_13 f_3_13 f_4_13 f_5_13 f_6_13 f_7_13 hJ13 hF13 hW13
  refine lv_aload_n hx hb dX9_init_62 rfl (lv_at hl 0 rfl) ?_
  refine lv_sipush (v := (240 : Int32)) hx hb dX9_init_63 (by decide) ?_
  refine W_sized (fun hup => ?_)
  refine k_newA (z := s.heap.size + 7) (i := (b + 8)) (t := 0) (N := 240) (atype := .int) (x := (240, .inl (fun _ => 0))) hE hW14 hA rfl rfl q79 (by omega) (had 8 (Nat.le_of_ble_eq_true rfl) (Nat.le_of_ble_eq_true rfl)) (fun hh => by rcases (hJ14 _).mp hh with h1 | h1; exact hnew 8 (Nat.le_of_ble_eq_true rfl) (Nat.le_of_ble_eq_true rfl) h1; omega) (fun _ => rfl) (fun _ => Iff.rfl) (by decide) (by decide) (Nat.le_of_ble_eq_true rfl) (Nat.le_of_ble_eq_true rfl) (Nat.le_of_ble_eq_true rfl) dX9_init_66 (fun H hz2 hWn => ?_)
  have hzn : s.heap.size + 8 ≤ H.size := by omega
  clear hz hz2 hup
  have hz := hzn
  clear hzn
  clear hW14
  obtain ⟨J1, c, hJ15, f_0_15, f_1_15, f_2_15, f_3_15, f_4_15, f_5_15, f_6_15, f_7_15, f_8_15, hF15, hW15⟩ : ∃ (J' : List Nat) (c' : CF), (∀ i, i ∈ J' ↔ i ∈ J ∨ (b < i ∧ i ≤ b + 8)) ∧ c' b = .inr (8, [.ref (ad (b + 1)), .ref (ad (b + 2)), .ref (ad (b + 3)), .int 0, .ref (ad (b + 4)), .int 0, .ref (ad (b + 5)), .ref (ad (b + 6)), .ref (ad (b + 7)), .int 0, .null, .null, .null, .null, .null, .int 0, .int 0]) ∧ c' (b + 1) = .inl (ct 0, 5140, .inl (fun _ => 0)) ∧ c' (b + 2) = .inl (ct 0, 5140, .inl (fun _ => 0)) ∧ c' (b + 3) = .inl (ct 0, 5140, .inl (fun _ => 0)) ∧ c' (b + 4) = .inl (ct 0, 100, .inl (fun _ => 0)) ∧ c' (b + 5) = .inl (ct 0, 60, .inl (fun _ => 0)) ∧ c' (b + 6) = .inl (ct 0, 26, .inl (fun _ => 0)) ∧ c' (b + 7) = .inl (ct 0, 4, .inl (fun _ => 0)) ∧ c' (b + 8) = .inl (ct 0, 240, .inl (fun _ => 0)) ∧ Fr c0 c' b 19 ∧ HW D J' ad c' (aA J ad s.heap.size) s.heap H locs := ⟨_, _, (fun i => by rw [List.mem_append, List.mem_singleton, hJ14 i]; by_cases hm : i ∈ J <;> simp only [hm, true_or, false_or, iff_true, or_true] <;> omega), (va_up_ne _ _ (by omega)).trans f_0_14, (va_up_ne _ _ (by omega)).trans f_1_14, (va_up_ne _ _ (by omega)).trans f_2_14, (va_up_ne _ _ (by omega)).trans f_3_14, (va_up_ne _ _ (by omega)).trans f_4_14, (va_up_ne _ _ (by omega)).trans f_5_14, (va_up_ne _ _ (by omega)).trans f_6_14, (va_up_ne _ _ (by omega)).trans f_7_14, va_up_self _ _ _, hF14.up (by omega) (by omega), hWn⟩
  clear f_0_14 f_1_14 f_2_14 f_3_14 f_4_14 f_5_14 f_6_14 f_7_14 hJ14 hF14 hWn
  refine k_putF hE hW15.self ((hJ15 _).mpr (Or.inl hbJ)) f_0_15 rfl inX9 tyX9 tyX9_ok nmX9 10 (by decide) q878 rfl hin rfl rfl rfl (Nat.le_of_ble_eq_true rfl) dX9_init_68 (fun H locs hw1 => ?_)
  have hzn := Nat.le_trans hz hw1.2.2.1
  clear hz
  have hz := hzn
  clear hzn
  have hwn := hW15.trans hw1
  clear hW15 hw1
  have hW15 := hwn
  clear hwn
  obtain ⟨J1, c, hJ16, f_0_16, f_1_16, f_2_16, f_3_16, f_4_16, f_5_16, f_6_16, f_7_16, f_8_16, hF16, hW16⟩ : ∃ (J' : List Nat) (c' : CF), (∀ i, i ∈ J' ↔ i ∈ J ∨ (b < i ∧ i ≤ b + 8)) ∧ c' b = .inr (8, [.ref (ad (b + 1)), .ref (ad (b + 2)), .ref (ad (b + 3)), .int 0, .ref (ad (b + 4)), .int 0, .ref (ad (b + 5)), .ref (ad (b + 6)), .ref (ad (b + 7)), .int 0, .ref (ad (b + 8)), .null, .null, .null, .null, .int 0, .int 0]) ∧ c' (b + 1) = .inl (ct 0, 5140, .inl (fun _ => 0)) ∧ c' (b + 2) = .inl (ct 0, 5140, .inl (fun _ => 0)) ∧ c' (b + 3) = .inl (ct 0, 5140, .inl (fun _ => 0)) ∧ c' (b + 4) = .inl (ct 0, 100, .inl (fun _ => 0)) ∧ c' (b + 5) = .inl (ct 0, 60, .inl (fun _ => 0)) ∧ c' (b + 6) = .inl (ct 0, 26, .inl (fun _ => 0)) ∧ c' (b + 7) = .inl (ct 0, 4, .inl (fun _ => 0)) ∧ c' (b + 8) = .inl (ct 0, 240, .inl (fun _ => 0)) ∧ Fr c0 c' b 19 ∧ HW D J' ad c' (aA J ad s.heap.size) s.heap H locs := ⟨_, _, hJ15, va_up_self _ _ _, (va_up_ne _ _ (by omega)).trans f_1_15, (va_up_ne _ _ (by omega)).trans f_2_15, (va_up_ne _ _ (by omega)).trans f_3_15, (va_up_ne _ _ (by omega)).trans f_4_15, (va_up_ne _ _ (by omega)).trans f_5_15, (va_up_ne _ _ (by omega)).trans f_6_15, (va_up_ne _ _ (by omega)).trans f_7_15, (va_up_ne _ _ (by omega)).trans f_8_15, hF15.up (by omega) (by omega), hW15⟩
  clear f_0_15 f_1_15 f_2_15 f_3_15 f_4_15 f_5_15 f_6_15 f_7_15 f_8_15 hJ15 hF15 hW15
  refine lv_aload_n hx hb dX9_init_71 rfl (lv_at hl 0 rfl) ?_
  refine lv_bipush (v := (6 : Int32)) hx hb dX9_init_72 (by decide) ?_
  refine W_sized (fun hup => ?_)
  refine k_newA (z := s.heap.size + 8) (i := (b + 9)) (t := 0) (N := 6) (atype := .int) (x := (6, .inl (fun _ => 0))) hE hW16 hA rfl rfl q79 (by omega) (had 9 (Nat.le_of_ble_eq_true rfl) (Nat.le_of_ble_eq_true rfl)) (fun hh => by rcases (hJ16 _).mp hh with h1 | h1; exact hnew 9 (Nat.le_of_ble_eq_true rfl) (Nat.le_of_ble_eq_true rfl) h1; omega) (fun _ => rfl) (fun _ => Iff.rfl) (by decide) (by decide) (Nat.le_of_ble_eq_true rfl) (Nat.le_of_ble_eq_true rfl) (Nat.le_of_ble_eq_true rfl) dX9_init_74 (fun H hz2 hWn => ?_)
  have hzn : s.heap.size + 9 ≤ H.size := by omega
  clear hz hz2 hup
  have hz := hzn
  clear hzn
  clear hW16
  obtain ⟨J1, c, hJ17, f_0_17, f_1_17, f_2_17, f_3_17, f_4_17, f_5_17, f_6_17, f_7_17, f_8_17, f_9_17, hF17, hW17⟩ : ∃ (J' : List Nat) (c' : CF), (∀ i, i ∈ J' ↔ i ∈ J ∨ (b < i ∧ i ≤ b + 9)) ∧ c' b = .inr (8, [.ref (ad (b + 1)), .ref (ad (b + 2)), .ref (ad (b + 3)), .int 0, .ref (ad (b + 4)), .int 0, .ref (ad (b + 5)), .ref (ad (b + 6)), .ref (ad (b + 7)), .int 0, .ref (ad (b + 8)), .null, .null, .null, .null, .int 0, .int 0]) ∧ c' (b + 1) = .inl (ct 0, 5140, .inl (fun _ => 0)) ∧ c' (b + 2) = .inl (ct 0, 5140, .inl (fun _ => 0)) ∧ c' (b + 3) = .inl (ct 0, 5140, .inl (fun _ => 0)) ∧ c' (b + 4) = .inl (ct 0, 100, .inl (fun _ => 0)) ∧ c' (b + 5) = .inl (ct 0, 60, .inl (fun _ => 0)) ∧ c' (b + 6) = .inl (ct 0, 26, .inl (fun _ => 0)) ∧ c' (b + 7) = .inl (ct 0, 4, .inl (fun _ => 0)) ∧ c' (b + 8) = .inl (ct 0, 240, .inl (fun _ => 0)) ∧ c' (b + 9) = .inl (ct 0, 6, .inl (fun _ => 0)) ∧ Fr c0 c' b 19 ∧ HW D J' ad c' (aA J ad s.heap.size) s.heap H locs := ⟨_, _, (fun i => by rw [List.mem_append, List.mem_singleton, hJ16 i]; by_cases hm : i ∈ J <;> simp only [hm, true_or, false_or, iff_true, or_true] <;> omega), (va_up_ne _ _ (by omega)).trans f_0_16, (va_up_ne _ _ (by omega)).trans f_1_16, (va_up_ne _ _ (by omega)).trans f_2_16, (va_up_ne _ _ (by omega)).trans f_3_16, (va_up_ne _ _ (by omega)).trans f_4_16, (va_up_ne _ _ (by omega)).trans f_5_16, (va_up_ne _ _ (by omega)).trans f_6_16, (va_up_ne _ _ (by omega)).trans f_7_16, (va_up_ne _ _ (by omega)).trans f_8_16, va_up_self _ _ _, hF16.up (by omega) (by omega), hWn⟩
  clear f_0_16 f_1_16 f_2_16 f_3_16 f_4_16 f_5_16 f_6_16 f_7_16 f_8_16 hJ16 hF16 hWn
  refine k_putF hE hW17.self ((hJ17 _).mpr (Or.inl hbJ)) f_0_17 rfl inX9 tyX9 tyX9_ok nmX9 11 (by decide) q879 rfl hin rfl rfl rfl (Nat.le_of_ble_eq_true rfl) dX9_init_76 (fun H locs hw1 => ?_)
  have hzn := Nat.le_trans hz hw1.2.2.1
  clear hz
  have hz := hzn
  clear hzn
  have hwn := hW17.trans hw1
  clear hW17 hw1
  have hW17 := hwn
  clear hwn
  obtain ⟨J1, c, hJ18, f_0_18, f_1_18, f_2_18, f_3_18, f_4_18, f_5_18, f_6_18, f_7_18, f_8_18, f_9_18, hF18, hW18⟩ : ∃ (J' : List Nat) (c' : CF), (∀ i, i ∈ J' ↔ i ∈ J ∨ (b < i ∧ i ≤ b + 9)) ∧ c' b = .inr (8, [.ref (ad (b + 1)), .ref (ad (b + 2)), .ref (ad (b + 3)), .int 0, .ref (ad (b + 4)), .int 0, .ref (ad (b + 5)), .ref (ad (b + 6)), .ref (ad (b + 7)), .int 0, .ref (ad (b + 8)), .ref (ad (b + 9)), .null, .null, .null, .int 0, .int 0]) ∧ c' (b + 1) = .inl (ct 0, 5140, .inl (fun _ => 0)) ∧ c' (b + 2) = .inl (ct 0, 5140, .inl (fun _ => 0)) ∧ c' (b + 3) = .inl (ct 0, 5140, .inl (fun _ => 0)) ∧ c' (b + 4) = .inl (ct 0, 100, .inl (fun _ => 0)) ∧ c' (b + 5) = .inl (ct 0, 60, .inl (fun _ => 0)) ∧ c' (b + 6) = .inl (ct 0, 26, .inl (fun _ => 0)) ∧ c' (b + 7) = .inl (ct 0, 4, .inl (fun _ => 0)) ∧ c' (b + 8) = .inl (ct 0, 240, .inl (fun _ => 0)) ∧ c' (b + 9) = .inl (ct 0, 6, .inl (fun _ => 0)) ∧ Fr c0 c' b 19 ∧ HW D J' ad c' (aA J ad s.heap.size) s.heap H locs := ⟨_, _, hJ17, va_up_self _ _ _, (va_up_ne _ _ (by omega)).trans f_1_17, (va_up_ne _ _ (by omega)).trans f_2_17, (va_up_ne _ _ (by omega)).trans f_3_17, (va_up_ne _ _ (by omega)).trans f_4_17, (va_up_ne _ _ (by omega)).trans f_5_17, (va_up_ne _ _ (by omega)).trans f_6_17, (va_up_ne _ _ (by omega)).trans f_7_17, (va_up_ne _ _ (by omega)).trans f_8_17, (va_up_ne _ _ (by omega)).trans f_9_17, hF17.up (by omega) (by omega), hW17⟩
  clear f_0_17 f_1_17 f_2_17 f_3_17 f_4_17 f_5_17 f_6_17 f_7_17 f_8_17 f_9_17 hJ17 hF17 hW17
  refine lv_aload_n hx hb dX9_init_79 rfl (lv_at hl 0 rfl) ?_
  refine lv_bipush (v := (6 : Int32)) hx hb dX9_init_80 (by decide) ?_
  refine W_sized (fun hup => ?_)
  refine k_newA (z := s.heap.size + 9) (i := (b + 10)) (t := 0) (N := 6) (atype := .int) (x := (6, .inl (fun _ => 0))) hE hW18 hA rfl rfl q79 (by omega) (had 10 (Nat.le_of_ble_eq_true rfl) (Nat.le_of_ble_eq_true rfl)) (fun hh => by rcases (hJ18 _).mp hh with h1 | h1; exact hnew 10 (Nat.le_of_ble_eq_true rfl) (Nat.le_of_ble_eq_true rfl) h1; omega) (fun _ => rfl) (fun _ => Iff.rfl) (by decide) (by decide) (Nat.le_of_ble_eq_true rfl) (Nat.le_of_ble_eq_true rfl) (Nat.le_of_ble_eq_true rfl) dX9_init_82 (fun H hz2 hWn => ?_)
  have hzn : s.heap.size + 10 ≤ H.size := by omega
  clear hz hz2 hup
  have hz := hzn
  clear hzn
  clear hW18
  obtain ⟨J1, c, hJ19, f_0_19, f_1_19, f_2_19, f_3_19, f_4_19, f_5_19, f_6_19, f_7_19, f_8_19, f_9_19, f_10_19, hF19, hW19⟩ : ∃ (J' : List Nat) (c' : CF), (∀ i, i ∈ J' ↔ i ∈ J ∨ (b < i ∧ i ≤ b + 10)) ∧ c' b = .inr (8, [.ref (ad (b + 1)), .ref (ad (b + 2)), .ref (ad (b + 3)), .int 0, .ref (ad (b + 4)), .int 0, .ref (ad (b + 5)), .ref (ad (b + 6)), .ref (ad (b + 7)), .int 0, .ref (ad (b + 8)), .ref (ad (b + 9)), .null, .null, .null, .int 0, .int 0]) ∧ c' (b + 1) = .inl (ct 0, 5140, .inl (fun _ => 0)) ∧ c' (b + 2) = .inl (ct 0, 5140, .inl (fun _ => 0)) ∧ c' (b + 3) = .inl (ct 0, 5140, .inl (fun _ => 0)) ∧ c' (b + 4) = .inl (ct 0, 100, .inl (fun _ => 0)) ∧ c' (b + 5) = .inl (ct 0, 60, .inl (fun _ => 0)) ∧ c' (b + 6) = .inl (ct 0, 26, .inl (fun _ => 0)) ∧ c' (b + 7) = .inl (ct 0, 4, .inl (fun _ => 0)) ∧ c' (b + 8) = .inl (ct 0, 240, .inl (fun _ => 0)) ∧ c' (b + 9) = .inl (ct 0, 6, .inl (fun _ => 0)) ∧ c' (b + 10) = .inl (ct 0, 6, .inl (fun _ => 0)) ∧ Fr c0 c' b 19 ∧ HW D J' ad c' (aA J ad s.heap.size) s.heap H locs := ⟨_, _, (fun i => by rw [List.mem_append, List.mem_singleton, hJ18 i]; by_cases hm : i ∈ J <;> simp only [hm, true_or, false_or, iff_true, or_true] <;> omega), (va_up_ne _ _ (by omega)).trans f_0_18, (va_up_ne _ _ (by omega)).trans f_1_18, (va_up_ne _ _ (by omega)).trans f_2_18, (va_up_ne _ _ (by omega)).trans f_3_18, (va_up_ne _ _ (by omega)).trans f_4_18, (va_up_ne _ _ (by omega)).trans f_5_18, (va_up_ne _ _ (by omega)).trans f_6_18, (va_up_ne _ _ (by omega)).trans f_7_18, (va_up_ne _ _ (by omega)).trans f_8_18, (va_up_ne _ _ (by omega)).trans f_9_18, va_up_self _ _ _, hF18.up (by omega) (by omega), hWn⟩
  clear f_0_18 f_1_18 f_2_18 f_3_18 f_4_18 f_5_18 f_6_18 f_7_18 f_8_18 f_9_18 hJ18 hF18 hWn
  refine k_putF hE hW19.self ((hJ19 _).mpr (Or.inl hbJ)) f_0_19 rfl inX9 tyX9 tyX9_ok nmX9 12 (by decide) q880 rfl hin rfl rfl rfl (Nat.le_of_ble_eq_true rfl) dX9_init_84 (fun H locs hw1 => ?_)
  have hzn := Nat.le_trans hz hw1.2.2.1
  clear hz
  have hz := hzn
  clear hzn
  have hwn := hW19.trans hw1
  clear hW19 hw1
  have hW19 := hwn
  clear hwn
  obtain ⟨J1, c, hJ20, f_0_20, f_1_20, f_2_20, f_3_20, f_4_20, f_5_20, f_6_20, f_7_20, f_8_20, f_9_20, f_10_20, hF20, hW20⟩ : ∃ (J' : List Nat) (c' : CF), (∀ i, i ∈ J' ↔ i ∈ J ∨ (b < i ∧ i ≤ b + 10)) ∧ c' b = .inr (8, [.ref (ad (b + 1)), .ref (ad (b + 2)), .ref (ad (b + 3)), .int 0, .ref (ad (b + 4)), .int 0, .ref (ad (b + 5)), .ref (ad (b + 6)), .ref (ad (b + 7)), .int 0, .ref (ad (b + 8)), .ref (ad (b + 9)), .ref (ad (b + 10)), .null, .null, .int 0, .int 0]) ∧ c' (b + 1) = .inl (ct 0, 5140, .inl (fun _ => 0)) ∧ c' (b + 2) = .inl (ct 0, 5140, .inl (fun _ => 0)) ∧ c' (b + 3) = .inl (ct 0, 5140, .inl (fun _ => 0)) ∧ c' (b + 4) = .inl (ct 0, 100, .inl (fun _ => 0)) ∧ c' (b + 5) = .inl (ct 0, 60, .inl (fun _ => 0)) ∧ c' (b + 6) = .inl (ct 0, 26, .inl (fun _ => 0)) ∧ c' (b + 7) = .inl (ct 0, 4, .inl (fun _ => 0)) ∧ c' (b + 8) = .inl (ct 0, 240, .inl (fun _ => 0)) ∧ c' (b + 9) = .inl (ct 0, 6, .inl (fun _ => 0)) ∧ c' (b + 10) = .inl (ct 0, 6, .inl (fun _ => 0)) ∧ Fr c0 c' b 19 ∧ HW D J' ad c' (aA J ad s.heap.size) s.heap H locs := ⟨_, _, hJ19, va_up_self _ _ _, (va_up_ne _ _ (by omega)).trans f_1_19, (va_up_ne _ _ (by omega)).trans f_2_19, (va_up_ne _ _ (by omega)).trans f_3_19, (va_up_ne _ _ (by omega)).trans f_4_19, (va_up_ne _ _ (by omega)).trans f_5_19, (va_up_ne _ _ (by omega)).trans f_6_19, (va_up_ne _ _ (by omega)).trans f_7_19, (va_up_ne _ _ (by omega)).trans f_8_19, (va_up_ne _ _ (by omega)).trans f_9_19, (va_up_ne _ _ (by omega)).trans f_10_19, hF19.up (by omega) (by omega), hW19⟩
  clear f_0_19 f_1_19 f_2_19 f_3_19 f_4_19 f_5_19 f_6_19 f_7_19 f_8_19 f_9_19 f_10_19 hJ19 hF19 hW19
  refine lv_aload_n hx hb dX9_init_87 rfl (lv_at hl 0 rfl) ?_
  refine lv_bipush (v := (6 : Int32)) hx hb dX9_init_88 (by decide) ?_
  refine lv_bipush (v := (60 : Int32)) hx hb dX9_init_90 (by decide) ?_
  refine W_sized (fun hup => ?_)
  refine k_mna (z := s.heap.size + 10) (i := (b + 11)) hE hW20 hA (by omega) (fun k hk => by rw [Nat.add_assoc, had (11 + k) (by omega) (by omega)]; omega) (fun k hk hh => by rw [Nat.add_assoc] at hh; rcases (hJ20 _).mp hh with h3 | h3; exact hnew (11 + k) (by omega) (by omega) h3; omega) q862 q863 q243 (Nat.le_of_ble_eq_true rfl) (Nat.le_of_ble_eq_true rfl) dX9_init_92 (fun J2 c1 H hm1 hm2 hm3 hm4 hz2 hWn => ?_)
  have hzn : s.heap.size + 17 ≤ H.size := by omega
  clear hz hz2 hup
  have hz := hzn
  clear hzn
  clear hW20
  obtain ⟨J1, c, hJ21, f_0_21, f_1_21, f_2_21, f_3_21, f_4_21, f_5_21, f_6_21, f_7_21, f_8_21, f_9_21, f_10_21, f_11_21, f_12_21, f_13_21, f_14_21, f_15_21, f_16_21, f_17_21, hF21, hW21⟩ : ∃ (J' : List Nat) (c' : CF), (∀ i, i ∈ J' ↔ i ∈ J ∨ (b < i ∧ i ≤ b + 17)) ∧ c' b = .inr (8, [.ref (ad (b + 1)), .ref (ad (b + 2)), .ref (ad (b + 3)), .int 0, .ref (ad (b + 4)), .int 0, .ref (ad (b + 5)), .ref (ad (b + 6)), .ref (ad (b + 7)), .int 0, .ref (ad (b + 8)), .ref (ad (b + 9)), .ref (ad (b + 10)), .null, .null, .int 0, .int 0]) ∧ c' (b + 1) = .inl (ct 0, 5140, .inl (fun _ => 0)) ∧ c' (b + 2) = .inl (ct 0, 5140, .inl (fun _ => 0)) ∧ c' (b + 3) = .inl (ct 0, 5140, .inl (fun _ => 0)) ∧ c' (b + 4) = .inl (ct 0, 100, .inl (fun _ => 0)) ∧ c' (b + 5) = .inl (ct 0, 60, .inl (fun _ => 0)) ∧ c' (b + 6) = .inl (ct 0, 26, .inl (fun _ => 0)) ∧ c' (b + 7) = .inl (ct 0, 4, .inl (fun _ => 0)) ∧ c' (b + 8) = .inl (ct 0, 240, .inl (fun _ => 0)) ∧ c' (b + 9) = .inl (ct 0, 6, .inl (fun _ => 0)) ∧ c' (b + 10) = .inl (ct 0, 6, .inl (fun _ => 0)) ∧ c' (b + 11) = .inl (ct 5, 6, .inr (.inr (.inr (.inr (rfA ad 6 (fun t => b + 11 + 1 + t)))))) ∧ c' (b + 12) = .inl (ct 1, 60, .inr (.inl (fun _ => 0))) ∧ c' (b + 13) = .inl (ct 1, 60, .inr (.inl (fun _ => 0))) ∧ c' (b + 14) = .inl (ct 1, 60, .inr (.inl (fun _ => 0))) ∧ c' (b + 15) = .inl (ct 1, 60, .inr (.inl (fun _ => 0))) ∧ c' (b + 16) = .inl (ct 1, 60, .inr (.inl (fun _ => 0))) ∧ c' (b + 17) = .inl (ct 1, 60, .inr (.inl (fun _ => 0))) ∧ Fr c0 c' b 19 ∧ HW D J' ad c' (aA J ad s.heap.size) s.heap H locs := ⟨_, _, (fun i => by rw [hm1 i, hJ20 i]; by_cases hm : i ∈ J <;> simp only [hm, true_or, false_or, iff_true, or_true] <;> omega), (hm4 _ (by omega)).trans f_0_20, (hm4 _ (by omega)).trans f_1_20, (hm4 _ (by omega)).trans f_2_20, (hm4 _ (by omega)).trans f_3_20, (hm4 _ (by omega)).trans f_4_20, (hm4 _ (by omega)).trans f_5_20, (hm4 _ (by omega)).trans f_6_20, (hm4 _ (by omega)).trans f_7_20, (hm4 _ (by omega)).trans f_8_20, (hm4 _ (by omega)).trans f_9_20, (hm4 _ (by omega)).trans f_10_20, hm2, (hm3 0 (by omega)), (hm3 1 (by omega)), (hm3 2 (by omega)), (hm3 3 (by omega)), (hm3 4 (by omega)), (hm3 5 (by omega)), hF20.trans (fun i hi => hm4 i (by omega)), hWn⟩
  clear f_0_20 f_1_20 f_2_20 f_3_20 f_4_20 f_5_20 f_6_20 f_7_20 f_8_20 f_9_20 f_10_20 hm1 hm2 hm3 hm4 hJ20 hF20 hWn
  refine k_putF hE hW21.self ((hJ21 _).mpr (Or.inl hbJ)) f_0_21 rfl inX9 tyX9 tyX9_ok nmX9 13 (by decide) q881 rfl hin rfl rfl rfl (Nat.le_of_ble_eq_true rfl) dX9_init_96 (fun H locs hw1 => ?_)
  have hzn := Nat.le_trans hz hw1.2.2.1
  clear hz
  have hz := hzn
  clear hzn
  have hwn := hW21.trans hw1
  clear hW21 hw1
  have hW21 := hwn
  clear hwn
  obtain ⟨J1, c, hJ22, f_0_22, f_1_22, f_2_22, f_3_22, f_4_22, f_5_22, f_6_22, f_7_22, f_8_22, f_9_22, f_10_22, f_11_22, f_12_22, f_13_22, f_14_22, f_15_22, f_16_22, f_17_22, hF22, hW22⟩ : ∃ (J' : List Nat) (c' : CF), (∀ i, i ∈ J' ↔ i ∈ J ∨ (b < i ∧ i ≤ b + 17)) ∧ c' b = .inr (8, [.ref (ad (b + 1)), .ref (ad (b + 2)), .ref (ad (b + 3)), .int 0, .ref (ad (b + 4)), .int 0, .ref (ad (b + 5)), .ref (ad (b + 6)), .ref (ad (b + 7)), .int 0, .ref (ad (b + 8)), .ref (ad (b + 9)), .ref (ad (b + 10)), .ref (ad (b + 11)), .null, .int 0, .int 0]) ∧ c' (b + 1) = .inl (ct 0, 5140, .inl (fun _ => 0)) ∧ c' (b + 2) = .inl (ct 0, 5140, .inl (fun _ => 0)) ∧ c' (b + 3) = .inl (ct 0, 5140, .inl (fun _ => 0)) ∧ c' (b + 4) = .inl (ct 0, 100, .inl (fun _ => 0)) ∧ c' (b + 5) = .inl (ct 0, 60, .inl (fun _ => 0)) ∧ c' (b + 6) = .inl (ct 0, 26, .inl (fun _ => 0)) ∧ c' (b + 7) = .inl (ct 0, 4, .inl (fun _ => 0)) ∧ c' (b + 8) = .inl (ct 0, 240, .inl (fun _ => 0)) ∧ c' (b + 9) = .inl (ct 0, 6, .inl (fun _ => 0)) ∧ c' (b + 10) = .inl (ct 0, 6, .inl (fun _ => 0)) ∧ c' (b + 11) = .inl (ct 5, 6, .inr (.inr (.inr (.inr (rfA ad 6 (fun t => b + 11 + 1 + t)))))) ∧ c' (b + 12) = .inl (ct 1, 60, .inr (.inl (fun _ => 0))) ∧ c' (b + 13) = .inl (ct 1, 60, .inr (.inl (fun _ => 0))) ∧ c' (b + 14) = .inl (ct 1, 60, .inr (.inl (fun _ => 0))) ∧ c' (b + 15) = .inl (ct 1, 60, .inr (.inl (fun _ => 0))) ∧ c' (b + 16) = .inl (ct 1, 60, .inr (.inl (fun _ => 0))) ∧ c' (b + 17) = .inl (ct 1, 60, .inr (.inl (fun _ => 0))) ∧ Fr c0 c' b 19 ∧ HW D J' ad c' (aA J ad s.heap.size) s.heap H locs := ⟨_, _, hJ21, va_up_self _ _ _, (va_up_ne _ _ (by omega)).trans f_1_21, (va_up_ne _ _ (by omega)).trans f_2_21, (va_up_ne _ _ (by omega)).trans f_3_21, (va_up_ne _ _ (by omega)).trans f_4_21, (va_up_ne _ _ (by omega)).trans f_5_21, (va_up_ne _ _ (by omega)).trans f_6_21, (va_up_ne _ _ (by omega)).trans f_7_21, (va_up_ne _ _ (by omega)).trans f_8_21, (va_up_ne _ _ (by omega)).trans f_9_21, (va_up_ne _ _ (by omega)).trans f_10_21, (va_up_ne _ _ (by omega)).trans f_11_21, (va_up_ne _ _ (by omega)).trans f_12_21, (va_up_ne _ _ (by omega)).trans f_13_21, (va_up_ne _ _ (by omega)).trans f_14_21, (va_up_ne _ _ (by omega)).trans f_15_21, (va_up_ne _ _ (by omega)).trans f_16_21, (va_up_ne _ _ (by omega)).trans f_17_21, hF21.up (by omega) (by omega), hW21⟩
  clear f_0_21 f_1_21 f_2_21 f_3_21 f_4_21 f_5_21 f_6_21 f_7_21 f_8_21 f_9_21 f_10_21 f_11_21 f_12_21 f_13_21 f_14_21 f_15_21 f_16_21 f_17_21 hJ21 hF21 hW21
  refine lv_aload_n hx hb dX9_init_99 rfl (lv_at hl 0 rfl) ?_
  refine lv_bipush (v := (60 : Int32)) hx hb dX9_init_100 (by decide) ?_
  refine W_sized (fun hup => ?_)
  refine k_newA (z := s.heap.size + 17) (i := (b + 18)) (t := 1) (N := 60) (atype := .long) (x := (60, .inr (.inl (fun _ => 0)))) hE hW22 hA rfl rfl q243 (by omega) (had 18 (Nat.le_of_ble_eq_true rfl) (Nat.le_of_ble_eq_true rfl)) (fun hh => by rcases (hJ22 _).mp hh with h1 | h1; exact hnew 18 (Nat.le_of_ble_eq_true rfl) (Nat.le_of_ble_eq_true rfl) h1; omega) (fun _ => rfl) (fun _ => Iff.rfl) (by decide) (by decide) (Nat.le_of_ble_eq_true rfl) (Nat.le_of_ble_eq_true rfl) (Nat.le_of_ble_eq_true rfl) dX9_init_102 (fun H hz2 hWn => ?_)
  have hzn : s.heap.size + 18 ≤ H.size := by omega
  clear hz hz2 hup
  have hz := hzn
  clear hzn
  clear hW22
  obtain ⟨J1, c, hJ23, f_0_23, f_1_23, f_2_23, f_3_23, f_4_23, f_5_23, f_6_23, f_7_23, f_8_23, f_9_23, f_10_23, f_11_23, f_12_23, f_13_23, f_14_23, f_15_23, f_16_23, f_17_23, f_18_23, hF23, hW23⟩ : ∃ (J' : List Nat) (c' : CF), (∀ i, i ∈ J' ↔ i ∈ J ∨ (b < i ∧ i ≤ b + 18)) ∧ c' b = .inr (8, [.ref (ad (b + 1)), .ref (ad (b + 2)), .ref (ad (b + 3)), .int 0, .ref (ad (b + 4)), .int 0, .ref (ad (b + 5)), .ref (ad (b + 6)), .ref (ad (b + 7)), .int 0, .ref (ad (b + 8)), .ref (ad (b + 9)), .ref (ad (b + 10)), .ref (ad (b + 11)), .null, .int 0, .int 0]) ∧ c' (b + 1) = .inl (ct 0, 5140, .inl (fun _ => 0)) ∧ c' (b + 2) = .inl (ct 0, 5140, .inl (fun _ => 0)) ∧ c' (b + 3) = .inl (ct 0, 5140, .inl (fun _ => 0)) ∧ c' (b + 4) = .inl (ct 0, 100, .inl (fun _ => 0)) ∧ c' (b + 5) = .inl (ct 0, 60, .inl (fun _ => 0)) ∧ c' (b + 6) = .inl (ct 0, 26, .inl (fun _ => 0)) ∧ c' (b + 7) = .inl (ct 0, 4, .inl (fun _ => 0)) ∧ c' (b + 8) = .inl (ct 0, 240, .inl (fun _ => 0)) ∧ c' (b + 9) = .inl (ct 0, 6, .inl (fun _ => 0)) ∧ c' (b + 10) = .inl (ct 0, 6, .inl (fun _ => 0)) ∧ c' (b + 11) = .inl (ct 5, 6, .inr (.inr (.inr (.inr (rfA ad 6 (fun t => b + 11 + 1 + t)))))) ∧ c' (b + 12) = .inl (ct 1, 60, .inr (.inl (fun _ => 0))) ∧ c' (b + 13) = .inl (ct 1, 60, .inr (.inl (fun _ => 0))) ∧ c' (b + 14) = .inl (ct 1, 60, .inr (.inl (fun _ => 0))) ∧ c' (b + 15) = .inl (ct 1, 60, .inr (.inl (fun _ => 0))) ∧ c' (b + 16) = .inl (ct 1, 60, .inr (.inl (fun _ => 0))) ∧ c' (b + 17) = .inl (ct 1, 60, .inr (.inl (fun _ => 0))) ∧ c' (b + 18) = .inl (ct 1, 60, .inr (.inl (fun _ => 0))) ∧ Fr c0 c' b 19 ∧ HW D J' ad c' (aA J ad s.heap.size) s.heap H locs := ⟨_, _, (fun i => by rw [List.mem_append, List.mem_singleton, hJ22 i]; by_cases hm : i ∈ J <;> simp only [hm, true_or, false_or, iff_true, or_true] <;> omega), (va_up_ne _ _ (by omega)).trans f_0_22, (va_up_ne _ _ (by omega)).trans f_1_22, (va_up_ne _ _ (by omega)).trans f_2_22, (va_up_ne _ _ (by omega)).trans f_3_22, (va_up_ne _ _ (by omega)).trans f_4_22, (va_up_ne _ _ (by omega)).trans f_5_22, (va_up_ne _ _ (by omega)).trans f_6_22, (va_up_ne _ _ (by omega)).trans f_7_22, (va_up_ne _ _ (by omega)).trans f_8_22, (va_up_ne _ _ (by omega)).trans f_9_22, (va_up_ne _ _ (by omega)).trans f_10_22, (va_up_ne _ _ (by omega)).trans f_11_22, (va_up_ne _ _ (by omega)).trans f_12_22, (va_up_ne _ _ (by omega)).trans f_13_22, (va_up_ne _ _ (by omega)).trans f_14_22, (va_up_ne _ _ (by omega)).trans f_15_22, (va_up_ne _ _ (by omega)).trans f_16_22, (va_up_ne _ _ (by omega)).trans f_17_22, va_up_self _ _ _, hF22.up (by omega) (by omega), hWn⟩
  clear f_0_22 f_1_22 f_2_22 f_3_22 f_4_22 f_5_22 f_6_22 f_7_22 f_8_22 f_9_22 f_10_22 f_11_22 f_12_22 f_13_22 f_14_22 f_15_22 f_16_22 f_17_22 hJ22 hF22 hWn
  refine k_putF hE hW23.self ((hJ23 _).mpr (Or.inl hbJ)) f_0_23 rfl inX9 tyX9 tyX9_ok nmX9 14 (by decide) q882 rfl hin rfl rfl rfl (Nat.le_of_ble_eq_true rfl) dX9_init_104 (fun H locs hw1 => ?_)
  have hzn := Nat.le_trans hz hw1.2.2.1
  clear hz
  have hz := hzn
  clear hzn
  have hwn := hW23.trans hw1
  clear hW23 hw1
  have hW23 := hwn
  clear hwn
  obtain ⟨J1, c, hJ24, f_0_24, f_1_24, f_2_24, f_3_24, f_4_24, f_5_24, f_6_24, f_7_24, f_8_24, f_9_24, f_10_24, f_11_24, f_12_24, f_13_24, f_14_24, f_15_24, f_16_24, f_17_24, f_18_24, hF24, hW24⟩ : ∃ (J' : List Nat) (c' : CF), (∀ i, i ∈ J' ↔ i ∈ J ∨ (b < i ∧ i ≤ b + 18)) ∧ c' b = .inr (8, [.ref (ad (b + 1)), .ref (ad (b + 2)), .ref (ad (b + 3)), .int 0, .ref (ad (b + 4)), .int 0, .ref (ad (b + 5)), .ref (ad (b + 6)), .ref (ad (b + 7)), .int 0, .ref (ad (b + 8)), .ref (ad (b + 9)), .ref (ad (b + 10)), .ref (ad (b + 11)), .ref (ad (b + 18)), .int 0, .int 0]) ∧ c' (b + 1) = .inl (ct 0, 5140, .inl (fun _ => 0)) ∧ c' (b + 2) = .inl (ct 0, 5140, .inl (fun _ => 0)) ∧ c' (b + 3) = .inl (ct 0, 5140, .inl (fun _ => 0)) ∧ c' (b + 4) = .inl (ct 0, 100, .inl (fun _ => 0)) ∧ c' (b + 5) = .inl (ct 0, 60, .inl (fun _ => 0)) ∧ c' (b + 6) = .inl (ct 0, 26, .inl (fun _ => 0)) ∧ c' (b + 7) = .inl (ct 0, 4, .inl (fun _ => 0)) ∧ c' (b + 8) = .inl (ct 0, 240, .inl (fun _ => 0)) ∧ c' (b + 9) = .inl (ct 0, 6, .inl (fun _ => 0)) ∧ c' (b + 10) = .inl (ct 0, 6, .inl (fun _ => 0)) ∧ c' (b + 11) = .inl (ct 5, 6, .inr (.inr (.inr (.inr (rfA ad 6 (fun t => b + 11 + 1 + t)))))) ∧ c' (b + 12) = .inl (ct 1, 60, .inr (.inl (fun _ => 0))) ∧ c' (b + 13) = .inl (ct 1, 60, .inr (.inl (fun _ => 0))) ∧ c' (b + 14) = .inl (ct 1, 60, .inr (.inl (fun _ => 0))) ∧ c' (b + 15) = .inl (ct 1, 60, .inr (.inl (fun _ => 0))) ∧ c' (b + 16) = .inl (ct 1, 60, .inr (.inl (fun _ => 0))) ∧ c' (b + 17) = .inl (ct 1, 60, .inr (.inl (fun _ => 0))) ∧ c' (b + 18) = .inl (ct 1, 60, .inr (.inl (fun _ => 0))) ∧ Fr c0 c' b 19 ∧ HW D J' ad c' (aA J ad s.heap.size) s.heap H locs := ⟨_, _, hJ23, va_up_self _ _ _, (va_up_ne _ _ (by omega)).trans f_1_23, (va_up_ne _ _ (by omega)).trans f_2_23, (va_up_ne _ _ (by omega)).trans f_3_23, (va_up_ne _ _ (by omega)).trans f_4_23, (va_up_ne _ _ (by omega)).trans f_5_23, (va_up_ne _ _ (by omega)).trans f_6_23, (va_up_ne _ _ (by omega)).trans f_7_23, (va_up_ne _ _ (by omega)).trans f_8_23, (va_up_ne _ _ (by omega)).trans f_9_23, (va_up_ne _ _ (by omega)).trans f_10_23, (va_up_ne _ _ (by omega)).trans f_11_23, (va_up_ne _ _ (by omega)).trans f_12_23, (va_up_ne _ _ (by omega)).trans f_13_23, (va_up_ne _ _ (by omega)).trans f_14_23, (va_up_ne _ _ (by omega)).trans f_15_23, (va_up_ne _ _ (by omega)).trans f_16_23, (va_up_ne _ _ (by omega)).trans f_17_23, (va_up_ne _ _ (by omega)).trans f_18_23, hF23.up (by omega) (by omega), hW23⟩
  clear f_0_23 f_1_23 f_2_23 f_3_23 f_4_23 f_5_23 f_6_23 f_7_23 f_8_23 f_9_23 f_10_23 f_11_23 f_12_23 f_13_23 f_14_23 f_15_23 f_16_23 f_17_23 f_18_23 hJ23 hF23 hW23
  have hB : MoB ct J1 ad c b mo_0 := by
    refine ⟨fun k hk => (hJ24 _).mpr ?_, f_0_24, fun k q hk => ?_, f_11_24, fun t ht => ?_⟩
    · rcases Nat.eq_zero_or_pos k with h0 | h0
      · exact Or.inl (by rw [h0]; exact hbJ)
      · exact Or.inr (by omega)
    · have hk2 : k < 10 := (List.getElem?_eq_some_iff.mp hk).1
      rcases (show k = 0 ∨ k = 1 ∨ k = 2 ∨ k = 3 ∨ k = 4 ∨ k = 5 ∨ k = 6 ∨ k = 7 ∨ k = 8 ∨ k = 9 by omega) with rfl | rfl | rfl | rfl | rfl | rfl | rfl | rfl | rfl | rfl
      · obtain rfl := Option.some.inj (show some (5140 : Nat) = some q from hk)
        exact f_1_24
      · obtain rfl := Option.some.inj (show some (5140 : Nat) = some q from hk)
        exact f_2_24
      · obtain rfl := Option.some.inj (show some (5140 : Nat) = some q from hk)
        exact f_3_24
      · obtain rfl := Option.some.inj (show some (100 : Nat) = some q from hk)
        exact f_4_24
      · obtain rfl := Option.some.inj (show some (60 : Nat) = some q from hk)
        exact f_5_24
      · obtain rfl := Option.some.inj (show some (26 : Nat) = some q from hk)
        exact f_6_24
      · obtain rfl := Option.some.inj (show some (4 : Nat) = some q from hk)
        exact f_7_24
      · obtain rfl := Option.some.inj (show some (240 : Nat) = some q from hk)
        exact f_8_24
      · obtain rfl := Option.some.inj (show some (6 : Nat) = some q from hk)
        exact f_9_24
      · obtain rfl := Option.some.inj (show some (6 : Nat) = some q from hk)
        exact f_10_24
    · rcases (show t = 0 ∨ t = 1 ∨ t = 2 ∨ t = 3 ∨ t = 4 ∨ t = 5 ∨ t = 6 by omega) with rfl | rfl | rfl | rfl | rfl | rfl | rfl
      · exact f_12_24
      · exact f_13_24
      · exact f_14_24
      · exact f_15_24
      · exact f_16_24
      · exact f_17_24
      · exact f_18_24
  clear f_0_24 f_1_24 f_2_24 f_3_24 f_4_24 f_5_24 f_6_24 f_7_24 f_8_24 f_9_24 f_10_24 f_11_24 f_12_24 f_13_24 f_14_24 f_15_24 f_16_24 f_17_24 f_18_24
  refine lv_iconst (v := (0 : Int32)) hx hb dX9_init_107 (by decide) ?_
  refine lv_istore_n (lv' := [(1, .int (0 : Int32)), (0, .ref (ad b))]) hx hb dX9_init_108 rfl hl (by decide) rfl (fun ls hl => ?_)
  refine lv_iload_n hx hb dX9_init_109 rfl (lv_at hl 0 rfl) ?_
  refine lv_iconst (v := (4 : Int32)) hx hb dX9_init_110 (by decide) ?_
  refine lv_icmp_ge (tgt := 138) hx hb dX9_init_111 (by decide) (fun kk => ?_) (fun kk => ?_)
  · exact absurd kk (by decide)
  refine lv_aload_n hx hb dX9_init_114 rfl (lv_at hl 1 rfl) ?_
  refine lv_iload_n hx hb dX9_init_115 rfl (lv_at hl 0 rfl) ?_
  refine lv_sipush (v := (1270 : Int32)) hx hb dX9_init_116 (by decide) ?_
  refine lv_iconst (v := (1 : Int32)) hx hb dX9_init_119 (by decide) ?_
  refine g_callVv (rest := []) hE hW24 (hW24.af hA) hl.1 (mX9_sets hB (show fX9_sets (0 : Int32) (1270 : Int32) (1 : Int32) mo_0 = some mo_1 by unfold fX9_sets zi zl; rw [if_neg (by decide)]; rfl)) hB.o hB.obj rfl q864 q866 qs85 q10 q867 hd_X9_sets ⟨(Nat.le_of_ble_eq_true rfl), (Nat.le_of_ble_eq_true rfl)⟩ ⟨rfl, rfl⟩ rfl (Nat.le_of_ble_eq_true rfl) dX9_init_120 ⟨(Nat.le_of_ble_eq_true rfl), (Nat.le_of_ble_eq_true rfl)⟩ (fun c1 H locs hP hz2 hWn => ?_)
  have hzn := Nat.le_trans hz hz2
  clear hz hz2
  have hz := hzn
  clear hzn
  have hF1 := hF24.trans hP.2
  have hB1 := hP.1
  clear hB hF24 hW24 hP
  have hB := hB1
  have hF := hF1
  clear hB1 hF1
  have hW := hWn
  clear hWn
  refine lv_aload_n hx hb dX9_init_123 rfl (lv_at hl 1 rfl) ?_
  refine lv_iload_n hx hb dX9_init_124 rfl (lv_at hl 0 rfl) ?_
  refine lv_sipush (v := (1272 : Int32)) hx hb dX9_init_125 (by decide) ?_
  refine lv_iconst (v := (-1 : Int32)) hx hb dX9_init_128 (by decide) ?_
  refine g_callVv (rest := []) hE hW (hW.af hA) hl.1 (mX9_sets hB (show fX9_sets (0 : Int32) (1272 : Int32) (-1 : Int32) mo_1 = some mo_2 by unfold fX9_sets zi zl; rw [if_neg (by decide)]; rfl)) hB.o hB.obj rfl q864 q866 qs85 q10 q867 hd_X9_sets ⟨(Nat.le_of_ble_eq_true rfl), (Nat.le_of_ble_eq_true rfl)⟩ ⟨rfl, rfl⟩ rfl (Nat.le_of_ble_eq_true rfl) dX9_init_129 ⟨(Nat.le_of_ble_eq_true rfl), (Nat.le_of_ble_eq_true rfl)⟩ (fun c1 H locs hP hz2 hWn => ?_)
  have hzn := Nat.le_trans hz hz2
  clear hz hz2
  have hz := hzn
  clear hzn
  have hF1 := hF.trans hP.2
  have hB1 := hP.1
  clear hB hF hW hP
  have hB := hB1
  have hF := hF1
  clear hB1 hF1
  have hW := hWn
  clear hWn
  refine lv_iinc (v := (1 : Int32)) (lv' := [(1, .int (1 : Int32)), (0, .ref (ad b))]) hx hb dX9_init_132 hl (k := 0) rfl (by decide) (by decide) rfl (fun ls hl => ?_)
  refine lv_goto (tgt := 109) hx hb dX9_init_135 (by decide) ?_
  refine lv_iload_n hx hb dX9_init_109 rfl (lv_at hl 0 rfl) ?_
  refine lv_iconst (v := (4 : Int32)) hx hb dX9_init_110 (by decide) ?_
  refine lv_icmp_ge (tgt := 138) hx hb dX9_init_111 (by decide) (fun kk => ?_) (fun kk => ?_)
  · exact absurd kk (by decide)
  refine lv_aload_n hx hb dX9_init_114 rfl (lv_at hl 1 rfl) ?_
  refine lv_iload_n hx hb dX9_init_115 rfl (lv_at hl 0 rfl) ?_
  refine lv_sipush (v := (1270 : Int32)) hx hb dX9_init_116 (by decide) ?_
  refine lv_iconst (v := (1 : Int32)) hx hb dX9_init_119 (by decide) ?_
  refine g_callVv (rest := []) hE hW (hW.af hA) hl.1 (mX9_sets hB (show fX9_sets (1 : Int32) (1270 : Int32) (1 : Int32) mo_2 = some mo_3 by unfold fX9_sets zi zl; rw [if_neg (by decide)]; rfl)) hB.o hB.obj rfl q864 q866 qs85 q10 q867 hd_X9_sets ⟨(Nat.le_of_ble_eq_true rfl), (Nat.le_of_ble_eq_true rfl)⟩ ⟨rfl, rfl⟩ rfl (Nat.le_of_ble_eq_true rfl) dX9_init_120 ⟨(Nat.le_of_ble_eq_true rfl), (Nat.le_of_ble_eq_true rfl)⟩ (fun c1 H locs hP hz2 hWn => ?_)
  have hzn := Nat.le_trans hz hz2
  clear hz hz2
  have hz := hzn
  clear hzn
  have hF1 := hF.trans hP.2
  have hB1 := hP.1
  clear hB hF hW hP
  have hB := hB1
  have hF := hF1
  clear hB1 hF1
  have hW := hWn
  clear hWn
  refine lv_aload_n hx hb dX9_init_123 rfl (lv_at hl 1 rfl) ?_
  refine lv_iload_n hx hb dX9_init_124 rfl (lv_at hl 0 rfl) ?_
  refine lv_sipush (v := (1272 : Int32)) hx hb dX9_init_125 (by decide) ?_
  refine lv_iconst (v := (-1 : Int32)) hx hb dX9_init_128 (by decide) ?_
  refine g_callVv (rest := []) hE hW (hW.af hA) hl.1 (mX9_sets hB (show fX9_sets (1 : Int32) (1272 : Int32) (-1 : Int32) mo_3 = some mo_4 by unfold fX9_sets zi zl; rw [if_neg (by decide)]; rfl)) hB.o hB.obj rfl q864 q866 qs85 q10 q867 hd_X9_sets ⟨(Nat.le_of_ble_eq_true rfl), (Nat.le_of_ble_eq_true rfl)⟩ ⟨rfl, rfl⟩ rfl (Nat.le_of_ble_eq_true rfl) dX9_init_129 ⟨(Nat.le_of_ble_eq_true rfl), (Nat.le_of_ble_eq_true rfl)⟩ (fun c1 H locs hP hz2 hWn => ?_)
  have hzn := Nat.le_trans hz hz2
  clear hz hz2
  have hz := hzn
  clear hzn
  have hF1 := hF.trans hP.2
  have hB1 := hP.1
  clear hB hF hW hP
  have hB := hB1
  have hF := hF1
  clear hB1 hF1
  have hW := hWn
  clear hWn
  refine lv_iinc (v := (2 : Int32)) (lv' := [(1, .int (2 : Int32)), (0, .ref (ad b))]) hx hb dX9_init_132 hl (k := 0) rfl (by decide) (by decide) rfl (fun ls hl => ?_)
  refine lv_goto (tgt := 109) hx hb dX9_init_135 (by decide) ?_
  refine lv_iload_n hx hb dX9_init_109 rfl (lv_at hl 0 rfl) ?_
  refine lv_iconst (v := (4 : Int32)) hx hb dX9_init_110 (by decide) ?_
  refine lv_icmp_ge (tgt := 138) hx hb dX9_init_111 (by decide) (fun kk => ?_) (fun kk => ?_)
  · exact absurd kk (by decide)
  refine lv_aload_n hx hb dX9_init_114 rfl (lv_at hl 1 rfl) ?_
  refine lv_iload_n hx hb dX9_init_115 rfl (lv_at hl 0 rfl) ?_
  refine lv_sipush (v := (1270 : Int32)) hx hb dX9_init_116 (by decide) ?_
  refine lv_iconst (v := (1 : Int32)) hx hb dX9_init_119 (by decide) ?_
  refine g_callVv (rest := []) hE hW (hW.af hA) hl.1 (mX9_sets hB (show fX9_sets (2 : Int32) (1270 : Int32) (1 : Int32) mo_4 = some mo_5 by unfold fX9_sets zi zl; rw [if_neg (by decide)]; rfl)) hB.o hB.obj rfl q864 q866 qs85 q10 q867 hd_X9_sets ⟨(Nat.le_of_ble_eq_true rfl), (Nat.le_of_ble_eq_true rfl)⟩ ⟨rfl, rfl⟩ rfl (Nat.le_of_ble_eq_true rfl) dX9_init_120 ⟨(Nat.le_of_ble_eq_true rfl), (Nat.le_of_ble_eq_true rfl)⟩ (fun c1 H locs hP hz2 hWn => ?_)
  have hzn := Nat.le_trans hz hz2
  clear hz hz2
  have hz := hzn
  clear hzn
  have hF1 := hF.trans hP.2
  have hB1 := hP.1
  clear hB hF hW hP
  have hB := hB1
  have hF := hF1
  clear hB1 hF1
  have hW := hWn
  clear hWn
  refine lv_aload_n hx hb dX9_init_123 rfl (lv_at hl 1 rfl) ?_
  refine lv_iload_n hx hb dX9_init_124 rfl (lv_at hl 0 rfl) ?_
  refine lv_sipush (v := (1272 : Int32)) hx hb dX9_init_125 (by decide) ?_
  refine lv_iconst (v := (-1 : Int32)) hx hb dX9_init_128 (by decide) ?_
  refine g_callVv (rest := []) hE hW (hW.af hA) hl.1 (mX9_sets hB (show fX9_sets (2 : Int32) (1272 : Int32) (-1 : Int32) mo_5 = some mo_6 by unfold fX9_sets zi zl; rw [if_neg (by decide)]; rfl)) hB.o hB.obj rfl q864 q866 qs85 q10 q867 hd_X9_sets ⟨(Nat.le_of_ble_eq_true rfl), (Nat.le_of_ble_eq_true rfl)⟩ ⟨rfl, rfl⟩ rfl (Nat.le_of_ble_eq_true rfl) dX9_init_129 ⟨(Nat.le_of_ble_eq_true rfl), (Nat.le_of_ble_eq_true rfl)⟩ (fun c1 H locs hP hz2 hWn => ?_)
  have hzn := Nat.le_trans hz hz2
  clear hz hz2
  have hz := hzn
  clear hzn
  have hF1 := hF.trans hP.2
  have hB1 := hP.1
  clear hB hF hW hP
  have hB := hB1
  have hF := hF1
  clear hB1 hF1
  have hW := hWn
  clear hWn
  refine lv_iinc (v := (3 : Int32)) (lv' := [(1, .int (3 : Int32)), (0, .ref (ad b))]) hx hb dX9_init_132 hl (k := 0) rfl (by decide) (by decide) rfl (fun ls hl => ?_)
  refine lv_goto (tgt := 109) hx hb dX9_init_135 (by decide) ?_
  refine lv_iload_n hx hb dX9_init_109 rfl (lv_at hl 0 rfl) ?_
  refine lv_iconst (v := (4 : Int32)) hx hb dX9_init_110 (by decide) ?_
  refine lv_icmp_ge (tgt := 138) hx hb dX9_init_111 (by decide) (fun kk => ?_) (fun kk => ?_)
  · exact absurd kk (by decide)
  refine lv_aload_n hx hb dX9_init_114 rfl (lv_at hl 1 rfl) ?_
  refine lv_iload_n hx hb dX9_init_115 rfl (lv_at hl 0 rfl) ?_
  refine lv_sipush (v := (1270 : Int32)) hx hb dX9_init_116 (by decide) ?_
  refine lv_iconst (v := (1 : Int32)) hx hb dX9_init_119 (by decide) ?_
  refine g_callVv (rest := []) hE hW (hW.af hA) hl.1 (mX9_sets hB (show fX9_sets (3 : Int32) (1270 : Int32) (1 : Int32) mo_6 = some mo_7 by unfold fX9_sets zi zl; rw [if_neg (by decide)]; rfl)) hB.o hB.obj rfl q864 q866 qs85 q10 q867 hd_X9_sets ⟨(Nat.le_of_ble_eq_true rfl), (Nat.le_of_ble_eq_true rfl)⟩ ⟨rfl, rfl⟩ rfl (Nat.le_of_ble_eq_true rfl) dX9_init_120 ⟨(Nat.le_of_ble_eq_true rfl), (Nat.le_of_ble_eq_true rfl)⟩ (fun c1 H locs hP hz2 hWn => ?_)
  have hzn := Nat.le_trans hz hz2
  clear hz hz2
  have hz := hzn
  clear hzn
  have hF1 := hF.trans hP.2
  have hB1 := hP.1
  clear hB hF hW hP
  have hB := hB1
  have hF := hF1
  clear hB1 hF1
  have hW := hWn
  clear hWn
  refine lv_aload_n hx hb dX9_init_123 rfl (lv_at hl 1 rfl) ?_
  refine lv_iload_n hx hb dX9_init_124 rfl (lv_at hl 0 rfl) ?_
  refine lv_sipush (v := (1272 : Int32)) hx hb dX9_init_125 (by decide) ?_
  refine lv_iconst (v := (-1 : Int32)) hx hb dX9_init_128 (by decide) ?_
  refine g_callVv (rest := []) hE hW (hW.af hA) hl.1 (mX9_sets hB (show fX9_sets (3 : Int32) (1272 : Int32) (-1 : Int32) mo_7 = some mo_8 by unfold fX9_sets zi zl; rw [if_neg (by decide)]; rfl)) hB.o hB.obj rfl q864 q866 qs85 q10 q867 hd_X9_sets ⟨(Nat.le_of_ble_eq_true rfl), (Nat.le_of_ble_eq_true rfl)⟩ ⟨rfl, rfl⟩ rfl (Nat.le_of_ble_eq_true rfl) dX9_init_129 ⟨(Nat.le_of_ble_eq_true rfl), (Nat.le_of_ble_eq_true rfl)⟩ (fun c1 H locs hP hz2 hWn => ?_)
  have hzn := Nat.le_trans hz hz2
  clear hz hz2
  have hz := hzn
  clear hzn
  have hF1 := hF.trans hP.2
  have hB1 := hP.1
  clear hB hF hW hP
  have hB := hB1
  have hF := hF1
  clear hB1 hF1
  have hW := hWn
  clear hWn
  refine lv_iinc (v := (4 : Int32)) (lv' := [(1, .int (4 : Int32)), (0, .ref (ad b))]) hx hb dX9_init_132 hl (k := 0) rfl (by decide) (by decide) rfl (fun ls hl => ?_)
  refine lv_goto (tgt := 109) hx hb dX9_init_135 (by decide) ?_
  refine lv_iload_n hx hb dX9_init_109 rfl (lv_at hl 0 rfl) ?_
  refine lv_iconst (v := (4 : Int32)) hx hb dX9_init_110 (by decide) ?_
  refine lv_icmp_ge (tgt := 138) hx hb dX9_init_111 (by decide) (fun kk => ?_) (fun kk => ?_)
  rotate_left
  · exact absurd (show (4 : Int32) ≤ (4 : Int32) by decide) kk
  refine lv_aload_n hx hb dX9_init_138 rfl (lv_at hl 1 rfl) ?_
  refine k_get (v := .ref (ad (b + 1 + 0))) hE hW hB.o hB.obj rfl inX9 0 (by decide) q868 rfl dX9_init_139 ?_
  refine lv_sipush (v := (5097 : Int32)) hx hb dX9_init_142 (by decide) ?_
  refine lv_iconst (v := (5 : Int32)) hx hb dX9_init_145 (by decide) ?_
  refine k_iast hE hW.self (hB.memA 0 (Nat.le_of_ble_eq_true rfl)) (hB.arr 0 rfl) (by unfold vp_in; decide) dX9_init_146 (fun H locs hw1 => ?_)
  have hzn := Nat.le_trans hz hw1.2.2.1
  clear hz
  have hz := hzn
  clear hzn
  have hwn := hW.trans hw1
  clear hW hw1
  have hW := hwn
  clear hwn
  obtain ⟨c, hB1, hF1, hWm⟩ : ∃ c', MoB ct J1 ad c' b mo_9 ∧ Fr c0 c' b 19 ∧ HW D J1 ad c' (aA J ad s.heap.size) s.heap H locs := ⟨_, hB.wA (k := 0) rfl (show mo_9 = _ from rfl), hF.up (by omega) (by omega), hW⟩
  clear hB hF hW
  have hB := hB1
  have hF := hF1
  have hW := hWm
  clear hB1 hF1 hWm
  refine lv_aload_n hx hb dX9_init_147 rfl (lv_at hl 1 rfl) ?_
  refine k_get (v := .ref (ad (b + 1 + 0))) hE hW hB.o hB.obj rfl inX9 0 (by decide) q868 rfl dX9_init_148 ?_
  refine lv_sipush (v := (5098 : Int32)) hx hb dX9_init_151 (by decide) ?_
  refine lv_bipush (v := (100 : Int32)) hx hb dX9_init_154 (by decide) ?_
  refine k_iast hE hW.self (hB.memA 0 (Nat.le_of_ble_eq_true rfl)) (hB.arr 0 rfl) (by unfold vp_in; decide) dX9_init_156 (fun H locs hw1 => ?_)
  have hzn := Nat.le_trans hz hw1.2.2.1
  clear hz
  have hz := hzn
  clear hzn
  have hwn := hW.trans hw1
  clear hW hw1
  have hW := hwn
  clear hwn
  obtain ⟨c, hB1, hF1, hWm⟩ : ∃ c', MoB ct J1 ad c' b mo_10 ∧ Fr c0 c' b 19 ∧ HW D J1 ad c' (aA J ad s.heap.size) s.heap H locs := ⟨_, hB.wA (k := 0) rfl (show mo_10 = _ from rfl), hF.up (by omega) (by omega), hW⟩
  clear hB hF hW
  have hB := hB1
  have hF := hF1
  have hW := hWm
  clear hB1 hF1 hWm
  refine lv_aload_n hx hb dX9_init_157 rfl (lv_at hl 1 rfl) ?_
  refine k_get (v := .ref (ad (b + 1 + 0))) hE hW hB.o hB.obj rfl inX9 0 (by decide) q868 rfl dX9_init_158 ?_
  refine lv_sipush (v := (5099 : Int32)) hx hb dX9_init_161 (by decide) ?_
  refine lv_bipush (v := (50 : Int32)) hx hb dX9_init_164 (by decide) ?_
  refine k_iast hE hW.self (hB.memA 0 (Nat.le_of_ble_eq_true rfl)) (hB.arr 0 rfl) (by unfold vp_in; decide) dX9_init_166 (fun H locs hw1 => ?_)
  have hzn := Nat.le_trans hz hw1.2.2.1
  clear hz
  have hz := hzn
  clear hzn
  have hwn := hW.trans hw1
  clear hW hw1
  have hW := hwn
  clear hwn
  obtain ⟨c, hB1, hF1, hWm⟩ : ∃ c', MoB ct J1 ad c' b mo_11 ∧ Fr c0 c' b 19 ∧ HW D J1 ad c' (aA J ad s.heap.size) s.heap H locs := ⟨_, hB.wA (k := 0) rfl (show mo_11 = _ from rfl), hF.up (by omega) (by omega), hW⟩
  clear hB hF hW
  have hB := hB1
  have hF := hF1
  have hW := hWm
  clear hB1 hF1 hWm
  refine lv_iconst (v := (0 : Int32)) hx hb dX9_init_167 (by decide) ?_
  refine lv_istore_n (lv' := [(1, .int (0 : Int32)), (0, .ref (ad b))]) hx hb dX9_init_168 rfl hl (by decide) rfl (fun ls hl => ?_)
  refine lv_iload_n hx hb dX9_init_169 rfl (lv_at hl 0 rfl) ?_
  refine lv_bipush (v := (6 : Int32)) hx hb dX9_init_170 (by decide) ?_
  refine lv_icmp_ge (tgt := 188) hx hb dX9_init_172 (by decide) (fun kk => ?_) (fun kk => ?_)
  · exact absurd kk (by decide)
  refine lv_aload_n hx hb dX9_init_175 rfl (lv_at hl 1 rfl) ?_
  refine k_get (v := .ref (ad (b + 1 + 8))) hE hW hB.o hB.obj rfl inX9 11 (by decide) q879 rfl dX9_init_176 ?_
  refine lv_iload_n hx hb dX9_init_179 rfl (lv_at hl 0 rfl) ?_
  refine lv_iconst (v := (-1 : Int32)) hx hb dX9_init_180 (by decide) ?_
  refine k_iast hE hW.self (hB.memA 8 (Nat.le_of_ble_eq_true rfl)) (hB.arr 8 rfl) (by unfold vp_in; decide) dX9_init_181 (fun H locs hw1 => ?_)
  have hzn := Nat.le_trans hz hw1.2.2.1
  clear hz
  have hz := hzn
  clear hzn
  have hwn := hW.trans hw1
  clear hW hw1
  have hW := hwn
  clear hwn
  obtain ⟨c, hB1, hF1, hWm⟩ : ∃ c', MoB ct J1 ad c' b mo_12 ∧ Fr c0 c' b 19 ∧ HW D J1 ad c' (aA J ad s.heap.size) s.heap H locs := ⟨_, hB.wA (k := 8) rfl (show mo_12 = _ from rfl), hF.up (by omega) (by omega), hW⟩
  clear hB hF hW
  have hB := hB1
  have hF := hF1
  have hW := hWm
  clear hB1 hF1 hWm
  refine lv_iinc (v := (1 : Int32)) (lv' := [(1, .int (1 : Int32)), (0, .ref (ad b))]) hx hb dX9_init_182 hl (k := 0) rfl (by decide) (by decide) rfl (fun ls hl => ?_)
  refine lv_goto (tgt := 169) hx hb dX9_init_185 (by decide) ?_
  refine lv_iload_n hx hb dX9_init_169 rfl (lv_at hl 0 rfl) ?_
  refine lv_bipush (v := (6 : Int32)) hx hb dX9_init_170 (by decide) ?_
  refine lv_icmp_ge (tgt := 188) hx hb dX9_init_172 (by decide) (fun kk => ?_) (fun kk => ?_)
  · exact absurd kk (by decide)
  refine lv_aload_n hx hb dX9_init_175 rfl (lv_at hl 1 rfl) ?_
  refine k_get (v := .ref (ad (b + 1 + 8))) hE hW hB.o hB.obj rfl inX9 11 (by decide) q879 rfl dX9_init_176 ?_
  refine lv_iload_n hx hb dX9_init_179 rfl (lv_at hl 0 rfl) ?_
  refine lv_iconst (v := (-1 : Int32)) hx hb dX9_init_180 (by decide) ?_
  refine k_iast hE hW.self (hB.memA 8 (Nat.le_of_ble_eq_true rfl)) (hB.arr 8 rfl) (by unfold vp_in; decide) dX9_init_181 (fun H locs hw1 => ?_)
  have hzn := Nat.le_trans hz hw1.2.2.1
  clear hz
  have hz := hzn
  clear hzn
  have hwn := hW.trans hw1
  clear hW hw1
  have hW := hwn
  clear hwn
  obtain ⟨c, hB1, hF1, hWm⟩ : ∃ c', MoB ct J1 ad c' b mo_13 ∧ Fr c0 c' b 19 ∧ HW D J1 ad c' (aA J ad s.heap.size) s.heap H locs := ⟨_, hB.wA (k := 8) rfl (show mo_13 = _ from rfl), hF.up (by omega) (by omega), hW⟩
  clear hB hF hW
  have hB := hB1
  have hF := hF1
  have hW := hWm
  clear hB1 hF1 hWm
  refine lv_iinc (v := (2 : Int32)) (lv' := [(1, .int (2 : Int32)), (0, .ref (ad b))]) hx hb dX9_init_182 hl (k := 0) rfl (by decide) (by decide) rfl (fun ls hl => ?_)
  refine lv_goto (tgt := 169) hx hb dX9_init_185 (by decide) ?_
  refine lv_iload_n hx hb dX9_init_169 rfl (lv_at hl 0 rfl) ?_
  refine lv_bipush (v := (6 : Int32)) hx hb dX9_init_170 (by decide) ?_
  refine lv_icmp_ge (tgt := 188) hx hb dX9_init_172 (by decide) (fun kk => ?_) (fun kk => ?_)
  · exact absurd kk (by decide)
  refine lv_aload_n hx hb dX9_init_175 rfl (lv_at hl 1 rfl) ?_
  refine k_get (v := .ref (ad (b + 1 + 8))) hE hW hB.o hB.obj rfl inX9 11 (by decide) q879 rfl dX9_init_176 ?_
  refine lv_iload_n hx hb dX9_init_179 rfl (lv_at hl 0 rfl) ?_
  refine lv_iconst (v := (-1 : Int32)) hx hb dX9_init_180 (by decide) ?_
  refine k_iast hE hW.self (hB.memA 8 (Nat.le_of_ble_eq_true rfl)) (hB.arr 8 rfl) (by unfold vp_in; decide) dX9_init_181 (fun H locs hw1 => ?_)
  have hzn := Nat.le_trans hz hw1.2.2.1
  clear hz
  have hz := hzn
  clear hzn
  have hwn := hW.trans hw1
  clear hW hw1
  have hW := hwn
  clear hwn
  obtain ⟨c, hB1, hF1, hWm⟩ : ∃ c', MoB ct J1 ad c' b mo_14 ∧ Fr c0 c' b 19 ∧ HW D J1 ad c' (aA J ad s.heap.size) s.heap H locs := ⟨_, hB.wA (k := 8) rfl (show mo_14 = _ from rfl), hF.up (by omega) (by omega), hW⟩
  clear hB hF hW
  have hB := hB1
  have hF := hF1
  have hW := hWm
  clear hB1 hF1 hWm
  refine lv_iinc (v := (3 : Int32)) (lv' := [(1, .int (3 : Int32)), (0, .ref (ad b))]) hx hb dX9_init_182 hl (k := 0) rfl (by decide) (by decide) rfl (fun ls hl => ?_)
  refine lv_goto (tgt := 169) hx hb dX9_init_185 (by decide) ?_
  refine lv_iload_n hx hb dX9_init_169 rfl (lv_at hl 0 rfl) ?_
  refine lv_bipush (v := (6 : Int32)) hx hb dX9_init_170 (by decide) ?_
  refine lv_icmp_ge (tgt := 188) hx hb dX9_init_172 (by decide) (fun kk => ?_) (fun kk => ?_)
  · exact absurd kk (by decide)
  refine lv_aload_n hx hb dX9_init_175 rfl (lv_at hl 1 rfl) ?_
  refine k_get (v := .ref (ad (b + 1 + 8))) hE hW hB.o hB.obj rfl inX9 11 (by decide) q879 rfl dX9_init_176 ?_
  refine lv_iload_n hx hb dX9_init_179 rfl (lv_at hl 0 rfl) ?_
  refine lv_iconst (v := (-1 : Int32)) hx hb dX9_init_180 (by decide) ?_
  refine k_iast hE hW.self (hB.memA 8 (Nat.le_of_ble_eq_true rfl)) (hB.arr 8 rfl) (by unfold vp_in; decide) dX9_init_181 (fun H locs hw1 => ?_)
  have hzn := Nat.le_trans hz hw1.2.2.1
  clear hz
  have hz := hzn
  clear hzn
  have hwn := hW.trans hw1
  clear hW hw1
  have hW := hwn
  clear hwn
  obtain ⟨c, hB1, hF1, hWm⟩ : ∃ c', MoB ct J1 ad c' b mo_15 ∧ Fr c0 c' b 19 ∧ HW D J1 ad c' (aA J ad s.heap.size) s.heap H locs := ⟨_, hB.wA (k := 8) rfl (show mo_15 = _ from rfl), hF.up (by omega) (by omega), hW⟩
  clear hB hF hW
  have hB := hB1
  have hF := hF1
  have hW := hWm
  clear hB1 hF1 hWm
  refine lv_iinc (v := (4 : Int32)) (lv' := [(1, .int (4 : Int32)), (0, .ref (ad b))]) hx hb dX9_init_182 hl (k := 0) rfl (by decide) (by decide) rfl (fun ls hl => ?_)
  refine lv_goto (tgt := 169) hx hb dX9_init_185 (by decide) ?_
  refine lv_iload_n hx hb dX9_init_169 rfl (lv_at hl 0 rfl) ?_
  refine lv_bipush (v := (6 : Int32)) hx hb dX9_init_170 (by decide) ?_
  refine lv_icmp_ge (tgt := 188) hx hb dX9_init_172 (by decide) (fun kk => ?_) (fun kk => ?_)
  · exact absurd kk (by decide)
  refine lv_aload_n hx hb dX9_init_175 rfl (lv_at hl 1 rfl) ?_
  refine k_get (v := .ref (ad (b + 1 + 8))) hE hW hB.o hB.obj rfl inX9 11 (by decide) q879 rfl dX9_init_176 ?_
  refine lv_iload_n hx hb dX9_init_179 rfl (lv_at hl 0 rfl) ?_
  refine lv_iconst (v := (-1 : Int32)) hx hb dX9_init_180 (by decide) ?_
  refine k_iast hE hW.self (hB.memA 8 (Nat.le_of_ble_eq_true rfl)) (hB.arr 8 rfl) (by unfold vp_in; decide) dX9_init_181 (fun H locs hw1 => ?_)
  have hzn := Nat.le_trans hz hw1.2.2.1
  clear hz
  have hz := hzn
  clear hzn
  have hwn := hW.trans hw1
  clear hW hw1
  have hW := hwn
  clear hwn
  obtain ⟨c, hB1, hF1, hWm⟩ : ∃ c', MoB ct J1 ad c' b mo_16 ∧ Fr c0 c' b 19 ∧ HW D J1 ad c' (aA J ad s.heap.size) s.heap H locs := ⟨_, hB.wA (k := 8) rfl (show mo_16 = _ from rfl), hF.up (by omega) (by omega), hW⟩
  clear hB hF hW
  have hB := hB1
  have hF := hF1
  have hW := hWm
  clear hB1 hF1 hWm
  refine lv_iinc (v := (5 : Int32)) (lv' := [(1, .int (5 : Int32)), (0, .ref (ad b))]) hx hb dX9_init_182 hl (k := 0) rfl (by decide) (by decide) rfl (fun ls hl => ?_)
  refine lv_goto (tgt := 169) hx hb dX9_init_185 (by decide) ?_
  refine lv_iload_n hx hb dX9_init_169 rfl (lv_at hl 0 rfl) ?_
  refine lv_bipush (v := (6 : Int32)) hx hb dX9_init_170 (by decide) ?_
  refine lv_icmp_ge (tgt := 188) hx hb dX9_init_172 (by decide) (fun kk => ?_) (fun kk => ?_)
  · exact absurd kk (by decide)
  refine lv_aload_n hx hb dX9_init_175 rfl (lv_at hl 1 rfl) ?_
  refine k_get (v := .ref (ad (b + 1 + 8))) hE hW hB.o hB.obj rfl inX9 11 (by decide) q879 rfl dX9_init_176 ?_
  refine lv_iload_n hx hb dX9_init_179 rfl (lv_at hl 0 rfl) ?_
  refine lv_iconst (v := (-1 : Int32)) hx hb dX9_init_180 (by decide) ?_
  refine k_iast hE hW.self (hB.memA 8 (Nat.le_of_ble_eq_true rfl)) (hB.arr 8 rfl) (by unfold vp_in; decide) dX9_init_181 (fun H locs hw1 => ?_)
  have hzn := Nat.le_trans hz hw1.2.2.1
  clear hz
  have hz := hzn
  clear hzn
  have hwn := hW.trans hw1
  clear hW hw1
  have hW := hwn
  clear hwn
  obtain ⟨c, hB1, hF1, hWm⟩ : ∃ c', MoB ct J1 ad c' b mo_17 ∧ Fr c0 c' b 19 ∧ HW D J1 ad c' (aA J ad s.heap.size) s.heap H locs := ⟨_, hB.wA (k := 8) rfl (show mo_17 = _ from rfl), hF.up (by omega) (by omega), hW⟩
  clear hB hF hW
  have hB := hB1
  have hF := hF1
  have hW := hWm
  clear hB1 hF1 hWm
  refine lv_iinc (v := (6 : Int32)) (lv' := [(1, .int (6 : Int32)), (0, .ref (ad b))]) hx hb dX9_init_182 hl (k := 0) rfl (by decide) (by decide) rfl (fun ls hl => ?_)
  refine lv_goto (tgt := 169) hx hb dX9_init_185 (by decide) ?_
  refine lv_iload_n hx hb dX9_init_169 rfl (lv_at hl 0 rfl) ?_
  refine lv_bipush (v := (6 : Int32)) hx hb dX9_init_170 (by decide) ?_
  refine lv_icmp_ge (tgt := 188) hx hb dX9_init_172 (by decide) (fun kk => ?_) (fun kk => ?_)
  rotate_left
  · exact absurd (show (6 : Int32) ≤ (6 : Int32) by decide) kk
  exact k_nret hE hr hlk hW ⟨hJ24, hB, hF⟩ hz dX9_init_188
