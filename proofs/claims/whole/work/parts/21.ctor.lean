/-- the states that the constructors leave -/
def lg0 : CS := (fun _ _ => 0, fun j => if j = 1 then 1 else 0)
def gr0 : CS := (fun k => if k = 1 then upd (upd (upd (upd (fun _ => 0) (0 : Int32).toNatClampNeg (-5 : Int32)) (1 : Int32).toNatClampNeg (-5 : Int32)) (2 : Int32).toNatClampNeg (-5 : Int32)) (3 : Int32).toNatClampNeg (-5 : Int32) else fun _ => 0, fun _ => 0)
def rw0 : CS := (fun _ _ => 0, fun _ => 0)
def tx0 : CS := (fun _ _ => 0, fun _ => 0)
def kr0 : CS := (fun _ _ => 0, fun _ => 0)
def tp0 : TS := (fun _ => 0, fun j => if j = 0 then -1 else 0)
def st0 : SS := (fun _ => lg0, gr0, rw0, rw0, fun j => if j = 1 then 5 else if j = 2 then 100 else if j = 3 then 50 else 0)
def kl0 : KS := (st0, tx0, kr0, fun _ => tp0, none, none)
theorem BK.mono {ci : Nat} {sl : List (Nat ⊕ Nat)} {ars : List (Nat × Nat)} {ct : Nat → ClassId} {J J' : List Nat} {ad : Nat → Nat} {c : CF} {b : Nat} {st : CS} (h : BK ci sl ars ct J ad c b st) (hJ : ∀ i, i ∈ J → i ∈ J') : BK ci sl ars ct J' ad c b st := ⟨fun k hk => hJ _ (h.1 k hk), h.2.1, h.2.2⟩
theorem LgB.mono {ct : Nat → ClassId} {J J' : List Nat} {ad : Nat → Nat} {c : CF} {b : Nat} {st : CS} (h : LgB ct J ad c b st) (hJ : ∀ i, i ∈ J → i ∈ J') : LgB ct J' ad c b st := BK.mono h hJ
theorem GrB.mono {ct : Nat → ClassId} {J J' : List Nat} {ad : Nat → Nat} {c : CF} {b : Nat} {st : CS} (h : GrB ct J ad c b st) (hJ : ∀ i, i ∈ J → i ∈ J') : GrB ct J' ad c b st := BK.mono h hJ
theorem RwB.mono {nR : Nat} {ct : Nat → ClassId} {J J' : List Nat} {ad : Nat → Nat} {c : CF} {b : Nat} {st : CS} (h : RwB nR ct J ad c b st) (hJ : ∀ i, i ∈ J → i ∈ J') : RwB nR ct J' ad c b st := BK.mono h hJ
theorem TxB.mono {ct : Nat → ClassId} {J J' : List Nat} {ad : Nat → Nat} {c : CF} {b : Nat} {st : CS} (h : TxB ct J ad c b st) (hJ : ∀ i, i ∈ J → i ∈ J') : TxB ct J' ad c b st := BK.mono h hJ
theorem KrB.mono {ct : Nat → ClassId} {J J' : List Nat} {ad : Nat → Nat} {c : CF} {b : Nat} {st : CS} (h : KrB ct J ad c b st) (hJ : ∀ i, i ∈ J → i ∈ J') : KrB ct J' ad c b st := BK.mono h hJ
theorem TpB.mono {ct : Nat → ClassId} {J J' : List Nat} {ad : Nat → Nat} {c : CF} {b : Nat} {st : TS} (h : TpB ct J ad c b st) (hJ : ∀ i, i ∈ J → i ∈ J') : TpB ct J' ad c b st := ⟨⟨hJ _ h.1.1, hJ _ h.1.2⟩, h.2.1, h.2.2⟩
theorem StB.mono {ct : Nat → ClassId} {J J' : List Nat} {ad : Nat → Nat} {c : CF} {b : Nat} {S : SS} (h : StB ct J ad c b S) (hJ : ∀ i, i ∈ J → i ∈ J') : StB ct J' ad c b S := ⟨⟨hJ _ h.1.1, h.1.2⟩, ⟨hJ _ h.2.1.1, h.2.1.2.1, fun i hi => LgB.mono (h.2.1.2.2 i hi) hJ⟩, GrB.mono h.2.2.1 hJ, RwB.mono h.2.2.2.1 hJ, RwB.mono h.2.2.2.2 hJ⟩
theorem HW.af {D : va_G} {J : List Nat} {ad : Nat → Nat} {c : CF} {A : Nat → Prop} {H0 H : Heap} {locs : List Loc} (hW : HW D J ad c A H0 H locs) (hA : ∀ q, H0.size ≤ q → A q) : ∀ q, aA J ad H.size q → A q := fun q h => by
  rcases h with ⟨i, hi, rfl⟩ | h
  · obtain ⟨k, -, hk⟩ := wl_get (ad := ad) (c := c) hi
    exact hW.2.1.2 k _ hk
  · exact hA q (Nat.le_trans hW.2.2.1 h)
theorem hd_X1_init : yX1_init.cls = RX1 ∧ yX1_init.cls ≠ "java/lang/invoke/MethodHandle" ∧ yX1_init.cls ≠ "java/lang/invoke/VarHandle" ∧ (parseMethodDescriptor yX1_init.desc).map (fun d => d.parameters.length) = some 0 := by decide +kernel
theorem hd_X2_init : yX2_init.cls = RX2 ∧ yX2_init.cls ≠ "java/lang/invoke/MethodHandle" ∧ yX2_init.cls ≠ "java/lang/invoke/VarHandle" ∧ (parseMethodDescriptor yX2_init.desc).map (fun d => d.parameters.length) = some 0 := by decide +kernel
theorem hd_X3_init : yX3_init.cls = RX3 ∧ yX3_init.cls ≠ "java/lang/invoke/MethodHandle" ∧ yX3_init.cls ≠ "java/lang/invoke/VarHandle" ∧ (parseMethodDescriptor yX3_init.desc).map (fun d => d.parameters.length) = some 0 := by decide +kernel
theorem hd_X4_init : yX4_init.cls = RX4 ∧ yX4_init.cls ≠ "java/lang/invoke/MethodHandle" ∧ yX4_init.cls ≠ "java/lang/invoke/VarHandle" ∧ (parseMethodDescriptor yX4_init.desc).map (fun d => d.parameters.length) = some 1 := by decide +kernel
theorem hd_X5_init : yX5_init.cls = RX5 ∧ yX5_init.cls ≠ "java/lang/invoke/MethodHandle" ∧ yX5_init.cls ≠ "java/lang/invoke/VarHandle" ∧ (parseMethodDescriptor yX5_init.desc).map (fun d => d.parameters.length) = some 0 := by decide +kernel
theorem hd_X6_init : yX6_init.cls = RX6 ∧ yX6_init.cls ≠ "java/lang/invoke/MethodHandle" ∧ yX6_init.cls ≠ "java/lang/invoke/VarHandle" ∧ (parseMethodDescriptor yX6_init.desc).map (fun d => d.parameters.length) = some 0 := by decide +kernel
theorem hd_X7_init : yX7_init.cls = RX7 ∧ yX7_init.cls ≠ "java/lang/invoke/MethodHandle" ∧ yX7_init.cls ≠ "java/lang/invoke/VarHandle" ∧ (parseMethodDescriptor yX7_init.desc).map (fun d => d.parameters.length) = some 0 := by decide +kernel
theorem hd_X8_init : yX8_init.cls = RX8 ∧ yX8_init.cls ≠ "java/lang/invoke/MethodHandle" ∧ yX8_init.cls ≠ "java/lang/invoke/VarHandle" ∧ (parseMethodDescriptor yX8_init.desc).map (fun d => d.parameters.length) = some 0 := by decide +kernel
theorem hd_X9_init : yX9_init.cls = RX9 ∧ yX9_init.cls ≠ "java/lang/invoke/MethodHandle" ∧ yX9_init.cls ≠ "java/lang/invoke/VarHandle" ∧ (parseMethodDescriptor yX9_init.desc).map (fun d => d.parameters.length) = some 0 := by decide +kernel
set_option maxHeartbeats 4000000 in
set_option maxRecDepth 100000 in
theorem nX3_init {l : Launch} {D : va_G} {ct : Nat → ClassId} {J : List Nat} {ad : Nat → Nat} {c0 : CF} {b sz : Nat} (hbJ : b ∈ J) (hnew : ∀ k, 1 ≤ k → k ≤ 7 → b + k ∉ J) (had : ∀ k, 1 ≤ k → k ≤ 7 → ad (b + k) = sz + (k - 1)) (f_0 : c0 b = .inr (2, [.null, .null, .null, .null, .null, .null, .null, .int 0, .int 0])) : MN l D ct J ad yX3_init cX3_init 1 { frames := 1, cells := 7, slots := 1227, locals := 20 } [.ref (ad b)] c0 sz (fun J' c' => (∀ i, i ∈ J' ↔ i ∈ J ∨ (b < i ∧ i ≤ b + 7)) ∧ LgB ct J' ad c' b lg0 ∧ Fr c0 c' b 8) 7 1227 := by
  refine MN_of (own := RX3) (by decide) rfl rfl (Nat.le_of_ble_eq_true rfl) (fun p e s m below meth cd hsz hE hr hlk hin hW ls hl => ?_)
  subst hsz
  have hx := hE.1
  have hb := hE.2.1
  have hA : ∀ q, s.heap.size ≤ q → aA J ad s.heap.size q := fun q h => Or.inr h
  have hz : s.heap.size + 0 ≤ s.heap.size := Nat.le_refl _
  have hl : lv_has ls 1 [(0, .ref (ad b))] := hl
  refine lv_aload_n hx hb dX3_init_0 rfl (lv_at hl 0 rfl) ?_
  refine W.objInit hx hb hE.2.2.2.1 (hE.2.2.2.2.1 _ q36) (hE.2.2.2.2.1 _ q22) (hE.2.2.2.2.1 _ q23) rfl (by rw [hE.2.2.1]; exact hl.1) rfl dX3_init_1 (Nat.le_of_ble_eq_true rfl) (Nat.le_of_ble_eq_true rfl) ?_
  refine W.eq (g2 := F0 m 4 ls []) rfl ?_
  refine lv_aload_n hx hb dX3_init_4 rfl (lv_at hl 0 rfl) ?_
  refine lv_sipush (v := (200 : Int32)) hx hb dX3_init_5 (by decide) ?_
  refine W_sized (fun hup => ?_)
  refine k_newA (z := s.heap.size + 0) (i := (b + 1)) (t := 0) (N := 200) (atype := .int) (x := (200, .inl (fun _ => 0))) hE hW hA rfl rfl q79 (by omega) (had 1 (Nat.le_of_ble_eq_true rfl) (Nat.le_of_ble_eq_true rfl)) (hnew 1 (Nat.le_of_ble_eq_true rfl) (Nat.le_of_ble_eq_true rfl)) (fun _ => rfl) (fun _ => Iff.rfl) (by decide) (by decide) (Nat.le_of_ble_eq_true rfl) (Nat.le_of_ble_eq_true rfl) (Nat.le_of_ble_eq_true rfl) dX3_init_8 (fun H hz2 hWn => ?_)
  have hzn : s.heap.size + 1 ≤ H.size := by omega
  clear hz hz2 hup
  have hz := hzn
  clear hzn
  clear hW
  obtain ⟨J1, c, hJ1, f_0_1, f_1_1, hF1, hW1⟩ : ∃ (J' : List Nat) (c' : CF), (∀ i, i ∈ J' ↔ i ∈ J ∨ (b < i ∧ i ≤ b + 1)) ∧ c' b = .inr (2, [.null, .null, .null, .null, .null, .null, .null, .int 0, .int 0]) ∧ c' (b + 1) = .inl (ct 0, 200, .inl (fun _ => 0)) ∧ Fr c0 c' b 8 ∧ HW D J' ad c' (aA J ad s.heap.size) s.heap H [] := ⟨_, _, (fun i => by rw [List.mem_append, List.mem_singleton]; by_cases hm : i ∈ J <;> simp only [hm, true_or, false_or, iff_true, or_true] <;> omega), (va_up_ne _ _ (by omega)).trans f_0, va_up_self _ _ _, Fr.rf.up (by omega) (by omega), hWn⟩
  clear f_0 hWn
  refine k_putF hE hW1.self ((hJ1 _).mpr (Or.inl hbJ)) f_0_1 rfl inX3 tyX3 tyX3_ok nmX3 0 (by decide) q37 rfl hin rfl rfl rfl (Nat.le_of_ble_eq_true rfl) dX3_init_10 (fun H locs hw1 => ?_)
  have hzn := Nat.le_trans hz hw1.2.2.1
  clear hz
  have hz := hzn
  clear hzn
  have hwn := hW1.trans hw1
  clear hW1 hw1
  have hW1 := hwn
  clear hwn
  obtain ⟨J1, c, hJ2, f_0_2, f_1_2, hF2, hW2⟩ : ∃ (J' : List Nat) (c' : CF), (∀ i, i ∈ J' ↔ i ∈ J ∨ (b < i ∧ i ≤ b + 1)) ∧ c' b = .inr (2, [.ref (ad (b + 1)), .null, .null, .null, .null, .null, .null, .int 0, .int 0]) ∧ c' (b + 1) = .inl (ct 0, 200, .inl (fun _ => 0)) ∧ Fr c0 c' b 8 ∧ HW D J' ad c' (aA J ad s.heap.size) s.heap H locs := ⟨_, _, hJ1, va_up_self _ _ _, (va_up_ne _ _ (by omega)).trans f_1_1, hF1.up (by omega) (by omega), hW1⟩
  clear f_0_1 f_1_1 hJ1 hF1 hW1
  refine lv_aload_n hx hb dX3_init_13 rfl (lv_at hl 0 rfl) ?_
  refine lv_sipush (v := (200 : Int32)) hx hb dX3_init_14 (by decide) ?_
  refine W_sized (fun hup => ?_)
  refine k_newA (z := s.heap.size + 1) (i := (b + 2)) (t := 0) (N := 200) (atype := .int) (x := (200, .inl (fun _ => 0))) hE hW2 hA rfl rfl q79 (by omega) (had 2 (Nat.le_of_ble_eq_true rfl) (Nat.le_of_ble_eq_true rfl)) (fun hh => by rcases (hJ2 _).mp hh with h1 | h1; exact hnew 2 (Nat.le_of_ble_eq_true rfl) (Nat.le_of_ble_eq_true rfl) h1; omega) (fun _ => rfl) (fun _ => Iff.rfl) (by decide) (by decide) (Nat.le_of_ble_eq_true rfl) (Nat.le_of_ble_eq_true rfl) (Nat.le_of_ble_eq_true rfl) dX3_init_17 (fun H hz2 hWn => ?_)
  have hzn : s.heap.size + 2 ≤ H.size := by omega
  clear hz hz2 hup
  have hz := hzn
  clear hzn
  clear hW2
  obtain ⟨J1, c, hJ3, f_0_3, f_1_3, f_2_3, hF3, hW3⟩ : ∃ (J' : List Nat) (c' : CF), (∀ i, i ∈ J' ↔ i ∈ J ∨ (b < i ∧ i ≤ b + 2)) ∧ c' b = .inr (2, [.ref (ad (b + 1)), .null, .null, .null, .null, .null, .null, .int 0, .int 0]) ∧ c' (b + 1) = .inl (ct 0, 200, .inl (fun _ => 0)) ∧ c' (b + 2) = .inl (ct 0, 200, .inl (fun _ => 0)) ∧ Fr c0 c' b 8 ∧ HW D J' ad c' (aA J ad s.heap.size) s.heap H locs := ⟨_, _, (fun i => by rw [List.mem_append, List.mem_singleton, hJ2 i]; by_cases hm : i ∈ J <;> simp only [hm, true_or, false_or, iff_true, or_true] <;> omega), (va_up_ne _ _ (by omega)).trans f_0_2, (va_up_ne _ _ (by omega)).trans f_1_2, va_up_self _ _ _, hF2.up (by omega) (by omega), hWn⟩
  clear f_0_2 f_1_2 hJ2 hF2 hWn
  refine k_putF hE hW3.self ((hJ3 _).mpr (Or.inl hbJ)) f_0_3 rfl inX3 tyX3 tyX3_ok nmX3 1 (by decide) q40 rfl hin rfl rfl rfl (Nat.le_of_ble_eq_true rfl) dX3_init_19 (fun H locs hw1 => ?_)
  have hzn := Nat.le_trans hz hw1.2.2.1
  clear hz
  have hz := hzn
  clear hzn
  have hwn := hW3.trans hw1
  clear hW3 hw1
  have hW3 := hwn
  clear hwn
  obtain ⟨J1, c, hJ4, f_0_4, f_1_4, f_2_4, hF4, hW4⟩ : ∃ (J' : List Nat) (c' : CF), (∀ i, i ∈ J' ↔ i ∈ J ∨ (b < i ∧ i ≤ b + 2)) ∧ c' b = .inr (2, [.ref (ad (b + 1)), .ref (ad (b + 2)), .null, .null, .null, .null, .null, .int 0, .int 0]) ∧ c' (b + 1) = .inl (ct 0, 200, .inl (fun _ => 0)) ∧ c' (b + 2) = .inl (ct 0, 200, .inl (fun _ => 0)) ∧ Fr c0 c' b 8 ∧ HW D J' ad c' (aA J ad s.heap.size) s.heap H locs := ⟨_, _, hJ3, va_up_self _ _ _, (va_up_ne _ _ (by omega)).trans f_1_3, (va_up_ne _ _ (by omega)).trans f_2_3, hF3.up (by omega) (by omega), hW3⟩
  clear f_0_3 f_1_3 f_2_3 hJ3 hF3 hW3
  refine lv_aload_n hx hb dX3_init_22 rfl (lv_at hl 0 rfl) ?_
  refine lv_sipush (v := (200 : Int32)) hx hb dX3_init_23 (by decide) ?_
  refine W_sized (fun hup => ?_)
  refine k_newA (z := s.heap.size + 2) (i := (b + 3)) (t := 0) (N := 200) (atype := .int) (x := (200, .inl (fun _ => 0))) hE hW4 hA rfl rfl q79 (by omega) (had 3 (Nat.le_of_ble_eq_true rfl) (Nat.le_of_ble_eq_true rfl)) (fun hh => by rcases (hJ4 _).mp hh with h1 | h1; exact hnew 3 (Nat.le_of_ble_eq_true rfl) (Nat.le_of_ble_eq_true rfl) h1; omega) (fun _ => rfl) (fun _ => Iff.rfl) (by decide) (by decide) (Nat.le_of_ble_eq_true rfl) (Nat.le_of_ble_eq_true rfl) (Nat.le_of_ble_eq_true rfl) dX3_init_26 (fun H hz2 hWn => ?_)
  have hzn : s.heap.size + 3 ≤ H.size := by omega
  clear hz hz2 hup
  have hz := hzn
  clear hzn
  clear hW4
  obtain ⟨J1, c, hJ5, f_0_5, f_1_5, f_2_5, f_3_5, hF5, hW5⟩ : ∃ (J' : List Nat) (c' : CF), (∀ i, i ∈ J' ↔ i ∈ J ∨ (b < i ∧ i ≤ b + 3)) ∧ c' b = .inr (2, [.ref (ad (b + 1)), .ref (ad (b + 2)), .null, .null, .null, .null, .null, .int 0, .int 0]) ∧ c' (b + 1) = .inl (ct 0, 200, .inl (fun _ => 0)) ∧ c' (b + 2) = .inl (ct 0, 200, .inl (fun _ => 0)) ∧ c' (b + 3) = .inl (ct 0, 200, .inl (fun _ => 0)) ∧ Fr c0 c' b 8 ∧ HW D J' ad c' (aA J ad s.heap.size) s.heap H locs := ⟨_, _, (fun i => by rw [List.mem_append, List.mem_singleton, hJ4 i]; by_cases hm : i ∈ J <;> simp only [hm, true_or, false_or, iff_true, or_true] <;> omega), (va_up_ne _ _ (by omega)).trans f_0_4, (va_up_ne _ _ (by omega)).trans f_1_4, (va_up_ne _ _ (by omega)).trans f_2_4, va_up_self _ _ _, hF4.up (by omega) (by omega), hWn⟩
  clear f_0_4 f_1_4 f_2_4 hJ4 hF4 hWn
  refine k_putF hE hW5.self ((hJ5 _).mpr (Or.inl hbJ)) f_0_5 rfl inX3 tyX3 tyX3_ok nmX3 2 (by decide) q43 rfl hin rfl rfl rfl (Nat.le_of_ble_eq_true rfl) dX3_init_28 (fun H locs hw1 => ?_)
  have hzn := Nat.le_trans hz hw1.2.2.1
  clear hz
  have hz := hzn
  clear hzn
  have hwn := hW5.trans hw1
  clear hW5 hw1
  have hW5 := hwn
  clear hwn
  obtain ⟨J1, c, hJ6, f_0_6, f_1_6, f_2_6, f_3_6, hF6, hW6⟩ : ∃ (J' : List Nat) (c' : CF), (∀ i, i ∈ J' ↔ i ∈ J ∨ (b < i ∧ i ≤ b + 3)) ∧ c' b = .inr (2, [.ref (ad (b + 1)), .ref (ad (b + 2)), .ref (ad (b + 3)), .null, .null, .null, .null, .int 0, .int 0]) ∧ c' (b + 1) = .inl (ct 0, 200, .inl (fun _ => 0)) ∧ c' (b + 2) = .inl (ct 0, 200, .inl (fun _ => 0)) ∧ c' (b + 3) = .inl (ct 0, 200, .inl (fun _ => 0)) ∧ Fr c0 c' b 8 ∧ HW D J' ad c' (aA J ad s.heap.size) s.heap H locs := ⟨_, _, hJ5, va_up_self _ _ _, (va_up_ne _ _ (by omega)).trans f_1_5, (va_up_ne _ _ (by omega)).trans f_2_5, (va_up_ne _ _ (by omega)).trans f_3_5, hF5.up (by omega) (by omega), hW5⟩
  clear f_0_5 f_1_5 f_2_5 f_3_5 hJ5 hF5 hW5
  refine lv_aload_n hx hb dX3_init_31 rfl (lv_at hl 0 rfl) ?_
  refine lv_sipush (v := (200 : Int32)) hx hb dX3_init_32 (by decide) ?_
  refine W_sized (fun hup => ?_)
  refine k_newA (z := s.heap.size + 3) (i := (b + 4)) (t := 0) (N := 200) (atype := .int) (x := (200, .inl (fun _ => 0))) hE hW6 hA rfl rfl q79 (by omega) (had 4 (Nat.le_of_ble_eq_true rfl) (Nat.le_of_ble_eq_true rfl)) (fun hh => by rcases (hJ6 _).mp hh with h1 | h1; exact hnew 4 (Nat.le_of_ble_eq_true rfl) (Nat.le_of_ble_eq_true rfl) h1; omega) (fun _ => rfl) (fun _ => Iff.rfl) (by decide) (by decide) (Nat.le_of_ble_eq_true rfl) (Nat.le_of_ble_eq_true rfl) (Nat.le_of_ble_eq_true rfl) dX3_init_35 (fun H hz2 hWn => ?_)
  have hzn : s.heap.size + 4 ≤ H.size := by omega
  clear hz hz2 hup
  have hz := hzn
  clear hzn
  clear hW6
  obtain ⟨J1, c, hJ7, f_0_7, f_1_7, f_2_7, f_3_7, f_4_7, hF7, hW7⟩ : ∃ (J' : List Nat) (c' : CF), (∀ i, i ∈ J' ↔ i ∈ J ∨ (b < i ∧ i ≤ b + 4)) ∧ c' b = .inr (2, [.ref (ad (b + 1)), .ref (ad (b + 2)), .ref (ad (b + 3)), .null, .null, .null, .null, .int 0, .int 0]) ∧ c' (b + 1) = .inl (ct 0, 200, .inl (fun _ => 0)) ∧ c' (b + 2) = .inl (ct 0, 200, .inl (fun _ => 0)) ∧ c' (b + 3) = .inl (ct 0, 200, .inl (fun _ => 0)) ∧ c' (b + 4) = .inl (ct 0, 200, .inl (fun _ => 0)) ∧ Fr c0 c' b 8 ∧ HW D J' ad c' (aA J ad s.heap.size) s.heap H locs := ⟨_, _, (fun i => by rw [List.mem_append, List.mem_singleton, hJ6 i]; by_cases hm : i ∈ J <;> simp only [hm, true_or, false_or, iff_true, or_true] <;> omega), (va_up_ne _ _ (by omega)).trans f_0_6, (va_up_ne _ _ (by omega)).trans f_1_6, (va_up_ne _ _ (by omega)).trans f_2_6, (va_up_ne _ _ (by omega)).trans f_3_6, va_up_self _ _ _, hF6.up (by omega) (by omega), hWn⟩
  clear f_0_6 f_1_6 f_2_6 f_3_6 hJ6 hF6 hWn
  refine k_putF hE hW7.self ((hJ7 _).mpr (Or.inl hbJ)) f_0_7 rfl inX3 tyX3 tyX3_ok nmX3 3 (by decide) q45 rfl hin rfl rfl rfl (Nat.le_of_ble_eq_true rfl) dX3_init_37 (fun H locs hw1 => ?_)
  have hzn := Nat.le_trans hz hw1.2.2.1
  clear hz
  have hz := hzn
  clear hzn
  have hwn := hW7.trans hw1
  clear hW7 hw1
  have hW7 := hwn
  clear hwn
  obtain ⟨J1, c, hJ8, f_0_8, f_1_8, f_2_8, f_3_8, f_4_8, hF8, hW8⟩ : ∃ (J' : List Nat) (c' : CF), (∀ i, i ∈ J' ↔ i ∈ J ∨ (b < i ∧ i ≤ b + 4)) ∧ c' b = .inr (2, [.ref (ad (b + 1)), .ref (ad (b + 2)), .ref (ad (b + 3)), .ref (ad (b + 4)), .null, .null, .null, .int 0, .int 0]) ∧ c' (b + 1) = .inl (ct 0, 200, .inl (fun _ => 0)) ∧ c' (b + 2) = .inl (ct 0, 200, .inl (fun _ => 0)) ∧ c' (b + 3) = .inl (ct 0, 200, .inl (fun _ => 0)) ∧ c' (b + 4) = .inl (ct 0, 200, .inl (fun _ => 0)) ∧ Fr c0 c' b 8 ∧ HW D J' ad c' (aA J ad s.heap.size) s.heap H locs := ⟨_, _, hJ7, va_up_self _ _ _, (va_up_ne _ _ (by omega)).trans f_1_7, (va_up_ne _ _ (by omega)).trans f_2_7, (va_up_ne _ _ (by omega)).trans f_3_7, (va_up_ne _ _ (by omega)).trans f_4_7, hF7.up (by omega) (by omega), hW7⟩
  clear f_0_7 f_1_7 f_2_7 f_3_7 f_4_7 hJ7 hF7 hW7
  refine lv_aload_n hx hb dX3_init_40 rfl (lv_at hl 0 rfl) ?_
  refine lv_sipush (v := (200 : Int32)) hx hb dX3_init_41 (by decide) ?_
  refine W_sized (fun hup => ?_)
  refine k_newA (z := s.heap.size + 4) (i := (b + 5)) (t := 0) (N := 200) (atype := .int) (x := (200, .inl (fun _ => 0))) hE hW8 hA rfl rfl q79 (by omega) (had 5 (Nat.le_of_ble_eq_true rfl) (Nat.le_of_ble_eq_true rfl)) (fun hh => by rcases (hJ8 _).mp hh with h1 | h1; exact hnew 5 (Nat.le_of_ble_eq_true rfl) (Nat.le_of_ble_eq_true rfl) h1; omega) (fun _ => rfl) (fun _ => Iff.rfl) (by decide) (by decide) (Nat.le_of_ble_eq_true rfl) (Nat.le_of_ble_eq_true rfl) (Nat.le_of_ble_eq_true rfl) dX3_init_44 (fun H hz2 hWn => ?_)
  have hzn : s.heap.size + 5 ≤ H.size := by omega
  clear hz hz2 hup
  have hz := hzn
  clear hzn
  clear hW8
  obtain ⟨J1, c, hJ9, f_0_9, f_1_9, f_2_9, f_3_9, f_4_9, f_5_9, hF9, hW9⟩ : ∃ (J' : List Nat) (c' : CF), (∀ i, i ∈ J' ↔ i ∈ J ∨ (b < i ∧ i ≤ b + 5)) ∧ c' b = .inr (2, [.ref (ad (b + 1)), .ref (ad (b + 2)), .ref (ad (b + 3)), .ref (ad (b + 4)), .null, .null, .null, .int 0, .int 0]) ∧ c' (b + 1) = .inl (ct 0, 200, .inl (fun _ => 0)) ∧ c' (b + 2) = .inl (ct 0, 200, .inl (fun _ => 0)) ∧ c' (b + 3) = .inl (ct 0, 200, .inl (fun _ => 0)) ∧ c' (b + 4) = .inl (ct 0, 200, .inl (fun _ => 0)) ∧ c' (b + 5) = .inl (ct 0, 200, .inl (fun _ => 0)) ∧ Fr c0 c' b 8 ∧ HW D J' ad c' (aA J ad s.heap.size) s.heap H locs := ⟨_, _, (fun i => by rw [List.mem_append, List.mem_singleton, hJ8 i]; by_cases hm : i ∈ J <;> simp only [hm, true_or, false_or, iff_true, or_true] <;> omega), (va_up_ne _ _ (by omega)).trans f_0_8, (va_up_ne _ _ (by omega)).trans f_1_8, (va_up_ne _ _ (by omega)).trans f_2_8, (va_up_ne _ _ (by omega)).trans f_3_8, (va_up_ne _ _ (by omega)).trans f_4_8, va_up_self _ _ _, hF8.up (by omega) (by omega), hWn⟩
  clear f_0_8 f_1_8 f_2_8 f_3_8 f_4_8 hJ8 hF8 hWn
  refine k_putF hE hW9.self ((hJ9 _).mpr (Or.inl hbJ)) f_0_9 rfl inX3 tyX3 tyX3_ok nmX3 4 (by decide) q47 rfl hin rfl rfl rfl (Nat.le_of_ble_eq_true rfl) dX3_init_46 (fun H locs hw1 => ?_)
  have hzn := Nat.le_trans hz hw1.2.2.1
  clear hz
  have hz := hzn
  clear hzn
  have hwn := hW9.trans hw1
  clear hW9 hw1
  have hW9 := hwn
  clear hwn
  obtain ⟨J1, c, hJ10, f_0_10, f_1_10, f_2_10, f_3_10, f_4_10, f_5_10, hF10, hW10⟩ : ∃ (J' : List Nat) (c' : CF), (∀ i, i ∈ J' ↔ i ∈ J ∨ (b < i ∧ i ≤ b + 5)) ∧ c' b = .inr (2, [.ref (ad (b + 1)), .ref (ad (b + 2)), .ref (ad (b + 3)), .ref (ad (b + 4)), .ref (ad (b + 5)), .null, .null, .int 0, .int 0]) ∧ c' (b + 1) = .inl (ct 0, 200, .inl (fun _ => 0)) ∧ c' (b + 2) = .inl (ct 0, 200, .inl (fun _ => 0)) ∧ c' (b + 3) = .inl (ct 0, 200, .inl (fun _ => 0)) ∧ c' (b + 4) = .inl (ct 0, 200, .inl (fun _ => 0)) ∧ c' (b + 5) = .inl (ct 0, 200, .inl (fun _ => 0)) ∧ Fr c0 c' b 8 ∧ HW D J' ad c' (aA J ad s.heap.size) s.heap H locs := ⟨_, _, hJ9, va_up_self _ _ _, (va_up_ne _ _ (by omega)).trans f_1_9, (va_up_ne _ _ (by omega)).trans f_2_9, (va_up_ne _ _ (by omega)).trans f_3_9, (va_up_ne _ _ (by omega)).trans f_4_9, (va_up_ne _ _ (by omega)).trans f_5_9, hF9.up (by omega) (by omega), hW9⟩
  clear f_0_9 f_1_9 f_2_9 f_3_9 f_4_9 f_5_9 hJ9 hF9 hW9
  refine lv_aload_n hx hb dX3_init_49 rfl (lv_at hl 0 rfl) ?_
  refine lv_sipush (v := (201 : Int32)) hx hb dX3_init_50 (by decide) ?_
  refine W_sized (fun hup => ?_)
  refine k_newA (z := s.heap.size + 5) (i := (b + 6)) (t := 0) (N := 201) (atype := .int) (x := (201, .inl (fun _ => 0))) hE hW10 hA rfl rfl q79 (by omega) (had 6 (Nat.le_of_ble_eq_true rfl) (Nat.le_of_ble_eq_true rfl)) (fun hh => by rcases (hJ10 _).mp hh with h1 | h1; exact hnew 6 (Nat.le_of_ble_eq_true rfl) (Nat.le_of_ble_eq_true rfl) h1; omega) (fun _ => rfl) (fun _ => Iff.rfl) (by decide) (by decide) (Nat.le_of_ble_eq_true rfl) (Nat.le_of_ble_eq_true rfl) (Nat.le_of_ble_eq_true rfl) dX3_init_53 (fun H hz2 hWn => ?_)
  have hzn : s.heap.size + 6 ≤ H.size := by omega
  clear hz hz2 hup
  have hz := hzn
  clear hzn
  clear hW10
  obtain ⟨J1, c, hJ11, f_0_11, f_1_11, f_2_11, f_3_11, f_4_11, f_5_11, f_6_11, hF11, hW11⟩ : ∃ (J' : List Nat) (c' : CF), (∀ i, i ∈ J' ↔ i ∈ J ∨ (b < i ∧ i ≤ b + 6)) ∧ c' b = .inr (2, [.ref (ad (b + 1)), .ref (ad (b + 2)), .ref (ad (b + 3)), .ref (ad (b + 4)), .ref (ad (b + 5)), .null, .null, .int 0, .int 0]) ∧ c' (b + 1) = .inl (ct 0, 200, .inl (fun _ => 0)) ∧ c' (b + 2) = .inl (ct 0, 200, .inl (fun _ => 0)) ∧ c' (b + 3) = .inl (ct 0, 200, .inl (fun _ => 0)) ∧ c' (b + 4) = .inl (ct 0, 200, .inl (fun _ => 0)) ∧ c' (b + 5) = .inl (ct 0, 200, .inl (fun _ => 0)) ∧ c' (b + 6) = .inl (ct 0, 201, .inl (fun _ => 0)) ∧ Fr c0 c' b 8 ∧ HW D J' ad c' (aA J ad s.heap.size) s.heap H locs := ⟨_, _, (fun i => by rw [List.mem_append, List.mem_singleton, hJ10 i]; by_cases hm : i ∈ J <;> simp only [hm, true_or, false_or, iff_true, or_true] <;> omega), (va_up_ne _ _ (by omega)).trans f_0_10, (va_up_ne _ _ (by omega)).trans f_1_10, (va_up_ne _ _ (by omega)).trans f_2_10, (va_up_ne _ _ (by omega)).trans f_3_10, (va_up_ne _ _ (by omega)).trans f_4_10, (va_up_ne _ _ (by omega)).trans f_5_10, va_up_self _ _ _, hF10.up (by omega) (by omega), hWn⟩
  clear f_0_10 f_1_10 f_2_10 f_3_10 f_4_10 f_5_10 hJ10 hF10 hWn
  refine k_putF hE hW11.self ((hJ11 _).mpr (Or.inl hbJ)) f_0_11 rfl inX3 tyX3 tyX3_ok nmX3 5 (by decide) q50 rfl hin rfl rfl rfl (Nat.le_of_ble_eq_true rfl) dX3_init_55 (fun H locs hw1 => ?_)
  have hzn := Nat.le_trans hz hw1.2.2.1
  clear hz
  have hz := hzn
  clear hzn
  have hwn := hW11.trans hw1
  clear hW11 hw1
  have hW11 := hwn
  clear hwn
  obtain ⟨J1, c, hJ12, f_0_12, f_1_12, f_2_12, f_3_12, f_4_12, f_5_12, f_6_12, hF12, hW12⟩ : ∃ (J' : List Nat) (c' : CF), (∀ i, i ∈ J' ↔ i ∈ J ∨ (b < i ∧ i ≤ b + 6)) ∧ c' b = .inr (2, [.ref (ad (b + 1)), .ref (ad (b + 2)), .ref (ad (b + 3)), .ref (ad (b + 4)), .ref (ad (b + 5)), .ref (ad (b + 6)), .null, .int 0, .int 0]) ∧ c' (b + 1) = .inl (ct 0, 200, .inl (fun _ => 0)) ∧ c' (b + 2) = .inl (ct 0, 200, .inl (fun _ => 0)) ∧ c' (b + 3) = .inl (ct 0, 200, .inl (fun _ => 0)) ∧ c' (b + 4) = .inl (ct 0, 200, .inl (fun _ => 0)) ∧ c' (b + 5) = .inl (ct 0, 200, .inl (fun _ => 0)) ∧ c' (b + 6) = .inl (ct 0, 201, .inl (fun _ => 0)) ∧ Fr c0 c' b 8 ∧ HW D J' ad c' (aA J ad s.heap.size) s.heap H locs := ⟨_, _, hJ11, va_up_self _ _ _, (va_up_ne _ _ (by omega)).trans f_1_11, (va_up_ne _ _ (by omega)).trans f_2_11, (va_up_ne _ _ (by omega)).trans f_3_11, (va_up_ne _ _ (by omega)).trans f_4_11, (va_up_ne _ _ (by omega)).trans f_5_11, (va_up_ne _ _ (by omega)).trans f_6_11, hF11.up (by omega) (by omega), hW11⟩
  clear f_0_11 f_1_11 f_2_11 f_3_11 f_4_11 f_5_11 f_6_11 hJ11 hF11 hW11
  refine lv_aload_n hx hb dX3_init_58 rfl (lv_at hl 0 rfl) ?_
  refine lv_bipush (v := (26 : Int32)) hx hb dX3_init_59 (by decide) ?_
  refine W_sized (fun hup => ?_)
  refine k_newA (z := s.heap.size + 6) (i := (b + 7)) (t := 0) (N := 26) (atype := .int) (x := (26, .inl (fun _ => 0))) hE hW12 hA rfl rfl q79 (by omega) (had 7 (Nat.le_of_ble_eq_true rfl) (Nat.le_of_ble_eq_true rfl)) (fun hh => by rcases (hJ12 _).mp hh with h1 | h1; exact hnew 7 (Nat.le_of_ble_eq_true rfl) (Nat.le_of_ble_eq_true rfl) h1; omega) (fun _ => rfl) (fun _ => Iff.rfl) (by decide) (by decide) (Nat.le_of_ble_eq_true rfl) (Nat.le_of_ble_eq_true rfl) (Nat.le_of_ble_eq_true rfl) dX3_init_61 (fun H hz2 hWn => ?_)
  have hzn : s.heap.size + 7 ≤ H.size := by omega
  clear hz hz2 hup
  have hz := hzn
  clear hzn
  clear hW12
  obtain ⟨J1, c, hJ13, f_0_13, f_1_13, f_2_13, f_3_13, f_4_13, f_5_13, f_6_13, f_7_13, hF13, hW13⟩ : ∃ (J' : List Nat) (c' : CF), (∀ i, i ∈ J' ↔ i ∈ J ∨ (b < i ∧ i ≤ b + 7)) ∧ c' b = .inr (2, [.ref (ad (b + 1)), .ref (ad (b + 2)), .ref (ad (b + 3)), .ref (ad (b + 4)), .ref (ad (b + 5)), .ref (ad (b + 6)), .null, .int 0, .int 0]) ∧ c' (b + 1) = .inl (ct 0, 200, .inl (fun _ => 0)) ∧ c' (b + 2) = .inl (ct 0, 200, .inl (fun _ => 0)) ∧ c' (b + 3) = .inl (ct 0, 200, .inl (fun _ => 0)) ∧ c' (b + 4) = .inl (ct 0, 200, .inl (fun _ => 0)) ∧ c' (b + 5) = .inl (ct 0, 200, .inl (fun _ => 0)) ∧ c' (b + 6) = .inl (ct 0, 201, .inl (fun _ => 0)) ∧ c' (b + 7) = .inl (ct 0, 26, .inl (fun _ => 0)) ∧ Fr c0 c' b 8 ∧ HW D J' ad c' (aA J ad s.heap.size) s.heap H locs := ⟨_, _, (fun i => by rw [List.mem_append, List.mem_singleton, hJ12 i]; by_cases hm : i ∈ J <;> simp only [hm, true_or, false_or, iff_true, or_true] <;> omega), (va_up_ne _ _ (by omega)).trans f_0_12, (va_up_ne _ _ (by omega)).trans f_1_12, (va_up_ne _ _ (by omega)).trans f_2_12, (va_up_ne _ _ (by omega)).trans f_3_12, (va_up_ne _ _ (by omega)).trans f_4_12, (va_up_ne _ _ (by omega)).trans f_5_12, (va_up_ne _ _ (by omega)).trans f_6_12, va_up_self _ _ _, hF12.up (by omega) (by omega), hWn⟩
  clear f_0_12 f_1_12 f_2_12 f_3_12 f_4_12 f_5_12 f_6_12 hJ12 hF12 hWn
  refine k_putF hE hW13.self ((hJ13 _).mpr (Or.inl hbJ)) f_0_13 rfl inX3 tyX3 tyX3_ok nmX3 6 (by decide) q52 rfl hin rfl rfl rfl (Nat.le_of_ble_eq_true rfl) dX3_init_63 (fun H locs hw1 => ?_)
  have hzn := Nat.le_trans hz hw1.2.2.1
  clear hz
  have hz := hzn
  clear hzn
  have hwn := hW13.trans hw1
  clear hW13 hw1
  have hW13 := hwn
  clear hwn
  obtain ⟨J1, c, hJ14, f_0_14, f_1_14, f_2_14, f_3_14, f_4_14, f_5_14, f_6_14, f_7_14, hF14, hW14⟩ : ∃ (J' : List Nat) (c' : CF), (∀ i, i ∈ J' ↔ i ∈ J ∨ (b < i ∧ i ≤ b + 7)) ∧ c' b = .inr (2, [.ref (ad (b + 1)), .ref (ad (b + 2)), .ref (ad (b + 3)), .ref (ad (b + 4)), .ref (ad (b + 5)), .ref (ad (b + 6)), .ref (ad (b + 7)), .int 0, .int 0]) ∧ c' (b + 1) = .inl (ct 0, 200, .inl (fun _ => 0)) ∧ c' (b + 2) = .inl (ct 0, 200, .inl (fun _ => 0)) ∧ c' (b + 3) = .inl (ct 0, 200, .inl (fun _ => 0)) ∧ c' (b + 4) = .inl (ct 0, 200, .inl (fun _ => 0)) ∧ c' (b + 5) = .inl (ct 0, 200, .inl (fun _ => 0)) ∧ c' (b + 6) = .inl (ct 0, 201, .inl (fun _ => 0)) ∧ c' (b + 7) = .inl (ct 0, 26, .inl (fun _ => 0)) ∧ Fr c0 c' b 8 ∧ HW D J' ad c' (aA J ad s.heap.size) s.heap H locs := ⟨_, _, hJ13, va_up_self _ _ _, (va_up_ne _ _ (by omega)).trans f_1_13, (va_up_ne _ _ (by omega)).trans f_2_13, (va_up_ne _ _ (by omega)).trans f_3_13, (va_up_ne _ _ (by omega)).trans f_4_13, (va_up_ne _ _ (by omega)).trans f_5_13, (va_up_ne _ _ (by omega)).trans f_6_13, (va_up_ne _ _ (by omega)).trans f_7_13, hF13.up (by omega) (by omega), hW13⟩
  clear f_0_13 f_1_13 f_2_13 f_3_13 f_4_13 f_5_13 f_6_13 f_7_13 hJ13 hF13 hW13
  refine lv_aload_n hx hb dX3_init_66 rfl (lv_at hl 0 rfl) ?_
  refine lv_iconst (v := (1 : Int32)) hx hb dX3_init_67 (by decide) ?_
  refine k_put hE hW14.self ((hJ14 _).mpr (Or.inl hbJ)) f_0_14 rfl inX3 tyX3 tyX3_ok nmX3 8 (by decide) q58 rfl rfl rfl (Nat.le_of_ble_eq_true rfl) dX3_init_68 (fun H locs hw1 => ?_)
  have hzn := Nat.le_trans hz hw1.2.2.1
  clear hz
  have hz := hzn
  clear hzn
  have hwn := hW14.trans hw1
  clear hW14 hw1
  have hW14 := hwn
  clear hwn
  obtain ⟨J1, c, hJ15, f_0_15, f_1_15, f_2_15, f_3_15, f_4_15, f_5_15, f_6_15, f_7_15, hF15, hW15⟩ : ∃ (J' : List Nat) (c' : CF), (∀ i, i ∈ J' ↔ i ∈ J ∨ (b < i ∧ i ≤ b + 7)) ∧ c' b = .inr (2, [.ref (ad (b + 1)), .ref (ad (b + 2)), .ref (ad (b + 3)), .ref (ad (b + 4)), .ref (ad (b + 5)), .ref (ad (b + 6)), .ref (ad (b + 7)), .int 0, .int (1 : Int32)]) ∧ c' (b + 1) = .inl (ct 0, 200, .inl (fun _ => 0)) ∧ c' (b + 2) = .inl (ct 0, 200, .inl (fun _ => 0)) ∧ c' (b + 3) = .inl (ct 0, 200, .inl (fun _ => 0)) ∧ c' (b + 4) = .inl (ct 0, 200, .inl (fun _ => 0)) ∧ c' (b + 5) = .inl (ct 0, 200, .inl (fun _ => 0)) ∧ c' (b + 6) = .inl (ct 0, 201, .inl (fun _ => 0)) ∧ c' (b + 7) = .inl (ct 0, 26, .inl (fun _ => 0)) ∧ Fr c0 c' b 8 ∧ HW D J' ad c' (aA J ad s.heap.size) s.heap H locs := ⟨_, _, hJ14, va_up_self _ _ _, (va_up_ne _ _ (by omega)).trans f_1_14, (va_up_ne _ _ (by omega)).trans f_2_14, (va_up_ne _ _ (by omega)).trans f_3_14, (va_up_ne _ _ (by omega)).trans f_4_14, (va_up_ne _ _ (by omega)).trans f_5_14, (va_up_ne _ _ (by omega)).trans f_6_14, (va_up_ne _ _ (by omega)).trans f_7_14, hF14.up (by omega) (by omega), hW14⟩
  clear f_0_14 f_1_14 f_2_14 f_3_14 f_4_14 f_5_14 f_6_14 f_7_14 hJ14 hF14 hW14
  have hB9 : LgB ct J1 ad c b lg0 := by
    refine ⟨fun k hk => (hJ15 _).mpr ?_, f_0_15, fun k q hk => ?_⟩
    · have hk2 : k ≤ 7 := hk
      rcases Nat.eq_zero_or_pos k with h0 | h0
      · exact Or.inl (by rw [h0]; exact hbJ)
      · exact Or.inr (by omega)
    · have hk2 : k < 7 := (List.getElem?_eq_some_iff.mp hk).1
      rcases (show k = 0 ∨ k = 1 ∨ k = 2 ∨ k = 3 ∨ k = 4 ∨ k = 5 ∨ k = 6 by omega) with rfl | rfl | rfl | rfl | rfl | rfl | rfl
      · obtain rfl := Option.some.inj (show some ((0 : Nat), (200 : Nat)) = some q from hk)
        exact f_1_15
      · obtain rfl := Option.some.inj (show some ((0 : Nat), (200 : Nat)) = some q from hk)
        exact f_2_15
      · obtain rfl := Option.some.inj (show some ((0 : Nat), (200 : Nat)) = some q from hk)
        exact f_3_15
      · obtain rfl := Option.some.inj (show some ((0 : Nat), (200 : Nat)) = some q from hk)
        exact f_4_15
      · obtain rfl := Option.some.inj (show some ((0 : Nat), (200 : Nat)) = some q from hk)
        exact f_5_15
      · obtain rfl := Option.some.inj (show some ((0 : Nat), (201 : Nat)) = some q from hk)
        exact f_6_15
      · obtain rfl := Option.some.inj (show some ((0 : Nat), (26 : Nat)) = some q from hk)
        exact f_7_15
  exact k_nret hE hr hlk hW15 ⟨hJ15, hB9, hF15⟩ hz dX3_init_71
set_option maxHeartbeats 4000000 in
set_option maxRecDepth 100000 in
theorem nX1_init {l : Launch} {D : va_G} {ct : Nat → ClassId} {J : List Nat} {ad : Nat → Nat} {c0 : CF} {b sz : Nat} (hbJ : b ∈ J) (hnew : ∀ k, 1 ≤ k → k ≤ 4 → b + k ∉ J) (had : ∀ k, 1 ≤ k → k ≤ 4 → ad (b + k) = sz + (k - 1)) (f_0 : c0 b = .inr (0, [.null, .null, .null, .null, .int 0])) : MN l D ct J ad yX1_init cX1_init 2 { frames := 1, cells := 4, slots := 16, locals := 20 } [.ref (ad b)] c0 sz (fun J' c' => (∀ i, i ∈ J' ↔ i ∈ J ∨ (b < i ∧ i ≤ b + 4)) ∧ GrB ct J' ad c' b gr0 ∧ Fr c0 c' b 5) 4 16 := by
  refine MN_of (own := RX1) (by decide) rfl rfl (Nat.le_of_ble_eq_true rfl) (fun p e s m below meth cd hsz hE hr hlk hin hW ls hl => ?_)
  subst hsz
  have hx := hE.1
  have hb := hE.2.1
  have hA : ∀ q, s.heap.size ≤ q → aA J ad s.heap.size q := fun q h => Or.inr h
  have hz : s.heap.size + 0 ≤ s.heap.size := Nat.le_refl _
  have hl : lv_has ls 2 [(0, .ref (ad b))] := hl
  refine lv_aload_n hx hb dX1_init_0 rfl (lv_at hl 0 rfl) ?_
  refine W.objInit hx hb hE.2.2.2.1 (hE.2.2.2.2.1 _ q85) (hE.2.2.2.2.1 _ q22) (hE.2.2.2.2.1 _ q23) rfl (by rw [hE.2.2.1]; exact hl.1) rfl dX1_init_1 (Nat.le_of_ble_eq_true rfl) (Nat.le_of_ble_eq_true rfl) ?_
  refine W.eq (g2 := F0 m 4 ls []) rfl ?_
  refine lv_aload_n hx hb dX1_init_4 rfl (lv_at hl 0 rfl) ?_
  refine lv_iconst (v := (4 : Int32)) hx hb dX1_init_5 (by decide) ?_
  refine W_sized (fun hup => ?_)
  refine k_newA (z := s.heap.size + 0) (i := (b + 1)) (t := 2) (N := 4) (atype := .boolean) (x := (4, .inl (fun _ => 0))) hE hW hA rfl rfl q106 (by omega) (had 1 (Nat.le_of_ble_eq_true rfl) (Nat.le_of_ble_eq_true rfl)) (hnew 1 (Nat.le_of_ble_eq_true rfl) (Nat.le_of_ble_eq_true rfl)) (fun _ => rfl) (fun _ => Iff.rfl) (by decide) (by decide) (Nat.le_of_ble_eq_true rfl) (Nat.le_of_ble_eq_true rfl) (Nat.le_of_ble_eq_true rfl) dX1_init_6 (fun H hz2 hWn => ?_)
  have hzn : s.heap.size + 1 ≤ H.size := by omega
  clear hz hz2 hup
  have hz := hzn
  clear hzn
  clear hW
  obtain ⟨J1, c, hJ1, f_0_1, f_1_1, hF1, hW1⟩ : ∃ (J' : List Nat) (c' : CF), (∀ i, i ∈ J' ↔ i ∈ J ∨ (b < i ∧ i ≤ b + 1)) ∧ c' b = .inr (0, [.null, .null, .null, .null, .int 0]) ∧ c' (b + 1) = .inl (ct 2, 4, .inl (fun _ => 0)) ∧ Fr c0 c' b 5 ∧ HW D J' ad c' (aA J ad s.heap.size) s.heap H [] := ⟨_, _, (fun i => by rw [List.mem_append, List.mem_singleton]; by_cases hm : i ∈ J <;> simp only [hm, true_or, false_or, iff_true, or_true] <;> omega), (va_up_ne _ _ (by omega)).trans f_0, va_up_self _ _ _, Fr.rf.up (by omega) (by omega), hWn⟩
  clear f_0 hWn
  refine k_putF hE hW1.self ((hJ1 _).mpr (Or.inl hbJ)) f_0_1 rfl inX1 tyX1 tyX1_ok nmX1 0 (by decide) q86 rfl hin rfl rfl rfl (Nat.le_of_ble_eq_true rfl) dX1_init_8 (fun H locs hw1 => ?_)
  have hzn := Nat.le_trans hz hw1.2.2.1
  clear hz
  have hz := hzn
  clear hzn
  have hwn := hW1.trans hw1
  clear hW1 hw1
  have hW1 := hwn
  clear hwn
  obtain ⟨J1, c, hJ2, f_0_2, f_1_2, hF2, hW2⟩ : ∃ (J' : List Nat) (c' : CF), (∀ i, i ∈ J' ↔ i ∈ J ∨ (b < i ∧ i ≤ b + 1)) ∧ c' b = .inr (0, [.ref (ad (b + 1)), .null, .null, .null, .int 0]) ∧ c' (b + 1) = .inl (ct 2, 4, .inl (fun _ => 0)) ∧ Fr c0 c' b 5 ∧ HW D J' ad c' (aA J ad s.heap.size) s.heap H locs := ⟨_, _, hJ1, va_up_self _ _ _, (va_up_ne _ _ (by omega)).trans f_1_1, hF1.up (by omega) (by omega), hW1⟩
  clear f_0_1 f_1_1 hJ1 hF1 hW1
  refine lv_aload_n hx hb dX1_init_11 rfl (lv_at hl 0 rfl) ?_
  refine lv_iconst (v := (4 : Int32)) hx hb dX1_init_12 (by decide) ?_
  refine W_sized (fun hup => ?_)
  refine k_newA (z := s.heap.size + 1) (i := (b + 2)) (t := 0) (N := 4) (atype := .int) (x := (4, .inl (fun _ => 0))) hE hW2 hA rfl rfl q79 (by omega) (had 2 (Nat.le_of_ble_eq_true rfl) (Nat.le_of_ble_eq_true rfl)) (fun hh => by rcases (hJ2 _).mp hh with h1 | h1; exact hnew 2 (Nat.le_of_ble_eq_true rfl) (Nat.le_of_ble_eq_true rfl) h1; omega) (fun _ => rfl) (fun _ => Iff.rfl) (by decide) (by decide) (Nat.le_of_ble_eq_true rfl) (Nat.le_of_ble_eq_true rfl) (Nat.le_of_ble_eq_true rfl) dX1_init_13 (fun H hz2 hWn => ?_)
  have hzn : s.heap.size + 2 ≤ H.size := by omega
  clear hz hz2 hup
  have hz := hzn
  clear hzn
  clear hW2
  obtain ⟨J1, c, hJ3, f_0_3, f_1_3, f_2_3, hF3, hW3⟩ : ∃ (J' : List Nat) (c' : CF), (∀ i, i ∈ J' ↔ i ∈ J ∨ (b < i ∧ i ≤ b + 2)) ∧ c' b = .inr (0, [.ref (ad (b + 1)), .null, .null, .null, .int 0]) ∧ c' (b + 1) = .inl (ct 2, 4, .inl (fun _ => 0)) ∧ c' (b + 2) = .inl (ct 0, 4, .inl (fun _ => 0)) ∧ Fr c0 c' b 5 ∧ HW D J' ad c' (aA J ad s.heap.size) s.heap H locs := ⟨_, _, (fun i => by rw [List.mem_append, List.mem_singleton, hJ2 i]; by_cases hm : i ∈ J <;> simp only [hm, true_or, false_or, iff_true, or_true] <;> omega), (va_up_ne _ _ (by omega)).trans f_0_2, (va_up_ne _ _ (by omega)).trans f_1_2, va_up_self _ _ _, hF2.up (by omega) (by omega), hWn⟩
  clear f_0_2 f_1_2 hJ2 hF2 hWn
  refine k_putF hE hW3.self ((hJ3 _).mpr (Or.inl hbJ)) f_0_3 rfl inX1 tyX1 tyX1_ok nmX1 1 (by decide) q88 rfl hin rfl rfl rfl (Nat.le_of_ble_eq_true rfl) dX1_init_15 (fun H locs hw1 => ?_)
  have hzn := Nat.le_trans hz hw1.2.2.1
  clear hz
  have hz := hzn
  clear hzn
  have hwn := hW3.trans hw1
  clear hW3 hw1
  have hW3 := hwn
  clear hwn
  obtain ⟨J1, c, hJ4, f_0_4, f_1_4, f_2_4, hF4, hW4⟩ : ∃ (J' : List Nat) (c' : CF), (∀ i, i ∈ J' ↔ i ∈ J ∨ (b < i ∧ i ≤ b + 2)) ∧ c' b = .inr (0, [.ref (ad (b + 1)), .ref (ad (b + 2)), .null, .null, .int 0]) ∧ c' (b + 1) = .inl (ct 2, 4, .inl (fun _ => 0)) ∧ c' (b + 2) = .inl (ct 0, 4, .inl (fun _ => 0)) ∧ Fr c0 c' b 5 ∧ HW D J' ad c' (aA J ad s.heap.size) s.heap H locs := ⟨_, _, hJ3, va_up_self _ _ _, (va_up_ne _ _ (by omega)).trans f_1_3, (va_up_ne _ _ (by omega)).trans f_2_3, hF3.up (by omega) (by omega), hW3⟩
  clear f_0_3 f_1_3 f_2_3 hJ3 hF3 hW3
  refine lv_aload_n hx hb dX1_init_18 rfl (lv_at hl 0 rfl) ?_
  refine lv_iconst (v := (4 : Int32)) hx hb dX1_init_19 (by decide) ?_
  refine W_sized (fun hup => ?_)
  refine k_newA (z := s.heap.size + 2) (i := (b + 3)) (t := 0) (N := 4) (atype := .int) (x := (4, .inl (fun _ => 0))) hE hW4 hA rfl rfl q79 (by omega) (had 3 (Nat.le_of_ble_eq_true rfl) (Nat.le_of_ble_eq_true rfl)) (fun hh => by rcases (hJ4 _).mp hh with h1 | h1; exact hnew 3 (Nat.le_of_ble_eq_true rfl) (Nat.le_of_ble_eq_true rfl) h1; omega) (fun _ => rfl) (fun _ => Iff.rfl) (by decide) (by decide) (Nat.le_of_ble_eq_true rfl) (Nat.le_of_ble_eq_true rfl) (Nat.le_of_ble_eq_true rfl) dX1_init_20 (fun H hz2 hWn => ?_)
  have hzn : s.heap.size + 3 ≤ H.size := by omega
  clear hz hz2 hup
  have hz := hzn
  clear hzn
  clear hW4
  obtain ⟨J1, c, hJ5, f_0_5, f_1_5, f_2_5, f_3_5, hF5, hW5⟩ : ∃ (J' : List Nat) (c' : CF), (∀ i, i ∈ J' ↔ i ∈ J ∨ (b < i ∧ i ≤ b + 3)) ∧ c' b = .inr (0, [.ref (ad (b + 1)), .ref (ad (b + 2)), .null, .null, .int 0]) ∧ c' (b + 1) = .inl (ct 2, 4, .inl (fun _ => 0)) ∧ c' (b + 2) = .inl (ct 0, 4, .inl (fun _ => 0)) ∧ c' (b + 3) = .inl (ct 0, 4, .inl (fun _ => 0)) ∧ Fr c0 c' b 5 ∧ HW D J' ad c' (aA J ad s.heap.size) s.heap H locs := ⟨_, _, (fun i => by rw [List.mem_append, List.mem_singleton, hJ4 i]; by_cases hm : i ∈ J <;> simp only [hm, true_or, false_or, iff_true, or_true] <;> omega), (va_up_ne _ _ (by omega)).trans f_0_4, (va_up_ne _ _ (by omega)).trans f_1_4, (va_up_ne _ _ (by omega)).trans f_2_4, va_up_self _ _ _, hF4.up (by omega) (by omega), hWn⟩
  clear f_0_4 f_1_4 f_2_4 hJ4 hF4 hWn
  refine k_putF hE hW5.self ((hJ5 _).mpr (Or.inl hbJ)) f_0_5 rfl inX1 tyX1 tyX1_ok nmX1 2 (by decide) q90 rfl hin rfl rfl rfl (Nat.le_of_ble_eq_true rfl) dX1_init_22 (fun H locs hw1 => ?_)
  have hzn := Nat.le_trans hz hw1.2.2.1
  clear hz
  have hz := hzn
  clear hzn
  have hwn := hW5.trans hw1
  clear hW5 hw1
  have hW5 := hwn
  clear hwn
  obtain ⟨J1, c, hJ6, f_0_6, f_1_6, f_2_6, f_3_6, hF6, hW6⟩ : ∃ (J' : List Nat) (c' : CF), (∀ i, i ∈ J' ↔ i ∈ J ∨ (b < i ∧ i ≤ b + 3)) ∧ c' b = .inr (0, [.ref (ad (b + 1)), .ref (ad (b + 2)), .ref (ad (b + 3)), .null, .int 0]) ∧ c' (b + 1) = .inl (ct 2, 4, .inl (fun _ => 0)) ∧ c' (b + 2) = .inl (ct 0, 4, .inl (fun _ => 0)) ∧ c' (b + 3) = .inl (ct 0, 4, .inl (fun _ => 0)) ∧ Fr c0 c' b 5 ∧ HW D J' ad c' (aA J ad s.heap.size) s.heap H locs := ⟨_, _, hJ5, va_up_self _ _ _, (va_up_ne _ _ (by omega)).trans f_1_5, (va_up_ne _ _ (by omega)).trans f_2_5, (va_up_ne _ _ (by omega)).trans f_3_5, hF5.up (by omega) (by omega), hW5⟩
  clear f_0_5 f_1_5 f_2_5 f_3_5 hJ5 hF5 hW5
  refine lv_aload_n hx hb dX1_init_25 rfl (lv_at hl 0 rfl) ?_
  refine lv_iconst (v := (4 : Int32)) hx hb dX1_init_26 (by decide) ?_
  refine W_sized (fun hup => ?_)
  refine k_newA (z := s.heap.size + 3) (i := (b + 4)) (t := 0) (N := 4) (atype := .int) (x := (4, .inl (fun _ => 0))) hE hW6 hA rfl rfl q79 (by omega) (had 4 (Nat.le_of_ble_eq_true rfl) (Nat.le_of_ble_eq_true rfl)) (fun hh => by rcases (hJ6 _).mp hh with h1 | h1; exact hnew 4 (Nat.le_of_ble_eq_true rfl) (Nat.le_of_ble_eq_true rfl) h1; omega) (fun _ => rfl) (fun _ => Iff.rfl) (by decide) (by decide) (Nat.le_of_ble_eq_true rfl) (Nat.le_of_ble_eq_true rfl) (Nat.le_of_ble_eq_true rfl) dX1_init_27 (fun H hz2 hWn => ?_)
  have hzn : s.heap.size + 4 ≤ H.size := by omega
  clear hz hz2 hup
  have hz := hzn
  clear hzn
  clear hW6
  obtain ⟨J1, c, hJ7, f_0_7, f_1_7, f_2_7, f_3_7, f_4_7, hF7, hW7⟩ : ∃ (J' : List Nat) (c' : CF), (∀ i, i ∈ J' ↔ i ∈ J ∨ (b < i ∧ i ≤ b + 4)) ∧ c' b = .inr (0, [.ref (ad (b + 1)), .ref (ad (b + 2)), .ref (ad (b + 3)), .null, .int 0]) ∧ c' (b + 1) = .inl (ct 2, 4, .inl (fun _ => 0)) ∧ c' (b + 2) = .inl (ct 0, 4, .inl (fun _ => 0)) ∧ c' (b + 3) = .inl (ct 0, 4, .inl (fun _ => 0)) ∧ c' (b + 4) = .inl (ct 0, 4, .inl (fun _ => 0)) ∧ Fr c0 c' b 5 ∧ HW D J' ad c' (aA J ad s.heap.size) s.heap H locs := ⟨_, _, (fun i => by rw [List.mem_append, List.mem_singleton, hJ6 i]; by_cases hm : i ∈ J <;> simp only [hm, true_or, false_or, iff_true, or_true] <;> omega), (va_up_ne _ _ (by omega)).trans f_0_6, (va_up_ne _ _ (by omega)).trans f_1_6, (va_up_ne _ _ (by omega)).trans f_2_6, (va_up_ne _ _ (by omega)).trans f_3_6, va_up_self _ _ _, hF6.up (by omega) (by omega), hWn⟩
  clear f_0_6 f_1_6 f_2_6 f_3_6 hJ6 hF6 hWn
  refine k_putF hE hW7.self ((hJ7 _).mpr (Or.inl hbJ)) f_0_7 rfl inX1 tyX1 tyX1_ok nmX1 3 (by decide) q91 rfl hin rfl rfl rfl (Nat.le_of_ble_eq_true rfl) dX1_init_29 (fun H locs hw1 => ?_)
  have hzn := Nat.le_trans hz hw1.2.2.1
  clear hz
  have hz := hzn
  clear hzn
  have hwn := hW7.trans hw1
  clear hW7 hw1
  have hW7 := hwn
  clear hwn
  obtain ⟨J1, c, hJ8, f_0_8, f_1_8, f_2_8, f_3_8, f_4_8, hF8, hW8⟩ : ∃ (J' : List Nat) (c' : CF), (∀ i, i ∈ J' ↔ i ∈ J ∨ (b < i ∧ i ≤ b + 4)) ∧ c' b = .inr (0, [.ref (ad (b + 1)), .ref (ad (b + 2)), .ref (ad (b + 3)), .ref (ad (b + 4)), .int 0]) ∧ c' (b + 1) = .inl (ct 2, 4, .inl (fun _ => 0)) ∧ c' (b + 2) = .inl (ct 0, 4, .inl (fun _ => 0)) ∧ c' (b + 3) = .inl (ct 0, 4, .inl (fun _ => 0)) ∧ c' (b + 4) = .inl (ct 0, 4, .inl (fun _ => 0)) ∧ Fr c0 c' b 5 ∧ HW D J' ad c' (aA J ad s.heap.size) s.heap H locs := ⟨_, _, hJ7, va_up_self _ _ _, (va_up_ne _ _ (by omega)).trans f_1_7, (va_up_ne _ _ (by omega)).trans f_2_7, (va_up_ne _ _ (by omega)).trans f_3_7, (va_up_ne _ _ (by omega)).trans f_4_7, hF7.up (by omega) (by omega), hW7⟩
  clear f_0_7 f_1_7 f_2_7 f_3_7 f_4_7 hJ7 hF7 hW7
  refine lv_iconst (v := (0 : Int32)) hx hb dX1_init_32 (by decide) ?_
  refine lv_istore_n (lv' := [(1, .int (0 : Int32)), (0, .ref (ad b))]) hx hb dX1_init_33 rfl hl (by decide) rfl (fun ls hl => ?_)
  refine lv_iload_n hx hb dX1_init_34 rfl (lv_at hl 0 rfl) ?_
  refine lv_iconst (v := (4 : Int32)) hx hb dX1_init_35 (by decide) ?_
  refine lv_icmp_ge (tgt := 53) hx hb dX1_init_36 (by decide) (fun kk => ?_) (fun kk => ?_)
  · exact absurd kk (by decide)
  refine lv_aload_n hx hb dX1_init_39 rfl (lv_at hl 1 rfl) ?_
  refine k_get (v := .ref (ad (b + 2))) hE hW8 ((hJ8 _).mpr (Or.inl hbJ)) f_0_8 rfl inX1 1 (by decide) q88 rfl dX1_init_40 ?_
  refine lv_iload_n hx hb dX1_init_43 rfl (lv_at hl 0 rfl) ?_
  refine lv_bipush (v := (-5 : Int32)) hx hb dX1_init_44 (by decide) ?_
  refine k_iast hE hW8.self ((hJ8 _).mpr (Or.inr (by omega))) f_2_8 (by unfold vp_in; decide) dX1_init_46 (fun H locs hw1 => ?_)
  have hzn := Nat.le_trans hz hw1.2.2.1
  clear hz
  have hz := hzn
  clear hzn
  have hwn := hW8.trans hw1
  clear hW8 hw1
  have hW8 := hwn
  clear hwn
  obtain ⟨J1, c, hJ9, f_0_9, f_1_9, f_2_9, f_3_9, f_4_9, hF9, hW9⟩ : ∃ (J' : List Nat) (c' : CF), (∀ i, i ∈ J' ↔ i ∈ J ∨ (b < i ∧ i ≤ b + 4)) ∧ c' b = .inr (0, [.ref (ad (b + 1)), .ref (ad (b + 2)), .ref (ad (b + 3)), .ref (ad (b + 4)), .int 0]) ∧ c' (b + 1) = .inl (ct 2, 4, .inl (fun _ => 0)) ∧ c' (b + 2) = .inl (ct 0, 4, .inl (upd (fun _ => 0) (0 : Int32).toNatClampNeg (-5 : Int32))) ∧ c' (b + 3) = .inl (ct 0, 4, .inl (fun _ => 0)) ∧ c' (b + 4) = .inl (ct 0, 4, .inl (fun _ => 0)) ∧ Fr c0 c' b 5 ∧ HW D J' ad c' (aA J ad s.heap.size) s.heap H locs := ⟨_, _, hJ8, (va_up_ne _ _ (by omega)).trans f_0_8, (va_up_ne _ _ (by omega)).trans f_1_8, va_up_self _ _ _, (va_up_ne _ _ (by omega)).trans f_3_8, (va_up_ne _ _ (by omega)).trans f_4_8, hF8.up (by omega) (by omega), hW8⟩
  clear f_0_8 f_1_8 f_2_8 f_3_8 f_4_8 hJ8 hF8 hW8
  refine lv_iinc (v := (1 : Int32)) (lv' := [(1, .int (1 : Int32)), (0, .ref (ad b))]) hx hb dX1_init_47 hl (k := 0) rfl (by decide) (by decide) rfl (fun ls hl => ?_)
  refine lv_goto (tgt := 34) hx hb dX1_init_50 (by decide) ?_
  refine lv_iload_n hx hb dX1_init_34 rfl (lv_at hl 0 rfl) ?_
  refine lv_iconst (v := (4 : Int32)) hx hb dX1_init_35 (by decide) ?_
  refine lv_icmp_ge (tgt := 53) hx hb dX1_init_36 (by decide) (fun kk => ?_) (fun kk => ?_)
  · exact absurd kk (by decide)
  refine lv_aload_n hx hb dX1_init_39 rfl (lv_at hl 1 rfl) ?_
  refine k_get (v := .ref (ad (b + 2))) hE hW9 ((hJ9 _).mpr (Or.inl hbJ)) f_0_9 rfl inX1 1 (by decide) q88 rfl dX1_init_40 ?_
  refine lv_iload_n hx hb dX1_init_43 rfl (lv_at hl 0 rfl) ?_
  refine lv_bipush (v := (-5 : Int32)) hx hb dX1_init_44 (by decide) ?_
  refine k_iast hE hW9.self ((hJ9 _).mpr (Or.inr (by omega))) f_2_9 (by unfold vp_in; decide) dX1_init_46 (fun H locs hw1 => ?_)
  have hzn := Nat.le_trans hz hw1.2.2.1
  clear hz
  have hz := hzn
  clear hzn
  have hwn := hW9.trans hw1
  clear hW9 hw1
  have hW9 := hwn
  clear hwn
  obtain ⟨J1, c, hJ10, f_0_10, f_1_10, f_2_10, f_3_10, f_4_10, hF10, hW10⟩ : ∃ (J' : List Nat) (c' : CF), (∀ i, i ∈ J' ↔ i ∈ J ∨ (b < i ∧ i ≤ b + 4)) ∧ c' b = .inr (0, [.ref (ad (b + 1)), .ref (ad (b + 2)), .ref (ad (b + 3)), .ref (ad (b + 4)), .int 0]) ∧ c' (b + 1) = .inl (ct 2, 4, .inl (fun _ => 0)) ∧ c' (b + 2) = .inl (ct 0, 4, .inl (upd (upd (fun _ => 0) (0 : Int32).toNatClampNeg (-5 : Int32)) (1 : Int32).toNatClampNeg (-5 : Int32))) ∧ c' (b + 3) = .inl (ct 0, 4, .inl (fun _ => 0)) ∧ c' (b + 4) = .inl (ct 0, 4, .inl (fun _ => 0)) ∧ Fr c0 c' b 5 ∧ HW D J' ad c' (aA J ad s.heap.size) s.heap H locs := ⟨_, _, hJ9, (va_up_ne _ _ (by omega)).trans f_0_9, (va_up_ne _ _ (by omega)).trans f_1_9, va_up_self _ _ _, (va_up_ne _ _ (by omega)).trans f_3_9, (va_up_ne _ _ (by omega)).trans f_4_9, hF9.up (by omega) (by omega), hW9⟩
  clear f_0_9 f_1_9 f_2_9 f_3_9 f_4_9 hJ9 hF9 hW9
  refine lv_iinc (v := (2 : Int32)) (lv' := [(1, .int (2 : Int32)), (0, .ref (ad b))]) hx hb dX1_init_47 hl (k := 0) rfl (by decide) (by decide) rfl (fun ls hl => ?_)
  refine lv_goto (tgt := 34) hx hb dX1_init_50 (by decide) ?_
  refine lv_iload_n hx hb dX1_init_34 rfl (lv_at hl 0 rfl) ?_
  refine lv_iconst (v := (4 : Int32)) hx hb dX1_init_35 (by decide) ?_
  refine lv_icmp_ge (tgt := 53) hx hb dX1_init_36 (by decide) (fun kk => ?_) (fun kk => ?_)
  · exact absurd kk (by decide)
  refine lv_aload_n hx hb dX1_init_39 rfl (lv_at hl 1 rfl) ?_
  refine k_get (v := .ref (ad (b + 2))) hE hW10 ((hJ10 _).mpr (Or.inl hbJ)) f_0_10 rfl inX1 1 (by decide) q88 rfl dX1_init_40 ?_
  refine lv_iload_n hx hb dX1_init_43 rfl (lv_at hl 0 rfl) ?_
  refine lv_bipush (v := (-5 : Int32)) hx hb dX1_init_44 (by decide) ?_
  refine k_iast hE hW10.self ((hJ10 _).mpr (Or.inr (by omega))) f_2_10 (by unfold vp_in; decide) dX1_init_46 (fun H locs hw1 => ?_)
  have hzn := Nat.le_trans hz hw1.2.2.1
  clear hz
  have hz := hzn
  clear hzn
  have hwn := hW10.trans hw1
  clear hW10 hw1
  have hW10 := hwn
  clear hwn
  obtain ⟨J1, c, hJ11, f_0_11, f_1_11, f_2_11, f_3_11, f_4_11, hF11, hW11⟩ : ∃ (J' : List Nat) (c' : CF), (∀ i, i ∈ J' ↔ i ∈ J ∨ (b < i ∧ i ≤ b + 4)) ∧ c' b = .inr (0, [.ref (ad (b + 1)), .ref (ad (b + 2)), .ref (ad (b + 3)), .ref (ad (b + 4)), .int 0]) ∧ c' (b + 1) = .inl (ct 2, 4, .inl (fun _ => 0)) ∧ c' (b + 2) = .inl (ct 0, 4, .inl (upd (upd (upd (fun _ => 0) (0 : Int32).toNatClampNeg (-5 : Int32)) (1 : Int32).toNatClampNeg (-5 : Int32)) (2 : Int32).toNatClampNeg (-5 : Int32))) ∧ c' (b + 3) = .inl (ct 0, 4, .inl (fun _ => 0)) ∧ c' (b + 4) = .inl (ct 0, 4, .inl (fun _ => 0)) ∧ Fr c0 c' b 5 ∧ HW D J' ad c' (aA J ad s.heap.size) s.heap H locs := ⟨_, _, hJ10, (va_up_ne _ _ (by omega)).trans f_0_10, (va_up_ne _ _ (by omega)).trans f_1_10, va_up_self _ _ _, (va_up_ne _ _ (by omega)).trans f_3_10, (va_up_ne _ _ (by omega)).trans f_4_10, hF10.up (by omega) (by omega), hW10⟩
  clear f_0_10 f_1_10 f_2_10 f_3_10 f_4_10 hJ10 hF10 hW10
  refine lv_iinc (v := (3 : Int32)) (lv' := [(1, .int (3 : Int32)), (0, .ref (ad b))]) hx hb dX1_init_47 hl (k := 0) rfl (by decide) (by decide) rfl (fun ls hl => ?_)
  refine lv_goto (tgt := 34) hx hb dX1_init_50 (by decide) ?_
  refine lv_iload_n hx hb dX1_init_34 rfl (lv_at hl 0 rfl) ?_
  refine lv_iconst (v := (4 : Int32)) hx hb dX1_init_35 (by decide) ?_
  refine lv_icmp_ge (tgt := 53) hx hb dX1_init_36 (by decide) (fun kk => ?_) (fun kk => ?_)
  · exact absurd kk (by decide)
  refine lv_aload_n hx hb dX1_init_39 rfl (lv_at hl 1 rfl) ?_
  refine k_get (v := .ref (ad (b + 2))) hE hW11 ((hJ11 _).mpr (Or.inl hbJ)) f_0_11 rfl inX1 1 (by decide) q88 rfl dX1_init_40 ?_
  refine lv_iload_n hx hb dX1_init_43 rfl (lv_at hl 0 rfl) ?_
  refine lv_bipush (v := (-5 : Int32)) hx hb dX1_init_44 (by decide) ?_
  refine k_iast hE hW11.self ((hJ11 _).mpr (Or.inr (by omega))) f_2_11 (by unfold vp_in; decide) dX1_init_46 (fun H locs hw1 => ?_)
  have hzn := Nat.le_trans hz hw1.2.2.1
  clear hz
  have hz := hzn
  clear hzn
  have hwn := hW11.trans hw1
  clear hW11 hw1
  have hW11 := hwn
  clear hwn
  obtain ⟨J1, c, hJ12, f_0_12, f_1_12, f_2_12, f_3_12, f_4_12, hF12, hW12⟩ : ∃ (J' : List Nat) (c' : CF), (∀ i, i ∈ J' ↔ i ∈ J ∨ (b < i ∧ i ≤ b + 4)) ∧ c' b = .inr (0, [.ref (ad (b + 1)), .ref (ad (b + 2)), .ref (ad (b + 3)), .ref (ad (b + 4)), .int 0]) ∧ c' (b + 1) = .inl (ct 2, 4, .inl (fun _ => 0)) ∧ c' (b + 2) = .inl (ct 0, 4, .inl (upd (upd (upd (upd (fun _ => 0) (0 : Int32).toNatClampNeg (-5 : Int32)) (1 : Int32).toNatClampNeg (-5 : Int32)) (2 : Int32).toNatClampNeg (-5 : Int32)) (3 : Int32).toNatClampNeg (-5 : Int32))) ∧ c' (b + 3) = .inl (ct 0, 4, .inl (fun _ => 0)) ∧ c' (b + 4) = .inl (ct 0, 4, .inl (fun _ => 0)) ∧ Fr c0 c' b 5 ∧ HW D J' ad c' (aA J ad s.heap.size) s.heap H locs := ⟨_, _, hJ11, (va_up_ne _ _ (by omega)).trans f_0_11, (va_up_ne _ _ (by omega)).trans f_1_11, va_up_self _ _ _, (va_up_ne _ _ (by omega)).trans f_3_11, (va_up_ne _ _ (by omega)).trans f_4_11, hF11.up (by omega) (by omega), hW11⟩
  clear f_0_11 f_1_11 f_2_11 f_3_11 f_4_11 hJ11 hF11 hW11
  refine lv_iinc (v := (4 : Int32)) (lv' := [(1, .int (4 : Int32)), (0, .ref (ad b))]) hx hb dX1_init_47 hl (k := 0) rfl (by decide) (by decide) rfl (fun ls hl => ?_)
  refine lv_goto (tgt := 34) hx hb dX1_init_50 (by decide) ?_
  refine lv_iload_n hx hb dX1_init_34 rfl (lv_at hl 0 rfl) ?_
  refine lv_iconst (v := (4 : Int32)) hx hb dX1_init_35 (by decide) ?_
  refine lv_icmp_ge (tgt := 53) hx hb dX1_init_36 (by decide) (fun kk => ?_) (fun kk => ?_)
  rotate_left
  · exact absurd (show (4 : Int32) ≤ (4 : Int32) by decide) kk
  have hB9 : GrB ct J1 ad c b gr0 := by
    refine ⟨fun k hk => (hJ12 _).mpr ?_, f_0_12, fun k q hk => ?_⟩
    · have hk2 : k ≤ 4 := hk
      rcases Nat.eq_zero_or_pos k with h0 | h0
      · exact Or.inl (by rw [h0]; exact hbJ)
      · exact Or.inr (by omega)
    · have hk2 : k < 4 := (List.getElem?_eq_some_iff.mp hk).1
      rcases (show k = 0 ∨ k = 1 ∨ k = 2 ∨ k = 3 by omega) with rfl | rfl | rfl | rfl
      · obtain rfl := Option.some.inj (show some ((2 : Nat), (4 : Nat)) = some q from hk)
        exact f_1_12
      · obtain rfl := Option.some.inj (show some ((0 : Nat), (4 : Nat)) = some q from hk)
        exact f_2_12
      · obtain rfl := Option.some.inj (show some ((0 : Nat), (4 : Nat)) = some q from hk)
        exact f_3_12
      · obtain rfl := Option.some.inj (show some ((0 : Nat), (4 : Nat)) = some q from hk)
        exact f_4_12
  exact k_nret hE hr hlk hW12 ⟨hJ12, hB9, hF12⟩ hz dX1_init_53
set_option maxHeartbeats 4000000 in
set_option maxRecDepth 100000 in
theorem nX4_init_10 {l : Launch} {D : va_G} {ct : Nat → ClassId} {J : List Nat} {ad : Nat → Nat} {c0 : CF} {b sz : Nat} (hbJ : b ∈ J) (hnew : ∀ k, 1 ≤ k → k ≤ 2 → b + k ∉ J) (had : ∀ k, 1 ≤ k → k ≤ 2 → ad (b + k) = sz + (k - 1)) (f_0 : c0 b = .inr (3, [.null, .null, .int 0])) : MN l D ct J ad yX4_init cX4_init 2 { frames := 1, cells := 2, slots := 20, locals := 20 } [.ref (ad b), .int (10 : Int32)] c0 sz (fun J' c' => (∀ i, i ∈ J' ↔ i ∈ J ∨ (b < i ∧ i ≤ b + 2)) ∧ RwB 10 ct J' ad c' b rw0 ∧ Fr c0 c' b 3) 2 20 := by
  refine MN_of (own := RX4) (by decide) rfl rfl (Nat.le_of_ble_eq_true rfl) (fun p e s m below meth cd hsz hE hr hlk hin hW ls hl => ?_)
  subst hsz
  have hx := hE.1
  have hb := hE.2.1
  have hA : ∀ q, s.heap.size ≤ q → aA J ad s.heap.size q := fun q h => Or.inr h
  have hz : s.heap.size + 0 ≤ s.heap.size := Nat.le_refl _
  have hl : lv_has ls 2 [(0, .ref (ad b)), (1, .int (10 : Int32))] := hl
  refine lv_aload_n hx hb dX4_init_0 rfl (lv_at hl 0 rfl) ?_
  refine W.objInit hx hb hE.2.2.2.1 (hE.2.2.2.2.1 _ q112) (hE.2.2.2.2.1 _ q22) (hE.2.2.2.2.1 _ q23) rfl (by rw [hE.2.2.1]; exact hl.1) rfl dX4_init_1 (Nat.le_of_ble_eq_true rfl) (Nat.le_of_ble_eq_true rfl) ?_
  refine W.eq (g2 := F0 m 4 ls []) rfl ?_
  refine lv_aload_n hx hb dX4_init_4 rfl (lv_at hl 0 rfl) ?_
  refine lv_iload_n hx hb dX4_init_5 rfl (lv_at hl 1 rfl) ?_
  refine lv_iconst (v := (0 : Int32)) hx hb dX4_init_6 (by decide) ?_
  refine va_mmax hx hb (hE.2.2.1.trans hl.1.symm) hE.2.2.2.1 (hE.2.2.2.2.1 _ q113) (hE.2.2.2.2.1 _ q114) (hE.2.2.2.2.1 _ q6) (hE.2.2.2.2.1 _ q115) (Nat.le_of_ble_eq_true rfl) (Nat.le_of_ble_eq_true rfl) (Nat.le_of_ble_eq_true rfl) (Nat.le_of_ble_eq_true rfl) dX4_init_7 ?_
  refine W_sized (fun hup => ?_)
  refine k_newA (z := s.heap.size + 0) (i := (b + 1)) (t := 0) (N := 10) (atype := .int) (x := (10, .inl (fun _ => 0))) hE hW hA rfl rfl q79 (by omega) (had 1 (Nat.le_of_ble_eq_true rfl) (Nat.le_of_ble_eq_true rfl)) (hnew 1 (Nat.le_of_ble_eq_true rfl) (Nat.le_of_ble_eq_true rfl)) (fun _ => rfl) (fun _ => Iff.rfl) (by decide) (by decide) (Nat.le_of_ble_eq_true rfl) (Nat.le_of_ble_eq_true rfl) (Nat.le_of_ble_eq_true rfl) dX4_init_10 (fun H hz2 hWn => ?_)
  have hzn : s.heap.size + 1 ≤ H.size := by omega
  clear hz hz2 hup
  have hz := hzn
  clear hzn
  clear hW
  obtain ⟨J1, c, hJ1, f_0_1, f_1_1, hF1, hW1⟩ : ∃ (J' : List Nat) (c' : CF), (∀ i, i ∈ J' ↔ i ∈ J ∨ (b < i ∧ i ≤ b + 1)) ∧ c' b = .inr (3, [.null, .null, .int 0]) ∧ c' (b + 1) = .inl (ct 0, 10, .inl (fun _ => 0)) ∧ Fr c0 c' b 3 ∧ HW D J' ad c' (aA J ad s.heap.size) s.heap H [] := ⟨_, _, (fun i => by rw [List.mem_append, List.mem_singleton]; by_cases hm : i ∈ J <;> simp only [hm, true_or, false_or, iff_true, or_true] <;> omega), (va_up_ne _ _ (by omega)).trans f_0, va_up_self _ _ _, Fr.rf.up (by omega) (by omega), hWn⟩
  clear f_0 hWn
  refine k_putF hE hW1.self ((hJ1 _).mpr (Or.inl hbJ)) f_0_1 rfl inX4 tyX4 tyX4_ok nmX4 0 (by decide) q116 rfl hin rfl rfl rfl (Nat.le_of_ble_eq_true rfl) dX4_init_12 (fun H locs hw1 => ?_)
  have hzn := Nat.le_trans hz hw1.2.2.1
  clear hz
  have hz := hzn
  clear hzn
  have hwn := hW1.trans hw1
  clear hW1 hw1
  have hW1 := hwn
  clear hwn
  obtain ⟨J1, c, hJ2, f_0_2, f_1_2, hF2, hW2⟩ : ∃ (J' : List Nat) (c' : CF), (∀ i, i ∈ J' ↔ i ∈ J ∨ (b < i ∧ i ≤ b + 1)) ∧ c' b = .inr (3, [.ref (ad (b + 1)), .null, .int 0]) ∧ c' (b + 1) = .inl (ct 0, 10, .inl (fun _ => 0)) ∧ Fr c0 c' b 3 ∧ HW D J' ad c' (aA J ad s.heap.size) s.heap H locs := ⟨_, _, hJ1, va_up_self _ _ _, (va_up_ne _ _ (by omega)).trans f_1_1, hF1.up (by omega) (by omega), hW1⟩
  clear f_0_1 f_1_1 hJ1 hF1 hW1
  refine lv_aload_n hx hb dX4_init_15 rfl (lv_at hl 0 rfl) ?_
  refine lv_iload_n hx hb dX4_init_16 rfl (lv_at hl 1 rfl) ?_
  refine lv_iconst (v := (0 : Int32)) hx hb dX4_init_17 (by decide) ?_
  refine va_mmax hx hb (hE.2.2.1.trans hl.1.symm) hE.2.2.2.1 (hE.2.2.2.2.1 _ q113) (hE.2.2.2.2.1 _ q114) (hE.2.2.2.2.1 _ q6) (hE.2.2.2.2.1 _ q115) (Nat.le_of_ble_eq_true rfl) (Nat.le_of_ble_eq_true rfl) (Nat.le_of_ble_eq_true rfl) (Nat.le_of_ble_eq_true rfl) dX4_init_18 ?_
  refine W_sized (fun hup => ?_)
  refine k_newA (z := s.heap.size + 1) (i := (b + 2)) (t := 0) (N := 10) (atype := .int) (x := (10, .inl (fun _ => 0))) hE hW2 hA rfl rfl q79 (by omega) (had 2 (Nat.le_of_ble_eq_true rfl) (Nat.le_of_ble_eq_true rfl)) (fun hh => by rcases (hJ2 _).mp hh with h1 | h1; exact hnew 2 (Nat.le_of_ble_eq_true rfl) (Nat.le_of_ble_eq_true rfl) h1; omega) (fun _ => rfl) (fun _ => Iff.rfl) (by decide) (by decide) (Nat.le_of_ble_eq_true rfl) (Nat.le_of_ble_eq_true rfl) (Nat.le_of_ble_eq_true rfl) dX4_init_21 (fun H hz2 hWn => ?_)
  have hzn : s.heap.size + 2 ≤ H.size := by omega
  clear hz hz2 hup
  have hz := hzn
  clear hzn
  clear hW2
  obtain ⟨J1, c, hJ3, f_0_3, f_1_3, f_2_3, hF3, hW3⟩ : ∃ (J' : List Nat) (c' : CF), (∀ i, i ∈ J' ↔ i ∈ J ∨ (b < i ∧ i ≤ b + 2)) ∧ c' b = .inr (3, [.ref (ad (b + 1)), .null, .int 0]) ∧ c' (b + 1) = .inl (ct 0, 10, .inl (fun _ => 0)) ∧ c' (b + 2) = .inl (ct 0, 10, .inl (fun _ => 0)) ∧ Fr c0 c' b 3 ∧ HW D J' ad c' (aA J ad s.heap.size) s.heap H locs := ⟨_, _, (fun i => by rw [List.mem_append, List.mem_singleton, hJ2 i]; by_cases hm : i ∈ J <;> simp only [hm, true_or, false_or, iff_true, or_true] <;> omega), (va_up_ne _ _ (by omega)).trans f_0_2, (va_up_ne _ _ (by omega)).trans f_1_2, va_up_self _ _ _, hF2.up (by omega) (by omega), hWn⟩
  clear f_0_2 f_1_2 hJ2 hF2 hWn
  refine k_putF hE hW3.self ((hJ3 _).mpr (Or.inl hbJ)) f_0_3 rfl inX4 tyX4 tyX4_ok nmX4 1 (by decide) q118 rfl hin rfl rfl rfl (Nat.le_of_ble_eq_true rfl) dX4_init_23 (fun H locs hw1 => ?_)
  have hzn := Nat.le_trans hz hw1.2.2.1
  clear hz
  have hz := hzn
  clear hzn
  have hwn := hW3.trans hw1
  clear hW3 hw1
  have hW3 := hwn
  clear hwn
  obtain ⟨J1, c, hJ4, f_0_4, f_1_4, f_2_4, hF4, hW4⟩ : ∃ (J' : List Nat) (c' : CF), (∀ i, i ∈ J' ↔ i ∈ J ∨ (b < i ∧ i ≤ b + 2)) ∧ c' b = .inr (3, [.ref (ad (b + 1)), .ref (ad (b + 2)), .int 0]) ∧ c' (b + 1) = .inl (ct 0, 10, .inl (fun _ => 0)) ∧ c' (b + 2) = .inl (ct 0, 10, .inl (fun _ => 0)) ∧ Fr c0 c' b 3 ∧ HW D J' ad c' (aA J ad s.heap.size) s.heap H locs := ⟨_, _, hJ3, va_up_self _ _ _, (va_up_ne _ _ (by omega)).trans f_1_3, (va_up_ne _ _ (by omega)).trans f_2_3, hF3.up (by omega) (by omega), hW3⟩
  clear f_0_3 f_1_3 f_2_3 hJ3 hF3 hW3
  have hB9 : RwB 10 ct J1 ad c b rw0 := by
    refine ⟨fun k hk => (hJ4 _).mpr ?_, f_0_4, fun k q hk => ?_⟩
    · have hk2 : k ≤ 2 := hk
      rcases Nat.eq_zero_or_pos k with h0 | h0
      · exact Or.inl (by rw [h0]; exact hbJ)
      · exact Or.inr (by omega)
    · have hk2 : k < 2 := (List.getElem?_eq_some_iff.mp hk).1
      rcases (show k = 0 ∨ k = 1 by omega) with rfl | rfl
      · obtain rfl := Option.some.inj (show some ((0 : Nat), (10 : Nat)) = some q from hk)
        exact f_1_4
      · obtain rfl := Option.some.inj (show some ((0 : Nat), (10 : Nat)) = some q from hk)
        exact f_2_4
  exact k_nret hE hr hlk hW4 ⟨hJ4, hB9, hF4⟩ hz dX4_init_26
set_option maxHeartbeats 4000000 in
set_option maxRecDepth 100000 in
theorem nX4_init_8 {l : Launch} {D : va_G} {ct : Nat → ClassId} {J : List Nat} {ad : Nat → Nat} {c0 : CF} {b sz : Nat} (hbJ : b ∈ J) (hnew : ∀ k, 1 ≤ k → k ≤ 2 → b + k ∉ J) (had : ∀ k, 1 ≤ k → k ≤ 2 → ad (b + k) = sz + (k - 1)) (f_0 : c0 b = .inr (3, [.null, .null, .int 0])) : MN l D ct J ad yX4_init cX4_init 2 { frames := 1, cells := 2, slots := 16, locals := 20 } [.ref (ad b), .int (8 : Int32)] c0 sz (fun J' c' => (∀ i, i ∈ J' ↔ i ∈ J ∨ (b < i ∧ i ≤ b + 2)) ∧ RwB 8 ct J' ad c' b rw0 ∧ Fr c0 c' b 3) 2 16 := by
  refine MN_of (own := RX4) (by decide) rfl rfl (Nat.le_of_ble_eq_true rfl) (fun p e s m below meth cd hsz hE hr hlk hin hW ls hl => ?_)
  subst hsz
  have hx := hE.1
  have hb := hE.2.1
  have hA : ∀ q, s.heap.size ≤ q → aA J ad s.heap.size q := fun q h => Or.inr h
  have hz : s.heap.size + 0 ≤ s.heap.size := Nat.le_refl _
  have hl : lv_has ls 2 [(0, .ref (ad b)), (1, .int (8 : Int32))] := hl
  refine lv_aload_n hx hb dX4_init_0 rfl (lv_at hl 0 rfl) ?_
  refine W.objInit hx hb hE.2.2.2.1 (hE.2.2.2.2.1 _ q112) (hE.2.2.2.2.1 _ q22) (hE.2.2.2.2.1 _ q23) rfl (by rw [hE.2.2.1]; exact hl.1) rfl dX4_init_1 (Nat.le_of_ble_eq_true rfl) (Nat.le_of_ble_eq_true rfl) ?_
  refine W.eq (g2 := F0 m 4 ls []) rfl ?_
  refine lv_aload_n hx hb dX4_init_4 rfl (lv_at hl 0 rfl) ?_
  refine lv_iload_n hx hb dX4_init_5 rfl (lv_at hl 1 rfl) ?_
  refine lv_iconst (v := (0 : Int32)) hx hb dX4_init_6 (by decide) ?_
  refine va_mmax hx hb (hE.2.2.1.trans hl.1.symm) hE.2.2.2.1 (hE.2.2.2.2.1 _ q113) (hE.2.2.2.2.1 _ q114) (hE.2.2.2.2.1 _ q6) (hE.2.2.2.2.1 _ q115) (Nat.le_of_ble_eq_true rfl) (Nat.le_of_ble_eq_true rfl) (Nat.le_of_ble_eq_true rfl) (Nat.le_of_ble_eq_true rfl) dX4_init_7 ?_
  refine W_sized (fun hup => ?_)
  refine k_newA (z := s.heap.size + 0) (i := (b + 1)) (t := 0) (N := 8) (atype := .int) (x := (8, .inl (fun _ => 0))) hE hW hA rfl rfl q79 (by omega) (had 1 (Nat.le_of_ble_eq_true rfl) (Nat.le_of_ble_eq_true rfl)) (hnew 1 (Nat.le_of_ble_eq_true rfl) (Nat.le_of_ble_eq_true rfl)) (fun _ => rfl) (fun _ => Iff.rfl) (by decide) (by decide) (Nat.le_of_ble_eq_true rfl) (Nat.le_of_ble_eq_true rfl) (Nat.le_of_ble_eq_true rfl) dX4_init_10 (fun H hz2 hWn => ?_)
  have hzn : s.heap.size + 1 ≤ H.size := by omega
  clear hz hz2 hup
  have hz := hzn
  clear hzn
  clear hW
  obtain ⟨J1, c, hJ1, f_0_1, f_1_1, hF1, hW1⟩ : ∃ (J' : List Nat) (c' : CF), (∀ i, i ∈ J' ↔ i ∈ J ∨ (b < i ∧ i ≤ b + 1)) ∧ c' b = .inr (3, [.null, .null, .int 0]) ∧ c' (b + 1) = .inl (ct 0, 8, .inl (fun _ => 0)) ∧ Fr c0 c' b 3 ∧ HW D J' ad c' (aA J ad s.heap.size) s.heap H [] := ⟨_, _, (fun i => by rw [List.mem_append, List.mem_singleton]; by_cases hm : i ∈ J <;> simp only [hm, true_or, false_or, iff_true, or_true] <;> omega), (va_up_ne _ _ (by omega)).trans f_0, va_up_self _ _ _, Fr.rf.up (by omega) (by omega), hWn⟩
  clear f_0 hWn
  refine k_putF hE hW1.self ((hJ1 _).mpr (Or.inl hbJ)) f_0_1 rfl inX4 tyX4 tyX4_ok nmX4 0 (by decide) q116 rfl hin rfl rfl rfl (Nat.le_of_ble_eq_true rfl) dX4_init_12 (fun H locs hw1 => ?_)
  have hzn := Nat.le_trans hz hw1.2.2.1
  clear hz
  have hz := hzn
  clear hzn
  have hwn := hW1.trans hw1
  clear hW1 hw1
  have hW1 := hwn
  clear hwn
  obtain ⟨J1, c, hJ2, f_0_2, f_1_2, hF2, hW2⟩ : ∃ (J' : List Nat) (c' : CF), (∀ i, i ∈ J' ↔ i ∈ J ∨ (b < i ∧ i ≤ b + 1)) ∧ c' b = .inr (3, [.ref (ad (b + 1)), .null, .int 0]) ∧ c' (b + 1) = .inl (ct 0, 8, .inl (fun _ => 0)) ∧ Fr c0 c' b 3 ∧ HW D J' ad c' (aA J ad s.heap.size) s.heap H locs := ⟨_, _, hJ1, va_up_self _ _ _, (va_up_ne _ _ (by omega)).trans f_1_1, hF1.up (by omega) (by omega), hW1⟩
  clear f_0_1 f_1_1 hJ1 hF1 hW1
  refine lv_aload_n hx hb dX4_init_15 rfl (lv_at hl 0 rfl) ?_
  refine lv_iload_n hx hb dX4_init_16 rfl (lv_at hl 1 rfl) ?_
  refine lv_iconst (v := (0 : Int32)) hx hb dX4_init_17 (by decide) ?_
  refine va_mmax hx hb (hE.2.2.1.trans hl.1.symm) hE.2.2.2.1 (hE.2.2.2.2.1 _ q113) (hE.2.2.2.2.1 _ q114) (hE.2.2.2.2.1 _ q6) (hE.2.2.2.2.1 _ q115) (Nat.le_of_ble_eq_true rfl) (Nat.le_of_ble_eq_true rfl) (Nat.le_of_ble_eq_true rfl) (Nat.le_of_ble_eq_true rfl) dX4_init_18 ?_
  refine W_sized (fun hup => ?_)
  refine k_newA (z := s.heap.size + 1) (i := (b + 2)) (t := 0) (N := 8) (atype := .int) (x := (8, .inl (fun _ => 0))) hE hW2 hA rfl rfl q79 (by omega) (had 2 (Nat.le_of_ble_eq_true rfl) (Nat.le_of_ble_eq_true rfl)) (fun hh => by rcases (hJ2 _).mp hh with h1 | h1; exact hnew 2 (Nat.le_of_ble_eq_true rfl) (Nat.le_of_ble_eq_true rfl) h1; omega) (fun _ => rfl) (fun _ => Iff.rfl) (by decide) (by decide) (Nat.le_of_ble_eq_true rfl) (Nat.le_of_ble_eq_true rfl) (Nat.le_of_ble_eq_true rfl) dX4_init_21 (fun H hz2 hWn => ?_)
  have hzn : s.heap.size + 2 ≤ H.size := by omega
  clear hz hz2 hup
  have hz := hzn
  clear hzn
  clear hW2
  obtain ⟨J1, c, hJ3, f_0_3, f_1_3, f_2_3, hF3, hW3⟩ : ∃ (J' : List Nat) (c' : CF), (∀ i, i ∈ J' ↔ i ∈ J ∨ (b < i ∧ i ≤ b + 2)) ∧ c' b = .inr (3, [.ref (ad (b + 1)), .null, .int 0]) ∧ c' (b + 1) = .inl (ct 0, 8, .inl (fun _ => 0)) ∧ c' (b + 2) = .inl (ct 0, 8, .inl (fun _ => 0)) ∧ Fr c0 c' b 3 ∧ HW D J' ad c' (aA J ad s.heap.size) s.heap H locs := ⟨_, _, (fun i => by rw [List.mem_append, List.mem_singleton, hJ2 i]; by_cases hm : i ∈ J <;> simp only [hm, true_or, false_or, iff_true, or_true] <;> omega), (va_up_ne _ _ (by omega)).trans f_0_2, (va_up_ne _ _ (by omega)).trans f_1_2, va_up_self _ _ _, hF2.up (by omega) (by omega), hWn⟩
  clear f_0_2 f_1_2 hJ2 hF2 hWn
  refine k_putF hE hW3.self ((hJ3 _).mpr (Or.inl hbJ)) f_0_3 rfl inX4 tyX4 tyX4_ok nmX4 1 (by decide) q118 rfl hin rfl rfl rfl (Nat.le_of_ble_eq_true rfl) dX4_init_23 (fun H locs hw1 => ?_)
  have hzn := Nat.le_trans hz hw1.2.2.1
  clear hz
  have hz := hzn
  clear hzn
  have hwn := hW3.trans hw1
  clear hW3 hw1
  have hW3 := hwn
  clear hwn
  obtain ⟨J1, c, hJ4, f_0_4, f_1_4, f_2_4, hF4, hW4⟩ : ∃ (J' : List Nat) (c' : CF), (∀ i, i ∈ J' ↔ i ∈ J ∨ (b < i ∧ i ≤ b + 2)) ∧ c' b = .inr (3, [.ref (ad (b + 1)), .ref (ad (b + 2)), .int 0]) ∧ c' (b + 1) = .inl (ct 0, 8, .inl (fun _ => 0)) ∧ c' (b + 2) = .inl (ct 0, 8, .inl (fun _ => 0)) ∧ Fr c0 c' b 3 ∧ HW D J' ad c' (aA J ad s.heap.size) s.heap H locs := ⟨_, _, hJ3, va_up_self _ _ _, (va_up_ne _ _ (by omega)).trans f_1_3, (va_up_ne _ _ (by omega)).trans f_2_3, hF3.up (by omega) (by omega), hW3⟩
  clear f_0_3 f_1_3 f_2_3 hJ3 hF3 hW3
  have hB9 : RwB 8 ct J1 ad c b rw0 := by
    refine ⟨fun k hk => (hJ4 _).mpr ?_, f_0_4, fun k q hk => ?_⟩
    · have hk2 : k ≤ 2 := hk
      rcases Nat.eq_zero_or_pos k with h0 | h0
      · exact Or.inl (by rw [h0]; exact hbJ)
      · exact Or.inr (by omega)
    · have hk2 : k < 2 := (List.getElem?_eq_some_iff.mp hk).1
      rcases (show k = 0 ∨ k = 1 by omega) with rfl | rfl
      · obtain rfl := Option.some.inj (show some ((0 : Nat), (8 : Nat)) = some q from hk)
        exact f_1_4
      · obtain rfl := Option.some.inj (show some ((0 : Nat), (8 : Nat)) = some q from hk)
        exact f_2_4
  exact k_nret hE hr hlk hW4 ⟨hJ4, hB9, hF4⟩ hz dX4_init_26
set_option maxHeartbeats 4000000 in
set_option maxRecDepth 100000 in
theorem nX7_init {l : Launch} {D : va_G} {ct : Nat → ClassId} {J : List Nat} {ad : Nat → Nat} {c0 : CF} {b sz : Nat} (hbJ : b ∈ J) (hnew : ∀ k, 1 ≤ k → k ≤ 5 → b + k ∉ J) (had : ∀ k, 1 ≤ k → k ≤ 5 → ad (b + k) = sz + (k - 1)) (f_0 : c0 b = .inr (6, [.null, .int 0, .null, .null, .null, .null, .int 0, .int 0])) : MN l D ct J ad yX7_init cX7_init 1 { frames := 1, cells := 5, slots := 148, locals := 20 } [.ref (ad b)] c0 sz (fun J' c' => (∀ i, i ∈ J' ↔ i ∈ J ∨ (b < i ∧ i ≤ b + 5)) ∧ TxB ct J' ad c' b tx0 ∧ Fr c0 c' b 6) 5 148 := by
  refine MN_of (own := RX7) (by decide) rfl rfl (Nat.le_of_ble_eq_true rfl) (fun p e s m below meth cd hsz hE hr hlk hin hW ls hl => ?_)
  subst hsz
  have hx := hE.1
  have hb := hE.2.1
  have hA : ∀ q, s.heap.size ≤ q → aA J ad s.heap.size q := fun q h => Or.inr h
  have hz : s.heap.size + 0 ≤ s.heap.size := Nat.le_refl _
  have hl : lv_has ls 1 [(0, .ref (ad b))] := hl
  refine lv_aload_n hx hb dX7_init_0 rfl (lv_at hl 0 rfl) ?_
  refine W.objInit hx hb hE.2.2.2.1 (hE.2.2.2.2.1 _ q168) (hE.2.2.2.2.1 _ q22) (hE.2.2.2.2.1 _ q23) rfl (by rw [hE.2.2.1]; exact hl.1) rfl dX7_init_1 (Nat.le_of_ble_eq_true rfl) (Nat.le_of_ble_eq_true rfl) ?_
  refine W.eq (g2 := F0 m 4 ls []) rfl ?_
  refine lv_aload_n hx hb dX7_init_4 rfl (lv_at hl 0 rfl) ?_
  refine lv_bipush (v := (100 : Int32)) hx hb dX7_init_5 (by decide) ?_
  refine W_sized (fun hup => ?_)
  refine k_newA (z := s.heap.size + 0) (i := (b + 1)) (t := 0) (N := 100) (atype := .int) (x := (100, .inl (fun _ => 0))) hE hW hA rfl rfl q79 (by omega) (had 1 (Nat.le_of_ble_eq_true rfl) (Nat.le_of_ble_eq_true rfl)) (hnew 1 (Nat.le_of_ble_eq_true rfl) (Nat.le_of_ble_eq_true rfl)) (fun _ => rfl) (fun _ => Iff.rfl) (by decide) (by decide) (Nat.le_of_ble_eq_true rfl) (Nat.le_of_ble_eq_true rfl) (Nat.le_of_ble_eq_true rfl) dX7_init_7 (fun H hz2 hWn => ?_)
  have hzn : s.heap.size + 1 ≤ H.size := by omega
  clear hz hz2 hup
  have hz := hzn
  clear hzn
  clear hW
  obtain ⟨J1, c, hJ1, f_0_1, f_1_1, hF1, hW1⟩ : ∃ (J' : List Nat) (c' : CF), (∀ i, i ∈ J' ↔ i ∈ J ∨ (b < i ∧ i ≤ b + 1)) ∧ c' b = .inr (6, [.null, .int 0, .null, .null, .null, .null, .int 0, .int 0]) ∧ c' (b + 1) = .inl (ct 0, 100, .inl (fun _ => 0)) ∧ Fr c0 c' b 6 ∧ HW D J' ad c' (aA J ad s.heap.size) s.heap H [] := ⟨_, _, (fun i => by rw [List.mem_append, List.mem_singleton]; by_cases hm : i ∈ J <;> simp only [hm, true_or, false_or, iff_true, or_true] <;> omega), (va_up_ne _ _ (by omega)).trans f_0, va_up_self _ _ _, Fr.rf.up (by omega) (by omega), hWn⟩
  clear f_0 hWn
  refine k_putF hE hW1.self ((hJ1 _).mpr (Or.inl hbJ)) f_0_1 rfl inX7 tyX7 tyX7_ok nmX7 0 (by decide) q169 rfl hin rfl rfl rfl (Nat.le_of_ble_eq_true rfl) dX7_init_9 (fun H locs hw1 => ?_)
  have hzn := Nat.le_trans hz hw1.2.2.1
  clear hz
  have hz := hzn
  clear hzn
  have hwn := hW1.trans hw1
  clear hW1 hw1
  have hW1 := hwn
  clear hwn
  obtain ⟨J1, c, hJ2, f_0_2, f_1_2, hF2, hW2⟩ : ∃ (J' : List Nat) (c' : CF), (∀ i, i ∈ J' ↔ i ∈ J ∨ (b < i ∧ i ≤ b + 1)) ∧ c' b = .inr (6, [.ref (ad (b + 1)), .int 0, .null, .null, .null, .null, .int 0, .int 0]) ∧ c' (b + 1) = .inl (ct 0, 100, .inl (fun _ => 0)) ∧ Fr c0 c' b 6 ∧ HW D J' ad c' (aA J ad s.heap.size) s.heap H locs := ⟨_, _, hJ1, va_up_self _ _ _, (va_up_ne _ _ (by omega)).trans f_1_1, hF1.up (by omega) (by omega), hW1⟩
  clear f_0_1 f_1_1 hJ1 hF1 hW1
  refine lv_aload_n hx hb dX7_init_12 rfl (lv_at hl 0 rfl) ?_
  refine lv_bipush (v := (12 : Int32)) hx hb dX7_init_13 (by decide) ?_
  refine W_sized (fun hup => ?_)
  refine k_newA (z := s.heap.size + 1) (i := (b + 2)) (t := 0) (N := 12) (atype := .int) (x := (12, .inl (fun _ => 0))) hE hW2 hA rfl rfl q79 (by omega) (had 2 (Nat.le_of_ble_eq_true rfl) (Nat.le_of_ble_eq_true rfl)) (fun hh => by rcases (hJ2 _).mp hh with h1 | h1; exact hnew 2 (Nat.le_of_ble_eq_true rfl) (Nat.le_of_ble_eq_true rfl) h1; omega) (fun _ => rfl) (fun _ => Iff.rfl) (by decide) (by decide) (Nat.le_of_ble_eq_true rfl) (Nat.le_of_ble_eq_true rfl) (Nat.le_of_ble_eq_true rfl) dX7_init_15 (fun H hz2 hWn => ?_)
  have hzn : s.heap.size + 2 ≤ H.size := by omega
  clear hz hz2 hup
  have hz := hzn
  clear hzn
  clear hW2
  obtain ⟨J1, c, hJ3, f_0_3, f_1_3, f_2_3, hF3, hW3⟩ : ∃ (J' : List Nat) (c' : CF), (∀ i, i ∈ J' ↔ i ∈ J ∨ (b < i ∧ i ≤ b + 2)) ∧ c' b = .inr (6, [.ref (ad (b + 1)), .int 0, .null, .null, .null, .null, .int 0, .int 0]) ∧ c' (b + 1) = .inl (ct 0, 100, .inl (fun _ => 0)) ∧ c' (b + 2) = .inl (ct 0, 12, .inl (fun _ => 0)) ∧ Fr c0 c' b 6 ∧ HW D J' ad c' (aA J ad s.heap.size) s.heap H locs := ⟨_, _, (fun i => by rw [List.mem_append, List.mem_singleton, hJ2 i]; by_cases hm : i ∈ J <;> simp only [hm, true_or, false_or, iff_true, or_true] <;> omega), (va_up_ne _ _ (by omega)).trans f_0_2, (va_up_ne _ _ (by omega)).trans f_1_2, va_up_self _ _ _, hF2.up (by omega) (by omega), hWn⟩
  clear f_0_2 f_1_2 hJ2 hF2 hWn
  refine k_putF hE hW3.self ((hJ3 _).mpr (Or.inl hbJ)) f_0_3 rfl inX7 tyX7 tyX7_ok nmX7 2 (by decide) q172 rfl hin rfl rfl rfl (Nat.le_of_ble_eq_true rfl) dX7_init_17 (fun H locs hw1 => ?_)
  have hzn := Nat.le_trans hz hw1.2.2.1
  clear hz
  have hz := hzn
  clear hzn
  have hwn := hW3.trans hw1
  clear hW3 hw1
  have hW3 := hwn
  clear hwn
  obtain ⟨J1, c, hJ4, f_0_4, f_1_4, f_2_4, hF4, hW4⟩ : ∃ (J' : List Nat) (c' : CF), (∀ i, i ∈ J' ↔ i ∈ J ∨ (b < i ∧ i ≤ b + 2)) ∧ c' b = .inr (6, [.ref (ad (b + 1)), .int 0, .ref (ad (b + 2)), .null, .null, .null, .int 0, .int 0]) ∧ c' (b + 1) = .inl (ct 0, 100, .inl (fun _ => 0)) ∧ c' (b + 2) = .inl (ct 0, 12, .inl (fun _ => 0)) ∧ Fr c0 c' b 6 ∧ HW D J' ad c' (aA J ad s.heap.size) s.heap H locs := ⟨_, _, hJ3, va_up_self _ _ _, (va_up_ne _ _ (by omega)).trans f_1_3, (va_up_ne _ _ (by omega)).trans f_2_3, hF3.up (by omega) (by omega), hW3⟩
  clear f_0_3 f_1_3 f_2_3 hJ3 hF3 hW3
  refine lv_aload_n hx hb dX7_init_20 rfl (lv_at hl 0 rfl) ?_
  refine lv_bipush (v := (12 : Int32)) hx hb dX7_init_21 (by decide) ?_
  refine W_sized (fun hup => ?_)
  refine k_newA (z := s.heap.size + 2) (i := (b + 3)) (t := 0) (N := 12) (atype := .int) (x := (12, .inl (fun _ => 0))) hE hW4 hA rfl rfl q79 (by omega) (had 3 (Nat.le_of_ble_eq_true rfl) (Nat.le_of_ble_eq_true rfl)) (fun hh => by rcases (hJ4 _).mp hh with h1 | h1; exact hnew 3 (Nat.le_of_ble_eq_true rfl) (Nat.le_of_ble_eq_true rfl) h1; omega) (fun _ => rfl) (fun _ => Iff.rfl) (by decide) (by decide) (Nat.le_of_ble_eq_true rfl) (Nat.le_of_ble_eq_true rfl) (Nat.le_of_ble_eq_true rfl) dX7_init_23 (fun H hz2 hWn => ?_)
  have hzn : s.heap.size + 3 ≤ H.size := by omega
  clear hz hz2 hup
  have hz := hzn
  clear hzn
  clear hW4
  obtain ⟨J1, c, hJ5, f_0_5, f_1_5, f_2_5, f_3_5, hF5, hW5⟩ : ∃ (J' : List Nat) (c' : CF), (∀ i, i ∈ J' ↔ i ∈ J ∨ (b < i ∧ i ≤ b + 3)) ∧ c' b = .inr (6, [.ref (ad (b + 1)), .int 0, .ref (ad (b + 2)), .null, .null, .null, .int 0, .int 0]) ∧ c' (b + 1) = .inl (ct 0, 100, .inl (fun _ => 0)) ∧ c' (b + 2) = .inl (ct 0, 12, .inl (fun _ => 0)) ∧ c' (b + 3) = .inl (ct 0, 12, .inl (fun _ => 0)) ∧ Fr c0 c' b 6 ∧ HW D J' ad c' (aA J ad s.heap.size) s.heap H locs := ⟨_, _, (fun i => by rw [List.mem_append, List.mem_singleton, hJ4 i]; by_cases hm : i ∈ J <;> simp only [hm, true_or, false_or, iff_true, or_true] <;> omega), (va_up_ne _ _ (by omega)).trans f_0_4, (va_up_ne _ _ (by omega)).trans f_1_4, (va_up_ne _ _ (by omega)).trans f_2_4, va_up_self _ _ _, hF4.up (by omega) (by omega), hWn⟩
  clear f_0_4 f_1_4 f_2_4 hJ4 hF4 hWn
  refine k_putF hE hW5.self ((hJ5 _).mpr (Or.inl hbJ)) f_0_5 rfl inX7 tyX7 tyX7_ok nmX7 3 (by decide) q174 rfl hin rfl rfl rfl (Nat.le_of_ble_eq_true rfl) dX7_init_25 (fun H locs hw1 => ?_)
  have hzn := Nat.le_trans hz hw1.2.2.1
  clear hz
  have hz := hzn
  clear hzn
  have hwn := hW5.trans hw1
  clear hW5 hw1
  have hW5 := hwn
  clear hwn
  obtain ⟨J1, c, hJ6, f_0_6, f_1_6, f_2_6, f_3_6, hF6, hW6⟩ : ∃ (J' : List Nat) (c' : CF), (∀ i, i ∈ J' ↔ i ∈ J ∨ (b < i ∧ i ≤ b + 3)) ∧ c' b = .inr (6, [.ref (ad (b + 1)), .int 0, .ref (ad (b + 2)), .ref (ad (b + 3)), .null, .null, .int 0, .int 0]) ∧ c' (b + 1) = .inl (ct 0, 100, .inl (fun _ => 0)) ∧ c' (b + 2) = .inl (ct 0, 12, .inl (fun _ => 0)) ∧ c' (b + 3) = .inl (ct 0, 12, .inl (fun _ => 0)) ∧ Fr c0 c' b 6 ∧ HW D J' ad c' (aA J ad s.heap.size) s.heap H locs := ⟨_, _, hJ5, va_up_self _ _ _, (va_up_ne _ _ (by omega)).trans f_1_5, (va_up_ne _ _ (by omega)).trans f_2_5, (va_up_ne _ _ (by omega)).trans f_3_5, hF5.up (by omega) (by omega), hW5⟩
  clear f_0_5 f_1_5 f_2_5 f_3_5 hJ5 hF5 hW5
  refine lv_aload_n hx hb dX7_init_28 rfl (lv_at hl 0 rfl) ?_
  refine lv_bipush (v := (12 : Int32)) hx hb dX7_init_29 (by decide) ?_
  refine W_sized (fun hup => ?_)
  refine k_newA (z := s.heap.size + 3) (i := (b + 4)) (t := 0) (N := 12) (atype := .int) (x := (12, .inl (fun _ => 0))) hE hW6 hA rfl rfl q79 (by omega) (had 4 (Nat.le_of_ble_eq_true rfl) (Nat.le_of_ble_eq_true rfl)) (fun hh => by rcases (hJ6 _).mp hh with h1 | h1; exact hnew 4 (Nat.le_of_ble_eq_true rfl) (Nat.le_of_ble_eq_true rfl) h1; omega) (fun _ => rfl) (fun _ => Iff.rfl) (by decide) (by decide) (Nat.le_of_ble_eq_true rfl) (Nat.le_of_ble_eq_true rfl) (Nat.le_of_ble_eq_true rfl) dX7_init_31 (fun H hz2 hWn => ?_)
  have hzn : s.heap.size + 4 ≤ H.size := by omega
  clear hz hz2 hup
  have hz := hzn
  clear hzn
  clear hW6
  obtain ⟨J1, c, hJ7, f_0_7, f_1_7, f_2_7, f_3_7, f_4_7, hF7, hW7⟩ : ∃ (J' : List Nat) (c' : CF), (∀ i, i ∈ J' ↔ i ∈ J ∨ (b < i ∧ i ≤ b + 4)) ∧ c' b = .inr (6, [.ref (ad (b + 1)), .int 0, .ref (ad (b + 2)), .ref (ad (b + 3)), .null, .null, .int 0, .int 0]) ∧ c' (b + 1) = .inl (ct 0, 100, .inl (fun _ => 0)) ∧ c' (b + 2) = .inl (ct 0, 12, .inl (fun _ => 0)) ∧ c' (b + 3) = .inl (ct 0, 12, .inl (fun _ => 0)) ∧ c' (b + 4) = .inl (ct 0, 12, .inl (fun _ => 0)) ∧ Fr c0 c' b 6 ∧ HW D J' ad c' (aA J ad s.heap.size) s.heap H locs := ⟨_, _, (fun i => by rw [List.mem_append, List.mem_singleton, hJ6 i]; by_cases hm : i ∈ J <;> simp only [hm, true_or, false_or, iff_true, or_true] <;> omega), (va_up_ne _ _ (by omega)).trans f_0_6, (va_up_ne _ _ (by omega)).trans f_1_6, (va_up_ne _ _ (by omega)).trans f_2_6, (va_up_ne _ _ (by omega)).trans f_3_6, va_up_self _ _ _, hF6.up (by omega) (by omega), hWn⟩
  clear f_0_6 f_1_6 f_2_6 f_3_6 hJ6 hF6 hWn
  refine k_putF hE hW7.self ((hJ7 _).mpr (Or.inl hbJ)) f_0_7 rfl inX7 tyX7 tyX7_ok nmX7 4 (by decide) q176 rfl hin rfl rfl rfl (Nat.le_of_ble_eq_true rfl) dX7_init_33 (fun H locs hw1 => ?_)
  have hzn := Nat.le_trans hz hw1.2.2.1
  clear hz
  have hz := hzn
  clear hzn
  have hwn := hW7.trans hw1
  clear hW7 hw1
  have hW7 := hwn
  clear hwn
  obtain ⟨J1, c, hJ8, f_0_8, f_1_8, f_2_8, f_3_8, f_4_8, hF8, hW8⟩ : ∃ (J' : List Nat) (c' : CF), (∀ i, i ∈ J' ↔ i ∈ J ∨ (b < i ∧ i ≤ b + 4)) ∧ c' b = .inr (6, [.ref (ad (b + 1)), .int 0, .ref (ad (b + 2)), .ref (ad (b + 3)), .ref (ad (b + 4)), .null, .int 0, .int 0]) ∧ c' (b + 1) = .inl (ct 0, 100, .inl (fun _ => 0)) ∧ c' (b + 2) = .inl (ct 0, 12, .inl (fun _ => 0)) ∧ c' (b + 3) = .inl (ct 0, 12, .inl (fun _ => 0)) ∧ c' (b + 4) = .inl (ct 0, 12, .inl (fun _ => 0)) ∧ Fr c0 c' b 6 ∧ HW D J' ad c' (aA J ad s.heap.size) s.heap H locs := ⟨_, _, hJ7, va_up_self _ _ _, (va_up_ne _ _ (by omega)).trans f_1_7, (va_up_ne _ _ (by omega)).trans f_2_7, (va_up_ne _ _ (by omega)).trans f_3_7, (va_up_ne _ _ (by omega)).trans f_4_7, hF7.up (by omega) (by omega), hW7⟩
  clear f_0_7 f_1_7 f_2_7 f_3_7 f_4_7 hJ7 hF7 hW7
  refine lv_aload_n hx hb dX7_init_36 rfl (lv_at hl 0 rfl) ?_
  refine lv_bipush (v := (12 : Int32)) hx hb dX7_init_37 (by decide) ?_
  refine W_sized (fun hup => ?_)
  refine k_newA (z := s.heap.size + 4) (i := (b + 5)) (t := 0) (N := 12) (atype := .int) (x := (12, .inl (fun _ => 0))) hE hW8 hA rfl rfl q79 (by omega) (had 5 (Nat.le_of_ble_eq_true rfl) (Nat.le_of_ble_eq_true rfl)) (fun hh => by rcases (hJ8 _).mp hh with h1 | h1; exact hnew 5 (Nat.le_of_ble_eq_true rfl) (Nat.le_of_ble_eq_true rfl) h1; omega) (fun _ => rfl) (fun _ => Iff.rfl) (by decide) (by decide) (Nat.le_of_ble_eq_true rfl) (Nat.le_of_ble_eq_true rfl) (Nat.le_of_ble_eq_true rfl) dX7_init_39 (fun H hz2 hWn => ?_)
  have hzn : s.heap.size + 5 ≤ H.size := by omega
  clear hz hz2 hup
  have hz := hzn
  clear hzn
  clear hW8
  obtain ⟨J1, c, hJ9, f_0_9, f_1_9, f_2_9, f_3_9, f_4_9, f_5_9, hF9, hW9⟩ : ∃ (J' : List Nat) (c' : CF), (∀ i, i ∈ J' ↔ i ∈ J ∨ (b < i ∧ i ≤ b + 5)) ∧ c' b = .inr (6, [.ref (ad (b + 1)), .int 0, .ref (ad (b + 2)), .ref (ad (b + 3)), .ref (ad (b + 4)), .null, .int 0, .int 0]) ∧ c' (b + 1) = .inl (ct 0, 100, .inl (fun _ => 0)) ∧ c' (b + 2) = .inl (ct 0, 12, .inl (fun _ => 0)) ∧ c' (b + 3) = .inl (ct 0, 12, .inl (fun _ => 0)) ∧ c' (b + 4) = .inl (ct 0, 12, .inl (fun _ => 0)) ∧ c' (b + 5) = .inl (ct 0, 12, .inl (fun _ => 0)) ∧ Fr c0 c' b 6 ∧ HW D J' ad c' (aA J ad s.heap.size) s.heap H locs := ⟨_, _, (fun i => by rw [List.mem_append, List.mem_singleton, hJ8 i]; by_cases hm : i ∈ J <;> simp only [hm, true_or, false_or, iff_true, or_true] <;> omega), (va_up_ne _ _ (by omega)).trans f_0_8, (va_up_ne _ _ (by omega)).trans f_1_8, (va_up_ne _ _ (by omega)).trans f_2_8, (va_up_ne _ _ (by omega)).trans f_3_8, (va_up_ne _ _ (by omega)).trans f_4_8, va_up_self _ _ _, hF8.up (by omega) (by omega), hWn⟩
  clear f_0_8 f_1_8 f_2_8 f_3_8 f_4_8 hJ8 hF8 hWn
  refine k_putF hE hW9.self ((hJ9 _).mpr (Or.inl hbJ)) f_0_9 rfl inX7 tyX7 tyX7_ok nmX7 5 (by decide) q178 rfl hin rfl rfl rfl (Nat.le_of_ble_eq_true rfl) dX7_init_41 (fun H locs hw1 => ?_)
  have hzn := Nat.le_trans hz hw1.2.2.1
  clear hz
  have hz := hzn
  clear hzn
  have hwn := hW9.trans hw1
  clear hW9 hw1
  have hW9 := hwn
  clear hwn
  obtain ⟨J1, c, hJ10, f_0_10, f_1_10, f_2_10, f_3_10, f_4_10, f_5_10, hF10, hW10⟩ : ∃ (J' : List Nat) (c' : CF), (∀ i, i ∈ J' ↔ i ∈ J ∨ (b < i ∧ i ≤ b + 5)) ∧ c' b = .inr (6, [.ref (ad (b + 1)), .int 0, .ref (ad (b + 2)), .ref (ad (b + 3)), .ref (ad (b + 4)), .ref (ad (b + 5)), .int 0, .int 0]) ∧ c' (b + 1) = .inl (ct 0, 100, .inl (fun _ => 0)) ∧ c' (b + 2) = .inl (ct 0, 12, .inl (fun _ => 0)) ∧ c' (b + 3) = .inl (ct 0, 12, .inl (fun _ => 0)) ∧ c' (b + 4) = .inl (ct 0, 12, .inl (fun _ => 0)) ∧ c' (b + 5) = .inl (ct 0, 12, .inl (fun _ => 0)) ∧ Fr c0 c' b 6 ∧ HW D J' ad c' (aA J ad s.heap.size) s.heap H locs := ⟨_, _, hJ9, va_up_self _ _ _, (va_up_ne _ _ (by omega)).trans f_1_9, (va_up_ne _ _ (by omega)).trans f_2_9, (va_up_ne _ _ (by omega)).trans f_3_9, (va_up_ne _ _ (by omega)).trans f_4_9, (va_up_ne _ _ (by omega)).trans f_5_9, hF9.up (by omega) (by omega), hW9⟩
  clear f_0_9 f_1_9 f_2_9 f_3_9 f_4_9 f_5_9 hJ9 hF9 hW9
  have hB9 : TxB ct J1 ad c b tx0 := by
    refine ⟨fun k hk => (hJ10 _).mpr ?_, f_0_10, fun k q hk => ?_⟩
    · have hk2 : k ≤ 5 := hk
      rcases Nat.eq_zero_or_pos k with h0 | h0
      · exact Or.inl (by rw [h0]; exact hbJ)
      · exact Or.inr (by omega)
    · have hk2 : k < 5 := (List.getElem?_eq_some_iff.mp hk).1
      rcases (show k = 0 ∨ k = 1 ∨ k = 2 ∨ k = 3 ∨ k = 4 by omega) with rfl | rfl | rfl | rfl | rfl
      · obtain rfl := Option.some.inj (show some ((0 : Nat), (100 : Nat)) = some q from hk)
        exact f_1_10
      · obtain rfl := Option.some.inj (show some ((0 : Nat), (12 : Nat)) = some q from hk)
        exact f_2_10
      · obtain rfl := Option.some.inj (show some ((0 : Nat), (12 : Nat)) = some q from hk)
        exact f_3_10
      · obtain rfl := Option.some.inj (show some ((0 : Nat), (12 : Nat)) = some q from hk)
        exact f_4_10
      · obtain rfl := Option.some.inj (show some ((0 : Nat), (12 : Nat)) = some q from hk)
        exact f_5_10
  exact k_nret hE hr hlk hW10 ⟨hJ10, hB9, hF10⟩ hz dX7_init_44
set_option maxHeartbeats 4000000 in
set_option maxRecDepth 100000 in
theorem nX2_init {l : Launch} {D : va_G} {ct : Nat → ClassId} {J : List Nat} {ad : Nat → Nat} {c0 : CF} {b sz : Nat} (hbJ : b ∈ J) (hnew : ∀ k, 1 ≤ k → k ≤ 4 → b + k ∉ J) (had : ∀ k, 1 ≤ k → k ≤ 4 → ad (b + k) = sz + (k - 1)) (f_0 : c0 b = .inr (1, [.null, .null, .null, .null, .int 0])) : MN l D ct J ad yX2_init cX2_init 1 { frames := 1, cells := 4, slots := 240, locals := 20 } [.ref (ad b)] c0 sz (fun J' c' => (∀ i, i ∈ J' ↔ i ∈ J ∨ (b < i ∧ i ≤ b + 4)) ∧ KrB ct J' ad c' b kr0 ∧ Fr c0 c' b 5) 4 240 := by
  refine MN_of (own := RX2) (by decide) rfl rfl (Nat.le_of_ble_eq_true rfl) (fun p e s m below meth cd hsz hE hr hlk hin hW ls hl => ?_)
  subst hsz
  have hx := hE.1
  have hb := hE.2.1
  have hA : ∀ q, s.heap.size ≤ q → aA J ad s.heap.size q := fun q h => Or.inr h
  have hz : s.heap.size + 0 ≤ s.heap.size := Nat.le_refl _
  have hl : lv_has ls 1 [(0, .ref (ad b))] := hl
  refine lv_aload_n hx hb dX2_init_0 rfl (lv_at hl 0 rfl) ?_
  refine W.objInit hx hb hE.2.2.2.1 (hE.2.2.2.2.1 _ q206) (hE.2.2.2.2.1 _ q22) (hE.2.2.2.2.1 _ q23) rfl (by rw [hE.2.2.1]; exact hl.1) rfl dX2_init_1 (Nat.le_of_ble_eq_true rfl) (Nat.le_of_ble_eq_true rfl) ?_
  refine W.eq (g2 := F0 m 4 ls []) rfl ?_
  refine lv_aload_n hx hb dX2_init_4 rfl (lv_at hl 0 rfl) ?_
  refine lv_bipush (v := (60 : Int32)) hx hb dX2_init_5 (by decide) ?_
  refine W_sized (fun hup => ?_)
  refine k_newA (z := s.heap.size + 0) (i := (b + 1)) (t := 0) (N := 60) (atype := .int) (x := (60, .inl (fun _ => 0))) hE hW hA rfl rfl q79 (by omega) (had 1 (Nat.le_of_ble_eq_true rfl) (Nat.le_of_ble_eq_true rfl)) (hnew 1 (Nat.le_of_ble_eq_true rfl) (Nat.le_of_ble_eq_true rfl)) (fun _ => rfl) (fun _ => Iff.rfl) (by decide) (by decide) (Nat.le_of_ble_eq_true rfl) (Nat.le_of_ble_eq_true rfl) (Nat.le_of_ble_eq_true rfl) dX2_init_7 (fun H hz2 hWn => ?_)
  have hzn : s.heap.size + 1 ≤ H.size := by omega
  clear hz hz2 hup
  have hz := hzn
  clear hzn
  clear hW
  obtain ⟨J1, c, hJ1, f_0_1, f_1_1, hF1, hW1⟩ : ∃ (J' : List Nat) (c' : CF), (∀ i, i ∈ J' ↔ i ∈ J ∨ (b < i ∧ i ≤ b + 1)) ∧ c' b = .inr (1, [.null, .null, .null, .null, .int 0]) ∧ c' (b + 1) = .inl (ct 0, 60, .inl (fun _ => 0)) ∧ Fr c0 c' b 5 ∧ HW D J' ad c' (aA J ad s.heap.size) s.heap H [] := ⟨_, _, (fun i => by rw [List.mem_append, List.mem_singleton]; by_cases hm : i ∈ J <;> simp only [hm, true_or, false_or, iff_true, or_true] <;> omega), (va_up_ne _ _ (by omega)).trans f_0, va_up_self _ _ _, Fr.rf.up (by omega) (by omega), hWn⟩
  clear f_0 hWn
  refine k_putF hE hW1.self ((hJ1 _).mpr (Or.inl hbJ)) f_0_1 rfl inX2 tyX2 tyX2_ok nmX2 0 (by decide) q207 rfl hin rfl rfl rfl (Nat.le_of_ble_eq_true rfl) dX2_init_9 (fun H locs hw1 => ?_)
  have hzn := Nat.le_trans hz hw1.2.2.1
  clear hz
  have hz := hzn
  clear hzn
  have hwn := hW1.trans hw1
  clear hW1 hw1
  have hW1 := hwn
  clear hwn
  obtain ⟨J1, c, hJ2, f_0_2, f_1_2, hF2, hW2⟩ : ∃ (J' : List Nat) (c' : CF), (∀ i, i ∈ J' ↔ i ∈ J ∨ (b < i ∧ i ≤ b + 1)) ∧ c' b = .inr (1, [.ref (ad (b + 1)), .null, .null, .null, .int 0]) ∧ c' (b + 1) = .inl (ct 0, 60, .inl (fun _ => 0)) ∧ Fr c0 c' b 5 ∧ HW D J' ad c' (aA J ad s.heap.size) s.heap H locs := ⟨_, _, hJ1, va_up_self _ _ _, (va_up_ne _ _ (by omega)).trans f_1_1, hF1.up (by omega) (by omega), hW1⟩
  clear f_0_1 f_1_1 hJ1 hF1 hW1
  refine lv_aload_n hx hb dX2_init_12 rfl (lv_at hl 0 rfl) ?_
  refine lv_bipush (v := (60 : Int32)) hx hb dX2_init_13 (by decide) ?_
  refine W_sized (fun hup => ?_)
  refine k_newA (z := s.heap.size + 1) (i := (b + 2)) (t := 0) (N := 60) (atype := .int) (x := (60, .inl (fun _ => 0))) hE hW2 hA rfl rfl q79 (by omega) (had 2 (Nat.le_of_ble_eq_true rfl) (Nat.le_of_ble_eq_true rfl)) (fun hh => by rcases (hJ2 _).mp hh with h1 | h1; exact hnew 2 (Nat.le_of_ble_eq_true rfl) (Nat.le_of_ble_eq_true rfl) h1; omega) (fun _ => rfl) (fun _ => Iff.rfl) (by decide) (by decide) (Nat.le_of_ble_eq_true rfl) (Nat.le_of_ble_eq_true rfl) (Nat.le_of_ble_eq_true rfl) dX2_init_15 (fun H hz2 hWn => ?_)
  have hzn : s.heap.size + 2 ≤ H.size := by omega
  clear hz hz2 hup
  have hz := hzn
  clear hzn
  clear hW2
  obtain ⟨J1, c, hJ3, f_0_3, f_1_3, f_2_3, hF3, hW3⟩ : ∃ (J' : List Nat) (c' : CF), (∀ i, i ∈ J' ↔ i ∈ J ∨ (b < i ∧ i ≤ b + 2)) ∧ c' b = .inr (1, [.ref (ad (b + 1)), .null, .null, .null, .int 0]) ∧ c' (b + 1) = .inl (ct 0, 60, .inl (fun _ => 0)) ∧ c' (b + 2) = .inl (ct 0, 60, .inl (fun _ => 0)) ∧ Fr c0 c' b 5 ∧ HW D J' ad c' (aA J ad s.heap.size) s.heap H locs := ⟨_, _, (fun i => by rw [List.mem_append, List.mem_singleton, hJ2 i]; by_cases hm : i ∈ J <;> simp only [hm, true_or, false_or, iff_true, or_true] <;> omega), (va_up_ne _ _ (by omega)).trans f_0_2, (va_up_ne _ _ (by omega)).trans f_1_2, va_up_self _ _ _, hF2.up (by omega) (by omega), hWn⟩
  clear f_0_2 f_1_2 hJ2 hF2 hWn
  refine k_putF hE hW3.self ((hJ3 _).mpr (Or.inl hbJ)) f_0_3 rfl inX2 tyX2 tyX2_ok nmX2 1 (by decide) q208 rfl hin rfl rfl rfl (Nat.le_of_ble_eq_true rfl) dX2_init_17 (fun H locs hw1 => ?_)
  have hzn := Nat.le_trans hz hw1.2.2.1
  clear hz
  have hz := hzn
  clear hzn
  have hwn := hW3.trans hw1
  clear hW3 hw1
  have hW3 := hwn
  clear hwn
  obtain ⟨J1, c, hJ4, f_0_4, f_1_4, f_2_4, hF4, hW4⟩ : ∃ (J' : List Nat) (c' : CF), (∀ i, i ∈ J' ↔ i ∈ J ∨ (b < i ∧ i ≤ b + 2)) ∧ c' b = .inr (1, [.ref (ad (b + 1)), .ref (ad (b + 2)), .null, .null, .int 0]) ∧ c' (b + 1) = .inl (ct 0, 60, .inl (fun _ => 0)) ∧ c' (b + 2) = .inl (ct 0, 60, .inl (fun _ => 0)) ∧ Fr c0 c' b 5 ∧ HW D J' ad c' (aA J ad s.heap.size) s.heap H locs := ⟨_, _, hJ3, va_up_self _ _ _, (va_up_ne _ _ (by omega)).trans f_1_3, (va_up_ne _ _ (by omega)).trans f_2_3, hF3.up (by omega) (by omega), hW3⟩
  clear f_0_3 f_1_3 f_2_3 hJ3 hF3 hW3
  refine lv_aload_n hx hb dX2_init_20 rfl (lv_at hl 0 rfl) ?_
  refine lv_bipush (v := (60 : Int32)) hx hb dX2_init_21 (by decide) ?_
  refine W_sized (fun hup => ?_)
  refine k_newA (z := s.heap.size + 2) (i := (b + 3)) (t := 0) (N := 60) (atype := .int) (x := (60, .inl (fun _ => 0))) hE hW4 hA rfl rfl q79 (by omega) (had 3 (Nat.le_of_ble_eq_true rfl) (Nat.le_of_ble_eq_true rfl)) (fun hh => by rcases (hJ4 _).mp hh with h1 | h1; exact hnew 3 (Nat.le_of_ble_eq_true rfl) (Nat.le_of_ble_eq_true rfl) h1; omega) (fun _ => rfl) (fun _ => Iff.rfl) (by decide) (by decide) (Nat.le_of_ble_eq_true rfl) (Nat.le_of_ble_eq_true rfl) (Nat.le_of_ble_eq_true rfl) dX2_init_23 (fun H hz2 hWn => ?_)
  have hzn : s.heap.size + 3 ≤ H.size := by omega
  clear hz hz2 hup
  have hz := hzn
  clear hzn
  clear hW4
  obtain ⟨J1, c, hJ5, f_0_5, f_1_5, f_2_5, f_3_5, hF5, hW5⟩ : ∃ (J' : List Nat) (c' : CF), (∀ i, i ∈ J' ↔ i ∈ J ∨ (b < i ∧ i ≤ b + 3)) ∧ c' b = .inr (1, [.ref (ad (b + 1)), .ref (ad (b + 2)), .null, .null, .int 0]) ∧ c' (b + 1) = .inl (ct 0, 60, .inl (fun _ => 0)) ∧ c' (b + 2) = .inl (ct 0, 60, .inl (fun _ => 0)) ∧ c' (b + 3) = .inl (ct 0, 60, .inl (fun _ => 0)) ∧ Fr c0 c' b 5 ∧ HW D J' ad c' (aA J ad s.heap.size) s.heap H locs := ⟨_, _, (fun i => by rw [List.mem_append, List.mem_singleton, hJ4 i]; by_cases hm : i ∈ J <;> simp only [hm, true_or, false_or, iff_true, or_true] <;> omega), (va_up_ne _ _ (by omega)).trans f_0_4, (va_up_ne _ _ (by omega)).trans f_1_4, (va_up_ne _ _ (by omega)).trans f_2_4, va_up_self _ _ _, hF4.up (by omega) (by omega), hWn⟩
  clear f_0_4 f_1_4 f_2_4 hJ4 hF4 hWn
  refine k_putF hE hW5.self ((hJ5 _).mpr (Or.inl hbJ)) f_0_5 rfl inX2 tyX2 tyX2_ok nmX2 2 (by decide) q209 rfl hin rfl rfl rfl (Nat.le_of_ble_eq_true rfl) dX2_init_25 (fun H locs hw1 => ?_)
  have hzn := Nat.le_trans hz hw1.2.2.1
  clear hz
  have hz := hzn
  clear hzn
  have hwn := hW5.trans hw1
  clear hW5 hw1
  have hW5 := hwn
  clear hwn
  obtain ⟨J1, c, hJ6, f_0_6, f_1_6, f_2_6, f_3_6, hF6, hW6⟩ : ∃ (J' : List Nat) (c' : CF), (∀ i, i ∈ J' ↔ i ∈ J ∨ (b < i ∧ i ≤ b + 3)) ∧ c' b = .inr (1, [.ref (ad (b + 1)), .ref (ad (b + 2)), .ref (ad (b + 3)), .null, .int 0]) ∧ c' (b + 1) = .inl (ct 0, 60, .inl (fun _ => 0)) ∧ c' (b + 2) = .inl (ct 0, 60, .inl (fun _ => 0)) ∧ c' (b + 3) = .inl (ct 0, 60, .inl (fun _ => 0)) ∧ Fr c0 c' b 5 ∧ HW D J' ad c' (aA J ad s.heap.size) s.heap H locs := ⟨_, _, hJ5, va_up_self _ _ _, (va_up_ne _ _ (by omega)).trans f_1_5, (va_up_ne _ _ (by omega)).trans f_2_5, (va_up_ne _ _ (by omega)).trans f_3_5, hF5.up (by omega) (by omega), hW5⟩
  clear f_0_5 f_1_5 f_2_5 f_3_5 hJ5 hF5 hW5
  refine lv_aload_n hx hb dX2_init_28 rfl (lv_at hl 0 rfl) ?_
  refine lv_bipush (v := (60 : Int32)) hx hb dX2_init_29 (by decide) ?_
  refine W_sized (fun hup => ?_)
  refine k_newA (z := s.heap.size + 3) (i := (b + 4)) (t := 0) (N := 60) (atype := .int) (x := (60, .inl (fun _ => 0))) hE hW6 hA rfl rfl q79 (by omega) (had 4 (Nat.le_of_ble_eq_true rfl) (Nat.le_of_ble_eq_true rfl)) (fun hh => by rcases (hJ6 _).mp hh with h1 | h1; exact hnew 4 (Nat.le_of_ble_eq_true rfl) (Nat.le_of_ble_eq_true rfl) h1; omega) (fun _ => rfl) (fun _ => Iff.rfl) (by decide) (by decide) (Nat.le_of_ble_eq_true rfl) (Nat.le_of_ble_eq_true rfl) (Nat.le_of_ble_eq_true rfl) dX2_init_31 (fun H hz2 hWn => ?_)
  have hzn : s.heap.size + 4 ≤ H.size := by omega
  clear hz hz2 hup
  have hz := hzn
  clear hzn
  clear hW6
  obtain ⟨J1, c, hJ7, f_0_7, f_1_7, f_2_7, f_3_7, f_4_7, hF7, hW7⟩ : ∃ (J' : List Nat) (c' : CF), (∀ i, i ∈ J' ↔ i ∈ J ∨ (b < i ∧ i ≤ b + 4)) ∧ c' b = .inr (1, [.ref (ad (b + 1)), .ref (ad (b + 2)), .ref (ad (b + 3)), .null, .int 0]) ∧ c' (b + 1) = .inl (ct 0, 60, .inl (fun _ => 0)) ∧ c' (b + 2) = .inl (ct 0, 60, .inl (fun _ => 0)) ∧ c' (b + 3) = .inl (ct 0, 60, .inl (fun _ => 0)) ∧ c' (b + 4) = .inl (ct 0, 60, .inl (fun _ => 0)) ∧ Fr c0 c' b 5 ∧ HW D J' ad c' (aA J ad s.heap.size) s.heap H locs := ⟨_, _, (fun i => by rw [List.mem_append, List.mem_singleton, hJ6 i]; by_cases hm : i ∈ J <;> simp only [hm, true_or, false_or, iff_true, or_true] <;> omega), (va_up_ne _ _ (by omega)).trans f_0_6, (va_up_ne _ _ (by omega)).trans f_1_6, (va_up_ne _ _ (by omega)).trans f_2_6, (va_up_ne _ _ (by omega)).trans f_3_6, va_up_self _ _ _, hF6.up (by omega) (by omega), hWn⟩
  clear f_0_6 f_1_6 f_2_6 f_3_6 hJ6 hF6 hWn
  refine k_putF hE hW7.self ((hJ7 _).mpr (Or.inl hbJ)) f_0_7 rfl inX2 tyX2 tyX2_ok nmX2 3 (by decide) q210 rfl hin rfl rfl rfl (Nat.le_of_ble_eq_true rfl) dX2_init_33 (fun H locs hw1 => ?_)
  have hzn := Nat.le_trans hz hw1.2.2.1
  clear hz
  have hz := hzn
  clear hzn
  have hwn := hW7.trans hw1
  clear hW7 hw1
  have hW7 := hwn
  clear hwn
  obtain ⟨J1, c, hJ8, f_0_8, f_1_8, f_2_8, f_3_8, f_4_8, hF8, hW8⟩ : ∃ (J' : List Nat) (c' : CF), (∀ i, i ∈ J' ↔ i ∈ J ∨ (b < i ∧ i ≤ b + 4)) ∧ c' b = .inr (1, [.ref (ad (b + 1)), .ref (ad (b + 2)), .ref (ad (b + 3)), .ref (ad (b + 4)), .int 0]) ∧ c' (b + 1) = .inl (ct 0, 60, .inl (fun _ => 0)) ∧ c' (b + 2) = .inl (ct 0, 60, .inl (fun _ => 0)) ∧ c' (b + 3) = .inl (ct 0, 60, .inl (fun _ => 0)) ∧ c' (b + 4) = .inl (ct 0, 60, .inl (fun _ => 0)) ∧ Fr c0 c' b 5 ∧ HW D J' ad c' (aA J ad s.heap.size) s.heap H locs := ⟨_, _, hJ7, va_up_self _ _ _, (va_up_ne _ _ (by omega)).trans f_1_7, (va_up_ne _ _ (by omega)).trans f_2_7, (va_up_ne _ _ (by omega)).trans f_3_7, (va_up_ne _ _ (by omega)).trans f_4_7, hF7.up (by omega) (by omega), hW7⟩
  clear f_0_7 f_1_7 f_2_7 f_3_7 f_4_7 hJ7 hF7 hW7
  have hB9 : KrB ct J1 ad c b kr0 := by
    refine ⟨fun k hk => (hJ8 _).mpr ?_, f_0_8, fun k q hk => ?_⟩
    · have hk2 : k ≤ 4 := hk
      rcases Nat.eq_zero_or_pos k with h0 | h0
      · exact Or.inl (by rw [h0]; exact hbJ)
      · exact Or.inr (by omega)
    · have hk2 : k < 4 := (List.getElem?_eq_some_iff.mp hk).1
      rcases (show k = 0 ∨ k = 1 ∨ k = 2 ∨ k = 3 by omega) with rfl | rfl | rfl | rfl
      · obtain rfl := Option.some.inj (show some ((0 : Nat), (60 : Nat)) = some q from hk)
        exact f_1_8
      · obtain rfl := Option.some.inj (show some ((0 : Nat), (60 : Nat)) = some q from hk)
        exact f_2_8
      · obtain rfl := Option.some.inj (show some ((0 : Nat), (60 : Nat)) = some q from hk)
        exact f_3_8
      · obtain rfl := Option.some.inj (show some ((0 : Nat), (60 : Nat)) = some q from hk)
        exact f_4_8
  exact k_nret hE hr hlk hW8 ⟨hJ8, hB9, hF8⟩ hz dX2_init_36
set_option maxHeartbeats 4000000 in
set_option maxRecDepth 100000 in
theorem nX6_init {l : Launch} {D : va_G} {ct : Nat → ClassId} {J : List Nat} {ad : Nat → Nat} {c0 : CF} {b sz : Nat} (hbJ : b ∈ J) (hnew : ∀ k, 1 ≤ k → k ≤ 1 → b + k ∉ J) (had : ∀ k, 1 ≤ k → k ≤ 1 → ad (b + k) = sz + (k - 1)) (f_0 : c0 b = .inr (5, [.null, .int 0, .int 0])) : MN l D ct J ad yX6_init cX6_init 1 { frames := 1, cells := 1, slots := 60, locals := 20 } [.ref (ad b)] c0 sz (fun J' c' => (∀ i, i ∈ J' ↔ i ∈ J ∨ (b < i ∧ i ≤ b + 1)) ∧ TpB ct J' ad c' b tp0 ∧ Fr c0 c' b 2) 1 60 := by
  refine MN_of (own := RX6) (by decide) rfl rfl (Nat.le_of_ble_eq_true rfl) (fun p e s m below meth cd hsz hE hr hlk hin hW ls hl => ?_)
  subst hsz
  have hx := hE.1
  have hb := hE.2.1
  have hA : ∀ q, s.heap.size ≤ q → aA J ad s.heap.size q := fun q h => Or.inr h
  have hz : s.heap.size + 0 ≤ s.heap.size := Nat.le_refl _
  have hl : lv_has ls 1 [(0, .ref (ad b))] := hl
  refine lv_aload_n hx hb dX6_init_0 rfl (lv_at hl 0 rfl) ?_
  refine W.objInit hx hb hE.2.2.2.1 (hE.2.2.2.2.1 _ q230) (hE.2.2.2.2.1 _ q22) (hE.2.2.2.2.1 _ q23) rfl (by rw [hE.2.2.1]; exact hl.1) rfl dX6_init_1 (Nat.le_of_ble_eq_true rfl) (Nat.le_of_ble_eq_true rfl) ?_
  refine W.eq (g2 := F0 m 4 ls []) rfl ?_
  refine lv_aload_n hx hb dX6_init_4 rfl (lv_at hl 0 rfl) ?_
  refine lv_bipush (v := (60 : Int32)) hx hb dX6_init_5 (by decide) ?_
  refine W_sized (fun hup => ?_)
  refine k_newA (z := s.heap.size + 0) (i := (b + 1)) (t := 1) (N := 60) (atype := .long) (x := (60, .inr (.inl (fun _ => 0)))) hE hW hA rfl rfl q243 (by omega) (had 1 (Nat.le_of_ble_eq_true rfl) (Nat.le_of_ble_eq_true rfl)) (hnew 1 (Nat.le_of_ble_eq_true rfl) (Nat.le_of_ble_eq_true rfl)) (fun _ => rfl) (fun _ => Iff.rfl) (by decide) (by decide) (Nat.le_of_ble_eq_true rfl) (Nat.le_of_ble_eq_true rfl) (Nat.le_of_ble_eq_true rfl) dX6_init_7 (fun H hz2 hWn => ?_)
  have hzn : s.heap.size + 1 ≤ H.size := by omega
  clear hz hz2 hup
  have hz := hzn
  clear hzn
  clear hW
  obtain ⟨J1, c, hJ1, f_0_1, f_1_1, hF1, hW1⟩ : ∃ (J' : List Nat) (c' : CF), (∀ i, i ∈ J' ↔ i ∈ J ∨ (b < i ∧ i ≤ b + 1)) ∧ c' b = .inr (5, [.null, .int 0, .int 0]) ∧ c' (b + 1) = .inl (ct 1, 60, .inr (.inl (fun _ => 0))) ∧ Fr c0 c' b 2 ∧ HW D J' ad c' (aA J ad s.heap.size) s.heap H [] := ⟨_, _, (fun i => by rw [List.mem_append, List.mem_singleton]; by_cases hm : i ∈ J <;> simp only [hm, true_or, false_or, iff_true, or_true] <;> omega), (va_up_ne _ _ (by omega)).trans f_0, va_up_self _ _ _, Fr.rf.up (by omega) (by omega), hWn⟩
  clear f_0 hWn
  refine k_putF hE hW1.self ((hJ1 _).mpr (Or.inl hbJ)) f_0_1 rfl inX6 tyX6 tyX6_ok nmX6 0 (by decide) q231 rfl hin rfl rfl rfl (Nat.le_of_ble_eq_true rfl) dX6_init_9 (fun H locs hw1 => ?_)
  have hzn := Nat.le_trans hz hw1.2.2.1
  clear hz
  have hz := hzn
  clear hzn
  have hwn := hW1.trans hw1
  clear hW1 hw1
  have hW1 := hwn
  clear hwn
  obtain ⟨J1, c, hJ2, f_0_2, f_1_2, hF2, hW2⟩ : ∃ (J' : List Nat) (c' : CF), (∀ i, i ∈ J' ↔ i ∈ J ∨ (b < i ∧ i ≤ b + 1)) ∧ c' b = .inr (5, [.ref (ad (b + 1)), .int 0, .int 0]) ∧ c' (b + 1) = .inl (ct 1, 60, .inr (.inl (fun _ => 0))) ∧ Fr c0 c' b 2 ∧ HW D J' ad c' (aA J ad s.heap.size) s.heap H locs := ⟨_, _, hJ1, va_up_self _ _ _, (va_up_ne _ _ (by omega)).trans f_1_1, hF1.up (by omega) (by omega), hW1⟩
  clear f_0_1 f_1_1 hJ1 hF1 hW1
  refine lv_aload_n hx hb dX6_init_12 rfl (lv_at hl 0 rfl) ?_
  refine lv_iconst (v := (-1 : Int32)) hx hb dX6_init_13 (by decide) ?_
  refine k_put hE hW2.self ((hJ2 _).mpr (Or.inl hbJ)) f_0_2 rfl inX6 tyX6 tyX6_ok nmX6 1 (by decide) q233 rfl rfl rfl (Nat.le_of_ble_eq_true rfl) dX6_init_14 (fun H locs hw1 => ?_)
  have hzn := Nat.le_trans hz hw1.2.2.1
  clear hz
  have hz := hzn
  clear hzn
  have hwn := hW2.trans hw1
  clear hW2 hw1
  have hW2 := hwn
  clear hwn
  obtain ⟨J1, c, hJ3, f_0_3, f_1_3, hF3, hW3⟩ : ∃ (J' : List Nat) (c' : CF), (∀ i, i ∈ J' ↔ i ∈ J ∨ (b < i ∧ i ≤ b + 1)) ∧ c' b = .inr (5, [.ref (ad (b + 1)), .int (-1 : Int32), .int 0]) ∧ c' (b + 1) = .inl (ct 1, 60, .inr (.inl (fun _ => 0))) ∧ Fr c0 c' b 2 ∧ HW D J' ad c' (aA J ad s.heap.size) s.heap H locs := ⟨_, _, hJ2, va_up_self _ _ _, (va_up_ne _ _ (by omega)).trans f_1_2, hF2.up (by omega) (by omega), hW2⟩
  clear f_0_2 f_1_2 hJ2 hF2 hW2
  have hB9 : TpB ct J1 ad c b tp0 := ⟨⟨(hJ3 _).mpr (Or.inl hbJ), (hJ3 _).mpr (Or.inr (by omega))⟩, f_0_3, f_1_3⟩
  exact k_nret hE hr hlk hW3 ⟨hJ3, hB9, hF3⟩ hz dX6_init_17
set_option maxHeartbeats 4000000 in
set_option maxRecDepth 100000 in
theorem nX5_init {l : Launch} {D : va_G} {ct : Nat → ClassId} {J : List Nat} {ad : Nat → Nat} {c0 : CF} {b sz : Nat} (hbJ : b ∈ J) (hnew : ∀ k, 1 ≤ k → k ≤ 44 → b + k ∉ J) (had : ∀ k, 1 ≤ k → k ≤ 44 → ad (b + k) = sz + (k - 1)) (f_0 : c0 b = .inr (4, [.null, .null, .null, .null, .int 0, .int 0, .int 0, .int 0])) : MN l D ct J ad yX5_init cX5_init 2 { frames := 2, cells := 44, slots := 5011, locals := 41 } [.ref (ad b)] c0 sz (fun J' c' => (∀ i, i ∈ J' ↔ i ∈ J ∨ (b < i ∧ i ≤ b + 44)) ∧ StB ct J' ad c' b st0 ∧ Fr c0 c' b 45) 44 5011 := by
  refine MN_of (own := RX5) (by decide) rfl rfl (Nat.le_of_ble_eq_true rfl) (fun p e s m below meth cd hsz hE hr hlk hin hW ls hl => ?_)
  subst hsz
  have hx := hE.1
  have hb := hE.2.1
  have hA : ∀ q, s.heap.size ≤ q → aA J ad s.heap.size q := fun q h => Or.inr h
  have hz : s.heap.size + 0 ≤ s.heap.size := Nat.le_refl _
  have hl : lv_has ls 2 [(0, .ref (ad b))] := hl
  refine lv_aload_n hx hb dX5_init_0 rfl (lv_at hl 0 rfl) ?_
  refine W.objInit hx hb hE.2.2.2.1 (hE.2.2.2.2.1 _ q29) (hE.2.2.2.2.1 _ q22) (hE.2.2.2.2.1 _ q23) rfl (by rw [hE.2.2.1]; exact hl.1) rfl dX5_init_1 (Nat.le_of_ble_eq_true rfl) (Nat.le_of_ble_eq_true rfl) ?_
  refine W.eq (g2 := F0 m 4 ls []) rfl ?_
  refine lv_aload_n hx hb dX5_init_4 rfl (lv_at hl 0 rfl) ?_
  refine lv_iconst (v := (4 : Int32)) hx hb dX5_init_5 (by decide) ?_
  refine W_sized (fun hup => ?_)
  refine k_newQ (z := s.heap.size + 0) (i := (b + 1)) (t := 3) (N := 4) hE hW hA rfl q30 q31 (by omega) (had 1 (Nat.le_of_ble_eq_true rfl) (Nat.le_of_ble_eq_true rfl)) (hnew 1 (Nat.le_of_ble_eq_true rfl) (Nat.le_of_ble_eq_true rfl)) (by decide) (by decide) (Nat.le_of_ble_eq_true rfl) (Nat.le_of_ble_eq_true rfl) (Nat.le_of_ble_eq_true rfl) dX5_init_6 (fun H hz2 hWn => ?_)
  have hzn : s.heap.size + 1 ≤ H.size := by omega
  clear hz hz2 hup
  have hz := hzn
  clear hzn
  clear hW
  obtain ⟨J1, c, hJ1, f_0_1, f_1_1, hF1, hW1⟩ : ∃ (J' : List Nat) (c' : CF), (∀ i, i ∈ J' ↔ i ∈ J ∨ (b < i ∧ i ≤ b + 1)) ∧ c' b = .inr (4, [.null, .null, .null, .null, .int 0, .int 0, .int 0, .int 0]) ∧ c' (b + 1) = .inl (ct 3, 4, .inr (.inr (.inr (.inr (fun _ => none))))) ∧ Fr c0 c' b 45 ∧ HW D J' ad c' (aA J ad s.heap.size) s.heap H [] := ⟨_, _, (fun i => by rw [List.mem_append, List.mem_singleton]; by_cases hm : i ∈ J <;> simp only [hm, true_or, false_or, iff_true, or_true] <;> omega), (va_up_ne _ _ (by omega)).trans f_0, va_up_self _ _ _, Fr.rf.up (by omega) (by omega), hWn⟩
  clear f_0 hWn
  refine k_putF hE hW1.self ((hJ1 _).mpr (Or.inl hbJ)) f_0_1 rfl inX5 tyX5 tyX5_ok nmX5 0 (by decide) q130 rfl hin rfl rfl rfl (Nat.le_of_ble_eq_true rfl) dX5_init_9 (fun H locs hw1 => ?_)
  have hzn := Nat.le_trans hz hw1.2.2.1
  clear hz
  have hz := hzn
  clear hzn
  have hwn := hW1.trans hw1
  clear hW1 hw1
  have hW1 := hwn
  clear hwn
  obtain ⟨J1, c, hJ2, f_0_2, f_1_2, hF2, hW2⟩ : ∃ (J' : List Nat) (c' : CF), (∀ i, i ∈ J' ↔ i ∈ J ∨ (b < i ∧ i ≤ b + 1)) ∧ c' b = .inr (4, [.ref (ad (b + 1)), .null, .null, .null, .int 0, .int 0, .int 0, .int 0]) ∧ c' (b + 1) = .inl (ct 3, 4, .inr (.inr (.inr (.inr (fun _ => none))))) ∧ Fr c0 c' b 45 ∧ HW D J' ad c' (aA J ad s.heap.size) s.heap H locs := ⟨_, _, hJ1, va_up_self _ _ _, (va_up_ne _ _ (by omega)).trans f_1_1, hF1.up (by omega) (by omega), hW1⟩
  clear f_0_1 f_1_1 hJ1 hF1 hW1
  refine lv_iconst (v := (0 : Int32)) hx hb dX5_init_12 (by decide) ?_
  refine lv_istore_n (lv' := [(1, .int (0 : Int32)), (0, .ref (ad b))]) hx hb dX5_init_13 rfl hl (by decide) rfl (fun ls hl => ?_)
  refine lv_iload_n hx hb dX5_init_14 rfl (lv_at hl 0 rfl) ?_
  refine lv_iconst (v := (4 : Int32)) hx hb dX5_init_15 (by decide) ?_
  refine lv_icmp_ge (tgt := 38) hx hb dX5_init_16 (by decide) (fun kk => ?_) (fun kk => ?_)
  · exact absurd kk (by decide)
  refine lv_aload_n hx hb dX5_init_19 rfl (lv_at hl 1 rfl) ?_
  refine k_get (v := .ref (ad (b + 1))) hE hW2 ((hJ2 _).mpr (Or.inl hbJ)) f_0_2 rfl inX5 0 (by decide) q130 rfl dX5_init_20 ?_
  refine lv_iload_n hx hb dX5_init_23 rfl (lv_at hl 0 rfl) ?_
  refine W_sized (fun hup => ?_)
  refine k_newO (z := s.heap.size + 1) (i := (b + 2)) (ci := 2) (fs := [.null, .null, .null, .null, .null, .null, .null, .int 0, .int 0]) hE hW2 hA (by omega) (had 2 (Nat.le_of_ble_eq_true rfl) (Nat.le_of_ble_eq_true rfl)) (fun hh => by rcases (hJ2 _).mp hh with h1 | h1; exact hnew 2 (Nat.le_of_ble_eq_true rfl) (Nat.le_of_ble_eq_true rfl) h1; omega) rfl inX3 tyX3 tyX3_ok q30 q32 q3 (fun j hj => by rcases (show j = 0 ∨ j = 1 ∨ j = 2 ∨ j = 3 ∨ j = 4 ∨ j = 5 ∨ j = 6 ∨ j = 7 ∨ j = 8 by omega) with rfl | rfl | rfl | rfl | rfl | rfl | rfl | rfl | rfl <;> rfl) (Nat.le_of_ble_eq_true rfl) (Nat.le_of_ble_eq_true rfl) dX5_init_24 (fun H hz2 hWn => ?_)
  have hzn : s.heap.size + 2 ≤ H.size := by omega
  clear hz hz2 hup
  have hz := hzn
  clear hzn
  clear hW2
  obtain ⟨J1, c, hJ3, f_0_3, f_1_3, f_2_3, hF3, hW3⟩ : ∃ (J' : List Nat) (c' : CF), (∀ i, i ∈ J' ↔ i ∈ J ∨ (b < i ∧ i ≤ b + 2)) ∧ c' b = .inr (4, [.ref (ad (b + 1)), .null, .null, .null, .int 0, .int 0, .int 0, .int 0]) ∧ c' (b + 1) = .inl (ct 3, 4, .inr (.inr (.inr (.inr (fun _ => none))))) ∧ c' (b + 2) = .inr (2, [.null, .null, .null, .null, .null, .null, .null, .int 0, .int 0]) ∧ Fr c0 c' b 45 ∧ HW D J' ad c' (aA J ad s.heap.size) s.heap H locs := ⟨_, _, (fun i => by rw [List.mem_append, List.mem_singleton, hJ2 i]; by_cases hm : i ∈ J <;> simp only [hm, true_or, false_or, iff_true, or_true] <;> omega), (va_up_ne _ _ (by omega)).trans f_0_2, (va_up_ne _ _ (by omega)).trans f_1_2, va_up_self _ _ _, hF2.up (by omega) (by omega), hWn⟩
  clear f_0_2 f_1_2 hJ2 hF2 hWn
  refine lv_dup hx hb dX5_init_27 rfl ?_
  refine W_sized (fun hup => ?_)
  have hHz : H.size = s.heap.size + 2 := by omega
  refine k_callIN (rest := [.ref (ad (b + 2)), .int (0 : Int32), .ref (ad (b + 1))]) hE hW3 (hW3.af hA) hl.1 (nX3_init ((hJ3 _).mpr (Or.inr (by omega))) (fun k h1 h2 hh => by rw [Nat.add_assoc] at hh; rcases (hJ3 _).mp hh with h3 | h3; exact hnew (2 + k) (by omega) (by omega) h3; omega) (fun k h1 h2 => by rw [Nat.add_assoc, had (2 + k) (by omega) (by omega)]; omega) f_2_3) q33 q34 rfl q3 q35 hd_X3_init.2 ⟨(Nat.le_of_ble_eq_true rfl), (Nat.le_of_ble_eq_true rfl)⟩ ⟨rfl, rfl⟩ rfl (Nat.le_of_ble_eq_true rfl) dX5_init_28 ⟨(Nat.le_of_ble_eq_true rfl), (Nat.le_of_ble_eq_true rfl)⟩ (fun J2 c1 H locs hP hz2 hWn => ?_)
  have hzn : s.heap.size + 9 ≤ H.size := by omega
  clear hz hz2 hup hHz
  have hz := hzn
  clear hzn
  clear hW3
  obtain ⟨J1, c, hJ4, f_0_4, f_1_4, g_2_4, hF4, hW4⟩ : ∃ (J' : List Nat) (c' : CF), (∀ i, i ∈ J' ↔ i ∈ J ∨ (b < i ∧ i ≤ b + 9)) ∧ c' b = .inr (4, [.ref (ad (b + 1)), .null, .null, .null, .int 0, .int 0, .int 0, .int 0]) ∧ c' (b + 1) = .inl (ct 3, 4, .inr (.inr (.inr (.inr (fun _ => none))))) ∧ LgB ct J' ad c' (b + 2) lg0 ∧ Fr c0 c' b 45 ∧ HW D J' ad c' (aA J ad s.heap.size) s.heap H locs := ⟨_, _, (fun i => by rw [hP.1 i, hJ3 i]; by_cases hm : i ∈ J <;> simp only [hm, true_or, false_or, iff_true, or_true] <;> omega), (hP.2.2 _ (by omega)).trans f_0_3, (hP.2.2 _ (by omega)).trans f_1_3, hP.2.1, hF3.trans (hP.2.2.wide (by omega) (by omega)), hWn⟩
  clear f_0_3 f_1_3 f_2_3 hP hJ3 hF3 hWn
  refine k_aast (t := 3) hE hW4.self ((hJ4 _).mpr (Or.inr (by omega))) f_1_4 g_2_4.o g_2_4.obj rfl rfl (by unfold vp_in; decide) dX5_init_31 (fun H locs hw1 => ?_)
  have hzn := Nat.le_trans hz hw1.2.2.1
  clear hz
  have hz := hzn
  clear hzn
  have hwn := hW4.trans hw1
  clear hW4 hw1
  have hW4 := hwn
  clear hwn
  obtain ⟨J1, c, hJ5, f_0_5, f_1_5, g_2_5, hF5, hW5⟩ : ∃ (J' : List Nat) (c' : CF), (∀ i, i ∈ J' ↔ i ∈ J ∨ (b < i ∧ i ≤ b + 9)) ∧ c' b = .inr (4, [.ref (ad (b + 1)), .null, .null, .null, .int 0, .int 0, .int 0, .int 0]) ∧ c' (b + 1) = .inl (ct 3, 4, .inr (.inr (.inr (.inr (va_up (fun _ => none) (0 : Int32).toNatClampNeg (some (ad (b + 2)))))))) ∧ LgB ct J' ad c' (b + 2) lg0 ∧ Fr c0 c' b 45 ∧ HW D J' ad c' (aA J ad s.heap.size) s.heap H locs := ⟨_, _, hJ4, (va_up_ne _ _ (by omega)).trans f_0_4, va_up_self _ _ _, (g_2_4.fr (Fr.rf.up (b := (b + 1)) (n := 1) (by omega) (by omega)) (by omega)), hF4.up (by omega) (by omega), hW4⟩
  clear f_0_4 f_1_4 g_2_4 hJ4 hF4 hW4
  refine lv_iinc (v := (1 : Int32)) (lv' := [(1, .int (1 : Int32)), (0, .ref (ad b))]) hx hb dX5_init_32 hl (k := 0) rfl (by decide) (by decide) rfl (fun ls hl => ?_)
  refine lv_goto (tgt := 14) hx hb dX5_init_35 (by decide) ?_
  refine lv_iload_n hx hb dX5_init_14 rfl (lv_at hl 0 rfl) ?_
  refine lv_iconst (v := (4 : Int32)) hx hb dX5_init_15 (by decide) ?_
  refine lv_icmp_ge (tgt := 38) hx hb dX5_init_16 (by decide) (fun kk => ?_) (fun kk => ?_)
  · exact absurd kk (by decide)
  refine lv_aload_n hx hb dX5_init_19 rfl (lv_at hl 1 rfl) ?_
  refine k_get (v := .ref (ad (b + 1))) hE hW5 ((hJ5 _).mpr (Or.inl hbJ)) f_0_5 rfl inX5 0 (by decide) q130 rfl dX5_init_20 ?_
  refine lv_iload_n hx hb dX5_init_23 rfl (lv_at hl 0 rfl) ?_
  refine W_sized (fun hup => ?_)
  refine k_newO (z := s.heap.size + 9) (i := (b + 10)) (ci := 2) (fs := [.null, .null, .null, .null, .null, .null, .null, .int 0, .int 0]) hE hW5 hA (by omega) (had 10 (Nat.le_of_ble_eq_true rfl) (Nat.le_of_ble_eq_true rfl)) (fun hh => by rcases (hJ5 _).mp hh with h1 | h1; exact hnew 10 (Nat.le_of_ble_eq_true rfl) (Nat.le_of_ble_eq_true rfl) h1; omega) rfl inX3 tyX3 tyX3_ok q30 q32 q3 (fun j hj => by rcases (show j = 0 ∨ j = 1 ∨ j = 2 ∨ j = 3 ∨ j = 4 ∨ j = 5 ∨ j = 6 ∨ j = 7 ∨ j = 8 by omega) with rfl | rfl | rfl | rfl | rfl | rfl | rfl | rfl | rfl <;> rfl) (Nat.le_of_ble_eq_true rfl) (Nat.le_of_ble_eq_true rfl) dX5_init_24 (fun H hz2 hWn => ?_)
  have hzn : s.heap.size + 10 ≤ H.size := by omega
  clear hz hz2 hup
  have hz := hzn
  clear hzn
  clear hW5
  obtain ⟨J1, c, hJ6, f_0_6, f_1_6, f_10_6, g_2_6, hF6, hW6⟩ : ∃ (J' : List Nat) (c' : CF), (∀ i, i ∈ J' ↔ i ∈ J ∨ (b < i ∧ i ≤ b + 10)) ∧ c' b = .inr (4, [.ref (ad (b + 1)), .null, .null, .null, .int 0, .int 0, .int 0, .int 0]) ∧ c' (b + 1) = .inl (ct 3, 4, .inr (.inr (.inr (.inr (va_up (fun _ => none) (0 : Int32).toNatClampNeg (some (ad (b + 2)))))))) ∧ c' (b + 10) = .inr (2, [.null, .null, .null, .null, .null, .null, .null, .int 0, .int 0]) ∧ LgB ct J' ad c' (b + 2) lg0 ∧ Fr c0 c' b 45 ∧ HW D J' ad c' (aA J ad s.heap.size) s.heap H locs := ⟨_, _, (fun i => by rw [List.mem_append, List.mem_singleton, hJ5 i]; by_cases hm : i ∈ J <;> simp only [hm, true_or, false_or, iff_true, or_true] <;> omega), (va_up_ne _ _ (by omega)).trans f_0_5, (va_up_ne _ _ (by omega)).trans f_1_5, va_up_self _ _ _, ((g_2_5.fr (Fr.rf.up (b := (b + 10)) (n := 1) (by omega) (by omega)) (by omega)).mono (fun i hi => List.mem_append_left _ hi)), hF5.up (by omega) (by omega), hWn⟩
  clear f_0_5 f_1_5 g_2_5 hJ5 hF5 hWn
  refine lv_dup hx hb dX5_init_27 rfl ?_
  refine W_sized (fun hup => ?_)
  have hHz : H.size = s.heap.size + 10 := by omega
  refine k_callIN (rest := [.ref (ad (b + 10)), .int (1 : Int32), .ref (ad (b + 1))]) hE hW6 (hW6.af hA) hl.1 (nX3_init ((hJ6 _).mpr (Or.inr (by omega))) (fun k h1 h2 hh => by rw [Nat.add_assoc] at hh; rcases (hJ6 _).mp hh with h3 | h3; exact hnew (10 + k) (by omega) (by omega) h3; omega) (fun k h1 h2 => by rw [Nat.add_assoc, had (10 + k) (by omega) (by omega)]; omega) f_10_6) q33 q34 rfl q3 q35 hd_X3_init.2 ⟨(Nat.le_of_ble_eq_true rfl), (Nat.le_of_ble_eq_true rfl)⟩ ⟨rfl, rfl⟩ rfl (Nat.le_of_ble_eq_true rfl) dX5_init_28 ⟨(Nat.le_of_ble_eq_true rfl), (Nat.le_of_ble_eq_true rfl)⟩ (fun J2 c1 H locs hP hz2 hWn => ?_)
  have hzn : s.heap.size + 17 ≤ H.size := by omega
  clear hz hz2 hup hHz
  have hz := hzn
  clear hzn
  clear hW6
  obtain ⟨J1, c, hJ7, f_0_7, f_1_7, g_2_7, g_10_7, hF7, hW7⟩ : ∃ (J' : List Nat) (c' : CF), (∀ i, i ∈ J' ↔ i ∈ J ∨ (b < i ∧ i ≤ b + 17)) ∧ c' b = .inr (4, [.ref (ad (b + 1)), .null, .null, .null, .int 0, .int 0, .int 0, .int 0]) ∧ c' (b + 1) = .inl (ct 3, 4, .inr (.inr (.inr (.inr (va_up (fun _ => none) (0 : Int32).toNatClampNeg (some (ad (b + 2)))))))) ∧ LgB ct J' ad c' (b + 2) lg0 ∧ LgB ct J' ad c' (b + 10) lg0 ∧ Fr c0 c' b 45 ∧ HW D J' ad c' (aA J ad s.heap.size) s.heap H locs := ⟨_, _, (fun i => by rw [hP.1 i, hJ6 i]; by_cases hm : i ∈ J <;> simp only [hm, true_or, false_or, iff_true, or_true] <;> omega), (hP.2.2 _ (by omega)).trans f_0_6, (hP.2.2 _ (by omega)).trans f_1_6, ((g_2_6.fr hP.2.2 (by omega)).mono (fun i hi => (hP.1 i).mpr (Or.inl hi))), hP.2.1, hF6.trans (hP.2.2.wide (by omega) (by omega)), hWn⟩
  clear f_0_6 f_1_6 f_10_6 g_2_6 hP hJ6 hF6 hWn
  refine k_aast (t := 3) hE hW7.self ((hJ7 _).mpr (Or.inr (by omega))) f_1_7 g_10_7.o g_10_7.obj rfl rfl (by unfold vp_in; decide) dX5_init_31 (fun H locs hw1 => ?_)
  have hzn := Nat.le_trans hz hw1.2.2.1
  clear hz
  have hz := hzn
  clear hzn
  have hwn := hW7.trans hw1
  clear hW7 hw1
  have hW7 := hwn
  clear hwn
  obtain ⟨J1, c, hJ8, f_0_8, f_1_8, g_2_8, g_10_8, hF8, hW8⟩ : ∃ (J' : List Nat) (c' : CF), (∀ i, i ∈ J' ↔ i ∈ J ∨ (b < i ∧ i ≤ b + 17)) ∧ c' b = .inr (4, [.ref (ad (b + 1)), .null, .null, .null, .int 0, .int 0, .int 0, .int 0]) ∧ c' (b + 1) = .inl (ct 3, 4, .inr (.inr (.inr (.inr (va_up (va_up (fun _ => none) (0 : Int32).toNatClampNeg (some (ad (b + 2)))) (1 : Int32).toNatClampNeg (some (ad (b + 10)))))))) ∧ LgB ct J' ad c' (b + 2) lg0 ∧ LgB ct J' ad c' (b + 10) lg0 ∧ Fr c0 c' b 45 ∧ HW D J' ad c' (aA J ad s.heap.size) s.heap H locs := ⟨_, _, hJ7, (va_up_ne _ _ (by omega)).trans f_0_7, va_up_self _ _ _, (g_2_7.fr (Fr.rf.up (b := (b + 1)) (n := 1) (by omega) (by omega)) (by omega)), (g_10_7.fr (Fr.rf.up (b := (b + 1)) (n := 1) (by omega) (by omega)) (by omega)), hF7.up (by omega) (by omega), hW7⟩
  clear f_0_7 f_1_7 g_2_7 g_10_7 hJ7 hF7 hW7
  refine lv_iinc (v := (2 : Int32)) (lv' := [(1, .int (2 : Int32)), (0, .ref (ad b))]) hx hb dX5_init_32 hl (k := 0) rfl (by decide) (by decide) rfl (fun ls hl => ?_)
  refine lv_goto (tgt := 14) hx hb dX5_init_35 (by decide) ?_
  refine lv_iload_n hx hb dX5_init_14 rfl (lv_at hl 0 rfl) ?_
  refine lv_iconst (v := (4 : Int32)) hx hb dX5_init_15 (by decide) ?_
  refine lv_icmp_ge (tgt := 38) hx hb dX5_init_16 (by decide) (fun kk => ?_) (fun kk => ?_)
  · exact absurd kk (by decide)
  refine lv_aload_n hx hb dX5_init_19 rfl (lv_at hl 1 rfl) ?_
  refine k_get (v := .ref (ad (b + 1))) hE hW8 ((hJ8 _).mpr (Or.inl hbJ)) f_0_8 rfl inX5 0 (by decide) q130 rfl dX5_init_20 ?_
  refine lv_iload_n hx hb dX5_init_23 rfl (lv_at hl 0 rfl) ?_
  refine W_sized (fun hup => ?_)
  refine k_newO (z := s.heap.size + 17) (i := (b + 18)) (ci := 2) (fs := [.null, .null, .null, .null, .null, .null, .null, .int 0, .int 0]) hE hW8 hA (by omega) (had 18 (Nat.le_of_ble_eq_true rfl) (Nat.le_of_ble_eq_true rfl)) (fun hh => by rcases (hJ8 _).mp hh with h1 | h1; exact hnew 18 (Nat.le_of_ble_eq_true rfl) (Nat.le_of_ble_eq_true rfl) h1; omega) rfl inX3 tyX3 tyX3_ok q30 q32 q3 (fun j hj => by rcases (show j = 0 ∨ j = 1 ∨ j = 2 ∨ j = 3 ∨ j = 4 ∨ j = 5 ∨ j = 6 ∨ j = 7 ∨ j = 8 by omega) with rfl | rfl | rfl | rfl | rfl | rfl | rfl | rfl | rfl <;> rfl) (Nat.le_of_ble_eq_true rfl) (Nat.le_of_ble_eq_true rfl) dX5_init_24 (fun H hz2 hWn => ?_)
  have hzn : s.heap.size + 18 ≤ H.size := by omega
  clear hz hz2 hup
  have hz := hzn
  clear hzn
  clear hW8
  obtain ⟨J1, c, hJ9, f_0_9, f_1_9, f_18_9, g_2_9, g_10_9, hF9, hW9⟩ : ∃ (J' : List Nat) (c' : CF), (∀ i, i ∈ J' ↔ i ∈ J ∨ (b < i ∧ i ≤ b + 18)) ∧ c' b = .inr (4, [.ref (ad (b + 1)), .null, .null, .null, .int 0, .int 0, .int 0, .int 0]) ∧ c' (b + 1) = .inl (ct 3, 4, .inr (.inr (.inr (.inr (va_up (va_up (fun _ => none) (0 : Int32).toNatClampNeg (some (ad (b + 2)))) (1 : Int32).toNatClampNeg (some (ad (b + 10)))))))) ∧ c' (b + 18) = .inr (2, [.null, .null, .null, .null, .null, .null, .null, .int 0, .int 0]) ∧ LgB ct J' ad c' (b + 2) lg0 ∧ LgB ct J' ad c' (b + 10) lg0 ∧ Fr c0 c' b 45 ∧ HW D J' ad c' (aA J ad s.heap.size) s.heap H locs := ⟨_, _, (fun i => by rw [List.mem_append, List.mem_singleton, hJ8 i]; by_cases hm : i ∈ J <;> simp only [hm, true_or, false_or, iff_true, or_true] <;> omega), (va_up_ne _ _ (by omega)).trans f_0_8, (va_up_ne _ _ (by omega)).trans f_1_8, va_up_self _ _ _, ((g_2_8.fr (Fr.rf.up (b := (b + 18)) (n := 1) (by omega) (by omega)) (by omega)).mono (fun i hi => List.mem_append_left _ hi)), ((g_10_8.fr (Fr.rf.up (b := (b + 18)) (n := 1) (by omega) (by omega)) (by omega)).mono (fun i hi => List.mem_append_left _ hi)), hF8.up (by omega) (by omega), hWn⟩
  clear f_0_8 f_1_8 g_2_8 g_10_8 hJ8 hF8 hWn
  refine lv_dup hx hb dX5_init_27 rfl ?_
  refine W_sized (fun hup => ?_)
  have hHz : H.size = s.heap.size + 18 := by omega
  refine k_callIN (rest := [.ref (ad (b + 18)), .int (2 : Int32), .ref (ad (b + 1))]) hE hW9 (hW9.af hA) hl.1 (nX3_init ((hJ9 _).mpr (Or.inr (by omega))) (fun k h1 h2 hh => by rw [Nat.add_assoc] at hh; rcases (hJ9 _).mp hh with h3 | h3; exact hnew (18 + k) (by omega) (by omega) h3; omega) (fun k h1 h2 => by rw [Nat.add_assoc, had (18 + k) (by omega) (by omega)]; omega) f_18_9) q33 q34 rfl q3 q35 hd_X3_init.2 ⟨(Nat.le_of_ble_eq_true rfl), (Nat.le_of_ble_eq_true rfl)⟩ ⟨rfl, rfl⟩ rfl (Nat.le_of_ble_eq_true rfl) dX5_init_28 ⟨(Nat.le_of_ble_eq_true rfl), (Nat.le_of_ble_eq_true rfl)⟩ (fun J2 c1 H locs hP hz2 hWn => ?_)
  have hzn : s.heap.size + 25 ≤ H.size := by omega
  clear hz hz2 hup hHz
  have hz := hzn
  clear hzn
  clear hW9
  obtain ⟨J1, c, hJ10, f_0_10, f_1_10, g_2_10, g_10_10, g_18_10, hF10, hW10⟩ : ∃ (J' : List Nat) (c' : CF), (∀ i, i ∈ J' ↔ i ∈ J ∨ (b < i ∧ i ≤ b + 25)) ∧ c' b = .inr (4, [.ref (ad (b + 1)), .null, .null, .null, .int 0, .int 0, .int 0, .int 0]) ∧ c' (b + 1) = .inl (ct 3, 4, .inr (.inr (.inr (.inr (va_up (va_up (fun _ => none) (0 : Int32).toNatClampNeg (some (ad (b + 2)))) (1 : Int32).toNatClampNeg (some (ad (b + 10)))))))) ∧ LgB ct J' ad c' (b + 2) lg0 ∧ LgB ct J' ad c' (b + 10) lg0 ∧ LgB ct J' ad c' (b + 18) lg0 ∧ Fr c0 c' b 45 ∧ HW D J' ad c' (aA J ad s.heap.size) s.heap H locs := ⟨_, _, (fun i => by rw [hP.1 i, hJ9 i]; by_cases hm : i ∈ J <;> simp only [hm, true_or, false_or, iff_true, or_true] <;> omega), (hP.2.2 _ (by omega)).trans f_0_9, (hP.2.2 _ (by omega)).trans f_1_9, ((g_2_9.fr hP.2.2 (by omega)).mono (fun i hi => (hP.1 i).mpr (Or.inl hi))), ((g_10_9.fr hP.2.2 (by omega)).mono (fun i hi => (hP.1 i).mpr (Or.inl hi))), hP.2.1, hF9.trans (hP.2.2.wide (by omega) (by omega)), hWn⟩
  clear f_0_9 f_1_9 f_18_9 g_2_9 g_10_9 hP hJ9 hF9 hWn
  refine k_aast (t := 3) hE hW10.self ((hJ10 _).mpr (Or.inr (by omega))) f_1_10 g_18_10.o g_18_10.obj rfl rfl (by unfold vp_in; decide) dX5_init_31 (fun H locs hw1 => ?_)
  have hzn := Nat.le_trans hz hw1.2.2.1
  clear hz
  have hz := hzn
  clear hzn
  have hwn := hW10.trans hw1
  clear hW10 hw1
  have hW10 := hwn
  clear hwn
  obtain ⟨J1, c, hJ11, f_0_11, f_1_11, g_2_11, g_10_11, g_18_11, hF11, hW11⟩ : ∃ (J' : List Nat) (c' : CF), (∀ i, i ∈ J' ↔ i ∈ J ∨ (b < i ∧ i ≤ b + 25)) ∧ c' b = .inr (4, [.ref (ad (b + 1)), .null, .null, .null, .int 0, .int 0, .int 0, .int 0]) ∧ c' (b + 1) = .inl (ct 3, 4, .inr (.inr (.inr (.inr (va_up (va_up (va_up (fun _ => none) (0 : Int32).toNatClampNeg (some (ad (b + 2)))) (1 : Int32).toNatClampNeg (some (ad (b + 10)))) (2 : Int32).toNatClampNeg (some (ad (b + 18)))))))) ∧ LgB ct J' ad c' (b + 2) lg0 ∧ LgB ct J' ad c' (b + 10) lg0 ∧ LgB ct J' ad c' (b + 18) lg0 ∧ Fr c0 c' b 45 ∧ HW D J' ad c' (aA J ad s.heap.size) s.heap H locs := ⟨_, _, hJ10, (va_up_ne _ _ (by omega)).trans f_0_10, va_up_self _ _ _, (g_2_10.fr (Fr.rf.up (b := (b + 1)) (n := 1) (by omega) (by omega)) (by omega)), (g_10_10.fr (Fr.rf.up (b := (b + 1)) (n := 1) (by omega) (by omega)) (by omega)), (g_18_10.fr (Fr.rf.up (b := (b + 1)) (n := 1) (by omega) (by omega)) (by omega)), hF10.up (by omega) (by omega), hW10⟩
  clear f_0_10 f_1_10 g_2_10 g_10_10 g_18_10 hJ10 hF10 hW10
  refine lv_iinc (v := (3 : Int32)) (lv' := [(1, .int (3 : Int32)), (0, .ref (ad b))]) hx hb dX5_init_32 hl (k := 0) rfl (by decide) (by decide) rfl (fun ls hl => ?_)
  refine lv_goto (tgt := 14) hx hb dX5_init_35 (by decide) ?_
  refine lv_iload_n hx hb dX5_init_14 rfl (lv_at hl 0 rfl) ?_
  refine lv_iconst (v := (4 : Int32)) hx hb dX5_init_15 (by decide) ?_
  refine lv_icmp_ge (tgt := 38) hx hb dX5_init_16 (by decide) (fun kk => ?_) (fun kk => ?_)
  · exact absurd kk (by decide)
  refine lv_aload_n hx hb dX5_init_19 rfl (lv_at hl 1 rfl) ?_
  refine k_get (v := .ref (ad (b + 1))) hE hW11 ((hJ11 _).mpr (Or.inl hbJ)) f_0_11 rfl inX5 0 (by decide) q130 rfl dX5_init_20 ?_
  refine lv_iload_n hx hb dX5_init_23 rfl (lv_at hl 0 rfl) ?_
  refine W_sized (fun hup => ?_)
  refine k_newO (z := s.heap.size + 25) (i := (b + 26)) (ci := 2) (fs := [.null, .null, .null, .null, .null, .null, .null, .int 0, .int 0]) hE hW11 hA (by omega) (had 26 (Nat.le_of_ble_eq_true rfl) (Nat.le_of_ble_eq_true rfl)) (fun hh => by rcases (hJ11 _).mp hh with h1 | h1; exact hnew 26 (Nat.le_of_ble_eq_true rfl) (Nat.le_of_ble_eq_true rfl) h1; omega) rfl inX3 tyX3 tyX3_ok q30 q32 q3 (fun j hj => by rcases (show j = 0 ∨ j = 1 ∨ j = 2 ∨ j = 3 ∨ j = 4 ∨ j = 5 ∨ j = 6 ∨ j = 7 ∨ j = 8 by omega) with rfl | rfl | rfl | rfl | rfl | rfl | rfl | rfl | rfl <;> rfl) (Nat.le_of_ble_eq_true rfl) (Nat.le_of_ble_eq_true rfl) dX5_init_24 (fun H hz2 hWn => ?_)
  have hzn : s.heap.size + 26 ≤ H.size := by omega
  clear hz hz2 hup
  have hz := hzn
  clear hzn
  clear hW11
  obtain ⟨J1, c, hJ12, f_0_12, f_1_12, f_26_12, g_2_12, g_10_12, g_18_12, hF12, hW12⟩ : ∃ (J' : List Nat) (c' : CF), (∀ i, i ∈ J' ↔ i ∈ J ∨ (b < i ∧ i ≤ b + 26)) ∧ c' b = .inr (4, [.ref (ad (b + 1)), .null, .null, .null, .int 0, .int 0, .int 0, .int 0]) ∧ c' (b + 1) = .inl (ct 3, 4, .inr (.inr (.inr (.inr (va_up (va_up (va_up (fun _ => none) (0 : Int32).toNatClampNeg (some (ad (b + 2)))) (1 : Int32).toNatClampNeg (some (ad (b + 10)))) (2 : Int32).toNatClampNeg (some (ad (b + 18)))))))) ∧ c' (b + 26) = .inr (2, [.null, .null, .null, .null, .null, .null, .null, .int 0, .int 0]) ∧ LgB ct J' ad c' (b + 2) lg0 ∧ LgB ct J' ad c' (b + 10) lg0 ∧ LgB ct J' ad c' (b + 18) lg0 ∧ Fr c0 c' b 45 ∧ HW D J' ad c' (aA J ad s.heap.size) s.heap H locs := ⟨_, _, (fun i => by rw [List.mem_append, List.mem_singleton, hJ11 i]; by_cases hm : i ∈ J <;> simp only [hm, true_or, false_or, iff_true, or_true] <;> omega), (va_up_ne _ _ (by omega)).trans f_0_11, (va_up_ne _ _ (by omega)).trans f_1_11, va_up_self _ _ _, ((g_2_11.fr (Fr.rf.up (b := (b + 26)) (n := 1) (by omega) (by omega)) (by omega)).mono (fun i hi => List.mem_append_left _ hi)), ((g_10_11.fr (Fr.rf.up (b := (b + 26)) (n := 1) (by omega) (by omega)) (by omega)).mono (fun i hi => List.mem_append_left _ hi)), ((g_18_11.fr (Fr.rf.up (b := (b + 26)) (n := 1) (by omega) (by omega)) (by omega)).mono (fun i hi => List.mem_append_left _ hi)), hF11.up (by omega) (by omega), hWn⟩
  clear f_0_11 f_1_11 g_2_11 g_10_11 g_18_11 hJ11 hF11 hWn
  refine lv_dup hx hb dX5_init_27 rfl ?_
  refine W_sized (fun hup => ?_)
  have hHz : H.size = s.heap.size + 26 := by omega
  refine k_callIN (rest := [.ref (ad (b + 26)), .int (3 : Int32), .ref (ad (b + 1))]) hE hW12 (hW12.af hA) hl.1 (nX3_init ((hJ12 _).mpr (Or.inr (by omega))) (fun k h1 h2 hh => by rw [Nat.add_assoc] at hh; rcases (hJ12 _).mp hh with h3 | h3; exact hnew (26 + k) (by omega) (by omega) h3; omega) (fun k h1 h2 => by rw [Nat.add_assoc, had (26 + k) (by omega) (by omega)]; omega) f_26_12) q33 q34 rfl q3 q35 hd_X3_init.2 ⟨(Nat.le_of_ble_eq_true rfl), (Nat.le_of_ble_eq_true rfl)⟩ ⟨rfl, rfl⟩ rfl (Nat.le_of_ble_eq_true rfl) dX5_init_28 ⟨(Nat.le_of_ble_eq_true rfl), (Nat.le_of_ble_eq_true rfl)⟩ (fun J2 c1 H locs hP hz2 hWn => ?_)
  have hzn : s.heap.size + 33 ≤ H.size := by omega
  clear hz hz2 hup hHz
  have hz := hzn
  clear hzn
  clear hW12
  obtain ⟨J1, c, hJ13, f_0_13, f_1_13, g_2_13, g_10_13, g_18_13, g_26_13, hF13, hW13⟩ : ∃ (J' : List Nat) (c' : CF), (∀ i, i ∈ J' ↔ i ∈ J ∨ (b < i ∧ i ≤ b + 33)) ∧ c' b = .inr (4, [.ref (ad (b + 1)), .null, .null, .null, .int 0, .int 0, .int 0, .int 0]) ∧ c' (b + 1) = .inl (ct 3, 4, .inr (.inr (.inr (.inr (va_up (va_up (va_up (fun _ => none) (0 : Int32).toNatClampNeg (some (ad (b + 2)))) (1 : Int32).toNatClampNeg (some (ad (b + 10)))) (2 : Int32).toNatClampNeg (some (ad (b + 18)))))))) ∧ LgB ct J' ad c' (b + 2) lg0 ∧ LgB ct J' ad c' (b + 10) lg0 ∧ LgB ct J' ad c' (b + 18) lg0 ∧ LgB ct J' ad c' (b + 26) lg0 ∧ Fr c0 c' b 45 ∧ HW D J' ad c' (aA J ad s.heap.size) s.heap H locs := ⟨_, _, (fun i => by rw [hP.1 i, hJ12 i]; by_cases hm : i ∈ J <;> simp only [hm, true_or, false_or, iff_true, or_true] <;> omega), (hP.2.2 _ (by omega)).trans f_0_12, (hP.2.2 _ (by omega)).trans f_1_12, ((g_2_12.fr hP.2.2 (by omega)).mono (fun i hi => (hP.1 i).mpr (Or.inl hi))), ((g_10_12.fr hP.2.2 (by omega)).mono (fun i hi => (hP.1 i).mpr (Or.inl hi))), ((g_18_12.fr hP.2.2 (by omega)).mono (fun i hi => (hP.1 i).mpr (Or.inl hi))), hP.2.1, hF12.trans (hP.2.2.wide (by omega) (by omega)), hWn⟩
  clear f_0_12 f_1_12 f_26_12 g_2_12 g_10_12 g_18_12 hP hJ12 hF12 hWn
  refine k_aast (t := 3) hE hW13.self ((hJ13 _).mpr (Or.inr (by omega))) f_1_13 g_26_13.o g_26_13.obj rfl rfl (by unfold vp_in; decide) dX5_init_31 (fun H locs hw1 => ?_)
  have hzn := Nat.le_trans hz hw1.2.2.1
  clear hz
  have hz := hzn
  clear hzn
  have hwn := hW13.trans hw1
  clear hW13 hw1
  have hW13 := hwn
  clear hwn
  obtain ⟨J1, c, hJ14, f_0_14, f_1_14, g_2_14, g_10_14, g_18_14, g_26_14, hF14, hW14⟩ : ∃ (J' : List Nat) (c' : CF), (∀ i, i ∈ J' ↔ i ∈ J ∨ (b < i ∧ i ≤ b + 33)) ∧ c' b = .inr (4, [.ref (ad (b + 1)), .null, .null, .null, .int 0, .int 0, .int 0, .int 0]) ∧ c' (b + 1) = .inl (ct 3, 4, .inr (.inr (.inr (.inr (va_up (va_up (va_up (va_up (fun _ => none) (0 : Int32).toNatClampNeg (some (ad (b + 2)))) (1 : Int32).toNatClampNeg (some (ad (b + 10)))) (2 : Int32).toNatClampNeg (some (ad (b + 18)))) (3 : Int32).toNatClampNeg (some (ad (b + 26)))))))) ∧ LgB ct J' ad c' (b + 2) lg0 ∧ LgB ct J' ad c' (b + 10) lg0 ∧ LgB ct J' ad c' (b + 18) lg0 ∧ LgB ct J' ad c' (b + 26) lg0 ∧ Fr c0 c' b 45 ∧ HW D J' ad c' (aA J ad s.heap.size) s.heap H locs := ⟨_, _, hJ13, (va_up_ne _ _ (by omega)).trans f_0_13, va_up_self _ _ _, (g_2_13.fr (Fr.rf.up (b := (b + 1)) (n := 1) (by omega) (by omega)) (by omega)), (g_10_13.fr (Fr.rf.up (b := (b + 1)) (n := 1) (by omega) (by omega)) (by omega)), (g_18_13.fr (Fr.rf.up (b := (b + 1)) (n := 1) (by omega) (by omega)) (by omega)), (g_26_13.fr (Fr.rf.up (b := (b + 1)) (n := 1) (by omega) (by omega)) (by omega)), hF13.up (by omega) (by omega), hW13⟩
  clear f_0_13 f_1_13 g_2_13 g_10_13 g_18_13 g_26_13 hJ13 hF13 hW13
  refine lv_iinc (v := (4 : Int32)) (lv' := [(1, .int (4 : Int32)), (0, .ref (ad b))]) hx hb dX5_init_32 hl (k := 0) rfl (by decide) (by decide) rfl (fun ls hl => ?_)
  refine lv_goto (tgt := 14) hx hb dX5_init_35 (by decide) ?_
  refine lv_iload_n hx hb dX5_init_14 rfl (lv_at hl 0 rfl) ?_
  refine lv_iconst (v := (4 : Int32)) hx hb dX5_init_15 (by decide) ?_
  refine lv_icmp_ge (tgt := 38) hx hb dX5_init_16 (by decide) (fun kk => ?_) (fun kk => ?_)
  rotate_left
  · exact absurd (show (4 : Int32) ≤ (4 : Int32) by decide) kk
  refine lv_aload_n hx hb dX5_init_38 rfl (lv_at hl 1 rfl) ?_
  refine W_sized (fun hup => ?_)
  refine k_newO (z := s.heap.size + 33) (i := (b + 34)) (ci := 0) (fs := [.null, .null, .null, .null, .int 0]) hE hW14 hA (by omega) (had 34 (Nat.le_of_ble_eq_true rfl) (Nat.le_of_ble_eq_true rfl)) (fun hh => by rcases (hJ14 _).mp hh with h1 | h1; exact hnew 34 (Nat.le_of_ble_eq_true rfl) (Nat.le_of_ble_eq_true rfl) h1; omega) rfl inX1 tyX1 tyX1_ok q80 q81 q4 (fun j hj => by rcases (show j = 0 ∨ j = 1 ∨ j = 2 ∨ j = 3 ∨ j = 4 by omega) with rfl | rfl | rfl | rfl | rfl <;> rfl) (Nat.le_of_ble_eq_true rfl) (Nat.le_of_ble_eq_true rfl) dX5_init_39 (fun H hz2 hWn => ?_)
  have hzn : s.heap.size + 34 ≤ H.size := by omega
  clear hz hz2 hup
  have hz := hzn
  clear hzn
  clear hW14
  obtain ⟨J1, c, hJ15, f_0_15, f_1_15, f_34_15, g_2_15, g_10_15, g_18_15, g_26_15, hF15, hW15⟩ : ∃ (J' : List Nat) (c' : CF), (∀ i, i ∈ J' ↔ i ∈ J ∨ (b < i ∧ i ≤ b + 34)) ∧ c' b = .inr (4, [.ref (ad (b + 1)), .null, .null, .null, .int 0, .int 0, .int 0, .int 0]) ∧ c' (b + 1) = .inl (ct 3, 4, .inr (.inr (.inr (.inr (va_up (va_up (va_up (va_up (fun _ => none) (0 : Int32).toNatClampNeg (some (ad (b + 2)))) (1 : Int32).toNatClampNeg (some (ad (b + 10)))) (2 : Int32).toNatClampNeg (some (ad (b + 18)))) (3 : Int32).toNatClampNeg (some (ad (b + 26)))))))) ∧ c' (b + 34) = .inr (0, [.null, .null, .null, .null, .int 0]) ∧ LgB ct J' ad c' (b + 2) lg0 ∧ LgB ct J' ad c' (b + 10) lg0 ∧ LgB ct J' ad c' (b + 18) lg0 ∧ LgB ct J' ad c' (b + 26) lg0 ∧ Fr c0 c' b 45 ∧ HW D J' ad c' (aA J ad s.heap.size) s.heap H locs := ⟨_, _, (fun i => by rw [List.mem_append, List.mem_singleton, hJ14 i]; by_cases hm : i ∈ J <;> simp only [hm, true_or, false_or, iff_true, or_true] <;> omega), (va_up_ne _ _ (by omega)).trans f_0_14, (va_up_ne _ _ (by omega)).trans f_1_14, va_up_self _ _ _, ((g_2_14.fr (Fr.rf.up (b := (b + 34)) (n := 1) (by omega) (by omega)) (by omega)).mono (fun i hi => List.mem_append_left _ hi)), ((g_10_14.fr (Fr.rf.up (b := (b + 34)) (n := 1) (by omega) (by omega)) (by omega)).mono (fun i hi => List.mem_append_left _ hi)), ((g_18_14.fr (Fr.rf.up (b := (b + 34)) (n := 1) (by omega) (by omega)) (by omega)).mono (fun i hi => List.mem_append_left _ hi)), ((g_26_14.fr (Fr.rf.up (b := (b + 34)) (n := 1) (by omega) (by omega)) (by omega)).mono (fun i hi => List.mem_append_left _ hi)), hF14.up (by omega) (by omega), hWn⟩
  clear f_0_14 f_1_14 g_2_14 g_10_14 g_18_14 g_26_14 hJ14 hF14 hWn
  refine lv_dup hx hb dX5_init_42 rfl ?_
  refine W_sized (fun hup => ?_)
  have hHz : H.size = s.heap.size + 34 := by omega
  refine k_callIN (rest := [.ref (ad (b + 34)), .ref (ad b)]) hE hW15 (hW15.af hA) hl.1 (nX1_init ((hJ15 _).mpr (Or.inr (by omega))) (fun k h1 h2 hh => by rw [Nat.add_assoc] at hh; rcases (hJ15 _).mp hh with h3 | h3; exact hnew (34 + k) (by omega) (by omega) h3; omega) (fun k h1 h2 => by rw [Nat.add_assoc, had (34 + k) (by omega) (by omega)]; omega) f_34_15) q82 q83 rfl q4 q84 hd_X1_init.2 ⟨(Nat.le_of_ble_eq_true rfl), (Nat.le_of_ble_eq_true rfl)⟩ ⟨rfl, rfl⟩ rfl (Nat.le_of_ble_eq_true rfl) dX5_init_43 ⟨(Nat.le_of_ble_eq_true rfl), (Nat.le_of_ble_eq_true rfl)⟩ (fun J2 c1 H locs hP hz2 hWn => ?_)
  have hzn : s.heap.size + 38 ≤ H.size := by omega
  clear hz hz2 hup hHz
  have hz := hzn
  clear hzn
  clear hW15
  obtain ⟨J1, c, hJ16, f_0_16, f_1_16, g_2_16, g_10_16, g_18_16, g_26_16, g_34_16, hF16, hW16⟩ : ∃ (J' : List Nat) (c' : CF), (∀ i, i ∈ J' ↔ i ∈ J ∨ (b < i ∧ i ≤ b + 38)) ∧ c' b = .inr (4, [.ref (ad (b + 1)), .null, .null, .null, .int 0, .int 0, .int 0, .int 0]) ∧ c' (b + 1) = .inl (ct 3, 4, .inr (.inr (.inr (.inr (va_up (va_up (va_up (va_up (fun _ => none) (0 : Int32).toNatClampNeg (some (ad (b + 2)))) (1 : Int32).toNatClampNeg (some (ad (b + 10)))) (2 : Int32).toNatClampNeg (some (ad (b + 18)))) (3 : Int32).toNatClampNeg (some (ad (b + 26)))))))) ∧ LgB ct J' ad c' (b + 2) lg0 ∧ LgB ct J' ad c' (b + 10) lg0 ∧ LgB ct J' ad c' (b + 18) lg0 ∧ LgB ct J' ad c' (b + 26) lg0 ∧ GrB ct J' ad c' (b + 34) gr0 ∧ Fr c0 c' b 45 ∧ HW D J' ad c' (aA J ad s.heap.size) s.heap H locs := ⟨_, _, (fun i => by rw [hP.1 i, hJ15 i]; by_cases hm : i ∈ J <;> simp only [hm, true_or, false_or, iff_true, or_true] <;> omega), (hP.2.2 _ (by omega)).trans f_0_15, (hP.2.2 _ (by omega)).trans f_1_15, ((g_2_15.fr hP.2.2 (by omega)).mono (fun i hi => (hP.1 i).mpr (Or.inl hi))), ((g_10_15.fr hP.2.2 (by omega)).mono (fun i hi => (hP.1 i).mpr (Or.inl hi))), ((g_18_15.fr hP.2.2 (by omega)).mono (fun i hi => (hP.1 i).mpr (Or.inl hi))), ((g_26_15.fr hP.2.2 (by omega)).mono (fun i hi => (hP.1 i).mpr (Or.inl hi))), hP.2.1, hF15.trans (hP.2.2.wide (by omega) (by omega)), hWn⟩
  clear f_0_15 f_1_15 f_34_15 g_2_15 g_10_15 g_18_15 g_26_15 hP hJ15 hF15 hWn
  refine k_putF hE hW16.self ((hJ16 _).mpr (Or.inl hbJ)) f_0_16 rfl inX5 tyX5 tyX5_ok nmX5 1 (by decide) q132 rfl hin rfl rfl rfl (Nat.le_of_ble_eq_true rfl) dX5_init_46 (fun H locs hw1 => ?_)
  have hzn := Nat.le_trans hz hw1.2.2.1
  clear hz
  have hz := hzn
  clear hzn
  have hwn := hW16.trans hw1
  clear hW16 hw1
  have hW16 := hwn
  clear hwn
  obtain ⟨J1, c, hJ17, f_0_17, f_1_17, g_2_17, g_10_17, g_18_17, g_26_17, g_34_17, hF17, hW17⟩ : ∃ (J' : List Nat) (c' : CF), (∀ i, i ∈ J' ↔ i ∈ J ∨ (b < i ∧ i ≤ b + 38)) ∧ c' b = .inr (4, [.ref (ad (b + 1)), .ref (ad (b + 34)), .null, .null, .int 0, .int 0, .int 0, .int 0]) ∧ c' (b + 1) = .inl (ct 3, 4, .inr (.inr (.inr (.inr (va_up (va_up (va_up (va_up (fun _ => none) (0 : Int32).toNatClampNeg (some (ad (b + 2)))) (1 : Int32).toNatClampNeg (some (ad (b + 10)))) (2 : Int32).toNatClampNeg (some (ad (b + 18)))) (3 : Int32).toNatClampNeg (some (ad (b + 26)))))))) ∧ LgB ct J' ad c' (b + 2) lg0 ∧ LgB ct J' ad c' (b + 10) lg0 ∧ LgB ct J' ad c' (b + 18) lg0 ∧ LgB ct J' ad c' (b + 26) lg0 ∧ GrB ct J' ad c' (b + 34) gr0 ∧ Fr c0 c' b 45 ∧ HW D J' ad c' (aA J ad s.heap.size) s.heap H locs := ⟨_, _, hJ16, va_up_self _ _ _, (va_up_ne _ _ (by omega)).trans f_1_16, (g_2_16.fr (Fr.rf.up (b := b) (n := 1) (by omega) (by omega)) (by omega)), (g_10_16.fr (Fr.rf.up (b := b) (n := 1) (by omega) (by omega)) (by omega)), (g_18_16.fr (Fr.rf.up (b := b) (n := 1) (by omega) (by omega)) (by omega)), (g_26_16.fr (Fr.rf.up (b := b) (n := 1) (by omega) (by omega)) (by omega)), (g_34_16.fr (Fr.rf.up (b := b) (n := 1) (by omega) (by omega)) (by omega)), hF16.up (by omega) (by omega), hW16⟩
  clear f_0_16 f_1_16 g_2_16 g_10_16 g_18_16 g_26_16 g_34_16 hJ16 hF16 hW16
  refine lv_aload_n hx hb dX5_init_49 rfl (lv_at hl 1 rfl) ?_
  refine W_sized (fun hup => ?_)
  refine k_newO (z := s.heap.size + 38) (i := (b + 39)) (ci := 3) (fs := [.null, .null, .int 0]) hE hW17 hA (by omega) (had 39 (Nat.le_of_ble_eq_true rfl) (Nat.le_of_ble_eq_true rfl)) (fun hh => by rcases (hJ17 _).mp hh with h1 | h1; exact hnew 39 (Nat.le_of_ble_eq_true rfl) (Nat.le_of_ble_eq_true rfl) h1; omega) rfl inX4 tyX4 tyX4_ok q107 q108 q5 (fun j hj => by rcases (show j = 0 ∨ j = 1 ∨ j = 2 by omega) with rfl | rfl | rfl <;> rfl) (Nat.le_of_ble_eq_true rfl) (Nat.le_of_ble_eq_true rfl) dX5_init_50 (fun H hz2 hWn => ?_)
  have hzn : s.heap.size + 39 ≤ H.size := by omega
  clear hz hz2 hup
  have hz := hzn
  clear hzn
  clear hW17
  obtain ⟨J1, c, hJ18, f_0_18, f_1_18, f_39_18, g_2_18, g_10_18, g_18_18, g_26_18, g_34_18, hF18, hW18⟩ : ∃ (J' : List Nat) (c' : CF), (∀ i, i ∈ J' ↔ i ∈ J ∨ (b < i ∧ i ≤ b + 39)) ∧ c' b = .inr (4, [.ref (ad (b + 1)), .ref (ad (b + 34)), .null, .null, .int 0, .int 0, .int 0, .int 0]) ∧ c' (b + 1) = .inl (ct 3, 4, .inr (.inr (.inr (.inr (va_up (va_up (va_up (va_up (fun _ => none) (0 : Int32).toNatClampNeg (some (ad (b + 2)))) (1 : Int32).toNatClampNeg (some (ad (b + 10)))) (2 : Int32).toNatClampNeg (some (ad (b + 18)))) (3 : Int32).toNatClampNeg (some (ad (b + 26)))))))) ∧ c' (b + 39) = .inr (3, [.null, .null, .int 0]) ∧ LgB ct J' ad c' (b + 2) lg0 ∧ LgB ct J' ad c' (b + 10) lg0 ∧ LgB ct J' ad c' (b + 18) lg0 ∧ LgB ct J' ad c' (b + 26) lg0 ∧ GrB ct J' ad c' (b + 34) gr0 ∧ Fr c0 c' b 45 ∧ HW D J' ad c' (aA J ad s.heap.size) s.heap H locs := ⟨_, _, (fun i => by rw [List.mem_append, List.mem_singleton, hJ17 i]; by_cases hm : i ∈ J <;> simp only [hm, true_or, false_or, iff_true, or_true] <;> omega), (va_up_ne _ _ (by omega)).trans f_0_17, (va_up_ne _ _ (by omega)).trans f_1_17, va_up_self _ _ _, ((g_2_17.fr (Fr.rf.up (b := (b + 39)) (n := 1) (by omega) (by omega)) (by omega)).mono (fun i hi => List.mem_append_left _ hi)), ((g_10_17.fr (Fr.rf.up (b := (b + 39)) (n := 1) (by omega) (by omega)) (by omega)).mono (fun i hi => List.mem_append_left _ hi)), ((g_18_17.fr (Fr.rf.up (b := (b + 39)) (n := 1) (by omega) (by omega)) (by omega)).mono (fun i hi => List.mem_append_left _ hi)), ((g_26_17.fr (Fr.rf.up (b := (b + 39)) (n := 1) (by omega) (by omega)) (by omega)).mono (fun i hi => List.mem_append_left _ hi)), ((g_34_17.fr (Fr.rf.up (b := (b + 39)) (n := 1) (by omega) (by omega)) (by omega)).mono (fun i hi => List.mem_append_left _ hi)), hF17.up (by omega) (by omega), hWn⟩
  clear f_0_17 f_1_17 g_2_17 g_10_17 g_18_17 g_26_17 g_34_17 hJ17 hF17 hWn
  refine lv_dup hx hb dX5_init_53 rfl ?_
  refine lv_bipush (v := (10 : Int32)) hx hb dX5_init_54 (by decide) ?_
  refine W_sized (fun hup => ?_)
  have hHz : H.size = s.heap.size + 39 := by omega
  refine k_callIN (rest := [.ref (ad (b + 39)), .ref (ad b)]) hE hW18 (hW18.af hA) hl.1 (nX4_init_10 ((hJ18 _).mpr (Or.inr (by omega))) (fun k h1 h2 hh => by rw [Nat.add_assoc] at hh; rcases (hJ18 _).mp hh with h3 | h3; exact hnew (39 + k) (by omega) (by omega) h3; omega) (fun k h1 h2 => by rw [Nat.add_assoc, had (39 + k) (by omega) (by omega)]; omega) f_39_18) q109 q110 rfl q5 q111 hd_X4_init.2 ⟨(Nat.le_of_ble_eq_true rfl), (Nat.le_of_ble_eq_true rfl)⟩ ⟨rfl, rfl⟩ rfl (Nat.le_of_ble_eq_true rfl) dX5_init_56 ⟨(Nat.le_of_ble_eq_true rfl), (Nat.le_of_ble_eq_true rfl)⟩ (fun J2 c1 H locs hP hz2 hWn => ?_)
  have hzn : s.heap.size + 41 ≤ H.size := by omega
  clear hz hz2 hup hHz
  have hz := hzn
  clear hzn
  clear hW18
  obtain ⟨J1, c, hJ19, f_0_19, f_1_19, g_2_19, g_10_19, g_18_19, g_26_19, g_34_19, g_39_19, hF19, hW19⟩ : ∃ (J' : List Nat) (c' : CF), (∀ i, i ∈ J' ↔ i ∈ J ∨ (b < i ∧ i ≤ b + 41)) ∧ c' b = .inr (4, [.ref (ad (b + 1)), .ref (ad (b + 34)), .null, .null, .int 0, .int 0, .int 0, .int 0]) ∧ c' (b + 1) = .inl (ct 3, 4, .inr (.inr (.inr (.inr (va_up (va_up (va_up (va_up (fun _ => none) (0 : Int32).toNatClampNeg (some (ad (b + 2)))) (1 : Int32).toNatClampNeg (some (ad (b + 10)))) (2 : Int32).toNatClampNeg (some (ad (b + 18)))) (3 : Int32).toNatClampNeg (some (ad (b + 26)))))))) ∧ LgB ct J' ad c' (b + 2) lg0 ∧ LgB ct J' ad c' (b + 10) lg0 ∧ LgB ct J' ad c' (b + 18) lg0 ∧ LgB ct J' ad c' (b + 26) lg0 ∧ GrB ct J' ad c' (b + 34) gr0 ∧ RwB 10 ct J' ad c' (b + 39) rw0 ∧ Fr c0 c' b 45 ∧ HW D J' ad c' (aA J ad s.heap.size) s.heap H locs := ⟨_, _, (fun i => by rw [hP.1 i, hJ18 i]; by_cases hm : i ∈ J <;> simp only [hm, true_or, false_or, iff_true, or_true] <;> omega), (hP.2.2 _ (by omega)).trans f_0_18, (hP.2.2 _ (by omega)).trans f_1_18, ((g_2_18.fr hP.2.2 (by omega)).mono (fun i hi => (hP.1 i).mpr (Or.inl hi))), ((g_10_18.fr hP.2.2 (by omega)).mono (fun i hi => (hP.1 i).mpr (Or.inl hi))), ((g_18_18.fr hP.2.2 (by omega)).mono (fun i hi => (hP.1 i).mpr (Or.inl hi))), ((g_26_18.fr hP.2.2 (by omega)).mono (fun i hi => (hP.1 i).mpr (Or.inl hi))), ((g_34_18.fr hP.2.2 (by omega)).mono (fun i hi => (hP.1 i).mpr (Or.inl hi))), hP.2.1, hF18.trans (hP.2.2.wide (by omega) (by omega)), hWn⟩
  clear f_0_18 f_1_18 f_39_18 g_2_18 g_10_18 g_18_18 g_26_18 g_34_18 hP hJ18 hF18 hWn
  refine k_putF hE hW19.self ((hJ19 _).mpr (Or.inl hbJ)) f_0_19 rfl inX5 tyX5 tyX5_ok nmX5 2 (by decide) q134 rfl hin rfl rfl rfl (Nat.le_of_ble_eq_true rfl) dX5_init_59 (fun H locs hw1 => ?_)
  have hzn := Nat.le_trans hz hw1.2.2.1
  clear hz
  have hz := hzn
  clear hzn
  have hwn := hW19.trans hw1
  clear hW19 hw1
  have hW19 := hwn
  clear hwn
  obtain ⟨J1, c, hJ20, f_0_20, f_1_20, g_2_20, g_10_20, g_18_20, g_26_20, g_34_20, g_39_20, hF20, hW20⟩ : ∃ (J' : List Nat) (c' : CF), (∀ i, i ∈ J' ↔ i ∈ J ∨ (b < i ∧ i ≤ b + 41)) ∧ c' b = .inr (4, [.ref (ad (b + 1)), .ref (ad (b + 34)), .ref (ad (b + 39)), .null, .int 0, .int 0, .int 0, .int 0]) ∧ c' (b + 1) = .inl (ct 3, 4, .inr (.inr (.inr (.inr (va_up (va_up (va_up (va_up (fun _ => none) (0 : Int32).toNatClampNeg (some (ad (b + 2)))) (1 : Int32).toNatClampNeg (some (ad (b + 10)))) (2 : Int32).toNatClampNeg (some (ad (b + 18)))) (3 : Int32).toNatClampNeg (some (ad (b + 26)))))))) ∧ LgB ct J' ad c' (b + 2) lg0 ∧ LgB ct J' ad c' (b + 10) lg0 ∧ LgB ct J' ad c' (b + 18) lg0 ∧ LgB ct J' ad c' (b + 26) lg0 ∧ GrB ct J' ad c' (b + 34) gr0 ∧ RwB 10 ct J' ad c' (b + 39) rw0 ∧ Fr c0 c' b 45 ∧ HW D J' ad c' (aA J ad s.heap.size) s.heap H locs := ⟨_, _, hJ19, va_up_self _ _ _, (va_up_ne _ _ (by omega)).trans f_1_19, (g_2_19.fr (Fr.rf.up (b := b) (n := 1) (by omega) (by omega)) (by omega)), (g_10_19.fr (Fr.rf.up (b := b) (n := 1) (by omega) (by omega)) (by omega)), (g_18_19.fr (Fr.rf.up (b := b) (n := 1) (by omega) (by omega)) (by omega)), (g_26_19.fr (Fr.rf.up (b := b) (n := 1) (by omega) (by omega)) (by omega)), (g_34_19.fr (Fr.rf.up (b := b) (n := 1) (by omega) (by omega)) (by omega)), (g_39_19.fr (Fr.rf.up (b := b) (n := 1) (by omega) (by omega)) (by omega)), hF19.up (by omega) (by omega), hW19⟩
  clear f_0_19 f_1_19 g_2_19 g_10_19 g_18_19 g_26_19 g_34_19 g_39_19 hJ19 hF19 hW19
  refine lv_aload_n hx hb dX5_init_62 rfl (lv_at hl 1 rfl) ?_
  refine W_sized (fun hup => ?_)
  refine k_newO (z := s.heap.size + 41) (i := (b + 42)) (ci := 3) (fs := [.null, .null, .int 0]) hE hW20 hA (by omega) (had 42 (Nat.le_of_ble_eq_true rfl) (Nat.le_of_ble_eq_true rfl)) (fun hh => by rcases (hJ20 _).mp hh with h1 | h1; exact hnew 42 (Nat.le_of_ble_eq_true rfl) (Nat.le_of_ble_eq_true rfl) h1; omega) rfl inX4 tyX4 tyX4_ok q107 q108 q5 (fun j hj => by rcases (show j = 0 ∨ j = 1 ∨ j = 2 by omega) with rfl | rfl | rfl <;> rfl) (Nat.le_of_ble_eq_true rfl) (Nat.le_of_ble_eq_true rfl) dX5_init_63 (fun H hz2 hWn => ?_)
  have hzn : s.heap.size + 42 ≤ H.size := by omega
  clear hz hz2 hup
  have hz := hzn
  clear hzn
  clear hW20
  obtain ⟨J1, c, hJ21, f_0_21, f_1_21, f_42_21, g_2_21, g_10_21, g_18_21, g_26_21, g_34_21, g_39_21, hF21, hW21⟩ : ∃ (J' : List Nat) (c' : CF), (∀ i, i ∈ J' ↔ i ∈ J ∨ (b < i ∧ i ≤ b + 42)) ∧ c' b = .inr (4, [.ref (ad (b + 1)), .ref (ad (b + 34)), .ref (ad (b + 39)), .null, .int 0, .int 0, .int 0, .int 0]) ∧ c' (b + 1) = .inl (ct 3, 4, .inr (.inr (.inr (.inr (va_up (va_up (va_up (va_up (fun _ => none) (0 : Int32).toNatClampNeg (some (ad (b + 2)))) (1 : Int32).toNatClampNeg (some (ad (b + 10)))) (2 : Int32).toNatClampNeg (some (ad (b + 18)))) (3 : Int32).toNatClampNeg (some (ad (b + 26)))))))) ∧ c' (b + 42) = .inr (3, [.null, .null, .int 0]) ∧ LgB ct J' ad c' (b + 2) lg0 ∧ LgB ct J' ad c' (b + 10) lg0 ∧ LgB ct J' ad c' (b + 18) lg0 ∧ LgB ct J' ad c' (b + 26) lg0 ∧ GrB ct J' ad c' (b + 34) gr0 ∧ RwB 10 ct J' ad c' (b + 39) rw0 ∧ Fr c0 c' b 45 ∧ HW D J' ad c' (aA J ad s.heap.size) s.heap H locs := ⟨_, _, (fun i => by rw [List.mem_append, List.mem_singleton, hJ20 i]; by_cases hm : i ∈ J <;> simp only [hm, true_or, false_or, iff_true, or_true] <;> omega), (va_up_ne _ _ (by omega)).trans f_0_20, (va_up_ne _ _ (by omega)).trans f_1_20, va_up_self _ _ _, ((g_2_20.fr (Fr.rf.up (b := (b + 42)) (n := 1) (by omega) (by omega)) (by omega)).mono (fun i hi => List.mem_append_left _ hi)), ((g_10_20.fr (Fr.rf.up (b := (b + 42)) (n := 1) (by omega) (by omega)) (by omega)).mono (fun i hi => List.mem_append_left _ hi)), ((g_18_20.fr (Fr.rf.up (b := (b + 42)) (n := 1) (by omega) (by omega)) (by omega)).mono (fun i hi => List.mem_append_left _ hi)), ((g_26_20.fr (Fr.rf.up (b := (b + 42)) (n := 1) (by omega) (by omega)) (by omega)).mono (fun i hi => List.mem_append_left _ hi)), ((g_34_20.fr (Fr.rf.up (b := (b + 42)) (n := 1) (by omega) (by omega)) (by omega)).mono (fun i hi => List.mem_append_left _ hi)), ((g_39_20.fr (Fr.rf.up (b := (b + 42)) (n := 1) (by omega) (by omega)) (by omega)).mono (fun i hi => List.mem_append_left _ hi)), hF20.up (by omega) (by omega), hWn⟩
  clear f_0_20 f_1_20 g_2_20 g_10_20 g_18_20 g_26_20 g_34_20 g_39_20 hJ20 hF20 hWn
  refine lv_dup hx hb dX5_init_66 rfl ?_
  refine lv_bipush (v := (8 : Int32)) hx hb dX5_init_67 (by decide) ?_
  refine W_sized (fun hup => ?_)
  have hHz : H.size = s.heap.size + 42 := by omega
  refine k_callIN (rest := [.ref (ad (b + 42)), .ref (ad b)]) hE hW21 (hW21.af hA) hl.1 (nX4_init_8 ((hJ21 _).mpr (Or.inr (by omega))) (fun k h1 h2 hh => by rw [Nat.add_assoc] at hh; rcases (hJ21 _).mp hh with h3 | h3; exact hnew (42 + k) (by omega) (by omega) h3; omega) (fun k h1 h2 => by rw [Nat.add_assoc, had (42 + k) (by omega) (by omega)]; omega) f_42_21) q109 q110 rfl q5 q111 hd_X4_init.2 ⟨(Nat.le_of_ble_eq_true rfl), (Nat.le_of_ble_eq_true rfl)⟩ ⟨rfl, rfl⟩ rfl (Nat.le_of_ble_eq_true rfl) dX5_init_69 ⟨(Nat.le_of_ble_eq_true rfl), (Nat.le_of_ble_eq_true rfl)⟩ (fun J2 c1 H locs hP hz2 hWn => ?_)
  have hzn : s.heap.size + 44 ≤ H.size := by omega
  clear hz hz2 hup hHz
  have hz := hzn
  clear hzn
  clear hW21
  obtain ⟨J1, c, hJ22, f_0_22, f_1_22, g_2_22, g_10_22, g_18_22, g_26_22, g_34_22, g_39_22, g_42_22, hF22, hW22⟩ : ∃ (J' : List Nat) (c' : CF), (∀ i, i ∈ J' ↔ i ∈ J ∨ (b < i ∧ i ≤ b + 44)) ∧ c' b = .inr (4, [.ref (ad (b + 1)), .ref (ad (b + 34)), .ref (ad (b + 39)), .null, .int 0, .int 0, .int 0, .int 0]) ∧ c' (b + 1) = .inl (ct 3, 4, .inr (.inr (.inr (.inr (va_up (va_up (va_up (va_up (fun _ => none) (0 : Int32).toNatClampNeg (some (ad (b + 2)))) (1 : Int32).toNatClampNeg (some (ad (b + 10)))) (2 : Int32).toNatClampNeg (some (ad (b + 18)))) (3 : Int32).toNatClampNeg (some (ad (b + 26)))))))) ∧ LgB ct J' ad c' (b + 2) lg0 ∧ LgB ct J' ad c' (b + 10) lg0 ∧ LgB ct J' ad c' (b + 18) lg0 ∧ LgB ct J' ad c' (b + 26) lg0 ∧ GrB ct J' ad c' (b + 34) gr0 ∧ RwB 10 ct J' ad c' (b + 39) rw0 ∧ RwB 8 ct J' ad c' (b + 42) rw0 ∧ Fr c0 c' b 45 ∧ HW D J' ad c' (aA J ad s.heap.size) s.heap H locs := ⟨_, _, (fun i => by rw [hP.1 i, hJ21 i]; by_cases hm : i ∈ J <;> simp only [hm, true_or, false_or, iff_true, or_true] <;> omega), (hP.2.2 _ (by omega)).trans f_0_21, (hP.2.2 _ (by omega)).trans f_1_21, ((g_2_21.fr hP.2.2 (by omega)).mono (fun i hi => (hP.1 i).mpr (Or.inl hi))), ((g_10_21.fr hP.2.2 (by omega)).mono (fun i hi => (hP.1 i).mpr (Or.inl hi))), ((g_18_21.fr hP.2.2 (by omega)).mono (fun i hi => (hP.1 i).mpr (Or.inl hi))), ((g_26_21.fr hP.2.2 (by omega)).mono (fun i hi => (hP.1 i).mpr (Or.inl hi))), ((g_34_21.fr hP.2.2 (by omega)).mono (fun i hi => (hP.1 i).mpr (Or.inl hi))), ((g_39_21.fr hP.2.2 (by omega)).mono (fun i hi => (hP.1 i).mpr (Or.inl hi))), hP.2.1, hF21.trans (hP.2.2.wide (by omega) (by omega)), hWn⟩
  clear f_0_21 f_1_21 f_42_21 g_2_21 g_10_21 g_18_21 g_26_21 g_34_21 g_39_21 hP hJ21 hF21 hWn
  refine k_putF hE hW22.self ((hJ22 _).mpr (Or.inl hbJ)) f_0_22 rfl inX5 tyX5 tyX5_ok nmX5 3 (by decide) q136 rfl hin rfl rfl rfl (Nat.le_of_ble_eq_true rfl) dX5_init_72 (fun H locs hw1 => ?_)
  have hzn := Nat.le_trans hz hw1.2.2.1
  clear hz
  have hz := hzn
  clear hzn
  have hwn := hW22.trans hw1
  clear hW22 hw1
  have hW22 := hwn
  clear hwn
  obtain ⟨J1, c, hJ23, f_0_23, f_1_23, g_2_23, g_10_23, g_18_23, g_26_23, g_34_23, g_39_23, g_42_23, hF23, hW23⟩ : ∃ (J' : List Nat) (c' : CF), (∀ i, i ∈ J' ↔ i ∈ J ∨ (b < i ∧ i ≤ b + 44)) ∧ c' b = .inr (4, [.ref (ad (b + 1)), .ref (ad (b + 34)), .ref (ad (b + 39)), .ref (ad (b + 42)), .int 0, .int 0, .int 0, .int 0]) ∧ c' (b + 1) = .inl (ct 3, 4, .inr (.inr (.inr (.inr (va_up (va_up (va_up (va_up (fun _ => none) (0 : Int32).toNatClampNeg (some (ad (b + 2)))) (1 : Int32).toNatClampNeg (some (ad (b + 10)))) (2 : Int32).toNatClampNeg (some (ad (b + 18)))) (3 : Int32).toNatClampNeg (some (ad (b + 26)))))))) ∧ LgB ct J' ad c' (b + 2) lg0 ∧ LgB ct J' ad c' (b + 10) lg0 ∧ LgB ct J' ad c' (b + 18) lg0 ∧ LgB ct J' ad c' (b + 26) lg0 ∧ GrB ct J' ad c' (b + 34) gr0 ∧ RwB 10 ct J' ad c' (b + 39) rw0 ∧ RwB 8 ct J' ad c' (b + 42) rw0 ∧ Fr c0 c' b 45 ∧ HW D J' ad c' (aA J ad s.heap.size) s.heap H locs := ⟨_, _, hJ22, va_up_self _ _ _, (va_up_ne _ _ (by omega)).trans f_1_22, (g_2_22.fr (Fr.rf.up (b := b) (n := 1) (by omega) (by omega)) (by omega)), (g_10_22.fr (Fr.rf.up (b := b) (n := 1) (by omega) (by omega)) (by omega)), (g_18_22.fr (Fr.rf.up (b := b) (n := 1) (by omega) (by omega)) (by omega)), (g_26_22.fr (Fr.rf.up (b := b) (n := 1) (by omega) (by omega)) (by omega)), (g_34_22.fr (Fr.rf.up (b := b) (n := 1) (by omega) (by omega)) (by omega)), (g_39_22.fr (Fr.rf.up (b := b) (n := 1) (by omega) (by omega)) (by omega)), (g_42_22.fr (Fr.rf.up (b := b) (n := 1) (by omega) (by omega)) (by omega)), hF22.up (by omega) (by omega), hW22⟩
  clear f_0_22 f_1_22 g_2_22 g_10_22 g_18_22 g_26_22 g_34_22 g_39_22 g_42_22 hJ22 hF22 hW22
  refine lv_aload_n hx hb dX5_init_75 rfl (lv_at hl 1 rfl) ?_
  refine lv_iconst (v := (5 : Int32)) hx hb dX5_init_76 (by decide) ?_
  refine k_put hE hW23.self ((hJ23 _).mpr (Or.inl hbJ)) f_0_23 rfl inX5 tyX5 tyX5_ok nmX5 5 (by decide) q140 rfl rfl rfl (Nat.le_of_ble_eq_true rfl) dX5_init_77 (fun H locs hw1 => ?_)
  have hzn := Nat.le_trans hz hw1.2.2.1
  clear hz
  have hz := hzn
  clear hzn
  have hwn := hW23.trans hw1
  clear hW23 hw1
  have hW23 := hwn
  clear hwn
  obtain ⟨J1, c, hJ24, f_0_24, f_1_24, g_2_24, g_10_24, g_18_24, g_26_24, g_34_24, g_39_24, g_42_24, hF24, hW24⟩ : ∃ (J' : List Nat) (c' : CF), (∀ i, i ∈ J' ↔ i ∈ J ∨ (b < i ∧ i ≤ b + 44)) ∧ c' b = .inr (4, [.ref (ad (b + 1)), .ref (ad (b + 34)), .ref (ad (b + 39)), .ref (ad (b + 42)), .int 0, .int (5 : Int32), .int 0, .int 0]) ∧ c' (b + 1) = .inl (ct 3, 4, .inr (.inr (.inr (.inr (va_up (va_up (va_up (va_up (fun _ => none) (0 : Int32).toNatClampNeg (some (ad (b + 2)))) (1 : Int32).toNatClampNeg (some (ad (b + 10)))) (2 : Int32).toNatClampNeg (some (ad (b + 18)))) (3 : Int32).toNatClampNeg (some (ad (b + 26)))))))) ∧ LgB ct J' ad c' (b + 2) lg0 ∧ LgB ct J' ad c' (b + 10) lg0 ∧ LgB ct J' ad c' (b + 18) lg0 ∧ LgB ct J' ad c' (b + 26) lg0 ∧ GrB ct J' ad c' (b + 34) gr0 ∧ RwB 10 ct J' ad c' (b + 39) rw0 ∧ RwB 8 ct J' ad c' (b + 42) rw0 ∧ Fr c0 c' b 45 ∧ HW D J' ad c' (aA J ad s.heap.size) s.heap H locs := ⟨_, _, hJ23, va_up_self _ _ _, (va_up_ne _ _ (by omega)).trans f_1_23, (g_2_23.fr (Fr.rf.up (b := b) (n := 1) (by omega) (by omega)) (by omega)), (g_10_23.fr (Fr.rf.up (b := b) (n := 1) (by omega) (by omega)) (by omega)), (g_18_23.fr (Fr.rf.up (b := b) (n := 1) (by omega) (by omega)) (by omega)), (g_26_23.fr (Fr.rf.up (b := b) (n := 1) (by omega) (by omega)) (by omega)), (g_34_23.fr (Fr.rf.up (b := b) (n := 1) (by omega) (by omega)) (by omega)), (g_39_23.fr (Fr.rf.up (b := b) (n := 1) (by omega) (by omega)) (by omega)), (g_42_23.fr (Fr.rf.up (b := b) (n := 1) (by omega) (by omega)) (by omega)), hF23.up (by omega) (by omega), hW23⟩
  clear f_0_23 f_1_23 g_2_23 g_10_23 g_18_23 g_26_23 g_34_23 g_39_23 g_42_23 hJ23 hF23 hW23
  refine lv_aload_n hx hb dX5_init_80 rfl (lv_at hl 1 rfl) ?_
  refine lv_bipush (v := (100 : Int32)) hx hb dX5_init_81 (by decide) ?_
  refine k_put hE hW24.self ((hJ24 _).mpr (Or.inl hbJ)) f_0_24 rfl inX5 tyX5 tyX5_ok nmX5 6 (by decide) q142 rfl rfl rfl (Nat.le_of_ble_eq_true rfl) dX5_init_83 (fun H locs hw1 => ?_)
  have hzn := Nat.le_trans hz hw1.2.2.1
  clear hz
  have hz := hzn
  clear hzn
  have hwn := hW24.trans hw1
  clear hW24 hw1
  have hW24 := hwn
  clear hwn
  obtain ⟨J1, c, hJ25, f_0_25, f_1_25, g_2_25, g_10_25, g_18_25, g_26_25, g_34_25, g_39_25, g_42_25, hF25, hW25⟩ : ∃ (J' : List Nat) (c' : CF), (∀ i, i ∈ J' ↔ i ∈ J ∨ (b < i ∧ i ≤ b + 44)) ∧ c' b = .inr (4, [.ref (ad (b + 1)), .ref (ad (b + 34)), .ref (ad (b + 39)), .ref (ad (b + 42)), .int 0, .int (5 : Int32), .int (100 : Int32), .int 0]) ∧ c' (b + 1) = .inl (ct 3, 4, .inr (.inr (.inr (.inr (va_up (va_up (va_up (va_up (fun _ => none) (0 : Int32).toNatClampNeg (some (ad (b + 2)))) (1 : Int32).toNatClampNeg (some (ad (b + 10)))) (2 : Int32).toNatClampNeg (some (ad (b + 18)))) (3 : Int32).toNatClampNeg (some (ad (b + 26)))))))) ∧ LgB ct J' ad c' (b + 2) lg0 ∧ LgB ct J' ad c' (b + 10) lg0 ∧ LgB ct J' ad c' (b + 18) lg0 ∧ LgB ct J' ad c' (b + 26) lg0 ∧ GrB ct J' ad c' (b + 34) gr0 ∧ RwB 10 ct J' ad c' (b + 39) rw0 ∧ RwB 8 ct J' ad c' (b + 42) rw0 ∧ Fr c0 c' b 45 ∧ HW D J' ad c' (aA J ad s.heap.size) s.heap H locs := ⟨_, _, hJ24, va_up_self _ _ _, (va_up_ne _ _ (by omega)).trans f_1_24, (g_2_24.fr (Fr.rf.up (b := b) (n := 1) (by omega) (by omega)) (by omega)), (g_10_24.fr (Fr.rf.up (b := b) (n := 1) (by omega) (by omega)) (by omega)), (g_18_24.fr (Fr.rf.up (b := b) (n := 1) (by omega) (by omega)) (by omega)), (g_26_24.fr (Fr.rf.up (b := b) (n := 1) (by omega) (by omega)) (by omega)), (g_34_24.fr (Fr.rf.up (b := b) (n := 1) (by omega) (by omega)) (by omega)), (g_39_24.fr (Fr.rf.up (b := b) (n := 1) (by omega) (by omega)) (by omega)), (g_42_24.fr (Fr.rf.up (b := b) (n := 1) (by omega) (by omega)) (by omega)), hF24.up (by omega) (by omega), hW24⟩
  clear f_0_24 f_1_24 g_2_24 g_10_24 g_18_24 g_26_24 g_34_24 g_39_24 g_42_24 hJ24 hF24 hW24
  refine lv_aload_n hx hb dX5_init_86 rfl (lv_at hl 1 rfl) ?_
  refine lv_bipush (v := (50 : Int32)) hx hb dX5_init_87 (by decide) ?_
  refine k_put hE hW25.self ((hJ25 _).mpr (Or.inl hbJ)) f_0_25 rfl inX5 tyX5 tyX5_ok nmX5 7 (by decide) q144 rfl rfl rfl (Nat.le_of_ble_eq_true rfl) dX5_init_89 (fun H locs hw1 => ?_)
  have hzn := Nat.le_trans hz hw1.2.2.1
  clear hz
  have hz := hzn
  clear hzn
  have hwn := hW25.trans hw1
  clear hW25 hw1
  have hW25 := hwn
  clear hwn
  obtain ⟨J1, c, hJ26, f_0_26, f_1_26, g_2_26, g_10_26, g_18_26, g_26_26, g_34_26, g_39_26, g_42_26, hF26, hW26⟩ : ∃ (J' : List Nat) (c' : CF), (∀ i, i ∈ J' ↔ i ∈ J ∨ (b < i ∧ i ≤ b + 44)) ∧ c' b = .inr (4, [.ref (ad (b + 1)), .ref (ad (b + 34)), .ref (ad (b + 39)), .ref (ad (b + 42)), .int 0, .int (5 : Int32), .int (100 : Int32), .int (50 : Int32)]) ∧ c' (b + 1) = .inl (ct 3, 4, .inr (.inr (.inr (.inr (va_up (va_up (va_up (va_up (fun _ => none) (0 : Int32).toNatClampNeg (some (ad (b + 2)))) (1 : Int32).toNatClampNeg (some (ad (b + 10)))) (2 : Int32).toNatClampNeg (some (ad (b + 18)))) (3 : Int32).toNatClampNeg (some (ad (b + 26)))))))) ∧ LgB ct J' ad c' (b + 2) lg0 ∧ LgB ct J' ad c' (b + 10) lg0 ∧ LgB ct J' ad c' (b + 18) lg0 ∧ LgB ct J' ad c' (b + 26) lg0 ∧ GrB ct J' ad c' (b + 34) gr0 ∧ RwB 10 ct J' ad c' (b + 39) rw0 ∧ RwB 8 ct J' ad c' (b + 42) rw0 ∧ Fr c0 c' b 45 ∧ HW D J' ad c' (aA J ad s.heap.size) s.heap H locs := ⟨_, _, hJ25, va_up_self _ _ _, (va_up_ne _ _ (by omega)).trans f_1_25, (g_2_25.fr (Fr.rf.up (b := b) (n := 1) (by omega) (by omega)) (by omega)), (g_10_25.fr (Fr.rf.up (b := b) (n := 1) (by omega) (by omega)) (by omega)), (g_18_25.fr (Fr.rf.up (b := b) (n := 1) (by omega) (by omega)) (by omega)), (g_26_25.fr (Fr.rf.up (b := b) (n := 1) (by omega) (by omega)) (by omega)), (g_34_25.fr (Fr.rf.up (b := b) (n := 1) (by omega) (by omega)) (by omega)), (g_39_25.fr (Fr.rf.up (b := b) (n := 1) (by omega) (by omega)) (by omega)), (g_42_25.fr (Fr.rf.up (b := b) (n := 1) (by omega) (by omega)) (by omega)), hF25.up (by omega) (by omega), hW25⟩
  clear f_0_25 f_1_25 g_2_25 g_10_25 g_18_25 g_26_25 g_34_25 g_39_25 g_42_25 hJ25 hF25 hW25
  have hls : LsB ct J1 ad c (b + 1) (fun _ => lg0) := by
    refine ⟨(hJ26 _).mpr (Or.inr (by omega)), ?_, fun i hi => ?_⟩
    · rw [f_1_26]
      congr 7
      funext i
      unfold rfA
      rcases (show i = 0 ∨ i = 1 ∨ i = 2 ∨ i = 3 ∨ 4 ≤ i by omega) with rfl | rfl | rfl | rfl | h4
      · rfl
      · rfl
      · rfl
      · rfl
      · rw [if_neg (by omega)]
        simp only [va_up]
        rw [if_neg (show ¬ i = (3 : Int32).toNatClampNeg from fun h => by have : i = 3 := h; omega), if_neg (show ¬ i = (2 : Int32).toNatClampNeg from fun h => by have : i = 2 := h; omega), if_neg (show ¬ i = (1 : Int32).toNatClampNeg from fun h => by have : i = 1 := h; omega), if_neg (show ¬ i = (0 : Int32).toNatClampNeg from fun h => by have : i = 0 := h; omega)]
    · rcases (show i = 0 ∨ i = 1 ∨ i = 2 ∨ i = 3 by omega) with rfl | rfl | rfl | rfl
      · exact g_2_26
      · exact g_10_26
      · exact g_18_26
      · exact g_26_26
  have hB9 : StB ct J1 ad c b st0 := ⟨⟨(hJ26 _).mpr (Or.inl hbJ), f_0_26⟩, hls, g_34_26, g_39_26, g_42_26⟩
  exact k_nret hE hr hlk hW26 ⟨hJ26, hB9, hF26⟩ hz dX5_init_92
set_option maxHeartbeats 4000000 in
set_option maxRecDepth 100000 in
theorem nX8_init {l : Launch} {D : va_G} {ct : Nat → ClassId} {J : List Nat} {ad : Nat → Nat} {c0 : CF} {b sz : Nat} (hbJ : b ∈ J) (hnew : ∀ k, 1 ≤ k → k ≤ 45 → b + k ∉ J) (hnew2 : ∀ k, 136 ≤ k → k ≤ 159 → b + k ∉ J) (had : ∀ k, 1 ≤ k → k ≤ 45 → ad (b + k) = sz + (k - 1)) (had2 : ∀ k, 136 ≤ k → k ≤ 159 → ad (b + k) = sz + (k - 91)) (f_0 : c0 b = .inr (7, [.null, .null, .null, .null, .null, .null])) : MN l D ct J ad yX8_init cX8_init 2 { frames := 3, cells := 69, slots := 5804, locals := 62 } [.ref (ad b)] c0 sz (fun J' c' => (∀ i, i ∈ J' ↔ i ∈ J ∨ ((b < i ∧ i ≤ b + 45) ∨ (b + 136 ≤ i ∧ i ≤ b + 159))) ∧ KlB ct J' ad c' b kl0 ∧ Fr c0 c' b 160) 69 5804 := by
  refine MN_of (own := RX8) (by decide) rfl rfl (Nat.le_of_ble_eq_true rfl) (fun p e s m below meth cd hsz hE hr hlk hin hW ls hl => ?_)
  subst hsz
  have hx := hE.1
  have hb := hE.2.1
  have hA : ∀ q, s.heap.size ≤ q → aA J ad s.heap.size q := fun q h => Or.inr h
  have hz : s.heap.size + 0 ≤ s.heap.size := Nat.le_refl _
  have hl : lv_has ls 2 [(0, .ref (ad b))] := hl
  refine lv_aload_n hx hb dX8_init_0 rfl (lv_at hl 0 rfl) ?_
  refine W.objInit hx hb hE.2.2.2.1 (hE.2.2.2.2.1 _ q21) (hE.2.2.2.2.1 _ q22) (hE.2.2.2.2.1 _ q23) rfl (by rw [hE.2.2.1]; exact hl.1) rfl dX8_init_1 (Nat.le_of_ble_eq_true rfl) (Nat.le_of_ble_eq_true rfl) ?_
  refine W.eq (g2 := F0 m 4 ls []) rfl ?_
  refine lv_aload_n hx hb dX8_init_4 rfl (lv_at hl 0 rfl) ?_
  refine W_sized (fun hup => ?_)
  refine k_newO (z := s.heap.size + 0) (i := (b + 1)) (ci := 4) (fs := [.null, .null, .null, .null, .int 0, .int 0, .int 0, .int 0]) hE hW hA (by omega) (had 1 (Nat.le_of_ble_eq_true rfl) (Nat.le_of_ble_eq_true rfl)) (hnew 1 (Nat.le_of_ble_eq_true rfl) (Nat.le_of_ble_eq_true rfl)) rfl inX5 tyX5 tyX5_ok q24 q25 q2 (fun j hj => by rcases (show j = 0 ∨ j = 1 ∨ j = 2 ∨ j = 3 ∨ j = 4 ∨ j = 5 ∨ j = 6 ∨ j = 7 by omega) with rfl | rfl | rfl | rfl | rfl | rfl | rfl | rfl <;> rfl) (Nat.le_of_ble_eq_true rfl) (Nat.le_of_ble_eq_true rfl) dX8_init_5 (fun H hz2 hWn => ?_)
  have hzn : s.heap.size + 1 ≤ H.size := by omega
  clear hz hz2 hup
  have hz := hzn
  clear hzn
  clear hW
  obtain ⟨J1, c, hJ1, f_0_1, f_1_1, hF1, hW1⟩ : ∃ (J' : List Nat) (c' : CF), (∀ i, i ∈ J' ↔ i ∈ J ∨ (b < i ∧ i ≤ b + 1)) ∧ c' b = .inr (7, [.null, .null, .null, .null, .null, .null]) ∧ c' (b + 1) = .inr (4, [.null, .null, .null, .null, .int 0, .int 0, .int 0, .int 0]) ∧ Fr c0 c' b 160 ∧ HW D J' ad c' (aA J ad s.heap.size) s.heap H [] := ⟨_, _, (fun i => by rw [List.mem_append, List.mem_singleton]; by_cases hm : i ∈ J <;> simp only [hm, true_or, false_or, iff_true, or_true] <;> omega), (va_up_ne _ _ (by omega)).trans f_0, va_up_self _ _ _, Fr.rf.up (by omega) (by omega), hWn⟩
  clear f_0 hWn
  refine lv_dup hx hb dX8_init_8 rfl ?_
  refine W_sized (fun hup => ?_)
  have hHz : H.size = s.heap.size + 1 := by omega
  refine k_callIN (rest := [.ref (ad (b + 1)), .ref (ad b)]) hE hW1 (hW1.af hA) hl.1 (nX5_init ((hJ1 _).mpr (Or.inr (by omega))) (fun k h1 h2 hh => by rw [Nat.add_assoc] at hh; rcases (hJ1 _).mp hh with h3 | h3; exact hnew (1 + k) (by omega) (by omega) h3; omega) (fun k h1 h2 => by rw [Nat.add_assoc, had (1 + k) (by omega) (by omega)]; omega) f_1_1) q26 q27 rfl q2 q28 hd_X5_init.2 ⟨(Nat.le_of_ble_eq_true rfl), (Nat.le_of_ble_eq_true rfl)⟩ ⟨rfl, rfl⟩ rfl (Nat.le_of_ble_eq_true rfl) dX8_init_9 ⟨(Nat.le_of_ble_eq_true rfl), (Nat.le_of_ble_eq_true rfl)⟩ (fun J2 c1 H locs hP hz2 hWn => ?_)
  have hzn : s.heap.size + 45 ≤ H.size := by omega
  clear hz hz2 hup hHz
  have hz := hzn
  clear hzn
  clear hW1
  obtain ⟨J1, c, hJ2, f_0_2, g_1_2, hF2, hW2⟩ : ∃ (J' : List Nat) (c' : CF), (∀ i, i ∈ J' ↔ i ∈ J ∨ (b < i ∧ i ≤ b + 45)) ∧ c' b = .inr (7, [.null, .null, .null, .null, .null, .null]) ∧ StB ct J' ad c' (b + 1) st0 ∧ Fr c0 c' b 160 ∧ HW D J' ad c' (aA J ad s.heap.size) s.heap H locs := ⟨_, _, (fun i => by rw [hP.1 i, hJ1 i]; by_cases hm : i ∈ J <;> simp only [hm, true_or, false_or, iff_true, or_true] <;> omega), (hP.2.2 _ (by omega)).trans f_0_1, hP.2.1, hF1.trans (hP.2.2.wide (by omega) (by omega)), hWn⟩
  clear f_0_1 f_1_1 hP hJ1 hF1 hWn
  refine k_putF hE hW2.self ((hJ2 _).mpr (Or.inl hbJ)) f_0_2 rfl inX8 tyX8 tyX8_ok nmX8 0 (by decide) q244 rfl hin rfl rfl rfl (Nat.le_of_ble_eq_true rfl) dX8_init_12 (fun H locs hw1 => ?_)
  have hzn := Nat.le_trans hz hw1.2.2.1
  clear hz
  have hz := hzn
  clear hzn
  have hwn := hW2.trans hw1
  clear hW2 hw1
  have hW2 := hwn
  clear hwn
  obtain ⟨J1, c, hJ3, f_0_3, g_1_3, hF3, hW3⟩ : ∃ (J' : List Nat) (c' : CF), (∀ i, i ∈ J' ↔ i ∈ J ∨ (b < i ∧ i ≤ b + 45)) ∧ c' b = .inr (7, [.ref (ad (b + 1)), .null, .null, .null, .null, .null]) ∧ StB ct J' ad c' (b + 1) st0 ∧ Fr c0 c' b 160 ∧ HW D J' ad c' (aA J ad s.heap.size) s.heap H locs := ⟨_, _, hJ2, va_up_self _ _ _, (g_1_2.fr (Fr.rf.up (b := b) (n := 1) (by omega) (by omega)) (by omega)), hF2.up (by omega) (by omega), hW2⟩
  clear f_0_2 g_1_2 hJ2 hF2 hW2
  refine lv_aload_n hx hb dX8_init_15 rfl (lv_at hl 0 rfl) ?_
  refine W_sized (fun hup => ?_)
  refine k_newO (z := s.heap.size + 45) (i := (b + 136)) (ci := 6) (fs := [.null, .int 0, .null, .null, .null, .null, .int 0, .int 0]) hE hW3 hA (by omega) (had2 136 (Nat.le_of_ble_eq_true rfl) (Nat.le_of_ble_eq_true rfl)) (fun hh => by rcases (hJ3 _).mp hh with h1 | h1; exact hnew2 136 (Nat.le_of_ble_eq_true rfl) (Nat.le_of_ble_eq_true rfl) h1; omega) rfl inX7 tyX7 tyX7_ok q163 q164 q7 (fun j hj => by rcases (show j = 0 ∨ j = 1 ∨ j = 2 ∨ j = 3 ∨ j = 4 ∨ j = 5 ∨ j = 6 ∨ j = 7 by omega) with rfl | rfl | rfl | rfl | rfl | rfl | rfl | rfl <;> rfl) (Nat.le_of_ble_eq_true rfl) (Nat.le_of_ble_eq_true rfl) dX8_init_16 (fun H hz2 hWn => ?_)
  have hzn : s.heap.size + 46 ≤ H.size := by omega
  clear hz hz2 hup
  have hz := hzn
  clear hzn
  clear hW3
  obtain ⟨J1, c, hJ4, f_0_4, f_136_4, g_1_4, hF4, hW4⟩ : ∃ (J' : List Nat) (c' : CF), (∀ i, i ∈ J' ↔ i ∈ J ∨ ((b < i ∧ i ≤ b + 45) ∨ (b + 136 ≤ i ∧ i ≤ b + 136))) ∧ c' b = .inr (7, [.ref (ad (b + 1)), .null, .null, .null, .null, .null]) ∧ c' (b + 136) = .inr (6, [.null, .int 0, .null, .null, .null, .null, .int 0, .int 0]) ∧ StB ct J' ad c' (b + 1) st0 ∧ Fr c0 c' b 160 ∧ HW D J' ad c' (aA J ad s.heap.size) s.heap H locs := ⟨_, _, (fun i => by rw [List.mem_append, List.mem_singleton, hJ3 i]; by_cases hm : i ∈ J <;> simp only [hm, true_or, false_or, iff_true, or_true] <;> omega), (va_up_ne _ _ (by omega)).trans f_0_3, va_up_self _ _ _, ((g_1_3.fr (Fr.rf.up (b := (b + 136)) (n := 1) (by omega) (by omega)) (by omega)).mono (fun i hi => List.mem_append_left _ hi)), hF3.up (by omega) (by omega), hWn⟩
  clear f_0_3 g_1_3 hJ3 hF3 hWn
  refine lv_dup hx hb dX8_init_19 rfl ?_
  refine W_sized (fun hup => ?_)
  have hHz : H.size = s.heap.size + 46 := by omega
  refine k_callIN (rest := [.ref (ad (b + 136)), .ref (ad b)]) hE hW4 (hW4.af hA) hl.1 (nX7_init ((hJ4 _).mpr (Or.inr (by omega))) (fun k h1 h2 hh => by rw [Nat.add_assoc] at hh; rcases (hJ4 _).mp hh with h3 | h3; exact hnew2 (136 + k) (by omega) (by omega) h3; omega) (fun k h1 h2 => by rw [Nat.add_assoc, had2 (136 + k) (by omega) (by omega)]; omega) f_136_4) q165 q166 rfl q7 q167 hd_X7_init.2 ⟨(Nat.le_of_ble_eq_true rfl), (Nat.le_of_ble_eq_true rfl)⟩ ⟨rfl, rfl⟩ rfl (Nat.le_of_ble_eq_true rfl) dX8_init_20 ⟨(Nat.le_of_ble_eq_true rfl), (Nat.le_of_ble_eq_true rfl)⟩ (fun J2 c1 H locs hP hz2 hWn => ?_)
  have hzn : s.heap.size + 51 ≤ H.size := by omega
  clear hz hz2 hup hHz
  have hz := hzn
  clear hzn
  clear hW4
  obtain ⟨J1, c, hJ5, f_0_5, g_1_5, g_136_5, hF5, hW5⟩ : ∃ (J' : List Nat) (c' : CF), (∀ i, i ∈ J' ↔ i ∈ J ∨ ((b < i ∧ i ≤ b + 45) ∨ (b + 136 ≤ i ∧ i ≤ b + 141))) ∧ c' b = .inr (7, [.ref (ad (b + 1)), .null, .null, .null, .null, .null]) ∧ StB ct J' ad c' (b + 1) st0 ∧ TxB ct J' ad c' (b + 136) tx0 ∧ Fr c0 c' b 160 ∧ HW D J' ad c' (aA J ad s.heap.size) s.heap H locs := ⟨_, _, (fun i => by rw [hP.1 i, hJ4 i]; by_cases hm : i ∈ J <;> simp only [hm, true_or, false_or, iff_true, or_true] <;> omega), (hP.2.2 _ (by omega)).trans f_0_4, ((g_1_4.fr hP.2.2 (by omega)).mono (fun i hi => (hP.1 i).mpr (Or.inl hi))), hP.2.1, hF4.trans (hP.2.2.wide (by omega) (by omega)), hWn⟩
  clear f_0_4 f_136_4 g_1_4 hP hJ4 hF4 hWn
  refine k_putF hE hW5.self ((hJ5 _).mpr (Or.inl hbJ)) f_0_5 rfl inX8 tyX8 tyX8_ok nmX8 1 (by decide) q245 rfl hin rfl rfl rfl (Nat.le_of_ble_eq_true rfl) dX8_init_23 (fun H locs hw1 => ?_)
  have hzn := Nat.le_trans hz hw1.2.2.1
  clear hz
  have hz := hzn
  clear hzn
  have hwn := hW5.trans hw1
  clear hW5 hw1
  have hW5 := hwn
  clear hwn
  obtain ⟨J1, c, hJ6, f_0_6, g_1_6, g_136_6, hF6, hW6⟩ : ∃ (J' : List Nat) (c' : CF), (∀ i, i ∈ J' ↔ i ∈ J ∨ ((b < i ∧ i ≤ b + 45) ∨ (b + 136 ≤ i ∧ i ≤ b + 141))) ∧ c' b = .inr (7, [.ref (ad (b + 1)), .ref (ad (b + 136)), .null, .null, .null, .null]) ∧ StB ct J' ad c' (b + 1) st0 ∧ TxB ct J' ad c' (b + 136) tx0 ∧ Fr c0 c' b 160 ∧ HW D J' ad c' (aA J ad s.heap.size) s.heap H locs := ⟨_, _, hJ5, va_up_self _ _ _, (g_1_5.fr (Fr.rf.up (b := b) (n := 1) (by omega) (by omega)) (by omega)), (g_136_5.fr (Fr.rf.up (b := b) (n := 1) (by omega) (by omega)) (by omega)), hF5.up (by omega) (by omega), hW5⟩
  clear f_0_5 g_1_5 g_136_5 hJ5 hF5 hW5
  refine lv_aload_n hx hb dX8_init_26 rfl (lv_at hl 0 rfl) ?_
  refine W_sized (fun hup => ?_)
  refine k_newO (z := s.heap.size + 51) (i := (b + 142)) (ci := 1) (fs := [.null, .null, .null, .null, .int 0]) hE hW6 hA (by omega) (had2 142 (Nat.le_of_ble_eq_true rfl) (Nat.le_of_ble_eq_true rfl)) (fun hh => by rcases (hJ6 _).mp hh with h1 | h1; exact hnew2 142 (Nat.le_of_ble_eq_true rfl) (Nat.le_of_ble_eq_true rfl) h1; omega) rfl inX2 tyX2 tyX2_ok q201 q202 q8 (fun j hj => by rcases (show j = 0 ∨ j = 1 ∨ j = 2 ∨ j = 3 ∨ j = 4 by omega) with rfl | rfl | rfl | rfl | rfl <;> rfl) (Nat.le_of_ble_eq_true rfl) (Nat.le_of_ble_eq_true rfl) dX8_init_27 (fun H hz2 hWn => ?_)
  have hzn : s.heap.size + 52 ≤ H.size := by omega
  clear hz hz2 hup
  have hz := hzn
  clear hzn
  clear hW6
  obtain ⟨J1, c, hJ7, f_0_7, f_142_7, g_1_7, g_136_7, hF7, hW7⟩ : ∃ (J' : List Nat) (c' : CF), (∀ i, i ∈ J' ↔ i ∈ J ∨ ((b < i ∧ i ≤ b + 45) ∨ (b + 136 ≤ i ∧ i ≤ b + 142))) ∧ c' b = .inr (7, [.ref (ad (b + 1)), .ref (ad (b + 136)), .null, .null, .null, .null]) ∧ c' (b + 142) = .inr (1, [.null, .null, .null, .null, .int 0]) ∧ StB ct J' ad c' (b + 1) st0 ∧ TxB ct J' ad c' (b + 136) tx0 ∧ Fr c0 c' b 160 ∧ HW D J' ad c' (aA J ad s.heap.size) s.heap H locs := ⟨_, _, (fun i => by rw [List.mem_append, List.mem_singleton, hJ6 i]; by_cases hm : i ∈ J <;> simp only [hm, true_or, false_or, iff_true, or_true] <;> omega), (va_up_ne _ _ (by omega)).trans f_0_6, va_up_self _ _ _, ((g_1_6.fr (Fr.rf.up (b := (b + 142)) (n := 1) (by omega) (by omega)) (by omega)).mono (fun i hi => List.mem_append_left _ hi)), ((g_136_6.fr (Fr.rf.up (b := (b + 142)) (n := 1) (by omega) (by omega)) (by omega)).mono (fun i hi => List.mem_append_left _ hi)), hF6.up (by omega) (by omega), hWn⟩
  clear f_0_6 g_1_6 g_136_6 hJ6 hF6 hWn
  refine lv_dup hx hb dX8_init_30 rfl ?_
  refine W_sized (fun hup => ?_)
  have hHz : H.size = s.heap.size + 52 := by omega
  refine k_callIN (rest := [.ref (ad (b + 142)), .ref (ad b)]) hE hW7 (hW7.af hA) hl.1 (nX2_init ((hJ7 _).mpr (Or.inr (by omega))) (fun k h1 h2 hh => by rw [Nat.add_assoc] at hh; rcases (hJ7 _).mp hh with h3 | h3; exact hnew2 (142 + k) (by omega) (by omega) h3; omega) (fun k h1 h2 => by rw [Nat.add_assoc, had2 (142 + k) (by omega) (by omega)]; omega) f_142_7) q203 q204 rfl q8 q205 hd_X2_init.2 ⟨(Nat.le_of_ble_eq_true rfl), (Nat.le_of_ble_eq_true rfl)⟩ ⟨rfl, rfl⟩ rfl (Nat.le_of_ble_eq_true rfl) dX8_init_31 ⟨(Nat.le_of_ble_eq_true rfl), (Nat.le_of_ble_eq_true rfl)⟩ (fun J2 c1 H locs hP hz2 hWn => ?_)
  have hzn : s.heap.size + 56 ≤ H.size := by omega
  clear hz hz2 hup hHz
  have hz := hzn
  clear hzn
  clear hW7
  obtain ⟨J1, c, hJ8, f_0_8, g_1_8, g_136_8, g_142_8, hF8, hW8⟩ : ∃ (J' : List Nat) (c' : CF), (∀ i, i ∈ J' ↔ i ∈ J ∨ ((b < i ∧ i ≤ b + 45) ∨ (b + 136 ≤ i ∧ i ≤ b + 146))) ∧ c' b = .inr (7, [.ref (ad (b + 1)), .ref (ad (b + 136)), .null, .null, .null, .null]) ∧ StB ct J' ad c' (b + 1) st0 ∧ TxB ct J' ad c' (b + 136) tx0 ∧ KrB ct J' ad c' (b + 142) kr0 ∧ Fr c0 c' b 160 ∧ HW D J' ad c' (aA J ad s.heap.size) s.heap H locs := ⟨_, _, (fun i => by rw [hP.1 i, hJ7 i]; by_cases hm : i ∈ J <;> simp only [hm, true_or, false_or, iff_true, or_true] <;> omega), (hP.2.2 _ (by omega)).trans f_0_7, ((g_1_7.fr hP.2.2 (by omega)).mono (fun i hi => (hP.1 i).mpr (Or.inl hi))), ((g_136_7.fr hP.2.2 (by omega)).mono (fun i hi => (hP.1 i).mpr (Or.inl hi))), hP.2.1, hF7.trans (hP.2.2.wide (by omega) (by omega)), hWn⟩
  clear f_0_7 f_142_7 g_1_7 g_136_7 hP hJ7 hF7 hWn
  refine k_putF hE hW8.self ((hJ8 _).mpr (Or.inl hbJ)) f_0_8 rfl inX8 tyX8 tyX8_ok nmX8 2 (by decide) q246 rfl hin rfl rfl rfl (Nat.le_of_ble_eq_true rfl) dX8_init_34 (fun H locs hw1 => ?_)
  have hzn := Nat.le_trans hz hw1.2.2.1
  clear hz
  have hz := hzn
  clear hzn
  have hwn := hW8.trans hw1
  clear hW8 hw1
  have hW8 := hwn
  clear hwn
  obtain ⟨J1, c, hJ9, f_0_9, g_1_9, g_136_9, g_142_9, hF9, hW9⟩ : ∃ (J' : List Nat) (c' : CF), (∀ i, i ∈ J' ↔ i ∈ J ∨ ((b < i ∧ i ≤ b + 45) ∨ (b + 136 ≤ i ∧ i ≤ b + 146))) ∧ c' b = .inr (7, [.ref (ad (b + 1)), .ref (ad (b + 136)), .ref (ad (b + 142)), .null, .null, .null]) ∧ StB ct J' ad c' (b + 1) st0 ∧ TxB ct J' ad c' (b + 136) tx0 ∧ KrB ct J' ad c' (b + 142) kr0 ∧ Fr c0 c' b 160 ∧ HW D J' ad c' (aA J ad s.heap.size) s.heap H locs := ⟨_, _, hJ8, va_up_self _ _ _, (g_1_8.fr (Fr.rf.up (b := b) (n := 1) (by omega) (by omega)) (by omega)), (g_136_8.fr (Fr.rf.up (b := b) (n := 1) (by omega) (by omega)) (by omega)), (g_142_8.fr (Fr.rf.up (b := b) (n := 1) (by omega) (by omega)) (by omega)), hF8.up (by omega) (by omega), hW8⟩
  clear f_0_8 g_1_8 g_136_8 g_142_8 hJ8 hF8 hW8
  refine lv_aload_n hx hb dX8_init_37 rfl (lv_at hl 0 rfl) ?_
  refine lv_bipush (v := (6 : Int32)) hx hb dX8_init_38 (by decide) ?_
  refine W_sized (fun hup => ?_)
  refine k_newQ (z := s.heap.size + 56) (i := (b + 147)) (t := 4) (N := 6) hE hW9 hA rfl q224 q225 (by omega) (had2 147 (Nat.le_of_ble_eq_true rfl) (Nat.le_of_ble_eq_true rfl)) (fun hh => by rcases (hJ9 _).mp hh with h1 | h1; exact hnew2 147 (Nat.le_of_ble_eq_true rfl) (Nat.le_of_ble_eq_true rfl) h1; omega) (by decide) (by decide) (Nat.le_of_ble_eq_true rfl) (Nat.le_of_ble_eq_true rfl) (Nat.le_of_ble_eq_true rfl) dX8_init_40 (fun H hz2 hWn => ?_)
  have hzn : s.heap.size + 57 ≤ H.size := by omega
  clear hz hz2 hup
  have hz := hzn
  clear hzn
  clear hW9
  obtain ⟨J1, c, hJ10, f_0_10, f_147_10, g_1_10, g_136_10, g_142_10, hF10, hW10⟩ : ∃ (J' : List Nat) (c' : CF), (∀ i, i ∈ J' ↔ i ∈ J ∨ ((b < i ∧ i ≤ b + 45) ∨ (b + 136 ≤ i ∧ i ≤ b + 147))) ∧ c' b = .inr (7, [.ref (ad (b + 1)), .ref (ad (b + 136)), .ref (ad (b + 142)), .null, .null, .null]) ∧ c' (b + 147) = .inl (ct 4, 6, .inr (.inr (.inr (.inr (fun _ => none))))) ∧ StB ct J' ad c' (b + 1) st0 ∧ TxB ct J' ad c' (b + 136) tx0 ∧ KrB ct J' ad c' (b + 142) kr0 ∧ Fr c0 c' b 160 ∧ HW D J' ad c' (aA J ad s.heap.size) s.heap H locs := ⟨_, _, (fun i => by rw [List.mem_append, List.mem_singleton, hJ9 i]; by_cases hm : i ∈ J <;> simp only [hm, true_or, false_or, iff_true, or_true] <;> omega), (va_up_ne _ _ (by omega)).trans f_0_9, va_up_self _ _ _, ((g_1_9.fr (Fr.rf.up (b := (b + 147)) (n := 1) (by omega) (by omega)) (by omega)).mono (fun i hi => List.mem_append_left _ hi)), ((g_136_9.fr (Fr.rf.up (b := (b + 147)) (n := 1) (by omega) (by omega)) (by omega)).mono (fun i hi => List.mem_append_left _ hi)), ((g_142_9.fr (Fr.rf.up (b := (b + 147)) (n := 1) (by omega) (by omega)) (by omega)).mono (fun i hi => List.mem_append_left _ hi)), hF9.up (by omega) (by omega), hWn⟩
  clear f_0_9 g_1_9 g_136_9 g_142_9 hJ9 hF9 hWn
  refine k_putF hE hW10.self ((hJ10 _).mpr (Or.inl hbJ)) f_0_10 rfl inX8 tyX8 tyX8_ok nmX8 3 (by decide) q247 rfl hin rfl rfl rfl (Nat.le_of_ble_eq_true rfl) dX8_init_43 (fun H locs hw1 => ?_)
  have hzn := Nat.le_trans hz hw1.2.2.1
  clear hz
  have hz := hzn
  clear hzn
  have hwn := hW10.trans hw1
  clear hW10 hw1
  have hW10 := hwn
  clear hwn
  obtain ⟨J1, c, hJ11, f_0_11, f_147_11, g_1_11, g_136_11, g_142_11, hF11, hW11⟩ : ∃ (J' : List Nat) (c' : CF), (∀ i, i ∈ J' ↔ i ∈ J ∨ ((b < i ∧ i ≤ b + 45) ∨ (b + 136 ≤ i ∧ i ≤ b + 147))) ∧ c' b = .inr (7, [.ref (ad (b + 1)), .ref (ad (b + 136)), .ref (ad (b + 142)), .ref (ad (b + 147)), .null, .null]) ∧ c' (b + 147) = .inl (ct 4, 6, .inr (.inr (.inr (.inr (fun _ => none))))) ∧ StB ct J' ad c' (b + 1) st0 ∧ TxB ct J' ad c' (b + 136) tx0 ∧ KrB ct J' ad c' (b + 142) kr0 ∧ Fr c0 c' b 160 ∧ HW D J' ad c' (aA J ad s.heap.size) s.heap H locs := ⟨_, _, hJ10, va_up_self _ _ _, (va_up_ne _ _ (by omega)).trans f_147_10, (g_1_10.fr (Fr.rf.up (b := b) (n := 1) (by omega) (by omega)) (by omega)), (g_136_10.fr (Fr.rf.up (b := b) (n := 1) (by omega) (by omega)) (by omega)), (g_142_10.fr (Fr.rf.up (b := b) (n := 1) (by omega) (by omega)) (by omega)), hF10.up (by omega) (by omega), hW10⟩
  clear f_0_10 f_147_10 g_1_10 g_136_10 g_142_10 hJ10 hF10 hW10
  refine lv_iconst (v := (0 : Int32)) hx hb dX8_init_46 (by decide) ?_
  refine lv_istore_n (lv' := [(1, .int (0 : Int32)), (0, .ref (ad b))]) hx hb dX8_init_47 rfl hl (by decide) rfl (fun ls hl => ?_)
  refine lv_iload_n hx hb dX8_init_48 rfl (lv_at hl 0 rfl) ?_
  refine lv_bipush (v := (6 : Int32)) hx hb dX8_init_49 (by decide) ?_
  refine lv_icmp_ge (tgt := 73) hx hb dX8_init_51 (by decide) (fun kk => ?_) (fun kk => ?_)
  · exact absurd kk (by decide)
  refine lv_aload_n hx hb dX8_init_54 rfl (lv_at hl 1 rfl) ?_
  refine k_get (v := .ref (ad (b + 147))) hE hW11 ((hJ11 _).mpr (Or.inl hbJ)) f_0_11 rfl inX8 3 (by decide) q247 rfl dX8_init_55 ?_
  refine lv_iload_n hx hb dX8_init_58 rfl (lv_at hl 0 rfl) ?_
  refine W_sized (fun hup => ?_)
  refine k_newO (z := s.heap.size + 57) (i := (b + 148)) (ci := 5) (fs := [.null, .int 0, .int 0]) hE hW11 hA (by omega) (had2 148 (Nat.le_of_ble_eq_true rfl) (Nat.le_of_ble_eq_true rfl)) (fun hh => by rcases (hJ11 _).mp hh with h1 | h1; exact hnew2 148 (Nat.le_of_ble_eq_true rfl) (Nat.le_of_ble_eq_true rfl) h1; omega) rfl inX6 tyX6 tyX6_ok q224 q226 q9 (fun j hj => by rcases (show j = 0 ∨ j = 1 ∨ j = 2 by omega) with rfl | rfl | rfl <;> rfl) (Nat.le_of_ble_eq_true rfl) (Nat.le_of_ble_eq_true rfl) dX8_init_59 (fun H hz2 hWn => ?_)
  have hzn : s.heap.size + 58 ≤ H.size := by omega
  clear hz hz2 hup
  have hz := hzn
  clear hzn
  clear hW11
  obtain ⟨J1, c, hJ12, f_0_12, f_147_12, f_148_12, g_1_12, g_136_12, g_142_12, hF12, hW12⟩ : ∃ (J' : List Nat) (c' : CF), (∀ i, i ∈ J' ↔ i ∈ J ∨ ((b < i ∧ i ≤ b + 45) ∨ (b + 136 ≤ i ∧ i ≤ b + 148))) ∧ c' b = .inr (7, [.ref (ad (b + 1)), .ref (ad (b + 136)), .ref (ad (b + 142)), .ref (ad (b + 147)), .null, .null]) ∧ c' (b + 147) = .inl (ct 4, 6, .inr (.inr (.inr (.inr (fun _ => none))))) ∧ c' (b + 148) = .inr (5, [.null, .int 0, .int 0]) ∧ StB ct J' ad c' (b + 1) st0 ∧ TxB ct J' ad c' (b + 136) tx0 ∧ KrB ct J' ad c' (b + 142) kr0 ∧ Fr c0 c' b 160 ∧ HW D J' ad c' (aA J ad s.heap.size) s.heap H locs := ⟨_, _, (fun i => by rw [List.mem_append, List.mem_singleton, hJ11 i]; by_cases hm : i ∈ J <;> simp only [hm, true_or, false_or, iff_true, or_true] <;> omega), (va_up_ne _ _ (by omega)).trans f_0_11, (va_up_ne _ _ (by omega)).trans f_147_11, va_up_self _ _ _, ((g_1_11.fr (Fr.rf.up (b := (b + 148)) (n := 1) (by omega) (by omega)) (by omega)).mono (fun i hi => List.mem_append_left _ hi)), ((g_136_11.fr (Fr.rf.up (b := (b + 148)) (n := 1) (by omega) (by omega)) (by omega)).mono (fun i hi => List.mem_append_left _ hi)), ((g_142_11.fr (Fr.rf.up (b := (b + 148)) (n := 1) (by omega) (by omega)) (by omega)).mono (fun i hi => List.mem_append_left _ hi)), hF11.up (by omega) (by omega), hWn⟩
  clear f_0_11 f_147_11 g_1_11 g_136_11 g_142_11 hJ11 hF11 hWn
  refine lv_dup hx hb dX8_init_62 rfl ?_
  refine W_sized (fun hup => ?_)
  have hHz : H.size = s.heap.size + 58 := by omega
  refine k_callIN (rest := [.ref (ad (b + 148)), .int (0 : Int32), .ref (ad (b + 147))]) hE hW12 (hW12.af hA) hl.1 (nX6_init ((hJ12 _).mpr (Or.inr (by omega))) (fun k h1 h2 hh => by rw [Nat.add_assoc] at hh; rcases (hJ12 _).mp hh with h3 | h3; exact hnew2 (148 + k) (by omega) (by omega) h3; omega) (fun k h1 h2 => by rw [Nat.add_assoc, had2 (148 + k) (by omega) (by omega)]; omega) f_148_12) q227 q228 rfl q9 q229 hd_X6_init.2 ⟨(Nat.le_of_ble_eq_true rfl), (Nat.le_of_ble_eq_true rfl)⟩ ⟨rfl, rfl⟩ rfl (Nat.le_of_ble_eq_true rfl) dX8_init_63 ⟨(Nat.le_of_ble_eq_true rfl), (Nat.le_of_ble_eq_true rfl)⟩ (fun J2 c1 H locs hP hz2 hWn => ?_)
  have hzn : s.heap.size + 59 ≤ H.size := by omega
  clear hz hz2 hup hHz
  have hz := hzn
  clear hzn
  clear hW12
  obtain ⟨J1, c, hJ13, f_0_13, f_147_13, g_1_13, g_136_13, g_142_13, g_148_13, hF13, hW13⟩ : ∃ (J' : List Nat) (c' : CF), (∀ i, i ∈ J' ↔ i ∈ J ∨ ((b < i ∧ i ≤ b + 45) ∨ (b + 136 ≤ i ∧ i ≤ b + 149))) ∧ c' b = .inr (7, [.ref (ad (b + 1)), .ref (ad (b + 136)), .ref (ad (b + 142)), .ref (ad (b + 147)), .null, .null]) ∧ c' (b + 147) = .inl (ct 4, 6, .inr (.inr (.inr (.inr (fun _ => none))))) ∧ StB ct J' ad c' (b + 1) st0 ∧ TxB ct J' ad c' (b + 136) tx0 ∧ KrB ct J' ad c' (b + 142) kr0 ∧ TpB ct J' ad c' (b + 148) tp0 ∧ Fr c0 c' b 160 ∧ HW D J' ad c' (aA J ad s.heap.size) s.heap H locs := ⟨_, _, (fun i => by rw [hP.1 i, hJ12 i]; by_cases hm : i ∈ J <;> simp only [hm, true_or, false_or, iff_true, or_true] <;> omega), (hP.2.2 _ (by omega)).trans f_0_12, (hP.2.2 _ (by omega)).trans f_147_12, ((g_1_12.fr hP.2.2 (by omega)).mono (fun i hi => (hP.1 i).mpr (Or.inl hi))), ((g_136_12.fr hP.2.2 (by omega)).mono (fun i hi => (hP.1 i).mpr (Or.inl hi))), ((g_142_12.fr hP.2.2 (by omega)).mono (fun i hi => (hP.1 i).mpr (Or.inl hi))), hP.2.1, hF12.trans (hP.2.2.wide (by omega) (by omega)), hWn⟩
  clear f_0_12 f_147_12 f_148_12 g_1_12 g_136_12 g_142_12 hP hJ12 hF12 hWn
  refine k_aast (t := 4) hE hW13.self ((hJ13 _).mpr (Or.inr (by omega))) f_147_13 g_148_13.o g_148_13.obj rfl rfl (by unfold vp_in; decide) dX8_init_66 (fun H locs hw1 => ?_)
  have hzn := Nat.le_trans hz hw1.2.2.1
  clear hz
  have hz := hzn
  clear hzn
  have hwn := hW13.trans hw1
  clear hW13 hw1
  have hW13 := hwn
  clear hwn
  obtain ⟨J1, c, hJ14, f_0_14, f_147_14, g_1_14, g_136_14, g_142_14, g_148_14, hF14, hW14⟩ : ∃ (J' : List Nat) (c' : CF), (∀ i, i ∈ J' ↔ i ∈ J ∨ ((b < i ∧ i ≤ b + 45) ∨ (b + 136 ≤ i ∧ i ≤ b + 149))) ∧ c' b = .inr (7, [.ref (ad (b + 1)), .ref (ad (b + 136)), .ref (ad (b + 142)), .ref (ad (b + 147)), .null, .null]) ∧ c' (b + 147) = .inl (ct 4, 6, .inr (.inr (.inr (.inr (va_up (fun _ => none) (0 : Int32).toNatClampNeg (some (ad (b + 148)))))))) ∧ StB ct J' ad c' (b + 1) st0 ∧ TxB ct J' ad c' (b + 136) tx0 ∧ KrB ct J' ad c' (b + 142) kr0 ∧ TpB ct J' ad c' (b + 148) tp0 ∧ Fr c0 c' b 160 ∧ HW D J' ad c' (aA J ad s.heap.size) s.heap H locs := ⟨_, _, hJ13, (va_up_ne _ _ (by omega)).trans f_0_13, va_up_self _ _ _, (g_1_13.fr (Fr.rf.up (b := (b + 147)) (n := 1) (by omega) (by omega)) (by omega)), (g_136_13.fr (Fr.rf.up (b := (b + 147)) (n := 1) (by omega) (by omega)) (by omega)), (g_142_13.fr (Fr.rf.up (b := (b + 147)) (n := 1) (by omega) (by omega)) (by omega)), (g_148_13.fr (Fr.rf.up (b := (b + 147)) (n := 1) (by omega) (by omega)) (by omega)), hF13.up (by omega) (by omega), hW13⟩
  clear f_0_13 f_147_13 g_1_13 g_136_13 g_142_13 g_148_13 hJ13 hF13 hW13
  refine lv_iinc (v := (1 : Int32)) (lv' := [(1, .int (1 : Int32)), (0, .ref (ad b))]) hx hb dX8_init_67 hl (k := 0) rfl (by decide) (by decide) rfl (fun ls hl => ?_)
  refine lv_goto (tgt := 48) hx hb dX8_init_70 (by decide) ?_
  refine lv_iload_n hx hb dX8_init_48 rfl (lv_at hl 0 rfl) ?_
  refine lv_bipush (v := (6 : Int32)) hx hb dX8_init_49 (by decide) ?_
  refine lv_icmp_ge (tgt := 73) hx hb dX8_init_51 (by decide) (fun kk => ?_) (fun kk => ?_)
  · exact absurd kk (by decide)
  refine lv_aload_n hx hb dX8_init_54 rfl (lv_at hl 1 rfl) ?_
  refine k_get (v := .ref (ad (b + 147))) hE hW14 ((hJ14 _).mpr (Or.inl hbJ)) f_0_14 rfl inX8 3 (by decide) q247 rfl dX8_init_55 ?_
  refine lv_iload_n hx hb dX8_init_58 rfl (lv_at hl 0 rfl) ?_
  refine W_sized (fun hup => ?_)
  refine k_newO (z := s.heap.size + 59) (i := (b + 150)) (ci := 5) (fs := [.null, .int 0, .int 0]) hE hW14 hA (by omega) (had2 150 (Nat.le_of_ble_eq_true rfl) (Nat.le_of_ble_eq_true rfl)) (fun hh => by rcases (hJ14 _).mp hh with h1 | h1; exact hnew2 150 (Nat.le_of_ble_eq_true rfl) (Nat.le_of_ble_eq_true rfl) h1; omega) rfl inX6 tyX6 tyX6_ok q224 q226 q9 (fun j hj => by rcases (show j = 0 ∨ j = 1 ∨ j = 2 by omega) with rfl | rfl | rfl <;> rfl) (Nat.le_of_ble_eq_true rfl) (Nat.le_of_ble_eq_true rfl) dX8_init_59 (fun H hz2 hWn => ?_)
  have hzn : s.heap.size + 60 ≤ H.size := by omega
  clear hz hz2 hup
  have hz := hzn
  clear hzn
  clear hW14
  obtain ⟨J1, c, hJ15, f_0_15, f_147_15, f_150_15, g_1_15, g_136_15, g_142_15, g_148_15, hF15, hW15⟩ : ∃ (J' : List Nat) (c' : CF), (∀ i, i ∈ J' ↔ i ∈ J ∨ ((b < i ∧ i ≤ b + 45) ∨ (b + 136 ≤ i ∧ i ≤ b + 150))) ∧ c' b = .inr (7, [.ref (ad (b + 1)), .ref (ad (b + 136)), .ref (ad (b + 142)), .ref (ad (b + 147)), .null, .null]) ∧ c' (b + 147) = .inl (ct 4, 6, .inr (.inr (.inr (.inr (va_up (fun _ => none) (0 : Int32).toNatClampNeg (some (ad (b + 148)))))))) ∧ c' (b + 150) = .inr (5, [.null, .int 0, .int 0]) ∧ StB ct J' ad c' (b + 1) st0 ∧ TxB ct J' ad c' (b + 136) tx0 ∧ KrB ct J' ad c' (b + 142) kr0 ∧ TpB ct J' ad c' (b + 148) tp0 ∧ Fr c0 c' b 160 ∧ HW D J' ad c' (aA J ad s.heap.size) s.heap H locs := ⟨_, _, (fun i => by rw [List.mem_append, List.mem_singleton, hJ14 i]; by_cases hm : i ∈ J <;> simp only [hm, true_or, false_or, iff_true, or_true] <;> omega), (va_up_ne _ _ (by omega)).trans f_0_14, (va_up_ne _ _ (by omega)).trans f_147_14, va_up_self _ _ _, ((g_1_14.fr (Fr.rf.up (b := (b + 150)) (n := 1) (by omega) (by omega)) (by omega)).mono (fun i hi => List.mem_append_left _ hi)), ((g_136_14.fr (Fr.rf.up (b := (b + 150)) (n := 1) (by omega) (by omega)) (by omega)).mono (fun i hi => List.mem_append_left _ hi)), ((g_142_14.fr (Fr.rf.up (b := (b + 150)) (n := 1) (by omega) (by omega)) (by omega)).mono (fun i hi => List.mem_append_left _ hi)), ((g_148_14.fr (Fr.rf.up (b := (b + 150)) (n := 1) (by omega) (by omega)) (by omega)).mono (fun i hi => List.mem_append_left _ hi)), hF14.up (by omega) (by omega), hWn⟩
  clear f_0_14 f_147_14 g_1_14 g_136_14 g_142_14 g_148_14 hJ14 hF14 hWn
  refine lv_dup hx hb dX8_init_62 rfl ?_
  refine W_sized (fun hup => ?_)
  have hHz : H.size = s.heap.size + 60 := by omega
  refine k_callIN (rest := [.ref (ad (b + 150)), .int (1 : Int32), .ref (ad (b + 147))]) hE hW15 (hW15.af hA) hl.1 (nX6_init ((hJ15 _).mpr (Or.inr (by omega))) (fun k h1 h2 hh => by rw [Nat.add_assoc] at hh; rcases (hJ15 _).mp hh with h3 | h3; exact hnew2 (150 + k) (by omega) (by omega) h3; omega) (fun k h1 h2 => by rw [Nat.add_assoc, had2 (150 + k) (by omega) (by omega)]; omega) f_150_15) q227 q228 rfl q9 q229 hd_X6_init.2 ⟨(Nat.le_of_ble_eq_true rfl), (Nat.le_of_ble_eq_true rfl)⟩ ⟨rfl, rfl⟩ rfl (Nat.le_of_ble_eq_true rfl) dX8_init_63 ⟨(Nat.le_of_ble_eq_true rfl), (Nat.le_of_ble_eq_true rfl)⟩ (fun J2 c1 H locs hP hz2 hWn => ?_)
  have hzn : s.heap.size + 61 ≤ H.size := by omega
  clear hz hz2 hup hHz
  have hz := hzn
  clear hzn
  clear hW15
  obtain ⟨J1, c, hJ16, f_0_16, f_147_16, g_1_16, g_136_16, g_142_16, g_148_16, g_150_16, hF16, hW16⟩ : ∃ (J' : List Nat) (c' : CF), (∀ i, i ∈ J' ↔ i ∈ J ∨ ((b < i ∧ i ≤ b + 45) ∨ (b + 136 ≤ i ∧ i ≤ b + 151))) ∧ c' b = .inr (7, [.ref (ad (b + 1)), .ref (ad (b + 136)), .ref (ad (b + 142)), .ref (ad (b + 147)), .null, .null]) ∧ c' (b + 147) = .inl (ct 4, 6, .inr (.inr (.inr (.inr (va_up (fun _ => none) (0 : Int32).toNatClampNeg (some (ad (b + 148)))))))) ∧ StB ct J' ad c' (b + 1) st0 ∧ TxB ct J' ad c' (b + 136) tx0 ∧ KrB ct J' ad c' (b + 142) kr0 ∧ TpB ct J' ad c' (b + 148) tp0 ∧ TpB ct J' ad c' (b + 150) tp0 ∧ Fr c0 c' b 160 ∧ HW D J' ad c' (aA J ad s.heap.size) s.heap H locs := ⟨_, _, (fun i => by rw [hP.1 i, hJ15 i]; by_cases hm : i ∈ J <;> simp only [hm, true_or, false_or, iff_true, or_true] <;> omega), (hP.2.2 _ (by omega)).trans f_0_15, (hP.2.2 _ (by omega)).trans f_147_15, ((g_1_15.fr hP.2.2 (by omega)).mono (fun i hi => (hP.1 i).mpr (Or.inl hi))), ((g_136_15.fr hP.2.2 (by omega)).mono (fun i hi => (hP.1 i).mpr (Or.inl hi))), ((g_142_15.fr hP.2.2 (by omega)).mono (fun i hi => (hP.1 i).mpr (Or.inl hi))), ((g_148_15.fr hP.2.2 (by omega)).mono (fun i hi => (hP.1 i).mpr (Or.inl hi))), hP.2.1, hF15.trans (hP.2.2.wide (by omega) (by omega)), hWn⟩
  clear f_0_15 f_147_15 f_150_15 g_1_15 g_136_15 g_142_15 g_148_15 hP hJ15 hF15 hWn
  refine k_aast (t := 4) hE hW16.self ((hJ16 _).mpr (Or.inr (by omega))) f_147_16 g_150_16.o g_150_16.obj rfl rfl (by unfold vp_in; decide) dX8_init_66 (fun H locs hw1 => ?_)
  have hzn := Nat.le_trans hz hw1.2.2.1
  clear hz
  have hz := hzn
  clear hzn
  have hwn := hW16.trans hw1
  clear hW16 hw1
  have hW16 := hwn
  clear hwn
  obtain ⟨J1, c, hJ17, f_0_17, f_147_17, g_1_17, g_136_17, g_142_17, g_148_17, g_150_17, hF17, hW17⟩ : ∃ (J' : List Nat) (c' : CF), (∀ i, i ∈ J' ↔ i ∈ J ∨ ((b < i ∧ i ≤ b + 45) ∨ (b + 136 ≤ i ∧ i ≤ b + 151))) ∧ c' b = .inr (7, [.ref (ad (b + 1)), .ref (ad (b + 136)), .ref (ad (b + 142)), .ref (ad (b + 147)), .null, .null]) ∧ c' (b + 147) = .inl (ct 4, 6, .inr (.inr (.inr (.inr (va_up (va_up (fun _ => none) (0 : Int32).toNatClampNeg (some (ad (b + 148)))) (1 : Int32).toNatClampNeg (some (ad (b + 150)))))))) ∧ StB ct J' ad c' (b + 1) st0 ∧ TxB ct J' ad c' (b + 136) tx0 ∧ KrB ct J' ad c' (b + 142) kr0 ∧ TpB ct J' ad c' (b + 148) tp0 ∧ TpB ct J' ad c' (b + 150) tp0 ∧ Fr c0 c' b 160 ∧ HW D J' ad c' (aA J ad s.heap.size) s.heap H locs := ⟨_, _, hJ16, (va_up_ne _ _ (by omega)).trans f_0_16, va_up_self _ _ _, (g_1_16.fr (Fr.rf.up (b := (b + 147)) (n := 1) (by omega) (by omega)) (by omega)), (g_136_16.fr (Fr.rf.up (b := (b + 147)) (n := 1) (by omega) (by omega)) (by omega)), (g_142_16.fr (Fr.rf.up (b := (b + 147)) (n := 1) (by omega) (by omega)) (by omega)), (g_148_16.fr (Fr.rf.up (b := (b + 147)) (n := 1) (by omega) (by omega)) (by omega)), (g_150_16.fr (Fr.rf.up (b := (b + 147)) (n := 1) (by omega) (by omega)) (by omega)), hF16.up (by omega) (by omega), hW16⟩
  clear f_0_16 f_147_16 g_1_16 g_136_16 g_142_16 g_148_16 g_150_16 hJ16 hF16 hW16
  refine lv_iinc (v := (2 : Int32)) (lv' := [(1, .int (2 : Int32)), (0, .ref (ad b))]) hx hb dX8_init_67 hl (k := 0) rfl (by decide) (by decide) rfl (fun ls hl => ?_)
  refine lv_goto (tgt := 48) hx hb dX8_init_70 (by decide) ?_
  refine lv_iload_n hx hb dX8_init_48 rfl (lv_at hl 0 rfl) ?_
  refine lv_bipush (v := (6 : Int32)) hx hb dX8_init_49 (by decide) ?_
  refine lv_icmp_ge (tgt := 73) hx hb dX8_init_51 (by decide) (fun kk => ?_) (fun kk => ?_)
  · exact absurd kk (by decide)
  refine lv_aload_n hx hb dX8_init_54 rfl (lv_at hl 1 rfl) ?_
  refine k_get (v := .ref (ad (b + 147))) hE hW17 ((hJ17 _).mpr (Or.inl hbJ)) f_0_17 rfl inX8 3 (by decide) q247 rfl dX8_init_55 ?_
  refine lv_iload_n hx hb dX8_init_58 rfl (lv_at hl 0 rfl) ?_
  refine W_sized (fun hup => ?_)
  refine k_newO (z := s.heap.size + 61) (i := (b + 152)) (ci := 5) (fs := [.null, .int 0, .int 0]) hE hW17 hA (by omega) (had2 152 (Nat.le_of_ble_eq_true rfl) (Nat.le_of_ble_eq_true rfl)) (fun hh => by rcases (hJ17 _).mp hh with h1 | h1; exact hnew2 152 (Nat.le_of_ble_eq_true rfl) (Nat.le_of_ble_eq_true rfl) h1; omega) rfl inX6 tyX6 tyX6_ok q224 q226 q9 (fun j hj => by rcases (show j = 0 ∨ j = 1 ∨ j = 2 by omega) with rfl | rfl | rfl <;> rfl) (Nat.le_of_ble_eq_true rfl) (Nat.le_of_ble_eq_true rfl) dX8_init_59 (fun H hz2 hWn => ?_)
  have hzn : s.heap.size + 62 ≤ H.size := by omega
  clear hz hz2 hup
  have hz := hzn
  clear hzn
  clear hW17
  obtain ⟨J1, c, hJ18, f_0_18, f_147_18, f_152_18, g_1_18, g_136_18, g_142_18, g_148_18, g_150_18, hF18, hW18⟩ : ∃ (J' : List Nat) (c' : CF), (∀ i, i ∈ J' ↔ i ∈ J ∨ ((b < i ∧ i ≤ b + 45) ∨ (b + 136 ≤ i ∧ i ≤ b + 152))) ∧ c' b = .inr (7, [.ref (ad (b + 1)), .ref (ad (b + 136)), .ref (ad (b + 142)), .ref (ad (b + 147)), .null, .null]) ∧ c' (b + 147) = .inl (ct 4, 6, .inr (.inr (.inr (.inr (va_up (va_up (fun _ => none) (0 : Int32).toNatClampNeg (some (ad (b + 148)))) (1 : Int32).toNatClampNeg (some (ad (b + 150)))))))) ∧ c' (b + 152) = .inr (5, [.null, .int 0, .int 0]) ∧ StB ct J' ad c' (b + 1) st0 ∧ TxB ct J' ad c' (b + 136) tx0 ∧ KrB ct J' ad c' (b + 142) kr0 ∧ TpB ct J' ad c' (b + 148) tp0 ∧ TpB ct J' ad c' (b + 150) tp0 ∧ Fr c0 c' b 160 ∧ HW D J' ad c' (aA J ad s.heap.size) s.heap H locs := ⟨_, _, (fun i => by rw [List.mem_append, List.mem_singleton, hJ17 i]; by_cases hm : i ∈ J <;> simp only [hm, true_or, false_or, iff_true, or_true] <;> omega), (va_up_ne _ _ (by omega)).trans f_0_17, (va_up_ne _ _ (by omega)).trans f_147_17, va_up_self _ _ _, ((g_1_17.fr (Fr.rf.up (b := (b + 152)) (n := 1) (by omega) (by omega)) (by omega)).mono (fun i hi => List.mem_append_left _ hi)), ((g_136_17.fr (Fr.rf.up (b := (b + 152)) (n := 1) (by omega) (by omega)) (by omega)).mono (fun i hi => List.mem_append_left _ hi)), ((g_142_17.fr (Fr.rf.up (b := (b + 152)) (n := 1) (by omega) (by omega)) (by omega)).mono (fun i hi => List.mem_append_left _ hi)), ((g_148_17.fr (Fr.rf.up (b := (b + 152)) (n := 1) (by omega) (by omega)) (by omega)).mono (fun i hi => List.mem_append_left _ hi)), ((g_150_17.fr (Fr.rf.up (b := (b + 152)) (n := 1) (by omega) (by omega)) (by omega)).mono (fun i hi => List.mem_append_left _ hi)), hF17.up (by omega) (by omega), hWn⟩
  clear f_0_17 f_147_17 g_1_17 g_136_17 g_142_17 g_148_17 g_150_17 hJ17 hF17 hWn
  refine lv_dup hx hb dX8_init_62 rfl ?_
  refine W_sized (fun hup => ?_)
  have hHz : H.size = s.heap.size + 62 := by omega
  refine k_callIN (rest := [.ref (ad (b + 152)), .int (2 : Int32), .ref (ad (b + 147))]) hE hW18 (hW18.af hA) hl.1 (nX6_init ((hJ18 _).mpr (Or.inr (by omega))) (fun k h1 h2 hh => by rw [Nat.add_assoc] at hh; rcases (hJ18 _).mp hh with h3 | h3; exact hnew2 (152 + k) (by omega) (by omega) h3; omega) (fun k h1 h2 => by rw [Nat.add_assoc, had2 (152 + k) (by omega) (by omega)]; omega) f_152_18) q227 q228 rfl q9 q229 hd_X6_init.2 ⟨(Nat.le_of_ble_eq_true rfl), (Nat.le_of_ble_eq_true rfl)⟩ ⟨rfl, rfl⟩ rfl (Nat.le_of_ble_eq_true rfl) dX8_init_63 ⟨(Nat.le_of_ble_eq_true rfl), (Nat.le_of_ble_eq_true rfl)⟩ (fun J2 c1 H locs hP hz2 hWn => ?_)
  have hzn : s.heap.size + 63 ≤ H.size := by omega
  clear hz hz2 hup hHz
  have hz := hzn
  clear hzn
  clear hW18
  obtain ⟨J1, c, hJ19, f_0_19, f_147_19, g_1_19, g_136_19, g_142_19, g_148_19, g_150_19, g_152_19, hF19, hW19⟩ : ∃ (J' : List Nat) (c' : CF), (∀ i, i ∈ J' ↔ i ∈ J ∨ ((b < i ∧ i ≤ b + 45) ∨ (b + 136 ≤ i ∧ i ≤ b + 153))) ∧ c' b = .inr (7, [.ref (ad (b + 1)), .ref (ad (b + 136)), .ref (ad (b + 142)), .ref (ad (b + 147)), .null, .null]) ∧ c' (b + 147) = .inl (ct 4, 6, .inr (.inr (.inr (.inr (va_up (va_up (fun _ => none) (0 : Int32).toNatClampNeg (some (ad (b + 148)))) (1 : Int32).toNatClampNeg (some (ad (b + 150)))))))) ∧ StB ct J' ad c' (b + 1) st0 ∧ TxB ct J' ad c' (b + 136) tx0 ∧ KrB ct J' ad c' (b + 142) kr0 ∧ TpB ct J' ad c' (b + 148) tp0 ∧ TpB ct J' ad c' (b + 150) tp0 ∧ TpB ct J' ad c' (b + 152) tp0 ∧ Fr c0 c' b 160 ∧ HW D J' ad c' (aA J ad s.heap.size) s.heap H locs := ⟨_, _, (fun i => by rw [hP.1 i, hJ18 i]; by_cases hm : i ∈ J <;> simp only [hm, true_or, false_or, iff_true, or_true] <;> omega), (hP.2.2 _ (by omega)).trans f_0_18, (hP.2.2 _ (by omega)).trans f_147_18, ((g_1_18.fr hP.2.2 (by omega)).mono (fun i hi => (hP.1 i).mpr (Or.inl hi))), ((g_136_18.fr hP.2.2 (by omega)).mono (fun i hi => (hP.1 i).mpr (Or.inl hi))), ((g_142_18.fr hP.2.2 (by omega)).mono (fun i hi => (hP.1 i).mpr (Or.inl hi))), ((g_148_18.fr hP.2.2 (by omega)).mono (fun i hi => (hP.1 i).mpr (Or.inl hi))), ((g_150_18.fr hP.2.2 (by omega)).mono (fun i hi => (hP.1 i).mpr (Or.inl hi))), hP.2.1, hF18.trans (hP.2.2.wide (by omega) (by omega)), hWn⟩
  clear f_0_18 f_147_18 f_152_18 g_1_18 g_136_18 g_142_18 g_148_18 g_150_18 hP hJ18 hF18 hWn
  refine k_aast (t := 4) hE hW19.self ((hJ19 _).mpr (Or.inr (by omega))) f_147_19 g_152_19.o g_152_19.obj rfl rfl (by unfold vp_in; decide) dX8_init_66 (fun H locs hw1 => ?_)
  have hzn := Nat.le_trans hz hw1.2.2.1
  clear hz
  have hz := hzn
  clear hzn
  have hwn := hW19.trans hw1
  clear hW19 hw1
  have hW19 := hwn
  clear hwn
  obtain ⟨J1, c, hJ20, f_0_20, f_147_20, g_1_20, g_136_20, g_142_20, g_148_20, g_150_20, g_152_20, hF20, hW20⟩ : ∃ (J' : List Nat) (c' : CF), (∀ i, i ∈ J' ↔ i ∈ J ∨ ((b < i ∧ i ≤ b + 45) ∨ (b + 136 ≤ i ∧ i ≤ b + 153))) ∧ c' b = .inr (7, [.ref (ad (b + 1)), .ref (ad (b + 136)), .ref (ad (b + 142)), .ref (ad (b + 147)), .null, .null]) ∧ c' (b + 147) = .inl (ct 4, 6, .inr (.inr (.inr (.inr (va_up (va_up (va_up (fun _ => none) (0 : Int32).toNatClampNeg (some (ad (b + 148)))) (1 : Int32).toNatClampNeg (some (ad (b + 150)))) (2 : Int32).toNatClampNeg (some (ad (b + 152)))))))) ∧ StB ct J' ad c' (b + 1) st0 ∧ TxB ct J' ad c' (b + 136) tx0 ∧ KrB ct J' ad c' (b + 142) kr0 ∧ TpB ct J' ad c' (b + 148) tp0 ∧ TpB ct J' ad c' (b + 150) tp0 ∧ TpB ct J' ad c' (b + 152) tp0 ∧ Fr c0 c' b 160 ∧ HW D J' ad c' (aA J ad s.heap.size) s.heap H locs := ⟨_, _, hJ19, (va_up_ne _ _ (by omega)).trans f_0_19, va_up_self _ _ _, (g_1_19.fr (Fr.rf.up (b := (b + 147)) (n := 1) (by omega) (by omega)) (by omega)), (g_136_19.fr (Fr.rf.up (b := (b + 147)) (n := 1) (by omega) (by omega)) (by omega)), (g_142_19.fr (Fr.rf.up (b := (b + 147)) (n := 1) (by omega) (by omega)) (by omega)), (g_148_19.fr (Fr.rf.up (b := (b + 147)) (n := 1) (by omega) (by omega)) (by omega)), (g_150_19.fr (Fr.rf.up (b := (b + 147)) (n := 1) (by omega) (by omega)) (by omega)), (g_152_19.fr (Fr.rf.up (b := (b + 147)) (n := 1) (by omega) (by omega)) (by omega)), hF19.up (by omega) (by omega), hW19⟩
  clear f_0_19 f_147_19 g_1_19 g_136_19 g_142_19 g_148_19 g_150_19 g_152_19 hJ19 hF19 hW19
  refine lv_iinc (v := (3 : Int32)) (lv' := [(1, .int (3 : Int32)), (0, .ref (ad b))]) hx hb dX8_init_67 hl (k := 0) rfl (by decide) (by decide) rfl (fun ls hl => ?_)
  refine lv_goto (tgt := 48) hx hb dX8_init_70 (by decide) ?_
  refine lv_iload_n hx hb dX8_init_48 rfl (lv_at hl 0 rfl) ?_
  refine lv_bipush (v := (6 : Int32)) hx hb dX8_init_49 (by decide) ?_
  refine lv_icmp_ge (tgt := 73) hx hb dX8_init_51 (by decide) (fun kk => ?_) (fun kk => ?_)
  · exact absurd kk (by decide)
  refine lv_aload_n hx hb dX8_init_54 rfl (lv_at hl 1 rfl) ?_
  refine k_get (v := .ref (ad (b + 147))) hE hW20 ((hJ20 _).mpr (Or.inl hbJ)) f_0_20 rfl inX8 3 (by decide) q247 rfl dX8_init_55 ?_
  refine lv_iload_n hx hb dX8_init_58 rfl (lv_at hl 0 rfl) ?_
  refine W_sized (fun hup => ?_)
  refine k_newO (z := s.heap.size + 63) (i := (b + 154)) (ci := 5) (fs := [.null, .int 0, .int 0]) hE hW20 hA (by omega) (had2 154 (Nat.le_of_ble_eq_true rfl) (Nat.le_of_ble_eq_true rfl)) (fun hh => by rcases (hJ20 _).mp hh with h1 | h1; exact hnew2 154 (Nat.le_of_ble_eq_true rfl) (Nat.le_of_ble_eq_true rfl) h1; omega) rfl inX6 tyX6 tyX6_ok q224 q226 q9 (fun j hj => by rcases (show j = 0 ∨ j = 1 ∨ j = 2 by omega) with rfl | rfl | rfl <;> rfl) (Nat.le_of_ble_eq_true rfl) (Nat.le_of_ble_eq_true rfl) dX8_init_59 (fun H hz2 hWn => ?_)
  have hzn : s.heap.size + 64 ≤ H.size := by omega
  clear hz hz2 hup
  have hz := hzn
  clear hzn
  clear hW20
  obtain ⟨J1, c, hJ21, f_0_21, f_147_21, f_154_21, g_1_21, g_136_21, g_142_21, g_148_21, g_150_21, g_152_21, hF21, hW21⟩ : ∃ (J' : List Nat) (c' : CF), (∀ i, i ∈ J' ↔ i ∈ J ∨ ((b < i ∧ i ≤ b + 45) ∨ (b + 136 ≤ i ∧ i ≤ b + 154))) ∧ c' b = .inr (7, [.ref (ad (b + 1)), .ref (ad (b + 136)), .ref (ad (b + 142)), .ref (ad (b + 147)), .null, .null]) ∧ c' (b + 147) = .inl (ct 4, 6, .inr (.inr (.inr (.inr (va_up (va_up (va_up (fun _ => none) (0 : Int32).toNatClampNeg (some (ad (b + 148)))) (1 : Int32).toNatClampNeg (some (ad (b + 150)))) (2 : Int32).toNatClampNeg (some (ad (b + 152)))))))) ∧ c' (b + 154) = .inr (5, [.null, .int 0, .int 0]) ∧ StB ct J' ad c' (b + 1) st0 ∧ TxB ct J' ad c' (b + 136) tx0 ∧ KrB ct J' ad c' (b + 142) kr0 ∧ TpB ct J' ad c' (b + 148) tp0 ∧ TpB ct J' ad c' (b + 150) tp0 ∧ TpB ct J' ad c' (b + 152) tp0 ∧ Fr c0 c' b 160 ∧ HW D J' ad c' (aA J ad s.heap.size) s.heap H locs := ⟨_, _, (fun i => by rw [List.mem_append, List.mem_singleton, hJ20 i]; by_cases hm : i ∈ J <;> simp only [hm, true_or, false_or, iff_true, or_true] <;> omega), (va_up_ne _ _ (by omega)).trans f_0_20, (va_up_ne _ _ (by omega)).trans f_147_20, va_up_self _ _ _, ((g_1_20.fr (Fr.rf.up (b := (b + 154)) (n := 1) (by omega) (by omega)) (by omega)).mono (fun i hi => List.mem_append_left _ hi)), ((g_136_20.fr (Fr.rf.up (b := (b + 154)) (n := 1) (by omega) (by omega)) (by omega)).mono (fun i hi => List.mem_append_left _ hi)), ((g_142_20.fr (Fr.rf.up (b := (b + 154)) (n := 1) (by omega) (by omega)) (by omega)).mono (fun i hi => List.mem_append_left _ hi)), ((g_148_20.fr (Fr.rf.up (b := (b + 154)) (n := 1) (by omega) (by omega)) (by omega)).mono (fun i hi => List.mem_append_left _ hi)), ((g_150_20.fr (Fr.rf.up (b := (b + 154)) (n := 1) (by omega) (by omega)) (by omega)).mono (fun i hi => List.mem_append_left _ hi)), ((g_152_20.fr (Fr.rf.up (b := (b + 154)) (n := 1) (by omega) (by omega)) (by omega)).mono (fun i hi => List.mem_append_left _ hi)), hF20.up (by omega) (by omega), hWn⟩
  clear f_0_20 f_147_20 g_1_20 g_136_20 g_142_20 g_148_20 g_150_20 g_152_20 hJ20 hF20 hWn
  refine lv_dup hx hb dX8_init_62 rfl ?_
  refine W_sized (fun hup => ?_)
  have hHz : H.size = s.heap.size + 64 := by omega
  refine k_callIN (rest := [.ref (ad (b + 154)), .int (3 : Int32), .ref (ad (b + 147))]) hE hW21 (hW21.af hA) hl.1 (nX6_init ((hJ21 _).mpr (Or.inr (by omega))) (fun k h1 h2 hh => by rw [Nat.add_assoc] at hh; rcases (hJ21 _).mp hh with h3 | h3; exact hnew2 (154 + k) (by omega) (by omega) h3; omega) (fun k h1 h2 => by rw [Nat.add_assoc, had2 (154 + k) (by omega) (by omega)]; omega) f_154_21) q227 q228 rfl q9 q229 hd_X6_init.2 ⟨(Nat.le_of_ble_eq_true rfl), (Nat.le_of_ble_eq_true rfl)⟩ ⟨rfl, rfl⟩ rfl (Nat.le_of_ble_eq_true rfl) dX8_init_63 ⟨(Nat.le_of_ble_eq_true rfl), (Nat.le_of_ble_eq_true rfl)⟩ (fun J2 c1 H locs hP hz2 hWn => ?_)
  have hzn : s.heap.size + 65 ≤ H.size := by omega
  clear hz hz2 hup hHz
  have hz := hzn
  clear hzn
  clear hW21
  obtain ⟨J1, c, hJ22, f_0_22, f_147_22, g_1_22, g_136_22, g_142_22, g_148_22, g_150_22, g_152_22, g_154_22, hF22, hW22⟩ : ∃ (J' : List Nat) (c' : CF), (∀ i, i ∈ J' ↔ i ∈ J ∨ ((b < i ∧ i ≤ b + 45) ∨ (b + 136 ≤ i ∧ i ≤ b + 155))) ∧ c' b = .inr (7, [.ref (ad (b + 1)), .ref (ad (b + 136)), .ref (ad (b + 142)), .ref (ad (b + 147)), .null, .null]) ∧ c' (b + 147) = .inl (ct 4, 6, .inr (.inr (.inr (.inr (va_up (va_up (va_up (fun _ => none) (0 : Int32).toNatClampNeg (some (ad (b + 148)))) (1 : Int32).toNatClampNeg (some (ad (b + 150)))) (2 : Int32).toNatClampNeg (some (ad (b + 152)))))))) ∧ StB ct J' ad c' (b + 1) st0 ∧ TxB ct J' ad c' (b + 136) tx0 ∧ KrB ct J' ad c' (b + 142) kr0 ∧ TpB ct J' ad c' (b + 148) tp0 ∧ TpB ct J' ad c' (b + 150) tp0 ∧ TpB ct J' ad c' (b + 152) tp0 ∧ TpB ct J' ad c' (b + 154) tp0 ∧ Fr c0 c' b 160 ∧ HW D J' ad c' (aA J ad s.heap.size) s.heap H locs := ⟨_, _, (fun i => by rw [hP.1 i, hJ21 i]; by_cases hm : i ∈ J <;> simp only [hm, true_or, false_or, iff_true, or_true] <;> omega), (hP.2.2 _ (by omega)).trans f_0_21, (hP.2.2 _ (by omega)).trans f_147_21, ((g_1_21.fr hP.2.2 (by omega)).mono (fun i hi => (hP.1 i).mpr (Or.inl hi))), ((g_136_21.fr hP.2.2 (by omega)).mono (fun i hi => (hP.1 i).mpr (Or.inl hi))), ((g_142_21.fr hP.2.2 (by omega)).mono (fun i hi => (hP.1 i).mpr (Or.inl hi))), ((g_148_21.fr hP.2.2 (by omega)).mono (fun i hi => (hP.1 i).mpr (Or.inl hi))), ((g_150_21.fr hP.2.2 (by omega)).mono (fun i hi => (hP.1 i).mpr (Or.inl hi))), ((g_152_21.fr hP.2.2 (by omega)).mono (fun i hi => (hP.1 i).mpr (Or.inl hi))), hP.2.1, hF21.trans (hP.2.2.wide (by omega) (by omega)), hWn⟩
  clear f_0_21 f_147_21 f_154_21 g_1_21 g_136_21 g_142_21 g_148_21 g_150_21 g_152_21 hP hJ21 hF21 hWn
  refine k_aast (t := 4) hE hW22.self ((hJ22 _).mpr (Or.inr (by omega))) f_147_22 g_154_22.o g_154_22.obj rfl rfl (by unfold vp_in; decide) dX8_init_66 (fun H locs hw1 => ?_)
  have hzn := Nat.le_trans hz hw1.2.2.1
  clear hz
  have hz := hzn
  clear hzn
  have hwn := hW22.trans hw1
  clear hW22 hw1
  have hW22 := hwn
  clear hwn
  obtain ⟨J1, c, hJ23, f_0_23, f_147_23, g_1_23, g_136_23, g_142_23, g_148_23, g_150_23, g_152_23, g_154_23, hF23, hW23⟩ : ∃ (J' : List Nat) (c' : CF), (∀ i, i ∈ J' ↔ i ∈ J ∨ ((b < i ∧ i ≤ b + 45) ∨ (b + 136 ≤ i ∧ i ≤ b + 155))) ∧ c' b = .inr (7, [.ref (ad (b + 1)), .ref (ad (b + 136)), .ref (ad (b + 142)), .ref (ad (b + 147)), .null, .null]) ∧ c' (b + 147) = .inl (ct 4, 6, .inr (.inr (.inr (.inr (va_up (va_up (va_up (va_up (fun _ => none) (0 : Int32).toNatClampNeg (some (ad (b + 148)))) (1 : Int32).toNatClampNeg (some (ad (b + 150)))) (2 : Int32).toNatClampNeg (some (ad (b + 152)))) (3 : Int32).toNatClampNeg (some (ad (b + 154)))))))) ∧ StB ct J' ad c' (b + 1) st0 ∧ TxB ct J' ad c' (b + 136) tx0 ∧ KrB ct J' ad c' (b + 142) kr0 ∧ TpB ct J' ad c' (b + 148) tp0 ∧ TpB ct J' ad c' (b + 150) tp0 ∧ TpB ct J' ad c' (b + 152) tp0 ∧ TpB ct J' ad c' (b + 154) tp0 ∧ Fr c0 c' b 160 ∧ HW D J' ad c' (aA J ad s.heap.size) s.heap H locs := ⟨_, _, hJ22, (va_up_ne _ _ (by omega)).trans f_0_22, va_up_self _ _ _, (g_1_22.fr (Fr.rf.up (b := (b + 147)) (n := 1) (by omega) (by omega)) (by omega)), (g_136_22.fr (Fr.rf.up (b := (b + 147)) (n := 1) (by omega) (by omega)) (by omega)), (g_142_22.fr (Fr.rf.up (b := (b + 147)) (n := 1) (by omega) (by omega)) (by omega)), (g_148_22.fr (Fr.rf.up (b := (b + 147)) (n := 1) (by omega) (by omega)) (by omega)), (g_150_22.fr (Fr.rf.up (b := (b + 147)) (n := 1) (by omega) (by omega)) (by omega)), (g_152_22.fr (Fr.rf.up (b := (b + 147)) (n := 1) (by omega) (by omega)) (by omega)), (g_154_22.fr (Fr.rf.up (b := (b + 147)) (n := 1) (by omega) (by omega)) (by omega)), hF22.up (by omega) (by omega), hW22⟩
  clear f_0_22 f_147_22 g_1_22 g_136_22 g_142_22 g_148_22 g_150_22 g_152_22 g_154_22 hJ22 hF22 hW22
  refine lv_iinc (v := (4 : Int32)) (lv' := [(1, .int (4 : Int32)), (0, .ref (ad b))]) hx hb dX8_init_67 hl (k := 0) rfl (by decide) (by decide) rfl (fun ls hl => ?_)
  refine lv_goto (tgt := 48) hx hb dX8_init_70 (by decide) ?_
  refine lv_iload_n hx hb dX8_init_48 rfl (lv_at hl 0 rfl) ?_
  refine lv_bipush (v := (6 : Int32)) hx hb dX8_init_49 (by decide) ?_
  refine lv_icmp_ge (tgt := 73) hx hb dX8_init_51 (by decide) (fun kk => ?_) (fun kk => ?_)
  · exact absurd kk (by decide)
  refine lv_aload_n hx hb dX8_init_54 rfl (lv_at hl 1 rfl) ?_
  refine k_get (v := .ref (ad (b + 147))) hE hW23 ((hJ23 _).mpr (Or.inl hbJ)) f_0_23 rfl inX8 3 (by decide) q247 rfl dX8_init_55 ?_
  refine lv_iload_n hx hb dX8_init_58 rfl (lv_at hl 0 rfl) ?_
  refine W_sized (fun hup => ?_)
  refine k_newO (z := s.heap.size + 65) (i := (b + 156)) (ci := 5) (fs := [.null, .int 0, .int 0]) hE hW23 hA (by omega) (had2 156 (Nat.le_of_ble_eq_true rfl) (Nat.le_of_ble_eq_true rfl)) (fun hh => by rcases (hJ23 _).mp hh with h1 | h1; exact hnew2 156 (Nat.le_of_ble_eq_true rfl) (Nat.le_of_ble_eq_true rfl) h1; omega) rfl inX6 tyX6 tyX6_ok q224 q226 q9 (fun j hj => by rcases (show j = 0 ∨ j = 1 ∨ j = 2 by omega) with rfl | rfl | rfl <;> rfl) (Nat.le_of_ble_eq_true rfl) (Nat.le_of_ble_eq_true rfl) dX8_init_59 (fun H hz2 hWn => ?_)
  have hzn : s.heap.size + 66 ≤ H.size := by omega
  clear hz hz2 hup
  have hz := hzn
  clear hzn
  clear hW23
  obtain ⟨J1, c, hJ24, f_0_24, f_147_24, f_156_24, g_1_24, g_136_24, g_142_24, g_148_24, g_150_24, g_152_24, g_154_24, hF24, hW24⟩ : ∃ (J' : List Nat) (c' : CF), (∀ i, i ∈ J' ↔ i ∈ J ∨ ((b < i ∧ i ≤ b + 45) ∨ (b + 136 ≤ i ∧ i ≤ b + 156))) ∧ c' b = .inr (7, [.ref (ad (b + 1)), .ref (ad (b + 136)), .ref (ad (b + 142)), .ref (ad (b + 147)), .null, .null]) ∧ c' (b + 147) = .inl (ct 4, 6, .inr (.inr (.inr (.inr (va_up (va_up (va_up (va_up (fun _ => none) (0 : Int32).toNatClampNeg (some (ad (b + 148)))) (1 : Int32).toNatClampNeg (some (ad (b + 150)))) (2 : Int32).toNatClampNeg (some (ad (b + 152)))) (3 : Int32).toNatClampNeg (some (ad (b + 154)))))))) ∧ c' (b + 156) = .inr (5, [.null, .int 0, .int 0]) ∧ StB ct J' ad c' (b + 1) st0 ∧ TxB ct J' ad c' (b + 136) tx0 ∧ KrB ct J' ad c' (b + 142) kr0 ∧ TpB ct J' ad c' (b + 148) tp0 ∧ TpB ct J' ad c' (b + 150) tp0 ∧ TpB ct J' ad c' (b + 152) tp0 ∧ TpB ct J' ad c' (b + 154) tp0 ∧ Fr c0 c' b 160 ∧ HW D J' ad c' (aA J ad s.heap.size) s.heap H locs := ⟨_, _, (fun i => by rw [List.mem_append, List.mem_singleton, hJ23 i]; by_cases hm : i ∈ J <;> simp only [hm, true_or, false_or, iff_true, or_true] <;> omega), (va_up_ne _ _ (by omega)).trans f_0_23, (va_up_ne _ _ (by omega)).trans f_147_23, va_up_self _ _ _, ((g_1_23.fr (Fr.rf.up (b := (b + 156)) (n := 1) (by omega) (by omega)) (by omega)).mono (fun i hi => List.mem_append_left _ hi)), ((g_136_23.fr (Fr.rf.up (b := (b + 156)) (n := 1) (by omega) (by omega)) (by omega)).mono (fun i hi => List.mem_append_left _ hi)), ((g_142_23.fr (Fr.rf.up (b := (b + 156)) (n := 1) (by omega) (by omega)) (by omega)).mono (fun i hi => List.mem_append_left _ hi)), ((g_148_23.fr (Fr.rf.up (b := (b + 156)) (n := 1) (by omega) (by omega)) (by omega)).mono (fun i hi => List.mem_append_left _ hi)), ((g_150_23.fr (Fr.rf.up (b := (b + 156)) (n := 1) (by omega) (by omega)) (by omega)).mono (fun i hi => List.mem_append_left _ hi)), ((g_152_23.fr (Fr.rf.up (b := (b + 156)) (n := 1) (by omega) (by omega)) (by omega)).mono (fun i hi => List.mem_append_left _ hi)), ((g_154_23.fr (Fr.rf.up (b := (b + 156)) (n := 1) (by omega) (by omega)) (by omega)).mono (fun i hi => List.mem_append_left _ hi)), hF23.up (by omega) (by omega), hWn⟩
  clear f_0_23 f_147_23 g_1_23 g_136_23 g_142_23 g_148_23 g_150_23 g_152_23 g_154_23 hJ23 hF23 hWn
  refine lv_dup hx hb dX8_init_62 rfl ?_
  refine W_sized (fun hup => ?_)
  have hHz : H.size = s.heap.size + 66 := by omega
  refine k_callIN (rest := [.ref (ad (b + 156)), .int (4 : Int32), .ref (ad (b + 147))]) hE hW24 (hW24.af hA) hl.1 (nX6_init ((hJ24 _).mpr (Or.inr (by omega))) (fun k h1 h2 hh => by rw [Nat.add_assoc] at hh; rcases (hJ24 _).mp hh with h3 | h3; exact hnew2 (156 + k) (by omega) (by omega) h3; omega) (fun k h1 h2 => by rw [Nat.add_assoc, had2 (156 + k) (by omega) (by omega)]; omega) f_156_24) q227 q228 rfl q9 q229 hd_X6_init.2 ⟨(Nat.le_of_ble_eq_true rfl), (Nat.le_of_ble_eq_true rfl)⟩ ⟨rfl, rfl⟩ rfl (Nat.le_of_ble_eq_true rfl) dX8_init_63 ⟨(Nat.le_of_ble_eq_true rfl), (Nat.le_of_ble_eq_true rfl)⟩ (fun J2 c1 H locs hP hz2 hWn => ?_)
  have hzn : s.heap.size + 67 ≤ H.size := by omega
  clear hz hz2 hup hHz
  have hz := hzn
  clear hzn
  clear hW24
  obtain ⟨J1, c, hJ25, f_0_25, f_147_25, g_1_25, g_136_25, g_142_25, g_148_25, g_150_25, g_152_25, g_154_25, g_156_25, hF25, hW25⟩ : ∃ (J' : List Nat) (c' : CF), (∀ i, i ∈ J' ↔ i ∈ J ∨ ((b < i ∧ i ≤ b + 45) ∨ (b + 136 ≤ i ∧ i ≤ b + 157))) ∧ c' b = .inr (7, [.ref (ad (b + 1)), .ref (ad (b + 136)), .ref (ad (b + 142)), .ref (ad (b + 147)), .null, .null]) ∧ c' (b + 147) = .inl (ct 4, 6, .inr (.inr (.inr (.inr (va_up (va_up (va_up (va_up (fun _ => none) (0 : Int32).toNatClampNeg (some (ad (b + 148)))) (1 : Int32).toNatClampNeg (some (ad (b + 150)))) (2 : Int32).toNatClampNeg (some (ad (b + 152)))) (3 : Int32).toNatClampNeg (some (ad (b + 154)))))))) ∧ StB ct J' ad c' (b + 1) st0 ∧ TxB ct J' ad c' (b + 136) tx0 ∧ KrB ct J' ad c' (b + 142) kr0 ∧ TpB ct J' ad c' (b + 148) tp0 ∧ TpB ct J' ad c' (b + 150) tp0 ∧ TpB ct J' ad c' (b + 152) tp0 ∧ TpB ct J' ad c' (b + 154) tp0 ∧ TpB ct J' ad c' (b + 156) tp0 ∧ Fr c0 c' b 160 ∧ HW D J' ad c' (aA J ad s.heap.size) s.heap H locs := ⟨_, _, (fun i => by rw [hP.1 i, hJ24 i]; by_cases hm : i ∈ J <;> simp only [hm, true_or, false_or, iff_true, or_true] <;> omega), (hP.2.2 _ (by omega)).trans f_0_24, (hP.2.2 _ (by omega)).trans f_147_24, ((g_1_24.fr hP.2.2 (by omega)).mono (fun i hi => (hP.1 i).mpr (Or.inl hi))), ((g_136_24.fr hP.2.2 (by omega)).mono (fun i hi => (hP.1 i).mpr (Or.inl hi))), ((g_142_24.fr hP.2.2 (by omega)).mono (fun i hi => (hP.1 i).mpr (Or.inl hi))), ((g_148_24.fr hP.2.2 (by omega)).mono (fun i hi => (hP.1 i).mpr (Or.inl hi))), ((g_150_24.fr hP.2.2 (by omega)).mono (fun i hi => (hP.1 i).mpr (Or.inl hi))), ((g_152_24.fr hP.2.2 (by omega)).mono (fun i hi => (hP.1 i).mpr (Or.inl hi))), ((g_154_24.fr hP.2.2 (by omega)).mono (fun i hi => (hP.1 i).mpr (Or.inl hi))), hP.2.1, hF24.trans (hP.2.2.wide (by omega) (by omega)), hWn⟩
  clear f_0_24 f_147_24 f_156_24 g_1_24 g_136_24 g_142_24 g_148_24 g_150_24 g_152_24 g_154_24 hP hJ24 hF24 hWn
  refine k_aast (t := 4) hE hW25.self ((hJ25 _).mpr (Or.inr (by omega))) f_147_25 g_156_25.o g_156_25.obj rfl rfl (by unfold vp_in; decide) dX8_init_66 (fun H locs hw1 => ?_)
  have hzn := Nat.le_trans hz hw1.2.2.1
  clear hz
  have hz := hzn
  clear hzn
  have hwn := hW25.trans hw1
  clear hW25 hw1
  have hW25 := hwn
  clear hwn
  obtain ⟨J1, c, hJ26, f_0_26, f_147_26, g_1_26, g_136_26, g_142_26, g_148_26, g_150_26, g_152_26, g_154_26, g_156_26, hF26, hW26⟩ : ∃ (J' : List Nat) (c' : CF), (∀ i, i ∈ J' ↔ i ∈ J ∨ ((b < i ∧ i ≤ b + 45) ∨ (b + 136 ≤ i ∧ i ≤ b + 157))) ∧ c' b = .inr (7, [.ref (ad (b + 1)), .ref (ad (b + 136)), .ref (ad (b + 142)), .ref (ad (b + 147)), .null, .null]) ∧ c' (b + 147) = .inl (ct 4, 6, .inr (.inr (.inr (.inr (va_up (va_up (va_up (va_up (va_up (fun _ => none) (0 : Int32).toNatClampNeg (some (ad (b + 148)))) (1 : Int32).toNatClampNeg (some (ad (b + 150)))) (2 : Int32).toNatClampNeg (some (ad (b + 152)))) (3 : Int32).toNatClampNeg (some (ad (b + 154)))) (4 : Int32).toNatClampNeg (some (ad (b + 156)))))))) ∧ StB ct J' ad c' (b + 1) st0 ∧ TxB ct J' ad c' (b + 136) tx0 ∧ KrB ct J' ad c' (b + 142) kr0 ∧ TpB ct J' ad c' (b + 148) tp0 ∧ TpB ct J' ad c' (b + 150) tp0 ∧ TpB ct J' ad c' (b + 152) tp0 ∧ TpB ct J' ad c' (b + 154) tp0 ∧ TpB ct J' ad c' (b + 156) tp0 ∧ Fr c0 c' b 160 ∧ HW D J' ad c' (aA J ad s.heap.size) s.heap H locs := ⟨_, _, hJ25, (va_up_ne _ _ (by omega)).trans f_0_25, va_up_self _ _ _, (g_1_25.fr (Fr.rf.up (b := (b + 147)) (n := 1) (by omega) (by omega)) (by omega)), (g_136_25.fr (Fr.rf.up (b := (b + 147)) (n := 1) (by omega) (by omega)) (by omega)), (g_142_25.fr (Fr.rf.up (b := (b + 147)) (n := 1) (by omega) (by omega)) (by omega)), (g_148_25.fr (Fr.rf.up (b := (b + 147)) (n := 1) (by omega) (by omega)) (by omega)), (g_150_25.fr (Fr.rf.up (b := (b + 147)) (n := 1) (by omega) (by omega)) (by omega)), (g_152_25.fr (Fr.rf.up (b := (b + 147)) (n := 1) (by omega) (by omega)) (by omega)), (g_154_25.fr (Fr.rf.up (b := (b + 147)) (n := 1) (by omega) (by omega)) (by omega)), (g_156_25.fr (Fr.rf.up (b := (b + 147)) (n := 1) (by omega) (by omega)) (by omega)), hF25.up (by omega) (by omega), hW25⟩
  clear f_0_25 f_147_25 g_1_25 g_136_25 g_142_25 g_148_25 g_150_25 g_152_25 g_154_25 g_156_25 hJ25 hF25 hW25
  refine lv_iinc (v := (5 : Int32)) (lv' := [(1, .int (5 : Int32)), (0, .ref (ad b))]) hx hb dX8_init_67 hl (k := 0) rfl (by decide) (by decide) rfl (fun ls hl => ?_)
  refine lv_goto (tgt := 48) hx hb dX8_init_70 (by decide) ?_
  refine lv_iload_n hx hb dX8_init_48 rfl (lv_at hl 0 rfl) ?_
  refine lv_bipush (v := (6 : Int32)) hx hb dX8_init_49 (by decide) ?_
  refine lv_icmp_ge (tgt := 73) hx hb dX8_init_51 (by decide) (fun kk => ?_) (fun kk => ?_)
  · exact absurd kk (by decide)
  refine lv_aload_n hx hb dX8_init_54 rfl (lv_at hl 1 rfl) ?_
  refine k_get (v := .ref (ad (b + 147))) hE hW26 ((hJ26 _).mpr (Or.inl hbJ)) f_0_26 rfl inX8 3 (by decide) q247 rfl dX8_init_55 ?_
  refine lv_iload_n hx hb dX8_init_58 rfl (lv_at hl 0 rfl) ?_
  refine W_sized (fun hup => ?_)
  refine k_newO (z := s.heap.size + 67) (i := (b + 158)) (ci := 5) (fs := [.null, .int 0, .int 0]) hE hW26 hA (by omega) (had2 158 (Nat.le_of_ble_eq_true rfl) (Nat.le_of_ble_eq_true rfl)) (fun hh => by rcases (hJ26 _).mp hh with h1 | h1; exact hnew2 158 (Nat.le_of_ble_eq_true rfl) (Nat.le_of_ble_eq_true rfl) h1; omega) rfl inX6 tyX6 tyX6_ok q224 q226 q9 (fun j hj => by rcases (show j = 0 ∨ j = 1 ∨ j = 2 by omega) with rfl | rfl | rfl <;> rfl) (Nat.le_of_ble_eq_true rfl) (Nat.le_of_ble_eq_true rfl) dX8_init_59 (fun H hz2 hWn => ?_)
  have hzn : s.heap.size + 68 ≤ H.size := by omega
  clear hz hz2 hup
  have hz := hzn
  clear hzn
  clear hW26
  obtain ⟨J1, c, hJ27, f_0_27, f_147_27, f_158_27, g_1_27, g_136_27, g_142_27, g_148_27, g_150_27, g_152_27, g_154_27, g_156_27, hF27, hW27⟩ : ∃ (J' : List Nat) (c' : CF), (∀ i, i ∈ J' ↔ i ∈ J ∨ ((b < i ∧ i ≤ b + 45) ∨ (b + 136 ≤ i ∧ i ≤ b + 158))) ∧ c' b = .inr (7, [.ref (ad (b + 1)), .ref (ad (b + 136)), .ref (ad (b + 142)), .ref (ad (b + 147)), .null, .null]) ∧ c' (b + 147) = .inl (ct 4, 6, .inr (.inr (.inr (.inr (va_up (va_up (va_up (va_up (va_up (fun _ => none) (0 : Int32).toNatClampNeg (some (ad (b + 148)))) (1 : Int32).toNatClampNeg (some (ad (b + 150)))) (2 : Int32).toNatClampNeg (some (ad (b + 152)))) (3 : Int32).toNatClampNeg (some (ad (b + 154)))) (4 : Int32).toNatClampNeg (some (ad (b + 156)))))))) ∧ c' (b + 158) = .inr (5, [.null, .int 0, .int 0]) ∧ StB ct J' ad c' (b + 1) st0 ∧ TxB ct J' ad c' (b + 136) tx0 ∧ KrB ct J' ad c' (b + 142) kr0 ∧ TpB ct J' ad c' (b + 148) tp0 ∧ TpB ct J' ad c' (b + 150) tp0 ∧ TpB ct J' ad c' (b + 152) tp0 ∧ TpB ct J' ad c' (b + 154) tp0 ∧ TpB ct J' ad c' (b + 156) tp0 ∧ Fr c0 c' b 160 ∧ HW D J' ad c' (aA J ad s.heap.size) s.heap H locs := ⟨_, _, (fun i => by rw [List.mem_append, List.mem_singleton, hJ26 i]; by_cases hm : i ∈ J <;> simp only [hm, true_or, false_or, iff_true, or_true] <;> omega), (va_up_ne _ _ (by omega)).trans f_0_26, (va_up_ne _ _ (by omega)).trans f_147_26, va_up_self _ _ _, ((g_1_26.fr (Fr.rf.up (b := (b + 158)) (n := 1) (by omega) (by omega)) (by omega)).mono (fun i hi => List.mem_append_left _ hi)), ((g_136_26.fr (Fr.rf.up (b := (b + 158)) (n := 1) (by omega) (by omega)) (by omega)).mono (fun i hi => List.mem_append_left _ hi)), ((g_142_26.fr (Fr.rf.up (b := (b + 158)) (n := 1) (by omega) (by omega)) (by omega)).mono (fun i hi => List.mem_append_left _ hi)), ((g_148_26.fr (Fr.rf.up (b := (b + 158)) (n := 1) (by omega) (by omega)) (by omega)).mono (fun i hi => List.mem_append_left _ hi)), ((g_150_26.fr (Fr.rf.up (b := (b + 158)) (n := 1) (by omega) (by omega)) (by omega)).mono (fun i hi => List.mem_append_left _ hi)), ((g_152_26.fr (Fr.rf.up (b := (b + 158)) (n := 1) (by omega) (by omega)) (by omega)).mono (fun i hi => List.mem_append_left _ hi)), ((g_154_26.fr (Fr.rf.up (b := (b + 158)) (n := 1) (by omega) (by omega)) (by omega)).mono (fun i hi => List.mem_append_left _ hi)), ((g_156_26.fr (Fr.rf.up (b := (b + 158)) (n := 1) (by omega) (by omega)) (by omega)).mono (fun i hi => List.mem_append_left _ hi)), hF26.up (by omega) (by omega), hWn⟩
  clear f_0_26 f_147_26 g_1_26 g_136_26 g_142_26 g_148_26 g_150_26 g_152_26 g_154_26 g_156_26 hJ26 hF26 hWn
  refine lv_dup hx hb dX8_init_62 rfl ?_
  refine W_sized (fun hup => ?_)
  have hHz : H.size = s.heap.size + 68 := by omega
  refine k_callIN (rest := [.ref (ad (b + 158)), .int (5 : Int32), .ref (ad (b + 147))]) hE hW27 (hW27.af hA) hl.1 (nX6_init ((hJ27 _).mpr (Or.inr (by omega))) (fun k h1 h2 hh => by rw [Nat.add_assoc] at hh; rcases (hJ27 _).mp hh with h3 | h3; exact hnew2 (158 + k) (by omega) (by omega) h3; omega) (fun k h1 h2 => by rw [Nat.add_assoc, had2 (158 + k) (by omega) (by omega)]; omega) f_158_27) q227 q228 rfl q9 q229 hd_X6_init.2 ⟨(Nat.le_of_ble_eq_true rfl), (Nat.le_of_ble_eq_true rfl)⟩ ⟨rfl, rfl⟩ rfl (Nat.le_of_ble_eq_true rfl) dX8_init_63 ⟨(Nat.le_of_ble_eq_true rfl), (Nat.le_of_ble_eq_true rfl)⟩ (fun J2 c1 H locs hP hz2 hWn => ?_)
  have hzn : s.heap.size + 69 ≤ H.size := by omega
  clear hz hz2 hup hHz
  have hz := hzn
  clear hzn
  clear hW27
  obtain ⟨J1, c, hJ28, f_0_28, f_147_28, g_1_28, g_136_28, g_142_28, g_148_28, g_150_28, g_152_28, g_154_28, g_156_28, g_158_28, hF28, hW28⟩ : ∃ (J' : List Nat) (c' : CF), (∀ i, i ∈ J' ↔ i ∈ J ∨ ((b < i ∧ i ≤ b + 45) ∨ (b + 136 ≤ i ∧ i ≤ b + 159))) ∧ c' b = .inr (7, [.ref (ad (b + 1)), .ref (ad (b + 136)), .ref (ad (b + 142)), .ref (ad (b + 147)), .null, .null]) ∧ c' (b + 147) = .inl (ct 4, 6, .inr (.inr (.inr (.inr (va_up (va_up (va_up (va_up (va_up (fun _ => none) (0 : Int32).toNatClampNeg (some (ad (b + 148)))) (1 : Int32).toNatClampNeg (some (ad (b + 150)))) (2 : Int32).toNatClampNeg (some (ad (b + 152)))) (3 : Int32).toNatClampNeg (some (ad (b + 154)))) (4 : Int32).toNatClampNeg (some (ad (b + 156)))))))) ∧ StB ct J' ad c' (b + 1) st0 ∧ TxB ct J' ad c' (b + 136) tx0 ∧ KrB ct J' ad c' (b + 142) kr0 ∧ TpB ct J' ad c' (b + 148) tp0 ∧ TpB ct J' ad c' (b + 150) tp0 ∧ TpB ct J' ad c' (b + 152) tp0 ∧ TpB ct J' ad c' (b + 154) tp0 ∧ TpB ct J' ad c' (b + 156) tp0 ∧ TpB ct J' ad c' (b + 158) tp0 ∧ Fr c0 c' b 160 ∧ HW D J' ad c' (aA J ad s.heap.size) s.heap H locs := ⟨_, _, (fun i => by rw [hP.1 i, hJ27 i]; by_cases hm : i ∈ J <;> simp only [hm, true_or, false_or, iff_true, or_true] <;> omega), (hP.2.2 _ (by omega)).trans f_0_27, (hP.2.2 _ (by omega)).trans f_147_27, ((g_1_27.fr hP.2.2 (by omega)).mono (fun i hi => (hP.1 i).mpr (Or.inl hi))), ((g_136_27.fr hP.2.2 (by omega)).mono (fun i hi => (hP.1 i).mpr (Or.inl hi))), ((g_142_27.fr hP.2.2 (by omega)).mono (fun i hi => (hP.1 i).mpr (Or.inl hi))), ((g_148_27.fr hP.2.2 (by omega)).mono (fun i hi => (hP.1 i).mpr (Or.inl hi))), ((g_150_27.fr hP.2.2 (by omega)).mono (fun i hi => (hP.1 i).mpr (Or.inl hi))), ((g_152_27.fr hP.2.2 (by omega)).mono (fun i hi => (hP.1 i).mpr (Or.inl hi))), ((g_154_27.fr hP.2.2 (by omega)).mono (fun i hi => (hP.1 i).mpr (Or.inl hi))), ((g_156_27.fr hP.2.2 (by omega)).mono (fun i hi => (hP.1 i).mpr (Or.inl hi))), hP.2.1, hF27.trans (hP.2.2.wide (by omega) (by omega)), hWn⟩
  clear f_0_27 f_147_27 f_158_27 g_1_27 g_136_27 g_142_27 g_148_27 g_150_27 g_152_27 g_154_27 g_156_27 hP hJ27 hF27 hWn
  refine k_aast (t := 4) hE hW28.self ((hJ28 _).mpr (Or.inr (by omega))) f_147_28 g_158_28.o g_158_28.obj rfl rfl (by unfold vp_in; decide) dX8_init_66 (fun H locs hw1 => ?_)
  have hzn := Nat.le_trans hz hw1.2.2.1
  clear hz
  have hz := hzn
  clear hzn
  have hwn := hW28.trans hw1
  clear hW28 hw1
  have hW28 := hwn
  clear hwn
  obtain ⟨J1, c, hJ29, f_0_29, f_147_29, g_1_29, g_136_29, g_142_29, g_148_29, g_150_29, g_152_29, g_154_29, g_156_29, g_158_29, hF29, hW29⟩ : ∃ (J' : List Nat) (c' : CF), (∀ i, i ∈ J' ↔ i ∈ J ∨ ((b < i ∧ i ≤ b + 45) ∨ (b + 136 ≤ i ∧ i ≤ b + 159))) ∧ c' b = .inr (7, [.ref (ad (b + 1)), .ref (ad (b + 136)), .ref (ad (b + 142)), .ref (ad (b + 147)), .null, .null]) ∧ c' (b + 147) = .inl (ct 4, 6, .inr (.inr (.inr (.inr (va_up (va_up (va_up (va_up (va_up (va_up (fun _ => none) (0 : Int32).toNatClampNeg (some (ad (b + 148)))) (1 : Int32).toNatClampNeg (some (ad (b + 150)))) (2 : Int32).toNatClampNeg (some (ad (b + 152)))) (3 : Int32).toNatClampNeg (some (ad (b + 154)))) (4 : Int32).toNatClampNeg (some (ad (b + 156)))) (5 : Int32).toNatClampNeg (some (ad (b + 158)))))))) ∧ StB ct J' ad c' (b + 1) st0 ∧ TxB ct J' ad c' (b + 136) tx0 ∧ KrB ct J' ad c' (b + 142) kr0 ∧ TpB ct J' ad c' (b + 148) tp0 ∧ TpB ct J' ad c' (b + 150) tp0 ∧ TpB ct J' ad c' (b + 152) tp0 ∧ TpB ct J' ad c' (b + 154) tp0 ∧ TpB ct J' ad c' (b + 156) tp0 ∧ TpB ct J' ad c' (b + 158) tp0 ∧ Fr c0 c' b 160 ∧ HW D J' ad c' (aA J ad s.heap.size) s.heap H locs := ⟨_, _, hJ28, (va_up_ne _ _ (by omega)).trans f_0_28, va_up_self _ _ _, (g_1_28.fr (Fr.rf.up (b := (b + 147)) (n := 1) (by omega) (by omega)) (by omega)), (g_136_28.fr (Fr.rf.up (b := (b + 147)) (n := 1) (by omega) (by omega)) (by omega)), (g_142_28.fr (Fr.rf.up (b := (b + 147)) (n := 1) (by omega) (by omega)) (by omega)), (g_148_28.fr (Fr.rf.up (b := (b + 147)) (n := 1) (by omega) (by omega)) (by omega)), (g_150_28.fr (Fr.rf.up (b := (b + 147)) (n := 1) (by omega) (by omega)) (by omega)), (g_152_28.fr (Fr.rf.up (b := (b + 147)) (n := 1) (by omega) (by omega)) (by omega)), (g_154_28.fr (Fr.rf.up (b := (b + 147)) (n := 1) (by omega) (by omega)) (by omega)), (g_156_28.fr (Fr.rf.up (b := (b + 147)) (n := 1) (by omega) (by omega)) (by omega)), (g_158_28.fr (Fr.rf.up (b := (b + 147)) (n := 1) (by omega) (by omega)) (by omega)), hF28.up (by omega) (by omega), hW28⟩
  clear f_0_28 f_147_28 g_1_28 g_136_28 g_142_28 g_148_28 g_150_28 g_152_28 g_154_28 g_156_28 g_158_28 hJ28 hF28 hW28
  refine lv_iinc (v := (6 : Int32)) (lv' := [(1, .int (6 : Int32)), (0, .ref (ad b))]) hx hb dX8_init_67 hl (k := 0) rfl (by decide) (by decide) rfl (fun ls hl => ?_)
  refine lv_goto (tgt := 48) hx hb dX8_init_70 (by decide) ?_
  refine lv_iload_n hx hb dX8_init_48 rfl (lv_at hl 0 rfl) ?_
  refine lv_bipush (v := (6 : Int32)) hx hb dX8_init_49 (by decide) ?_
  refine lv_icmp_ge (tgt := 73) hx hb dX8_init_51 (by decide) (fun kk => ?_) (fun kk => ?_)
  rotate_left
  · exact absurd (show (6 : Int32) ≤ (6 : Int32) by decide) kk
  have hout : c (b + 147) = .inl (ct 4, 6, .inr (.inr (.inr (.inr (rfA ad 6 (fun t => b + 148 + 2 * t)))))) := by
    rw [f_147_29]
    congr 7
    funext i
    unfold rfA
    rcases (show i = 0 ∨ i = 1 ∨ i = 2 ∨ i = 3 ∨ i = 4 ∨ i = 5 ∨ 6 ≤ i by omega) with rfl | rfl | rfl | rfl | rfl | rfl | h4
    · rfl
    · rfl
    · rfl
    · rfl
    · rfl
    · rfl
    · rw [if_neg (by omega)]
      simp only [va_up]
      rw [if_neg (show ¬ i = (5 : Int32).toNatClampNeg from fun h => by have : i = 5 := h; omega), if_neg (show ¬ i = (4 : Int32).toNatClampNeg from fun h => by have : i = 4 := h; omega), if_neg (show ¬ i = (3 : Int32).toNatClampNeg from fun h => by have : i = 3 := h; omega), if_neg (show ¬ i = (2 : Int32).toNatClampNeg from fun h => by have : i = 2 := h; omega), if_neg (show ¬ i = (1 : Int32).toNatClampNeg from fun h => by have : i = 1 := h; omega), if_neg (show ¬ i = (0 : Int32).toNatClampNeg from fun h => by have : i = 0 := h; omega)]
  have htp : ∀ t, t < 6 → TpB ct J1 ad c (b + 148 + 2 * t) tp0 := fun t ht => by
    rcases (show t = 0 ∨ t = 1 ∨ t = 2 ∨ t = 3 ∨ t = 4 ∨ t = 5 by omega) with rfl | rfl | rfl | rfl | rfl | rfl
    · exact g_148_29
    · exact g_150_29
    · exact g_152_29
    · exact g_154_29
    · exact g_156_29
    · exact g_158_29
  have hB9 : KlB ct J1 ad c b kl0 := ⟨⟨(hJ29 _).mpr (Or.inl hbJ), f_0_29⟩, g_1_29, g_136_29, g_142_29, ⟨(hJ29 _).mpr (Or.inr (by omega)), hout⟩, htp, (fun S h => by have h2 : (none : Option SS) = some S := h; cases h2), (fun S h => by have h2 : (none : Option SS) = some S := h; cases h2)⟩
  exact k_nret hE hr hlk hW29 ⟨hJ29, hB9, hF29⟩ hz dX8_init_73
