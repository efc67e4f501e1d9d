def fJxf58ca_isNaN_12338  (a1 : UInt32) : Option Int32 :=
  if (Op.cmpValue (FP.fcmp a1 a1) CmpOp.l) = 0 then (some ((0 : Int32))) else (some ((1 : Int32)))
def fJxf58ca_floatToIntBits_5c35a  (a1 : UInt32) : Option Int32 :=
  zb (fJxf58ca_isNaN_12338 a1) (fun r_1 => if r_1 = 0 then (some a1.toInt32) else (some ((2143289344 : Int32))))
def fJxf58ca_compare_66c2b  (a1 : UInt32) (a2 : UInt32) : Option Int32 :=
  if 0 ≤ (Op.cmpValue (FP.fcmp a1 a2) CmpOp.g) then (if (Op.cmpValue (FP.fcmp a1 a2) CmpOp.l) ≤ 0 then (zb (fJxf58ca_floatToIntBits_5c35a a1) (fun r_3 => zb (fJxf58ca_floatToIntBits_5c35a a2) (fun r_4 => if r_3 = r_4 then (some ((0 : Int32))) else (if r_4 ≤ r_3 then (some ((1 : Int32))) else (some ((-1 : Int32))))))) else (some ((1 : Int32)))) else (some ((-1 : Int32)))
def fJxe99ae_isNaN_b9ae7  (a1 : UInt64) : Option Int32 :=
  if (Op.cmpValue (FP.dcmp a1 a1) CmpOp.l) = 0 then (some ((0 : Int32))) else (some ((1 : Int32)))
def fJxe99ae_doubleToLongBits_ccdee  (a1 : UInt64) : Option Int64 :=
  zb (fJxe99ae_isNaN_b9ae7 a1) (fun r_1 => if r_1 = 0 then (some a1.toInt64) else (some ((9221120237041090560 : Int64))))
theorem hd_Jxf58ca_isNaN_12338 : yJxf58ca_isNaN_12338.cls = RJxf58ca ∧ yJxf58ca_isNaN_12338.cls ≠ "java/lang/invoke/MethodHandle" ∧ yJxf58ca_isNaN_12338.cls ≠ "java/lang/invoke/VarHandle" ∧ (parseMethodDescriptor yJxf58ca_isNaN_12338.desc).map (fun d => d.parameters.length) = some 1 := by decide +kernel
theorem hd_Jxf58ca_floatToIntBits_5c35a : yJxf58ca_floatToIntBits_5c35a.cls = RJxf58ca ∧ yJxf58ca_floatToIntBits_5c35a.cls ≠ "java/lang/invoke/MethodHandle" ∧ yJxf58ca_floatToIntBits_5c35a.cls ≠ "java/lang/invoke/VarHandle" ∧ (parseMethodDescriptor yJxf58ca_floatToIntBits_5c35a.desc).map (fun d => d.parameters.length) = some 1 := by decide +kernel
theorem hd_Jxf58ca_compare_66c2b : yJxf58ca_compare_66c2b.cls = RJxf58ca ∧ yJxf58ca_compare_66c2b.cls ≠ "java/lang/invoke/MethodHandle" ∧ yJxf58ca_compare_66c2b.cls ≠ "java/lang/invoke/VarHandle" ∧ (parseMethodDescriptor yJxf58ca_compare_66c2b.desc).map (fun d => d.parameters.length) = some 2 := by decide +kernel
theorem hd_Jxe99ae_isNaN_b9ae7 : yJxe99ae_isNaN_b9ae7.cls = RJxe99ae ∧ yJxe99ae_isNaN_b9ae7.cls ≠ "java/lang/invoke/MethodHandle" ∧ yJxe99ae_isNaN_b9ae7.cls ≠ "java/lang/invoke/VarHandle" ∧ (parseMethodDescriptor yJxe99ae_isNaN_b9ae7.desc).map (fun d => d.parameters.length) = some 1 := by decide +kernel
theorem hd_Jxe99ae_doubleToLongBits_ccdee : yJxe99ae_doubleToLongBits_ccdee.cls = RJxe99ae ∧ yJxe99ae_doubleToLongBits_ccdee.cls ≠ "java/lang/invoke/MethodHandle" ∧ yJxe99ae_doubleToLongBits_ccdee.cls ≠ "java/lang/invoke/VarHandle" ∧ (parseMethodDescriptor yJxe99ae_doubleToLongBits_ccdee.desc).map (fun d => d.parameters.length) = some 1 := by decide +kernel
set_option maxHeartbeats 4000000 in
set_option maxRecDepth 100000 in
theorem mJxf58ca_isNaN_12338 {l : Launch} {D : va_G} {ct : Nat → ClassId} {J : List Nat} {ad : Nat → Nat} {c0 : CF} {a1 : UInt32} {r : Int32} (h : fJxf58ca_isNaN_12338  a1 = some r) : Mi l D ct J ad yJxf58ca_isNaN_12338 cJxf58ca_isNaN_12338 1 (some .boolean) (rr 0 0) [.float a1] c0 r (fun c' => c' = c0) := by
  refine MiF_of (own := RJxf58ca) pl_isNaN rfl (Nat.le_of_ble_eq_true rfl) (fun p e s m below meth cd hE hr hlk hW ls hl => ?_)
  have hx := hE.1
  have hb := hE.2.1
  have hl : lv_has ls 1 [(0, .float a1)] := hl
  rw [fJxf58ca_isNaN_12338] at h
  refine lv_fload_n hx hb dJxf58ca_isNaN_12338_0 rfl (lv_at hl 0 rfl) ?_
  refine lv_fload_n hx hb dJxf58ca_isNaN_12338_1 rfl (lv_at hl 0 rfl) ?_
  refine lv_fcmp hx hb dJxf58ca_isNaN_12338_2 ?_
  refine lv_if_eq (tgt := 10) hx hb dJxf58ca_isNaN_12338_3 (by decide) (fun k_1 => ?_) (fun k_1 => ?_)
  · have h := it_t k_1 h
    refine lv_iconst (v := (0 : Int32)) hx hb dJxf58ca_isNaN_12338_10 (by decide) ?_
    obtain rfl := Option.some.inj h
    exact k_zret hE hr hlk hW rfl rfl rfl dJxf58ca_isNaN_12338_11
  · have h := it_f k_1 h
    refine lv_iconst (v := (1 : Int32)) hx hb dJxf58ca_isNaN_12338_6 (by decide) ?_
    refine lv_goto (tgt := 11) hx hb dJxf58ca_isNaN_12338_7 (by decide) ?_
    obtain rfl := Option.some.inj h
    exact k_zret hE hr hlk hW rfl rfl rfl dJxf58ca_isNaN_12338_11
set_option maxHeartbeats 4000000 in
set_option maxRecDepth 100000 in
theorem mJxf58ca_floatToIntBits_5c35a {l : Launch} {D : va_G} {ct : Nat → ClassId} {J : List Nat} {ad : Nat → Nat} {c0 : CF} {a1 : UInt32} {r : Int32} (h : fJxf58ca_floatToIntBits_5c35a  a1 = some r) : Mi l D ct J ad yJxf58ca_floatToIntBits_5c35a cJxf58ca_floatToIntBits_5c35a 1 (some .int) (rr 1 30) [.float a1] c0 r (fun c' => c' = c0) := by
  refine MiF_of (own := RJxf58ca) pl_floatToIntBits rfl (Nat.le_of_ble_eq_true rfl) (fun p e s m below meth cd hE hr hlk hW ls hl => ?_)
  have hx := hE.1
  have hb := hE.2.1
  have hl : lv_has ls 1 [(0, .float a1)] := hl
  rw [fJxf58ca_floatToIntBits_5c35a] at h
  refine lv_fload_n hx hb dJxf58ca_floatToIntBits_5c35a_0 rfl (lv_at hl 0 rfl) ?_
  obtain ⟨r_1, hr_1, h⟩ := zb_e h
  refine k_callSi (rest := []) hE hW hl.1 (mJxf58ca_isNaN_12338 hr_1) q944 q945 q12 q946 hd_Jxf58ca_isNaN_12338.2 ⟨Nat.le_of_ble_eq_true rfl, Nat.le_of_ble_eq_true rfl⟩ ⟨rfl, rfl⟩ rfl (Nat.le_of_ble_eq_true rfl) dJxf58ca_floatToIntBits_5c35a_1 ⟨Nat.zero_le _, Nat.zero_le _⟩ (fun c1 H locs hP hW => ?_)
  rw [hP] at hW
  refine lv_if_ne (tgt := 12) hx hb dJxf58ca_floatToIntBits_5c35a_4 (by decide) (fun k_2 => ?_) (fun k_2 => ?_)
  · have h := it_f k_2 h
    refine lv_ldc (v := (2143289344 : Int32)) hx hb hE.2.2.2.1 (hE.2.2.2.2.1 _ q950) dJxf58ca_floatToIntBits_5c35a_12 ?_
    obtain rfl := Option.some.inj h
    exact k_iret hE hr hlk hW rfl rfl dJxf58ca_floatToIntBits_5c35a_14
  · have h := it_t k_2 h
    refine lv_fload_n hx hb dJxf58ca_floatToIntBits_5c35a_7 rfl (lv_at hl 0 rfl) ?_
    refine vn_f2i hx hb (hE.2.2.1.trans hl.1.symm) hE.2.2.2.1 (hE.2.2.2.2.1 _ q947) (hE.2.2.2.2.1 _ q949) (hE.2.2.2.2.1 _ q948) (hE.2.2.2.2.1 _ q12) (Nat.le_of_ble_eq_true rfl) (Nat.le_of_ble_eq_true rfl) dJxf58ca_floatToIntBits_5c35a_8 ?_
    obtain rfl := Option.some.inj h
    exact k_iret hE hr hlk hW rfl rfl dJxf58ca_floatToIntBits_5c35a_11
set_option maxHeartbeats 4000000 in
set_option maxRecDepth 100000 in
theorem mJxf58ca_compare_66c2b {l : Launch} {D : va_G} {ct : Nat → ClassId} {J : List Nat} {ad : Nat → Nat} {c0 : CF} {a1 : UInt32} {a2 : UInt32} {r : Int32} (h : fJxf58ca_compare_66c2b  a1 a2 = some r) : Mi l D ct J ad yJxf58ca_compare_66c2b cJxf58ca_compare_66c2b 4 (some .int) (rr 2 50) [.float a1, .float a2] c0 r (fun c' => c' = c0) := by
  refine MiF_of (own := RJxf58ca) pl_compare rfl (Nat.le_of_ble_eq_true rfl) (fun p e s m below meth cd hE hr hlk hW ls hl => ?_)
  have hx := hE.1
  have hb := hE.2.1
  have hl : lv_has ls 4 [(0, .float a1), (1, .float a2)] := hl
  rw [fJxf58ca_compare_66c2b] at h
  refine lv_fload_n hx hb dJxf58ca_compare_66c2b_0 rfl (lv_at hl 0 rfl) ?_
  refine lv_fload_n hx hb dJxf58ca_compare_66c2b_1 rfl (lv_at hl 1 rfl) ?_
  refine lv_fcmp hx hb dJxf58ca_compare_66c2b_2 ?_
  refine lv_if_ge (tgt := 8) hx hb dJxf58ca_compare_66c2b_3 (by decide) (fun k_1 => ?_) (fun k_1 => ?_)
  · have h := it_t k_1 h
    refine lv_fload_n hx hb dJxf58ca_compare_66c2b_8 rfl (lv_at hl 0 rfl) ?_
    refine lv_fload_n hx hb dJxf58ca_compare_66c2b_9 rfl (lv_at hl 1 rfl) ?_
    refine lv_fcmp hx hb dJxf58ca_compare_66c2b_10 ?_
    refine lv_if_le (tgt := 16) hx hb dJxf58ca_compare_66c2b_11 (by decide) (fun k_2 => ?_) (fun k_2 => ?_)
    · have h := it_t k_2 h
      refine lv_fload_n hx hb dJxf58ca_compare_66c2b_16 rfl (lv_at hl 0 rfl) ?_
      obtain ⟨r_3, hr_3, h⟩ := zb_e h
      refine k_callSi (rest := []) hE hW hl.1 (mJxf58ca_floatToIntBits_5c35a hr_3) q1109 q942 q12 q943 hd_Jxf58ca_floatToIntBits_5c35a.2 ⟨Nat.le_of_ble_eq_true rfl, Nat.le_of_ble_eq_true rfl⟩ ⟨rfl, rfl⟩ rfl (Nat.le_of_ble_eq_true rfl) dJxf58ca_compare_66c2b_17 ⟨Nat.zero_le _, Nat.zero_le _⟩ (fun c1 H locs hP hW => ?_)
      rw [hP] at hW
      refine lv_istore_n (lv' := [(2, .int r_3), (0, .float a1), (1, .float a2)]) hx hb dJxf58ca_compare_66c2b_20 rfl hl (by decide) rfl (fun ls hl => ?_)
      refine lv_fload_n hx hb dJxf58ca_compare_66c2b_21 rfl (lv_at hl 2 rfl) ?_
      obtain ⟨r_4, hr_4, h⟩ := zb_e h
      refine k_callSi (rest := []) hE hW hl.1 (mJxf58ca_floatToIntBits_5c35a hr_4) q1109 q942 q12 q943 hd_Jxf58ca_floatToIntBits_5c35a.2 ⟨Nat.le_of_ble_eq_true rfl, Nat.le_of_ble_eq_true rfl⟩ ⟨rfl, rfl⟩ rfl (Nat.le_of_ble_eq_true rfl) dJxf58ca_compare_66c2b_22 ⟨Nat.zero_le _, Nat.zero_le _⟩ (fun c1 H locs hP hW => ?_)
      rw [hP] at hW
      refine lv_istore_n (lv' := [(3, .int r_4), (2, .int r_3), (0, .float a1), (1, .float a2)]) hx hb dJxf58ca_compare_66c2b_25 rfl hl (by decide) rfl (fun ls hl => ?_)
      refine lv_iload_n hx hb dJxf58ca_compare_66c2b_26 rfl (lv_at hl 1 rfl) ?_
      refine lv_iload_n hx hb dJxf58ca_compare_66c2b_27 rfl (lv_at hl 0 rfl) ?_
      refine lv_icmp_ne (tgt := 35) hx hb dJxf58ca_compare_66c2b_28 (by decide) (fun k_5 => ?_) (fun k_5 => ?_)
      · have h := it_f k_5 h
        refine lv_iload_n hx hb dJxf58ca_compare_66c2b_35 rfl (lv_at hl 1 rfl) ?_
        refine lv_iload_n hx hb dJxf58ca_compare_66c2b_36 rfl (lv_at hl 0 rfl) ?_
        refine lv_icmp_ge (tgt := 44) hx hb dJxf58ca_compare_66c2b_37 (by decide) (fun k_6 => ?_) (fun k_6 => ?_)
        · have h := it_t k_6 h
          refine lv_iconst (v := (1 : Int32)) hx hb dJxf58ca_compare_66c2b_44 (by decide) ?_
          obtain rfl := Option.some.inj h
          exact k_iret hE hr hlk hW rfl rfl dJxf58ca_compare_66c2b_45
        · have h := it_f k_6 h
          refine lv_iconst (v := (-1 : Int32)) hx hb dJxf58ca_compare_66c2b_40 (by decide) ?_
          refine lv_goto (tgt := 45) hx hb dJxf58ca_compare_66c2b_41 (by decide) ?_
          obtain rfl := Option.some.inj h
          exact k_iret hE hr hlk hW rfl rfl dJxf58ca_compare_66c2b_45
      · have h := it_t k_5 h
        refine lv_iconst (v := (0 : Int32)) hx hb dJxf58ca_compare_66c2b_31 (by decide) ?_
        refine lv_goto (tgt := 45) hx hb dJxf58ca_compare_66c2b_32 (by decide) ?_
        obtain rfl := Option.some.inj h
        exact k_iret hE hr hlk hW rfl rfl dJxf58ca_compare_66c2b_45
    · have h := it_f k_2 h
      refine lv_iconst (v := (1 : Int32)) hx hb dJxf58ca_compare_66c2b_14 (by decide) ?_
      obtain rfl := Option.some.inj h
      exact k_iret hE hr hlk hW rfl rfl dJxf58ca_compare_66c2b_15
  · have h := it_f k_1 h
    refine lv_iconst (v := (-1 : Int32)) hx hb dJxf58ca_compare_66c2b_6 (by decide) ?_
    obtain rfl := Option.some.inj h
    exact k_iret hE hr hlk hW rfl rfl dJxf58ca_compare_66c2b_7
set_option maxHeartbeats 4000000 in
set_option maxRecDepth 100000 in
theorem mJxe99ae_isNaN_b9ae7 {l : Launch} {D : va_G} {ct : Nat → ClassId} {J : List Nat} {ad : Nat → Nat} {c0 : CF} {a1 : UInt64} {r : Int32} (h : fJxe99ae_isNaN_b9ae7  a1 = some r) : Mi l D ct J ad yJxe99ae_isNaN_b9ae7 cJxe99ae_isNaN_b9ae7 2 (some .boolean) (rr 0 0) [.double a1] c0 r (fun c' => c' = c0) := by
  refine Mi_of (own := RJxe99ae) (by decide) rfl (Nat.le_of_ble_eq_true rfl) (fun p e s m below meth cd hE hr hlk hW ls hl => ?_)
  have hx := hE.1
  have hb := hE.2.1
  have hl : lv_has ls 2 [(0, .double a1)] := hl
  rw [fJxe99ae_isNaN_b9ae7] at h
  refine lv_dload_n hx hb dJxe99ae_isNaN_b9ae7_0 rfl (lv_at hl 0 rfl) ?_
  refine lv_dload_n hx hb dJxe99ae_isNaN_b9ae7_1 rfl (lv_at hl 0 rfl) ?_
  refine lv_dcmp hx hb dJxe99ae_isNaN_b9ae7_2 ?_
  refine lv_if_eq (tgt := 10) hx hb dJxe99ae_isNaN_b9ae7_3 (by decide) (fun k_1 => ?_) (fun k_1 => ?_)
  · have h := it_t k_1 h
    refine lv_iconst (v := (0 : Int32)) hx hb dJxe99ae_isNaN_b9ae7_10 (by decide) ?_
    obtain rfl := Option.some.inj h
    exact k_zret hE hr hlk hW rfl rfl rfl dJxe99ae_isNaN_b9ae7_11
  · have h := it_f k_1 h
    refine lv_iconst (v := (1 : Int32)) hx hb dJxe99ae_isNaN_b9ae7_6 (by decide) ?_
    refine lv_goto (tgt := 11) hx hb dJxe99ae_isNaN_b9ae7_7 (by decide) ?_
    obtain rfl := Option.some.inj h
    exact k_zret hE hr hlk hW rfl rfl rfl dJxe99ae_isNaN_b9ae7_11
set_option maxHeartbeats 4000000 in
set_option maxRecDepth 100000 in
theorem mJxe99ae_doubleToLongBits_ccdee {l : Launch} {D : va_G} {ct : Nat → ClassId} {J : List Nat} {ad : Nat → Nat} {c0 : CF} {a1 : UInt64} {r : Int64} (h : fJxe99ae_doubleToLongBits_ccdee  a1 = some r) : Ml l D ct J ad yJxe99ae_doubleToLongBits_ccdee cJxe99ae_doubleToLongBits_ccdee 2 (some .long) (rr 1 30) [.double a1] c0 r (fun c' => c' = c0) := by
  refine Ml_of (own := RJxe99ae) (by decide) rfl (Nat.le_of_ble_eq_true rfl) (fun p e s m below meth cd hE hr hlk hW ls hl => ?_)
  have hx := hE.1
  have hb := hE.2.1
  have hl : lv_has ls 2 [(0, .double a1)] := hl
  rw [fJxe99ae_doubleToLongBits_ccdee] at h
  refine lv_dload_n hx hb dJxe99ae_doubleToLongBits_ccdee_0 rfl (lv_at hl 0 rfl) ?_
  obtain ⟨r_1, hr_1, h⟩ := zb_e h
  refine k_callSi (rest := []) hE hW hl.1 (mJxe99ae_isNaN_b9ae7 hr_1) q1113 q1114 q13 q1115 hd_Jxe99ae_isNaN_b9ae7.2 ⟨Nat.le_of_ble_eq_true rfl, Nat.le_of_ble_eq_true rfl⟩ ⟨rfl, rfl⟩ rfl (Nat.le_of_ble_eq_true rfl) dJxe99ae_doubleToLongBits_ccdee_1 ⟨Nat.zero_le _, Nat.zero_le _⟩ (fun c1 H locs hP hW => ?_)
  rw [hP] at hW
  refine lv_if_ne (tgt := 12) hx hb dJxe99ae_doubleToLongBits_ccdee_4 (by decide) (fun k_2 => ?_) (fun k_2 => ?_)
  · have h := it_f k_2 h
    refine lv_ldc2 (v := (9221120237041090560 : Int64)) hx hb hE.2.2.2.1 (hE.2.2.2.2.1 _ q1119) dJxe99ae_doubleToLongBits_ccdee_12 ?_
    obtain rfl := Option.some.inj h
    exact k_lret hE hr hlk hW rfl rfl dJxe99ae_doubleToLongBits_ccdee_15
  · have h := it_t k_2 h
    refine lv_dload_n hx hb dJxe99ae_doubleToLongBits_ccdee_7 rfl (lv_at hl 0 rfl) ?_
    refine vn_d2l hx hb (hE.2.2.1.trans hl.1.symm) hE.2.2.2.1 (hE.2.2.2.2.1 _ q1116) (hE.2.2.2.2.1 _ q1118) (hE.2.2.2.2.1 _ q1117) (hE.2.2.2.2.1 _ q13) (Nat.le_of_ble_eq_true rfl) (Nat.le_of_ble_eq_true rfl) dJxe99ae_doubleToLongBits_ccdee_8 ?_
    obtain rfl := Option.some.inj h
    exact k_lret hE hr hlk hW rfl rfl dJxe99ae_doubleToLongBits_ccdee_11
theorem al_isNaN32 {x y : UInt32} (h : alike32 x y = true) : fJxf58ca_isNaN_12338 x = fJxf58ca_isNaN_12338 y := by
  rcases al32 h with rfl | ⟨a1, a2⟩
  · rfl
  · have k : ∀ z : UInt32, isNaN32 z = true → FP.fcmp z z = none := fun z hz => by
      show FP.Core.order (FP.Core.decode FP.Core.b32 z.toNat) (FP.Core.decode FP.Core.b32 z.toNat) = none
      rw [(nan32_dec z).mp hz]
      rfl
    unfold fJxf58ca_isNaN_12338
    rw [k x a1, k y a2]
theorem isNaN32_one {x : UInt32} (h : isNaN32 x = true) : fJxf58ca_isNaN_12338 x = some 1 := by
  have k : FP.fcmp x x = none := by
    show FP.Core.order (FP.Core.decode FP.Core.b32 x.toNat) (FP.Core.decode FP.Core.b32 x.toNat) = none
    rw [(nan32_dec x).mp h]
    rfl
  unfold fJxf58ca_isNaN_12338
  rw [k]
  rfl
theorem isNaN64_one {x : UInt64} (h : isNaN64 x = true) : fJxe99ae_isNaN_b9ae7 x = some 1 := by
  have k : FP.dcmp x x = none := by
    show FP.Core.order (FP.Core.decode FP.Core.b64 x.toNat) (FP.Core.decode FP.Core.b64 x.toNat) = none
    rw [(nan64_dec x).mp h]
    rfl
  unfold fJxe99ae_isNaN_b9ae7
  rw [k]
  rfl
theorem f2i_nan {x : UInt32} (h : isNaN32 x = true) : fJxf58ca_floatToIntBits_5c35a x = some 2143289344 := by
  unfold fJxf58ca_floatToIntBits_5c35a
  rw [isNaN32_one h]
  rfl
theorem d2l_nan {x : UInt64} (h : isNaN64 x = true) : fJxe99ae_doubleToLongBits_ccdee x = some 9221120237041090560 := by
  unfold fJxe99ae_doubleToLongBits_ccdee
  rw [isNaN64_one h]
  rfl
theorem al_floatToIntBits {x y : UInt32} (h : alike32 x y = true) : fJxf58ca_floatToIntBits_5c35a x = fJxf58ca_floatToIntBits_5c35a y := by
  rcases al32 h with rfl | ⟨a1, a2⟩
  · rfl
  · rw [f2i_nan a1, f2i_nan a2]
theorem al_doubleToLongBits {x y : UInt64} (h : alike64 x y = true) : fJxe99ae_doubleToLongBits_ccdee x = fJxe99ae_doubleToLongBits_ccdee y := by
  rcases al64 h with rfl | ⟨a1, a2⟩
  · rfl
  · rw [d2l_nan a1, d2l_nan a2]
theorem fcmp_nanL {x y : UInt32} (h : isNaN32 x = true) : FP.fcmp x y = none := by
  show FP.Core.order (FP.Core.decode FP.Core.b32 x.toNat) (FP.Core.decode FP.Core.b32 y.toNat) = none
  rw [(nan32_dec x).mp h]
  rfl
theorem fcmp_nanR {x y : UInt32} (h : isNaN32 y = true) : FP.fcmp x y = none := by
  show FP.Core.order (FP.Core.decode FP.Core.b32 x.toNat) (FP.Core.decode FP.Core.b32 y.toNat) = none
  rw [(nan32_dec y).mp h]
  cases FP.Core.decode FP.Core.b32 x.toNat <;> rfl
theorem al_compare {x y x2 y2 : UInt32} (hx : alike32 x x2 = true) (hy : alike32 y y2 = true) : fJxf58ca_compare_66c2b x y = fJxf58ca_compare_66c2b x2 y2 := by
  have e : FP.fcmp x y = FP.fcmp x2 y2 := by
    rcases al32 hx with rfl | ⟨a1, a2⟩
    · rcases al32 hy with rfl | ⟨b1, b2⟩
      · rfl
      · rw [fcmp_nanR b1, fcmp_nanR b2]
    · rw [fcmp_nanL a1, fcmp_nanL a2]
  unfold fJxf58ca_compare_66c2b
  rw [e, al_floatToIntBits hx, al_floatToIntBits hy]
