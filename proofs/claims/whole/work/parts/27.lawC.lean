theorem lw_opi (x : Int32) : (x &&& (63 : Int32)).toInt < 64 ∧ 0 ≤ (x &&& (63 : Int32)).toInt := by
  obtain ⟨⟨b⟩⟩ := x
  have h1 : (⟨⟨b⟩⟩ &&& (63 : Int32) : Int32).toInt = (b &&& (63#32)).toInt := rfl
  have h2 : (b &&& (63#32)).toNat ≤ 63 := by
    rw [BitVec.toNat_and]
    exact Nat.and_le_right
  rw [h1, BitVec.toInt_eq_toNat_cond]
  split <;> omega
theorem lw_in39 {y : Int32} (h1 : ¬ y.toInt < 0) (h2 : ¬ 38 < y.toInt) : y.toInt = 0 ∨ y.toInt = 1 ∨ y.toInt = 2 ∨ y.toInt = 3 ∨ y.toInt = 4 ∨ y.toInt = 5 ∨ y.toInt = 6 ∨ y.toInt = 7 ∨ y.toInt = 8 ∨ y.toInt = 9 ∨ y.toInt = 10 ∨ y.toInt = 11 ∨ y.toInt = 12 ∨ y.toInt = 13 ∨ y.toInt = 14 ∨ y.toInt = 15 ∨ y.toInt = 16 ∨ y.toInt = 17 ∨ y.toInt = 18 ∨ y.toInt = 19 ∨ y.toInt = 20 ∨ y.toInt = 21 ∨ y.toInt = 22 ∨ y.toInt = 23 ∨ y.toInt = 24 ∨ y.toInt = 25 ∨ y.toInt = 26 ∨ y.toInt = 27 ∨ y.toInt = 28 ∨ y.toInt = 29 ∨ y.toInt = 30 ∨ y.toInt = 31 ∨ y.toInt = 32 ∨ y.toInt = 33 ∨ y.toInt = 34 ∨ y.toInt = 35 ∨ y.toInt = 36 ∨ y.toInt = 37 ∨ y.toInt = 38 := by omega
theorem lw_plus {i j : Nat} (v : Int32) (hv : v = nI j) : nI i + v = nI (i + j) := by rw [hv, nI_add]
set_option maxHeartbeats 4000000 in
set_option maxRecDepth 100000 in
theorem lw_step {p : Program} {l : Launch} {e : Env} {s : State} {m : MethodId} {below : List Frame} {meth : Method} {cd : Code} {D : va_G} {ct : Nat → ClassId} {b L : Nat} {xs : Nat → Int32} {Rel : KS → MS → Prop} (hE0 : ME p s m cd #[Value.ref b] D ct cL_law RL 4) (hX0 : va_X b L xs s s.heap) (hbl : b < s.heap.size) (hr : meth.sig.returnType = ret) (hlk : meth.locks = false) (hL : L ≤ 3072) (hsim : SIM Rel) {i : Nat} (hiL : i ≤ 3072)
    (ih : i + 6 ≤ L → ∀ (K : KS) (M : MS) (J : List Nat) (ad : Nat → Nat) (c : CF) (H : Heap) (locs : List Loc) (d0 : Drawn) (cells slots : Nat) (ls : Array Slot), LI D ct s Rel K M J ad c H locs d0 cells slots → lv_has ls 4 [(0, .ref b), (1, .ref (ad 0)), (2, .ref (ad 160)), (3, .int (nI (i + 6)))] → W p l e room_1 (s.setDrawn d0) m #[Value.ref b] below meth cd H locs cells slots (lw_Z below #[Value.ref b] s) (F0 m 18 ls []))
    {K : KS} {M : MS} {J : List Nat} {ad : Nat → Nat} {c : CF} {H : Heap} {locs : List Loc} {d0 : Drawn} {cells slots : Nat} {ls : Array Slot} (hi : LI D ct s Rel K M J ad c H locs d0 cells slots) (hl : lv_has ls 4 [(0, .ref b), (1, .ref (ad 0)), (2, .ref (ad 160)), (3, .int (nI i))]) : W p l e room_1 (s.setDrawn d0) m #[Value.ref b] below meth cd H locs cells slots (lw_Z below #[Value.ref b] s) (F0 m 18 ls []) := by
  have hi0 := hi
  obtain ⟨hRel, hK, hM, hW, hd, hj1, hj2, hc1, hc2⟩ := hi
  have hx := hE0.1
  have hb := hE0.2.1
  have hE := hE0.dr d0
  have hX : va_X b L xs (s.setDrawn d0) s.heap := hX0
  have hA : ∀ q : Nat, s.heap.size ≤ q → (fun q : Nat => s.heap.size ≤ q) q := fun _ h => h
  have hbA : ¬ (fun q : Nat => s.heap.size ≤ q) b := Nat.not_le.mpr hbl
  have hcs : cells ≤ room_1.cells ∧ slots ≤ room_1.slots := ⟨Nat.le_trans (show cells ≤ 300 by omega) (Nat.le_of_ble_eq_true rfl), Nat.le_trans (show slots ≤ 60000 by omega) (Nat.le_of_ble_eq_true rfl)⟩
  refine lv_iload_n hx hb dL_law_18 rfl (lv_at hl 3 rfl) ?_
  refine lv_aload_n hx hb dL_law_19 rfl (lv_at hl 0 rfl) ?_
  refine va_slen hx hb hX hbl hbA hW.2.2 dL_law_20 ?_
  refine lv_bipush (v := (6 : Int32)) hx hb dL_law_21 (by decide) ?_
  refine lv_isub hx hb dL_law_23 ?_
  refine lv_icmp_gt (tgt := 1504) hx hb dL_law_24 (by decide) (fun _ => ?_) (fun kf => ?_)
  · refine lv_iconst (v := (1 : Int32)) hx hb dL_law_1504 (by decide) ?_
    refine va_forget (fun q hq => hW.2.2.2.2 q hq) ?_
    refine W.widen (k := 120646) (n := 8740312) (by omega) (by omega) ?_
    exact lw_ret hd hx hb hr hlk dL_law_1505
  have hi6 : i + 6 ≤ L := by
    have e1 : (nI L - (6 : Int32)).toInt = (L : Int) - 6 := by
      rw [Int32.toInt_sub, nI_toInt (by omega)]
      show ((L : Int) - 6).bmod (2 ^ 32) = _
      rw [Int.bmod_def]
      split <;> omega
    have e2 : ¬ (nI L - (6 : Int32)).toInt < (nI i).toInt := fun h => kf (Int32.lt_iff_toInt_lt.mpr h)
    rw [e1, nI_toInt (by omega)] at e2
    omega
  have hL31 : L < 2 ^ 31 := by omega
  have h_0 : vp_in (nI i) L := vp_in_nI (by omega) hL31
  have h_1 : vp_in (nI i + (1 : Int32)) L := by rw [lw_plus (i := i) (j := 1) (1 : Int32) rfl]; exact vp_in_nI (by omega) hL31
  have h_2 : vp_in (nI i + (2 : Int32)) L := by rw [lw_plus (i := i) (j := 2) (2 : Int32) rfl]; exact vp_in_nI (by omega) hL31
  have h_3 : vp_in (nI i + (3 : Int32)) L := by rw [lw_plus (i := i) (j := 3) (3 : Int32) rfl]; exact vp_in_nI (by omega) hL31
  have h_4 : vp_in (nI i + (4 : Int32)) L := by rw [lw_plus (i := i) (j := 4) (4 : Int32) rfl]; exact vp_in_nI (by omega) hL31
  have h_5 : vp_in (nI i + (5 : Int32)) L := by rw [lw_plus (i := i) (j := 5) (5 : Int32) rfl]; exact vp_in_nI (by omega) hL31
  refine lv_aload_n hx hb dL_law_27 rfl (lv_at hl 0 rfl) ?_
  refine lv_iload_n hx hb dL_law_28 rfl (lv_at hl 3 rfl) ?_
  refine va_sld hx hb hX hbl hbA hW.2.2 h_0 dL_law_29 ?_
  refine lv_bipush (v := (63 : Int32)) hx hb dL_law_30 (by decide) ?_
  refine lv_iand hx hb dL_law_32 ?_
  have hn : ∀ (K : KS) (M : MS) (J : List Nat) (ad : Nat → Nat) (c : CF) (H : Heap) (locs : List Loc) (d0 : Drawn) (cells slots : Nat) (ls : Array Slot), LI D ct s Rel K M J ad c H locs d0 cells slots → lv_has ls 4 [(0, .ref b), (1, .ref (ad 0)), (2, .ref (ad 160)), (3, .int (nI i))] → W p l e room_1 (s.setDrawn d0) m #[Value.ref b] below meth cd H locs cells slots (lw_Z below #[Value.ref b] s) (F0 m 1498 ls []) := by
    intro K M J ad c H locs d0 cells slots ls hi hl
    refine lv_iinc (k := 3) (lv' := [(3, .int (nI (i + 6))), (0, .ref b), (1, .ref (ad 0)), (2, .ref (ad 160))]) hx hb dL_law_1498 hl rfl (lw_plus (j := 6) _ rfl) (by decide) rfl (fun ls hl => ?_)
    refine lv_goto (tgt := 18) hx hb dL_law_1501 (by decide) ?_
    exact ih hi6 K M J ad c H locs d0 cells slots ls hi (lv_sub hl [1, 2, 3, 0] rfl)
  by_cases k1 : (xs (nI i).toNatClampNeg &&& (63 : Int32)).toInt < 0
  · exact absurd k1 (Int.not_lt.mpr (lw_opi _).2)
  by_cases k2 : 38 < (xs (nI i).toNatClampNeg &&& (63 : Int32)).toInt
  · refine lv_tableOut (tgt := 1498) hx hb dL_law_33 (Or.inr k2) (by decide) ?_
    exact hn K M J ad c H locs d0 cells slots ls hi0 hl
  rcases lw_in39 k1 k2 with kk | kk | kk | kk | kk | kk | kk | kk | kk | kk | kk | kk | kk | kk | kk | kk | kk | kk | kk | kk | kk | kk | kk | kk | kk | kk | kk | kk | kk | kk | kk | kk | kk | kk | kk | kk | kk | kk | kk
  · exact lv_tableIn (off := 171) (tgt := 204) hx hb dL_law_33 k1 k2 (by rw [kk]; rfl) (by decide) (lc_put hE0 hX0 hbl (hsim.1) h_1 h_2 h_3 h_4 h_5 hn hi0 hl)
  · exact lv_tableIn (off := 234) (tgt := 267) hx hb dL_law_33 k1 k2 (by rw [kk]; rfl) (by decide) (lc_tomb hE0 hX0 hbl (hsim.2.1) h_1 h_2 h_3 hn hi0 hl)
  · exact lv_tableIn (off := 277) (tgt := 310) hx hb dL_law_33 k1 k2 (by rw [kk]; rfl) (by decide) (lc_tick hE0 hX0 hbl (hsim.2.2.1) h_1 hn hi0 hl)
  · exact lv_tableIn (off := 300) (tgt := 333) hx hb dL_law_33 k1 k2 (by rw [kk]; rfl) (by decide) (lc_set hE0 hX0 hbl (hsim.2.2.2.1) h_1 h_2 hn hi0 hl)
  · exact lv_tableIn (off := 333) (tgt := 366) hx hb dL_law_33 k1 k2 (by rw [kk]; rfl) (by decide) (lc_compact hE0 hX0 hbl (hsim.2.2.2.2.1) h_1 hn hi0 hl)
  · exact lv_tableIn (off := 356) (tgt := 389) hx hb dL_law_33 k1 k2 (by rw [kk]; rfl) (by decide) (lc_retain hE0 hX0 hbl (hsim.2.2.2.2.2.1) h_1 hn hi0 hl)
  · exact lv_tableIn (off := 379) (tgt := 412) hx hb dL_law_33 k1 k2 (by rw [kk]; rfl) (by decide) (lc_feed hE0 hX0 hbl (hsim.2.2.2.2.2.2.1) h_1 hn hi0 hl)
  · exact lv_tableIn (off := 402) (tgt := 435) hx hb dL_law_33 k1 k2 (by rw [kk]; rfl) (by decide) (lc_read hE0 hX0 hbl (hsim.2.2.2.2.2.2.2.1) hn hi0 hl)
  · exact lv_tableIn (off := 415) (tgt := 448) hx hb dL_law_33 k1 k2 (by rw [kk]; rfl) (by decide) (lc_of hE0 hX0 hbl (hsim.2.2.2.2.2.2.2.2.1) h_1 h_2 hn hi0 hl)
  · exact lv_tableIn (off := 448) (tgt := 481) hx hb dL_law_33 k1 k2 (by rw [kk]; rfl) (by decide) (lc_record hE0 hX0 hbl (hsim.2.2.2.2.2.2.2.2.2.1) h_1 h_2 h_3 hn hi0 hl)
  · exact lv_tableIn (off := 492) (tgt := 525) hx hb dL_law_33 k1 k2 (by rw [kk]; rfl) (by decide) (lc_segment hE0 hX0 hbl (hsim.2.2.2.2.2.2.2.2.2.2.1) h_1 h_2 h_3 hn hi0 hl)
  · exact lv_tableIn (off := 535) (tgt := 568) hx hb dL_law_33 k1 k2 (by rw [kk]; rfl) (by decide) (lc_value hE0 hX0 hbl (hsim.2.2.2.2.2.2.2.2.2.2.2.1) h_1 h_2 hn hi0 hl)
  · exact lv_tableIn (off := 569) (tgt := 602) hx hb dL_law_33 k1 k2 (by rw [kk]; rfl) (by decide) (lc_map hE0 hX0 hbl (hsim.2.2.2.2.2.2.2.2.2.2.2.2.1) h_1 h_2 hn hi0 hl)
  · exact lv_tableIn (off := 603) (tgt := 636) hx hb dL_law_33 k1 k2 (by rw [kk]; rfl) (by decide) (lc_replay hE0 hX0 hbl (hsim.2.2.2.2.2.2.2.2.2.2.2.2.2.1) h_1 h_2 h_3 hn hi0 hl)
  · exact lv_tableIn (off := 647) (tgt := 680) hx hb dL_law_33 k1 k2 (by rw [kk]; rfl) (by decide) (lc_near hE0 hX0 hbl (hsim.2.2.2.2.2.2.2.2.2.2.2.2.2.2.1) h_1 h_2 h_3 hn hi0 hl)
  · exact lv_tableIn (off := 690) (tgt := 723) hx hb dL_law_33 k1 k2 (by rw [kk]; rfl) (by decide) (lc_oldest hE0 hX0 hbl (hsim.2.2.2.2.2.2.2.2.2.2.2.2.2.2.2.1) h_1 h_2 hn hi0 hl)
  · exact lv_tableIn (off := 723) (tgt := 756) hx hb dL_law_33 k1 k2 (by rw [kk]; rfl) (by decide) (lc_would hE0 hX0 hbl (hsim.2.2.2.2.2.2.2.2.2.2.2.2.2.2.2.2.1) h_1 h_2 hn hi0 hl)
  · exact lv_tableIn (off := 756) (tgt := 789) hx hb dL_law_33 k1 k2 (by rw [kk]; rfl) (by decide) (lc_need hE0 hX0 hbl (hsim.2.2.2.2.2.2.2.2.2.2.2.2.2.2.2.2.2.1) h_1 h_2 hn hi0 hl)
  · exact lv_tableIn (off := 789) (tgt := 822) hx hb dL_law_33 k1 k2 (by rw [kk]; rfl) (by decide) (lc_join hE0 hX0 hbl (hsim.2.2.2.2.2.2.2.2.2.2.2.2.2.2.2.2.2.2.1) h_1 hn hi0 hl)
  · exact lv_tableIn (off := 812) (tgt := 845) hx hb dL_law_33 k1 k2 (by rw [kk]; rfl) (by decide) (lc_leave hE0 hX0 hbl (hsim.2.2.2.2.2.2.2.2.2.2.2.2.2.2.2.2.2.2.2.1) h_1 hn hi0 hl)
  · exact lv_tableIn (off := 835) (tgt := 868) hx hb dL_law_33 k1 k2 (by rw [kk]; rfl) (by decide) (lc_poll hE0 hX0 hbl (hsim.2.2.2.2.2.2.2.2.2.2.2.2.2.2.2.2.2.2.2.2.1) h_1 hn hi0 hl)
  · exact lv_tableIn (off := 858) (tgt := 891) hx hb dL_law_33 k1 k2 (by rw [kk]; rfl) (by decide) (lc_seek hE0 hX0 hbl (hsim.2.2.2.2.2.2.2.2.2.2.2.2.2.2.2.2.2.2.2.2.2.1) h_1 h_2 hn hi0 hl)
  · exact lv_tableIn (off := 891) (tgt := 924) hx hb dL_law_33 k1 k2 (by rw [kk]; rfl) (by decide) (lc_member hE0 hX0 hbl (hsim.2.2.2.2.2.2.2.2.2.2.2.2.2.2.2.2.2.2.2.2.2.2.1) h_1 h_2 hn hi0 hl)
  · exact lv_tableIn (off := 924) (tgt := 957) hx hb dL_law_33 k1 k2 (by rw [kk]; rfl) (by decide) (lc_told hE0 hX0 hbl (hsim.2.2.2.2.2.2.2.2.2.2.2.2.2.2.2.2.2.2.2.2.2.2.2.1) h_1 hn hi0 hl)
  · exact lv_tableIn (off := 947) (tgt := 980) hx hb dL_law_33 k1 k2 (by rw [kk]; rfl) (by decide) (lc_odds hE0 hX0 hbl (hsim.2.2.2.2.2.2.2.2.2.2.2.2.2.2.2.2.2.2.2.2.2.2.2.2.1) h_1 h_2 hn hi0 hl)
  · exact lv_tableIn (off := 981) (tgt := 1014) hx hb dL_law_33 k1 k2 (by rw [kk]; rfl) (by decide) (lc_plan hE0 hX0 hbl (hsim.2.2.2.2.2.2.2.2.2.2.2.2.2.2.2.2.2.2.2.2.2.2.2.2.2.1) h_1 h_2 hn hi0 hl)
  · exact lv_tableIn (off := 1014) (tgt := 1047) hx hb dL_law_33 k1 k2 (by rw [kk]; rfl) (by decide) (lc_ends hE0 hX0 hbl (hsim.2.2.2.2.2.2.2.2.2.2.2.2.2.2.2.2.2.2.2.2.2.2.2.2.2.2.1) h_1 hn hi0 hl)
  · exact lv_tableIn (off := 1037) (tgt := 1070) hx hb dL_law_33 k1 k2 (by rw [kk]; rfl) (by decide) (lc_book hE0 hX0 hbl (hsim.2.2.2.2.2.2.2.2.2.2.2.2.2.2.2.2.2.2.2.2.2.2.2.2.2.2.2.1) h_1 h_2 hn hi0 hl)
  · exact lv_tableIn (off := 1070) (tgt := 1103) hx hb dL_law_33 k1 k2 (by rw [kk]; rfl) (by decide) (lc_looked hE0 hX0 hbl (hsim.2.2.2.2.2.2.2.2.2.2.2.2.2.2.2.2.2.2.2.2.2.2.2.2.2.2.2.2.1) hn hi0 hl)
  · exact lv_tableIn (off := 1083) (tgt := 1116) hx hb dL_law_33 k1 k2 (by rw [kk]; rfl) (by decide) (lc_keep hE0 hX0 hbl (hsim.2.2.2.2.2.2.2.2.2.2.2.2.2.2.2.2.2.2.2.2.2.2.2.2.2.2.2.2.2.1) h_1 h_2 h_3 hn hi0 hl)
  · exact lv_tableIn (off := 1126) (tgt := 1159) hx hb dL_law_33 k1 k2 (by rw [kk]; rfl) (by decide) (lc_kept hE0 hX0 hbl (hsim.2.2.2.2.2.2.2.2.2.2.2.2.2.2.2.2.2.2.2.2.2.2.2.2.2.2.2.2.2.2.1) h_1 h_2 hn hi0 hl)
  · exact lv_tableIn (off := 1160) (tgt := 1193) hx hb dL_law_33 k1 k2 (by rw [kk]; rfl) (by decide) (lc_judge hE0 hX0 hbl (hsim.2.2.2.2.2.2.2.2.2.2.2.2.2.2.2.2.2.2.2.2.2.2.2.2.2.2.2.2.2.2.2.1) h_1 h_2 h_3 hn hi0 hl)
  · exact lv_tableIn (off := 1203) (tgt := 1236) hx hb dL_law_33 k1 k2 (by rw [kk]; rfl) (by decide) (lc_image hE0 hX0 hbl (hsim.2.2.2.2.2.2.2.2.2.2.2.2.2.2.2.2.2.2.2.2.2.2.2.2.2.2.2.2.2.2.2.2.1) hn hi0 hl)
  · exact lv_tableIn (off := 1216) (tgt := 1249) hx hb dL_law_33 k1 k2 (by rw [kk]; rfl) (by decide) (lc_undo hE0 hX0 hbl (hsim.2.2.2.2.2.2.2.2.2.2.2.2.2.2.2.2.2.2.2.2.2.2.2.2.2.2.2.2.2.2.2.2.2.1) hn hi0 hl)
  · exact lv_tableIn (off := 1229) (tgt := 1262) hx hb dL_law_33 k1 k2 (by rw [kk]; rfl) (by decide) (lc_count hE0 hX0 hbl (hsim.2.2.2.2.2.2.2.2.2.2.2.2.2.2.2.2.2.2.2.2.2.2.2.2.2.2.2.2.2.2.2.2.2.2.1) h_1 hn hi0 hl)
  · exact lv_tableIn (off := 1252) (tgt := 1285) hx hb dL_law_33 k1 k2 (by rw [kk]; rfl) (by decide) (lc_tape hE0 hX0 hbl (hsim.2.2.2.2.2.2.2.2.2.2.2.2.2.2.2.2.2.2.2.2.2.2.2.2.2.2.2.2.2.2.2.2.2.2.2.1) h_1 h_2 h_3 hn hi0 hl)
  · exact lv_tableIn (off := 1295) (tgt := 1328) hx hb dL_law_33 k1 k2 (by rw [kk]; rfl) (by decide) (lc_item hE0 hX0 hbl (hsim.2.2.2.2.2.2.2.2.2.2.2.2.2.2.2.2.2.2.2.2.2.2.2.2.2.2.2.2.2.2.2.2.2.2.2.2.1) h_1 h_2 h_3 h_4 hn hi0 hl)
  · exact lv_tableIn (off := 1368) (tgt := 1401) hx hb dL_law_33 k1 k2 (by rw [kk]; rfl) (by decide) (lc_peek hE0 hX0 hbl (hsim.2.2.2.2.2.2.2.2.2.2.2.2.2.2.2.2.2.2.2.2.2.2.2.2.2.2.2.2.2.2.2.2.2.2.2.2.2.1) h_1 h_2 hn hi0 hl)
  · exact lv_tableIn (off := 1402) (tgt := 1435) hx hb dL_law_33 k1 k2 (by rw [kk]; rfl) (by decide) (lc_shift hE0 hX0 hbl (hsim.2.2.2.2.2.2.2.2.2.2.2.2.2.2.2.2.2.2.2.2.2.2.2.2.2.2.2.2.2.2.2.2.2.2.2.2.2.2) h_1 h_2 h_3 h_4 h_5 hn hi0 hl)
theorem lw_loop {p : Program} {l : Launch} {e : Env} {s : State} {m : MethodId} {below : List Frame} {meth : Method} {cd : Code} {D : va_G} {ct : Nat → ClassId} {b L : Nat} {xs : Nat → Int32} {Rel : KS → MS → Prop} (hE0 : ME p s m cd #[Value.ref b] D ct cL_law RL 4) (hX0 : va_X b L xs s s.heap) (hbl : b < s.heap.size) (hr : meth.sig.returnType = ret) (hlk : meth.locks = false) (hL : L ≤ 3072) (hsim : SIM Rel) : ∀ (n i : Nat), i ≤ 3072 → L ≤ i + n → ∀ (K : KS) (M : MS) (J : List Nat) (ad : Nat → Nat) (c : CF) (H : Heap) (locs : List Loc) (d0 : Drawn) (cells slots : Nat) (ls : Array Slot), LI D ct s Rel K M J ad c H locs d0 cells slots → lv_has ls 4 [(0, .ref b), (1, .ref (ad 0)), (2, .ref (ad 160)), (3, .int (nI i))] → W p l e room_1 (s.setDrawn d0) m #[Value.ref b] below meth cd H locs cells slots (lw_Z below #[Value.ref b] s) (F0 m 18 ls []) := by
  intro n
  induction n with
  | zero =>
    intro i h1 h2 K M J ad c H locs d0 cells slots ls hi hl
    exact lw_step hE0 hX0 hbl hr hlk hL hsim h1 (fun h => by omega) hi hl
  | succ n ih =>
    intro i h1 h2 K M J ad c H locs d0 cells slots ls hi hl
    exact lw_step hE0 hX0 hbl hr hlk hL hsim h1 (fun h => ih (i + 6) (by omega) (by omega)) hi hl
theorem lw_arr {U : State} {c : ClassId} {k : Class} {comp : ClassId} {ty : FieldType} (h2 : U.vm.classes[c]? = some k) (h3 : k.kind = .array comp ty) : ArrOfT U c ty := fun n z => ⟨fun k h => (by cases h), k, h2, comp, h3⟩
set_option maxHeartbeats 4000000 in
set_option maxRecDepth 100000 in
theorem lw_begin {Rel : KS → MS → Prop} (hsim : SIM Rel) (h0 : Rel kl0 mo_17) {p : Program} {e : Env} {s : State} {m : MethodId} {below : List Frame} {meth : Method} {c : Code} (l : Launch) (hflags : l.flags = flags0) {b L : Nat} {xs : Nat → Int32} (hL : L ≤ 3072) (C0 : lw_At p s m meth c b L xs) : W p l e room_1 s m #[Value.ref b] below meth c s.heap [] 0 0 (lw_Z below #[Value.ref b] s) (entryFrame m ([Value.ref b] : List Value).toArray 4) := by
  obtain ⟨hx, hb, hr, hml, hown, hts, hX, hbl, hlocks, hgv⟩ := id C0
  have hAL : ∀ w ∈ AL, w.before #[Value.ref b] s = true := fun w hw => hts w (List.mem_filter.mp hw).1
  have hNL : ∀ w ∈ NL, va_Nw w s := fun w hw => isN_of (List.mem_filter.mp hw).2 (hts w (List.mem_filter.mp hw).1)
  obtain ⟨c1, i1, hK1⟩ := u_known (C := RX1) (T := TX1) (N := 5) (n := 5) hAL inX1 (hAL _ q81)
  obtain ⟨c2, i2, hK2⟩ := u_known (C := RX2) (T := TX2) (N := 5) (n := 5) hAL inX2 (hAL _ q202)
  obtain ⟨c3, i3, hK3⟩ := u_known (C := RX3) (T := TX3) (N := 9) (n := 9) hAL inX3 (hAL _ q32)
  obtain ⟨c4, i4, hK4⟩ := u_known (C := RX4) (T := TX4) (N := 3) (n := 3) hAL inX4 (hAL _ q108)
  obtain ⟨c5, i5, hK5⟩ := u_known (C := RX5) (T := TX5) (N := 8) (n := 8) hAL inX5 (hAL _ q25)
  obtain ⟨c6, i6, hK6⟩ := u_known (C := RX6) (T := TX6) (N := 3) (n := 3) hAL inX6 (hAL _ q226)
  obtain ⟨c7, i7, hK7⟩ := u_known (C := RX7) (T := TX7) (N := 8) (n := 8) hAL inX7 (hAL _ q164)
  obtain ⟨c8, i8, hK8⟩ := u_known (C := RX8) (T := TX8) (N := 6) (n := 6) hAL inX8 (hAL _ q17)
  obtain ⟨c9, i9, hK9⟩ := u_known (C := RX9) (T := TX9) (N := 17) (n := 17) hAL inX9 (hAL _ q857)
  obtain ⟨a0, ka0, co0, f0, g0, j0⟩ := Cond.arrayClass_spec (hAL _ q79)
  obtain ⟨a1, ka1, co1, f1, g1, j1⟩ := Cond.arrayClass_spec (hAL _ q243)
  obtain ⟨a2, ka2, co2, f2, g2, j2⟩ := Cond.arrayClass_spec (hAL _ q106)
  obtain ⟨co3, a3, ka3, e3, -, g3, j3, f3⟩ := Cond.arrayOver_spec (hNL _ q31)
  obtain ⟨co4, a4, ka4, e4, -, g4, j4, f4⟩ := Cond.arrayOver_spec (hNL _ q225)
  obtain ⟨co5, a5, ka5, e5, -, g5, j5, f5⟩ := arrayOverA_spec (hNL _ q863)
  obtain ⟨D, hKc⟩ : ∃ D : va_G, ∀ (k : Nat) (q : vw_C), vwCl[k]? = some q → u_Kn s q.1 q.2.1 q.2.2 (D.1 k) (D.2 k) := by
    refine ⟨(fun k => if k = 0 then c1 else if k = 1 then c2 else if k = 2 then c3 else if k = 3 then c4 else if k = 4 then c5 else if k = 5 then c6 else if k = 6 then c7 else if k = 7 then c8 else c9, fun k => if k = 0 then i1 else if k = 1 then i2 else if k = 2 then i3 else if k = 3 then i4 else if k = 4 then i5 else if k = 5 then i6 else if k = 6 then i7 else if k = 7 then i8 else i9), ?_⟩
    intro k q hq
    match k, hq with
    | 0, hq => cases hq; exact hK1
    | 1, hq => cases hq; exact hK2
    | 2, hq => cases hq; exact hK3
    | 3, hq => cases hq; exact hK4
    | 4, hq => cases hq; exact hK5
    | 5, hq => cases hq; exact hK6
    | 6, hq => cases hq; exact hK7
    | 7, hq => cases hq; exact hK8
    | 8, hq => cases hq; exact hK9
    | k + 9, hq => simp [vwCl] at hq
  obtain ⟨ct, hct⟩ : ∃ ct : Nat → ClassId, ∀ (k : Nat) (q : ClassId × FieldType), (TY ct)[k]? = some q → ArrOfT s q.1 q.2 ∧ va_RA s q.1 q.2 := by
    refine ⟨fun k => if k = 0 then a0 else if k = 1 then a1 else if k = 2 then a2 else if k = 3 then a3 else if k = 4 then a4 else a5, ?_⟩
    intro k q hq
    match k, hq with
    | 0, hq => cases hq; exact ⟨lw_arr g0 j0, f0⟩
    | 1, hq => cases hq; exact ⟨lw_arr g1 j1, f1⟩
    | 2, hq => cases hq; exact ⟨lw_arr g2 j2, f2⟩
    | 3, hq => cases hq; exact ⟨lw_arr g3 j3, _, _, g3, j3, e3, f3⟩
    | 4, hq => cases hq; exact ⟨lw_arr g4 j4, _, _, g4, j4, e4, f4⟩
    | 5, hq => cases hq; exact ⟨lw_arr g5 j5, f5⟩
    | k + 6, hq => simp [TY] at hq
  have hE0 : ME p s m c #[Value.ref b] D ct cL_law RL 4 := ⟨hx, hb, hml, hown, hAL, ⟨hKc, hct⟩, hNL⟩
  have hE := hE0.dr s.drawn
  refine W.base ?_
  have hd0 := Drawn.sameBut.refl s.drawn lw_cs
  generalize hdd : s.drawn = d0 at hE hd0 ⊢
  have hd0 : s.drawn.sameBut d0 lw_cs := by rw [hdd]; exact hd0
  clear hdd
  have hA : ∀ q : Nat, s.heap.size ≤ q → (fun q : Nat => s.heap.size ≤ q) q := fun _ h => h
  have hW : HW D [] (fun i => if i < 46 then s.heap.size + i else s.heap.size + (i - 90)) (fun _ => .inl (ct 0, 0, .inl (fun _ => 0))) (fun q : Nat => s.heap.size ≤ q) s.heap s.heap [] := ⟨fun k q h => by simp [wl] at h, ⟨fun i j p q h => by simp [wl] at h, fun k q h => by simp [wl] at h⟩, va_S.rf⟩
  obtain ⟨ad, had1, had2⟩ : ∃ ad : Nat → Nat, (∀ k, k ≤ 45 → ad k = s.heap.size + k) ∧ ∀ k, 136 ≤ k → ad k = s.heap.size + (k - 90) := ⟨fun i => if i < 46 then s.heap.size + i else s.heap.size + (i - 90), fun k h => if_pos (by omega), fun k h => if_neg (by omega)⟩
  have hW : HW D [] ad (fun _ => .inl (ct 0, 0, .inl (fun _ => 0))) (fun q : Nat => s.heap.size ≤ q) s.heap s.heap [] := hW.adm (fun i hi => by simp at hi)
  have hl := lv_entry ([.ref b]) (n := 4) (Nat.le_of_ble_eq_true rfl)
  rw [lg_entry_eq]
  generalize (lg_sl ([.ref b]) ++ List.replicate (4 - (lg_sl ([.ref b])).length) Slot.unset).toArray = ls at hl ⊢
  have hl : lv_has ls 4 [(0, .ref b)] := hl
  have hzz : s.heap.size = s.heap.size := rfl
  refine k_newO (z := s.heap.size) (i := 0) (ci := 7) (fs := [.null, .null, .null, .null, .null, .null]) hE hW hA rfl (by rw [had1 0 (by omega)]; omega) (by simp) rfl inX8 tyX8 tyX8_ok q16 q17 q1 (fun j hj => by rcases (show j = 0 ∨ j = 1 ∨ j = 2 ∨ j = 3 ∨ j = 4 ∨ j = 5 by omega) with rfl | rfl | rfl | rfl | rfl | rfl <;> rfl) (Nat.le_of_ble_eq_true rfl) (Nat.le_of_ble_eq_true rfl) dL_law_0 (fun H hz1 hW => ?_)
  refine lv_dup hx hb dL_law_3 rfl ?_
  refine k_callI (rest := [.ref (ad 0)]) hE hW (hW.af hA) hl.1 (nX8_init (by simp) (fun k h1 h2 => by simp; omega) (fun k h1 h2 => by simp; omega) (fun k h1 h2 => by rw [had1 _ (by omega), hz1]; omega) (fun k h1 h2 => by rw [had2 _ (by omega), hz1]; omega) (va_up_self _ _ _)) q18 q19 rfl q1 q20 hd_X8_init.2 ⟨(Nat.le_of_ble_eq_true rfl), (Nat.le_of_ble_eq_true rfl)⟩ ⟨rfl, rfl⟩ rfl (Nat.le_of_ble_eq_true rfl) dL_law_4 ⟨(Nat.le_of_ble_eq_true rfl), (Nat.le_of_ble_eq_true rfl)⟩ (fun J c1 H1 locs1 hP hz2 hW => ?_)
  obtain ⟨hJ, hK, hF⟩ := hP
  refine lv_astore_n (lv' := [(1, .ref (ad 0)), (0, .ref b)]) hx hb dL_law_7 rfl hl (by decide) rfl (fun ls hl => ?_)
  have hJs : ∀ i, i ∈ J → i ≤ 45 ∨ (136 ≤ i ∧ i ≤ 159) := fun i hi => ((hJ i).mp hi).elim (fun h => by simp at h; omega) (fun h => by omega)
  refine W_sized (fun hup => ?_)
  have hup : H1.size ≤ s.heap.size + (0 + 1 + 69) := hup
  have hz3 : H1.size = s.heap.size + 70 := by omega
  refine k_newO (z := s.heap.size + 70) (i := 160) (ci := 8) (fs := [.null, .null, .null, .int 0, .null, .int 0, .null, .null, .null, .int 0, .null, .null, .null, .null, .null, .int 0, .int 0]) hE hW hA hz3 (by rw [had2 160 (by omega)]) (fun h => by have := hJs _ h; omega) rfl inX9 tyX9 tyX9_ok q856 q857 q10 (fun j hj => by rcases (show j = 0 ∨ j = 1 ∨ j = 2 ∨ j = 3 ∨ j = 4 ∨ j = 5 ∨ j = 6 ∨ j = 7 ∨ j = 8 ∨ j = 9 ∨ j = 10 ∨ j = 11 ∨ j = 12 ∨ j = 13 ∨ j = 14 ∨ j = 15 ∨ j = 16 by omega) with rfl | rfl | rfl | rfl | rfl | rfl | rfl | rfl | rfl | rfl | rfl | rfl | rfl | rfl | rfl | rfl | rfl <;> rfl) (Nat.le_of_ble_eq_true rfl) (Nat.le_of_ble_eq_true rfl) dL_law_8 (fun H2 hz4 hW => ?_)
  refine lv_dup hx hb dL_law_11 rfl ?_
  refine k_callI (rest := [.ref (ad 160)]) hE hW (hW.af hA) hl.1 (nX9_init (by simp) (fun k h1 h2 h => (List.mem_append.mp h).elim (fun h => by have := hJs _ h; omega) (fun h => by rw [List.mem_singleton] at h; omega)) (fun k h1 h2 => by rw [had2 _ (by omega), hz4]; omega) (va_up_self _ _ _)) q858 q859 rfl q10 q860 hd_X9_init.2 ⟨(Nat.le_of_ble_eq_true rfl), (Nat.le_of_ble_eq_true rfl)⟩ ⟨rfl, rfl⟩ rfl (Nat.le_of_ble_eq_true rfl) dL_law_12 ⟨(Nat.le_of_ble_eq_true rfl), (Nat.le_of_ble_eq_true rfl)⟩ (fun J2 c2 H3 locs2 hP hz5 hW => ?_)
  obtain ⟨hJ2, hM, hF2⟩ := hP
  refine lv_astore_n (lv' := [(2, .ref (ad 160)), (1, .ref (ad 0)), (0, .ref b)]) hx hb dL_law_15 rfl hl (by decide) rfl (fun ls hl => ?_)
  refine lv_iconst (v := (0 : Int32)) hx hb dL_law_16 (by decide) ?_
  refine lv_istore_n (lv' := [(3, .int 0), (2, .ref (ad 160)), (1, .ref (ad 0)), (0, .ref b)]) hx hb dL_law_17 rfl hl (by decide) rfl (fun ls hl => ?_)
  have hK : KlB ct J2 ad c2 0 kl0 := ((hK.fr (b2 := 160) (n := 19) (Fr.rf.up (by omega) (by omega)) (by omega)).fr hF2 (by omega)).mono (fun i hi => (hJ2 i).mpr (Or.inl (List.mem_append.mpr (Or.inl hi))))
  have hnJ : ∀ k, 46 ≤ k → k ≤ 135 → 0 + k ∉ J2 := fun k h1 h2 h => by
    rcases (hJ2 _).mp h with h | h
    · rcases List.mem_append.mp h with h | h
      · have := hJs _ h; omega
      · rw [List.mem_singleton] at h; omega
    · omega
  exact lw_loop hE0 hX hbl hr hlocks hL hsim 3072 0 (by omega) (by omega) kl0 mo_17 J2 ad c2 H3 locs2 d0 _ _ ls ⟨h0, hK, hM, hW, hd0, fun _ k h1 h2 => hnJ k h1 (by omega), fun _ k h1 h2 => hnJ k (by omega) h2, (Nat.le_of_ble_eq_true rfl), (Nat.le_of_ble_eq_true rfl)⟩ (lv_sub hl [3, 2, 1, 0] rfl)
