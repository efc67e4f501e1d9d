section RET2
variable {a : AB} {L : CS} {M : MS} {w i ag kp : Nat}
theorem c_out_l (hC : CR a L) (hA : AI a w) (hag : ag < 2 ^ 29) {j : Nat} (hj : j < a.1 6 1) : ∀ (d n o : Nat), o + d = se a j → d < n → fX3_isOutdated_7 (nI j) (nI w - nI ag) L n (nI o) = some (if sg (nb a w ag) o d = 0 then 1 else 0) := by
  have he := hA.2.1
  have hw := hA.1
  have hs := hA.sele (k := j)
  intro d
  induction d with
  | zero =>
    intro n o h1 h2
    obtain ⟨q9, rfl⟩ : ∃ q9, n = q9 + 1 := ⟨n - 1, by omega⟩
    rw [fX3_isOutdated_7, c_send hC hA hj]
    simp (disch := omega) only [nlit, zl_d, zb_s, zb2_s, nI_leI, nI_ltI, nI_eq, nI_add, nI_clamp, zi_ok]
    rw [if_pos (by omega), sg_0, if_pos rfl]
  | succ d ih =>
    intro n o h1 h2
    obtain ⟨q9, rfl⟩ : ∃ q9, n = q9 + 1 := ⟨n - 1, by omega⟩
    have hf := (hC.1 o (by omega)).1
    have ht := (hC.1 o (by omega)).2.2.1
    have hf2 := (hA.2.2.2.1 o (by omega)).1
    have ht2 := (hA.2.2.2.1 o (by omega)).2.2.1
    have hlim := lim_lt (t := a.1 2 o) (ag := ag) (w := w) (by omega) hag (by omega)
    rw [fX3_isOutdated_7, c_send hC hA hj]
    simp (disch := omega) only [nlit, zl_d, zb_s, zb2_s, nI_leI, nI_ltI, nI_eq, nI_add, nI_clamp, zi_ok, hf, ht]
    rw [if_neg (by omega), ih _ _ (by omega) (by omega), sg_s]
    by_cases h0 : a.1 0 o = 0
    · have hx : nb a w ag o = 0 := if_neg (fun q => q.1 h0)
      rw [if_pos h0, hx, Nat.zero_add]
      rfl
    · rw [if_neg h0]
      by_cases h1 : a.1 2 o + ag < w
      · have hx : nb a w ag o = 0 := if_neg (fun q => by omega)
        rw [if_pos (hlim.mpr h1), hx, Nat.zero_add]
        rfl
      · have hx : nb a w ag o = 1 := if_pos ⟨h0, by omega⟩
        rw [if_neg (fun q => h1 (hlim.mp q)), hx, if_neg (by omega)]
theorem c_out (hC : CR a L) (hA : AI a w) (hag : ag < 2 ^ 29) {j : Nat} (hj : j < a.1 6 1) : fX3_isOutdated (nI j) (nI w - nI ag) L = some (if sg (nb a w ag) (a.1 5 j) (se a j - a.1 5 j) = 0 then 1 else 0) := by
  have he := hA.2.1
  have hs := hA.sele (k := j)
  have hs2 := hA.bse hj
  have hfew := hA.few
  have hB := hC.2.1 j hj
  unfold fX3_isOutdated
  rw [zi_ok (by omega) (by omega), zl_d, nI_clamp (by omega), hB, c_out_l hC hA hag hj (se a j - a.1 5 j) FU _ (by omega) (fu_lt (by omega))]
theorem c_going_l (hC : CR a L) (hA : AI a w) (hag : ag < 2 ^ 29) (hkp : kp < 2 ^ 31) : ∀ (d n j : Nat), j + d + 1 = a.1 6 1 → d < n → fX3_segmentsGoing_14 (nI kp) (nI w) (nI ag) L n (nI (sg (wb a) (a.1 5 j) (a.1 6 0 - a.1 5 j))) (nI j) = some (nI (gng a kp w ag d j)) := by
  have he := hA.2.1
  have hfew := hA.few
  have hN := hC.2.2.2
  intro d
  induction d with
  | zero =>
    intro n j h1 h2
    obtain ⟨q9, rfl⟩ : ∃ q9, n = q9 + 1 := ⟨n - 1, by omega⟩
    rw [fX3_segmentsGoing_14, hN]
    simp (disch := omega) only [nlit, zl_d, zb_s, zb2_s, nI_leI, nI_ltI, nI_eq, nI_add, nI_clamp, zi_ok, pk_sub]
    rw [if_pos (by omega)]
    rfl
  | succ d ih =>
    intro n j h1 h2
    obtain ⟨q9, rfl⟩ : ∃ q9, n = q9 + 1 := ⟨n - 1, by omega⟩
    have hb1 := hA.ble (k := j) (by omega)
    have hb2 := hA.ble (k := j + 1) (by omega)
    have hm := hA.mono (j := j) (k := j + 1) (by omega) (by omega)
    have hB1 := hC.2.1 j (by omega)
    have hB2 := hC.2.1 (j + 1) (by omega)
    have hsp := sg_split (wb a) (o := a.1 5 j) (m := a.1 5 (j + 1)) (h := a.1 6 0) (by omega) hb2
    have hs9 := sg_le (f := wb a) (c := 9) (a.1 6 0 - a.1 5 j) (a.1 5 j) (fun i _ _ => hA.wb9 (by omega))
    have hse : se a j = a.1 5 (j + 1) := if_pos (by omega)
    have ho := c_out hC hA hag (j := j) (by omega)
    rw [hse] at ho
    have h43 : fX3_segmentsGoing_43 (nI kp) (nI w) (nI ag) L (fX3_segmentsGoing_14 (nI kp) (nI w) (nI ag) L q9) (nI (sg (wb a) (a.1 5 j) (a.1 6 0 - a.1 5 j))) (nI j) = some (nI (gng a kp w ag d (j + 1))) := by
      unfold fX3_segmentsGoing_43
      simp (disch := omega) only [nlit, zl_d, zb_s, zb2_s, nI_leI, nI_ltI, nI_eq, nI_add, nI_clamp, zi_ok, hB1, hB2, c_siz hC hA (lo := a.1 5 j) (hi := a.1 5 (j + 1)) (by omega) hb2, pk_sub]
      rw [← ih q9 (j + 1) (by omega) (by omega), hsp]
      congr 2
      omega
    rw [fX3_segmentsGoing_14, hN]
    simp (disch := omega) only [nlit, zl_d, zb_s, zb2_s, nI_leI, nI_ltI, nI_eq, nI_add, nI_clamp, zi_ok, pk_sub]
    rw [if_neg (by omega), h43, ho, zb_s, gng_s]
    by_cases h : goj a kp w ag j = true
    · rw [if_pos h]
      rcases (of_decide_eq_true h) with q | q
      · rw [if_pos q]
      · rw [if_pos q, if_neg (show ¬ (1 : Int32) = nI 0 by decide), ite_self]
    · rw [if_neg h]
      have hn := fun q => h (decide_eq_true q)
      rw [if_neg (fun q => hn (Or.inl q)), if_neg (fun q => hn (Or.inr q)), if_pos nI_0.symm]
/-- how many segments go -/
def gN (a : AB) (kp w ag : Nat) : Nat := gng a kp w ag (a.1 6 1 - 1) 0
theorem gN_lt (hA : AI a w) : gN a kp w ag < a.1 6 1 := by
  have h1 := hA.2.2.1
  have h2 := gng_le (a := a) (kp := kp) (w := w) (ag := ag) (a.1 6 1 - 1) 0
  unfold gN
  omega
theorem c_going (hC : CR a L) (hA : AI a w) (hag : ag < 2 ^ 29) (hkp : kp < 2 ^ 31) : fX3_segmentsGoing (nI kp) (nI w) (nI ag) L = some (nI (gN a kp w ag)) := by
  have he := hA.2.1
  have hn := hA.2.2.1
  have hfew := hA.few
  have hb0 := hA.ble (k := 0) hA.2.2.1
  have hz := c_siz hC hA (Nat.zero_le (a.1 6 0)) (Nat.le_refl _)
  have hsp := sg_split (wb a) (o := 0) (m := a.1 5 0) (h := a.1 6 0) (Nat.zero_le _) hb0
  rw [sg_zero (a.1 5 0 - 0) 0 (fun o _ h2 => hA.wbS (by omega)), Nat.zero_add] at hsp
  unfold fX3_segmentsGoing gN
  rw [hC.2.2.1, show (0 : Int32) = nI 0 from rfl, hz, zb_s, hsp, c_going_l hC hA hag hkp (a.1 6 1 - 1) FU 0 (by omega) (fu_lt (by omega))]
theorem c_goneR (hC : CR a L) (hA : AI a w) (hag : ag < 2 ^ 29) (hkp : kp < 2 ^ 31) : fX3_goneIfRetained (nI kp) (nI w) (nI ag) L = some (nI (sg (hb a) 0 (a.1 5 (gN a kp w ag)))) := by
  have hg := gN_lt (kp := kp) (ag := ag) hA
  have hfew := hA.few
  have hB := hC.2.1 _ hg
  unfold fX3_goneIfRetained
  rw [c_going hC hA hag hkp, zb_s, zi_ok (by omega) (by omega), nI_clamp (by omega), hB, show (0 : Int32) = nI 0 from rfl, c_rec hC hA (Nat.zero_le _) (hA.ble hg), zb_s]
  rfl
theorem c_leftR (hC : CR a L) (hA : AI a w) (hag : ag < 2 ^ 29) (hkp : kp < 2 ^ 31) : fX3_leftIfRetained (nI kp) (nI w) (nI ag) L = some (nI (sg (hb a) (a.1 5 (gN a kp w ag)) (a.1 6 0 - a.1 5 (gN a kp w ag)))) := by
  have hg := gN_lt (kp := kp) (ag := ag) hA
  have hfew := hA.few
  have hB := hC.2.1 _ hg
  unfold fX3_leftIfRetained
  rw [c_going hC hA hag hkp, zb_s, zi_ok (by omega) (by omega), nI_clamp (by omega), hB, hC.2.2.1, c_rec hC hA (hA.ble hg) (Nat.le_refl _), zb_s]
theorem c_ret_l (hA : AI a w) {c j : Nat} (hj : j < a.1 6 1) (hc : c ≤ 200) (r : Int32) : ∀ (d n o : Nat) (L : CS), CR (zr a o) L → o + d = c → d < n → ∃ L', fX3_retained_30 (nI j) (nI c) r n (nI o) L = zb (fX3_dropBases (nI 0) (nI j) L') (fun q => some (r, q)) ∧ CR (zr a c) L' := by
  intro d
  induction d with
  | zero =>
    intro n o L hC h1 h2
    obtain ⟨q9, rfl⟩ : ∃ q9, n = q9 + 1 := ⟨n - 1, by omega⟩
    refine ⟨L, ?_, by rw [← h1]; exact hC⟩
    rw [fX3_retained_30]
    simp (disch := omega) only [nlit, zl_d, zb_s, zb2_s, nI_leI, nI_ltI, nI_eq, nI_add, nI_clamp, zi_ok]
    rw [if_pos (by omega)]
  | succ d ih =>
    intro n o L hC h1 h2
    obtain ⟨q9, rfl⟩ : ∃ q9, n = q9 + 1 := ⟨n - 1, by omega⟩
    rw [fX3_retained_30]
    simp (disch := omega) only [nlit, zl_d, zb_s, zb2_s, nI_leI, nI_ltI, nI_eq, nI_add, nI_clamp, zi_ok]
    rw [if_neg (by omega)]
    exact ih q9 (o + 1) _ (by rw [zr_s]; exact hC.row (k := 0) (j := o) (v := 0) (by omega) (by omega)) (by omega) (by omega)
theorem c_ret (hC : CR a L) (hA : AI a w) (hag : ag < 2 ^ 29) (hkp : kp < 2 ^ 31) : ∃ L', fX3_retained (nI kp) (nI w) (nI ag) L = some (nI (sg (hb a) 0 (a.1 5 (gN a kp w ag))), L') ∧ CR (rt a (gN a kp w ag)) L' := by
  have he := hA.2.1
  have hg := gN_lt (kp := kp) (ag := ag) hA
  have hfew := hA.few
  have hB := hC.2.1 _ hg
  have hbl := hA.ble hg
  obtain ⟨L1, e1, e2⟩ := c_ret_l hA hg (c := a.1 5 (gN a kp w ag)) (by omega) (nI (sg (hb a) 0 (a.1 5 (gN a kp w ag)))) (a.1 5 (gN a kp w ag)) FU 0 L (by rw [zr_0]; exact hC) (by omega) (fu_lt (by omega))
  obtain ⟨L2, e3, e4⟩ := c_drop e2 (j := 0) (t := gN a kp w ag) (by rw [zr_k (by omega)]; omega) (by rw [zr_k (by omega)]; omega)
  refine ⟨L2, ?_, e4⟩
  unfold fX3_retained
  rw [c_going hC hA hag hkp, zb_s, zi_ok (by omega) (by omega), nI_clamp (by omega), hB, zl_d, show (0 : Int32) = nI 0 from rfl, c_rec hC hA (Nat.zero_le _) hbl, zb_s, Nat.sub_zero, e1, e3, zb_s]
end RET2
