/-! ===== a record comes ===== -/
def au (a : AB) (k j v : Nat) : AB := (va_up a.1 k (va_up (a.1 k) j v), a.2)
def av (a : AB) (j : Nat) (v : Int32) : AB := (a.1, va_up a.2 j v)
theorem au_s {a : AB} {k j v k' j' : Nat} (h : k' = k ∧ j' = j) : (au a k j v).1 k' j' = v := by
  obtain ⟨rfl, rfl⟩ := h
  simp [au, va_up]
theorem au_n {a : AB} {k j v k' j' : Nat} (h : ¬ (k' = k ∧ j' = j)) : (au a k j v).1 k' j' = a.1 k' j' := by
  unfold au va_up
  by_cases h1 : k' = k
  · have h2 : ¬ j' = j := fun h2 => h ⟨h1, h2⟩
    simp [h1, h2]
  · simp [h1]
theorem au_2 (a : AB) (k j v : Nat) : (au a k j v).2 = a.2 := Eq.trans rfl rfl
theorem av_1 (a : AB) (j : Nat) (v : Int32) : (av a j v).1 = a.1 := Eq.trans rfl rfl
theorem av_2 (a : AB) (j : Nat) (v : Int32) : (av a j v).2 = va_up a.2 j v := Eq.trans rfl rfl
theorem CR.row {a : AB} {L : CS} (h : CR a L) {k j v : Nat} (hk : k < 4) (hj : j < 200) : CR (au a k j v) (wA L k (nI j) (nI v)) := by
  refine ⟨fun o ho => ?_, fun q hq => ?_, ?_, ?_⟩
  · obtain ⟨h0, h1, h2, h3, h4⟩ := h.1 o ho
    have hk4 : k = 0 ∨ k = 1 ∨ k = 2 ∨ k = 3 := by omega
    by_cases e : o = j
    · rcases hk4 with rfl | rfl | rfl | rfl <;> simp (disch := omega) [wA_1, up_s, up_n, upd_s, nI_clamp, au_s, au_n, au_2, h0, h1, h2, h3, h4]
    · rcases hk4 with rfl | rfl | rfl | rfl <;> simp (disch := omega) [wA_1, up_s, up_n, upd_n, nI_clamp, au_s, au_n, au_2, h0, h1, h2, h3, h4]
  · rw [au_n (by omega)] at hq
    rw [wA_1, up_n (by omega), au_n (by omega), h.2.1 q hq]
  · rw [wA_2, au_n (by omega), h.2.2.1]
  · rw [wA_2, au_n (by omega), h.2.2.2]
theorem CR.bits {a : AB} {L : CS} (h : CR a L) {j : Nat} {v : Int32} (hj : j < 200) : CR (av a j v) (wA L 4 (nI j) v) := by
  refine ⟨fun o ho => ?_, fun q hq => ?_, ?_, ?_⟩
  · obtain ⟨h0, h1, h2, h3, h4⟩ := h.1 o ho
    by_cases e : o = j
    · simp (disch := omega) [wA_1, up_s, up_n, upd_s, nI_clamp, av_1, av_2, h0, h1, h2, h3]
    · simp (disch := omega) [wA_1, up_s, up_n, upd_n, nI_clamp, av_1, av_2, h0, h1, h2, h3, h4]
  · rw [wA_1, up_n (by omega), h.2.1 q hq, av_1]
  · rw [wA_2, h.2.2.1, av_1]
  · rw [wA_2, h.2.2.2, av_1]
theorem CR.base {a : AB} {L : CS} (h : CR a L) {j v : Nat} (hj : j < 201) : CR (au a 5 j v) (wA L 5 (nI j) (nI v)) := by
  refine ⟨fun o ho => ?_, fun q hq => ?_, ?_, ?_⟩
  · obtain ⟨h0, h1, h2, h3, h4⟩ := h.1 o ho
    simp (disch := omega) [wA_1, up_s, up_n, nI_clamp, au_n, au_2, h0, h1, h2, h3, h4]
  · rw [au_n (by omega)] at hq
    have h5 := h.2.1 q hq
    by_cases e : q = j
    · simp (disch := omega) [wA_1, up_s, upd_s, nI_clamp, au_s]
    · simp (disch := omega) [wA_1, up_s, upd_n, nI_clamp, au_n, h5]
  · rw [wA_2, au_n (by omega), h.2.2.1]
  · rw [wA_2, au_n (by omega), h.2.2.2]
theorem CR.sE {a : AB} {L : CS} (h : CR a L) (v : Nat) : CR (au a 6 0 v) (sF L 0 (nI v)) := by
  refine ⟨fun o ho => ?_, fun q hq => ?_, ?_, ?_⟩
  · obtain ⟨h0, h1, h2, h3, h4⟩ := h.1 o ho
    simp (disch := omega) [sF_1, au_n, au_2, h0, h1, h2, h3, h4]
  · rw [au_n (by omega)] at hq
    rw [sF_1, au_n (by omega), h.2.1 q hq]
  · rw [sF_2, up_s rfl, au_s ⟨rfl, rfl⟩]
  · rw [sF_2, up_n (by omega), au_n (by omega), h.2.2.2]
theorem CR.sN {a : AB} {L : CS} (h : CR a L) {v : Nat} (hv : ∀ k, k < v → L.1 5 k = nI (a.1 5 k)) : CR (au a 6 1 v) (sF L 1 (nI v)) := by
  refine ⟨fun o ho => ?_, fun q hq => ?_, ?_, ?_⟩
  · obtain ⟨h0, h1, h2, h3, h4⟩ := h.1 o ho
    simp (disch := omega) [sF_1, au_n, au_2, h0, h1, h2, h3, h4]
  · rw [au_s ⟨rfl, rfl⟩] at hq
    rw [sF_1, au_n (by omega), hv q hq]
  · rw [sF_2, up_n (by omega), au_n (by omega), h.2.2.1]
  · rw [sF_2, up_s rfl, au_s ⟨rfl, rfl⟩]
/-- the record is there, no segment is closed yet -/
def ap0 (a : AB) (key form : Nat) (bits : Int32) (size now : Nat) : AB := au (av (au (au (au (au a 0 (a.1 6 0) form) 1 (a.1 6 0) key) 2 (a.1 6 0) now) 3 (a.1 6 0) size) (a.1 6 0) bits) 6 0 (a.1 6 0 + 1)
def full (a : AB) : Bool := decide (4 ≤ sg (hb a) (a.1 5 (a.1 6 1 - 1)) (a.1 6 0 - a.1 5 (a.1 6 1 - 1)) ∨ 20 ≤ sg (wb a) (a.1 5 (a.1 6 1 - 1)) (a.1 6 0 - a.1 5 (a.1 6 1 - 1)))
def cls (a : AB) : AB := au (au a 5 (a.1 6 1) (a.1 6 0)) 6 1 (a.1 6 1 + 1)
section APP
variable {a : AB} {L : CS} {M : MS} {w key form size : Nat} {bits : Int32}
theorem ap0_e : (ap0 a key form bits size w).1 6 0 = a.1 6 0 + 1 := au_s ⟨rfl, rfl⟩
theorem ap0_n : (ap0 a key form bits size w).1 6 1 = a.1 6 1 := by
  unfold ap0
  simp (disch := omega) [au_n, av_1]
theorem ap0_5 (k : Nat) : (ap0 a key form bits size w).1 5 k = a.1 5 k := by
  unfold ap0
  simp (disch := omega) [au_n, av_1]
theorem ap0_o {k o : Nat} (hk : k < 4) (ho : ¬ o = a.1 6 0) : (ap0 a key form bits size w).1 k o = a.1 k o := by
  unfold ap0
  simp (disch := omega) [au_n, av_1]
theorem ap0_0 : (ap0 a key form bits size w).1 0 (a.1 6 0) = form := by
  unfold ap0
  simp (disch := omega) [au_n, au_s, av_1]
theorem ap0_1 : (ap0 a key form bits size w).1 1 (a.1 6 0) = key := by
  unfold ap0
  simp (disch := omega) [au_n, au_s, av_1]
theorem ap0_2 : (ap0 a key form bits size w).1 2 (a.1 6 0) = w := by
  unfold ap0
  simp (disch := omega) [au_n, au_s, av_1]
theorem ap0_3 : (ap0 a key form bits size w).1 3 (a.1 6 0) = size := by
  unfold ap0
  simp (disch := omega) [au_n, au_s, av_1]
theorem ap0_vo {o : Nat} (ho : ¬ o = a.1 6 0) : (ap0 a key form bits size w).2 o = a.2 o := by
  unfold ap0
  simp (disch := omega) [au_2, av_2, up_n]
theorem ap0_v : (ap0 a key form bits size w).2 (a.1 6 0) = bits := by
  unfold ap0
  simp (disch := omega) [au_2, av_2, up_s]
theorem ap0_I (hA : AI a w) (he : a.1 6 0 < 200) (hf : form = 1 ∨ form = 2) (hk : key < 26) (hs : 1 ≤ size ∧ size ≤ 9) (hv : VAL bits) : AI (ap0 a key form bits size w) w := by
  obtain ⟨i1, i2, i3, i4, i5, i6, i7⟩ := hA
  refine ⟨i1, by rw [ap0_e]; omega, by rw [ap0_n]; omega, fun o ho => ?_, fun o ho => ?_, fun k hk => ?_, ?_⟩
  · have hb0 := AI.ble ⟨i1, i2, i3, i4, i5, i6, i7⟩ (k := 0) (by omega)
    rw [ap0_e, ap0_5]
    by_cases h : o = a.1 6 0
    · subst h
      rw [ap0_0, ap0_1, ap0_2, ap0_3, ap0_v]
      exact ⟨by omega, hk, by omega, hs.2, by omega, by omega, fun _ => hs.1, hv⟩
    · rw [ap0_o (by omega) h, ap0_o (by omega) h, ap0_o (by omega) h, ap0_o (by omega) h, ap0_vo h]
      obtain ⟨j1, j2, j3, j4, j5, j6, j7⟩ := i4 o ho
      exact ⟨j1, j2, j3, j4, fun q => j5 (by omega), j6, j7⟩
  · rw [ap0_e] at ho
    rw [ap0_o (o := o) (by omega) (by omega)]
    by_cases h : o + 1 = a.1 6 0
    · rw [h, ap0_2]
      exact (i4 o (by omega)).2.2.1
    · rw [ap0_o (by omega) h]
      exact i5 o (by omega)
  · rw [ap0_n] at hk
    rw [ap0_5, ap0_5]
    exact i6 k hk
  · rw [ap0_n, ap0_5, ap0_e]
    omega
theorem full_gap (hA : AI a w) (h : full a = true) : a.1 5 (a.1 6 1 - 1) + 3 ≤ a.1 6 0 := by
  have he := hA.2.1
  have h1 := sg_le (f := hb a) (c := 1) (a.1 6 0 - a.1 5 (a.1 6 1 - 1)) (a.1 5 (a.1 6 1 - 1)) (fun i _ _ => hb_le a i)
  have h2 := sg_le (f := wb a) (c := 9) (a.1 6 0 - a.1 5 (a.1 6 1 - 1)) (a.1 5 (a.1 6 1 - 1)) (fun i _ _ => hA.wb9 (by omega))
  have h := of_decide_eq_true h
  rcases h with h | h <;> omega
theorem cls_o {k o : Nat} (hk : k < 5) : (cls a).1 k o = a.1 k o := by
  unfold cls
  rw [au_n (by omega), au_n (by omega)]
theorem cls_e : (cls a).1 6 0 = a.1 6 0 := by
  unfold cls
  rw [au_n (by omega), au_n (by omega)]
theorem cls_n : (cls a).1 6 1 = a.1 6 1 + 1 := au_s ⟨rfl, rfl⟩
theorem cls_5 {k : Nat} (hk : k < a.1 6 1) : (cls a).1 5 k = a.1 5 k := by
  unfold cls
  rw [au_n (by omega), au_n (by omega)]
theorem cls_5n : (cls a).1 5 (a.1 6 1) = a.1 6 0 := by
  unfold cls
  rw [au_n (by omega), au_s ⟨rfl, rfl⟩]
theorem cls_I (hA : AI a w) (h : full a = true) : AI (cls a) w := by
  have hg := full_gap hA h
  obtain ⟨i1, i2, i3, i4, i5, i6, i7⟩ := hA
  refine ⟨i1, by rw [cls_e]; exact i2, by rw [cls_n]; omega, fun o ho => ?_, fun o ho => ?_, fun k hk => ?_, ?_⟩
  · rw [cls_o (by omega), cls_o (by omega), cls_o (by omega), cls_o (by omega), cls_e, cls_5 (by omega)]
    exact i4 o ho
  · rw [cls_e] at ho
    rw [cls_o (by omega), cls_o (by omega)]
    exact i5 o ho
  · rw [cls_n] at hk
    rw [cls_5 (by omega)]
    by_cases e : k + 1 = a.1 6 1
    · rw [e, cls_5n, show k = a.1 6 1 - 1 by omega]
      exact hg
    · rw [cls_5 (by omega)]
      exact i6 k (by omega)
  · rw [cls_n, cls_e, show a.1 6 1 + 1 - 1 = a.1 6 1 by omega, cls_5n]
    exact Nat.le_refl _
def apA (a : AB) (key form : Nat) (bits : Int32) (size now : Nat) : AB := if full (ap0 a key form bits size now) = true then cls (ap0 a key form bits size now) else ap0 a key form bits size now
theorem apA_I (hA : AI a w) (he : a.1 6 0 < 200) (hf : form = 1 ∨ form = 2) (hk : key < 26) (hs : 1 ≤ size ∧ size ≤ 9) (hv : VAL bits) : AI (apA a key form bits size w) w := by
  have h := ap0_I hA he hf hk hs hv
  unfold apA
  split
  · exact cls_I h (by assumption)
  · exact h
end APP
