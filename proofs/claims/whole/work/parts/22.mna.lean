/-! ===== new long[6][60] ===== -/
theorem mn_outer (c : ClassId) (N h0 : Nat) : ∀ i : Nat, Jvm.Free.Multi.outerC c N h0 i = arrV c N (fun j => va_rf (if j < i then some (h0 + 1 + j) else none))
  | 0 => by
    show ({ cls := c, slots := Array.replicate N .null, vm := .none } : Cell) = _
    rw [arrV_new]
    exact congrArg (arrV c N) (funext fun j => by simp [va_rf])
  | i + 1 => by
    show (Jvm.Free.Multi.outerC c N h0 i).setSlot i (.ref (h0 + 1 + i)) = _
    rw [mn_outer c N h0 i, arrV_store]
    refine congrArg (arrV c N) (funext fun j => ?_)
    by_cases e : j = i
    · subst e
      simp [updV, va_rf]
    · by_cases h : j < i
      · simp [updV, e, h, Nat.lt_succ_of_lt h]
      · simp [updV, e, h, show ¬ j < i + 1 by omega]
/-- the world behind the row of rows -/
theorem HW.made7 {D : va_G} {J : List Nat} {ad : Nat → Nat} {c : CF} {A : Nat → Prop} {H0 H H1 : Heap} {locs : List Loc} {ct : Nat → ClassId} (hW : HW D J ad c A H0 H locs) (hA : ∀ q, H0.size ≤ q → A q) {i : Nat} (had : ∀ k, k < 7 → ad (i + k) = H.size + k) (hi : ∀ k, k < 7 → i + k ∉ J) (z1 : H1.size = H.size + 7) (o1 : ∀ q, q < H.size → H1[q]? = H[q]?) {x : va_E} (hx : va_at D vwCl (H.size, x) H1) {y : va_E} (hy : ∀ t, t < 6 → va_at D vwCl (H.size + 1 + t, y) H1) :
    ∃ (J2 : List Nat) (c2 : CF), (∀ j, j ∈ J2 ↔ j ∈ J ∨ (i ≤ j ∧ j ≤ i + 6)) ∧ c2 i = x ∧ (∀ t, t < 6 → c2 (i + 1 + t) = y) ∧ (∀ j, (j < i ∨ i + 7 ≤ j) → c2 j = c j) ∧ HW D J2 ad c2 A H0 H1 locs := by
  refine ⟨J ++ (List.range 7).map (fun k => i + k), fun j => if j = i then x else if i < j ∧ j < i + 7 then y else c j, ?_, ?_, ?_, ?_, ?_⟩
  · intro j
    simp only [List.mem_append, List.mem_map, List.mem_range]
    constructor
    · rintro (h | ⟨k, hk, rfl⟩)
      · exact Or.inl h
      · exact Or.inr (by omega)
    · rintro (h | h)
      · exact Or.inl h
      · exact Or.inr ⟨j - i, by omega, by omega⟩
  · simp
  · intro t ht
    simp only []
    rw [if_neg (by omega), if_pos (by omega)]
  · intro j hj
    simp only []
    rw [if_neg (by omega), if_neg (by omega)]
  · have hlt : ∀ j, j ∈ J → ad j < H.size := fun j hj => by
      obtain ⟨k, -, hk⟩ := wl_get (ad := ad) (c := c) hj
      exact (hW.1 k _ hk).lt
    have hno : ∀ j, j ∈ J → (j < i ∨ i + 7 ≤ j) := fun j hj => by
      by_cases h : j < i ∨ i + 7 ≤ j
      · exact h
      · exact absurd (show i + (j - i) ∈ J by rw [show i + (j - i) = j by omega]; exact hj) (hi (j - i) (by omega))
    refine ⟨fun k q hq => ?_, ⟨fun a b p q hp hq he => ?_, fun k q hq => ?_⟩, Nat.le_trans hW.2.2.1 (by omega), fun q h1 h2 => (o1 q (Nat.lt_of_lt_of_le h1 hW.2.2.1)).trans (hW.2.2.2.1 q h1 h2), hW.2.2.2.2⟩
    · simp only [wl, List.getElem?_map, Option.map_eq_some_iff] at hq
      obtain ⟨j, hj, rfl⟩ := hq
      rcases List.mem_append.mp (List.mem_of_getElem? hj) with h | h
      · have h3 := hno j h
        obtain ⟨k2, -, hk2⟩ := wl_get (ad := ad) (c := c) h
        have h4 := (hW.1 k2 _ hk2).kept (o1 _ (hlt j h))
        rw [if_neg (by omega), if_neg (by omega)]
        exact h4
      · obtain ⟨k3, hk3, rfl⟩ := List.mem_map.mp h
        rw [List.mem_range] at hk3
        rcases Nat.eq_zero_or_pos k3 with rfl | h0
        · have ha := had 0 (by omega)
          simp only [Nat.add_zero] at ha ⊢
          rw [if_pos trivial, ha]
          exact hx
        · have ha := had k3 hk3
          rw [if_neg (by omega), if_pos (by omega), ha, show H.size + k3 = H.size + 1 + (k3 - 1) by omega]
          exact hy (k3 - 1) (by omega)
    · have key : ∀ (a : Nat) (p : Nat × va_E), (wl (J ++ (List.range 7).map (fun k => i + k)) ad (fun j => if j = i then x else if i < j ∧ j < i + 7 then y else c j))[a]? = some p → (a < J.length ∧ ∃ j, J[a]? = some j ∧ p.1 = ad j ∧ p.1 < H.size) ∨ (J.length ≤ a ∧ p.1 = H.size + (a - J.length)) := by
        intro a p hp
        simp only [wl, List.getElem?_map, Option.map_eq_some_iff] at hp
        obtain ⟨j, hj, rfl⟩ := hp
        by_cases hl : a < J.length
        · rw [List.getElem?_append_left hl] at hj
          exact Or.inl ⟨hl, j, hj, rfl, hlt j (List.mem_of_getElem? hj)⟩
        · rw [List.getElem?_append_right (by omega), List.getElem?_map, Option.map_eq_some_iff] at hj
          obtain ⟨k, hk, rfl⟩ := hj
          have hr := (List.getElem?_eq_some_iff.mp hk).1
          rw [List.length_range] at hr
          rw [List.getElem?_range hr] at hk
          cases hk
          exact Or.inr ⟨by omega, had _ hr⟩
      rcases key a p hp with ⟨l1, j1, e1, e2, e3⟩ | ⟨l1, e1⟩ <;> rcases key b q hq with ⟨l2, j2, f1, f2, f3⟩ | ⟨l2, f1⟩
      · exact hW.2.1.1 a b (ad j1, c j1) (ad j2, c j2) (by simp [wl, e1]) (by simp [wl, f1]) (e2.symm.trans (he.trans f2))
      · omega
      · omega
      · omega
    · simp only [wl, List.getElem?_map, Option.map_eq_some_iff] at hq
      obtain ⟨j, hj, rfl⟩ := hq
      rcases List.mem_append.mp (List.mem_of_getElem? hj) with h | h
      · obtain ⟨k2, -, hk2⟩ := wl_get (ad := ad) (c := c) h
        exact hW.2.1.2 k2 (ad j, c j) hk2
      · obtain ⟨k3, hk3, rfl⟩ := List.mem_map.mp h
        rw [List.mem_range] at hk3
        show A (ad (i + k3))
        rw [had k3 hk3]
        exact hA _ (Nat.le_trans hW.2.2.1 (Nat.le_add_right _ _))
section KMN
variable {p : Program} {l : Launch} {e : Env} {R : Room} {s : State} {m : MethodId} {args : Array Value} {below : List Frame} {meth : Method} {cd : Code} {H : Heap} {locs : List Loc} {cells slots : Nat} {Q : State → Prop}
variable {cc : ByteArray} {own : String} {nL pc : Nat} {ls : Array Slot} {rest : List Value} {D : va_G} {ct : Nat → ClassId} {J : List Nat} {ad : Nat → Nat} {c : CF} {A : Nat → Prop} {H0 : Heap}
theorem k_mna (hE : ME p s m cd args D ct cc own nL) (hW : HW D J ad c A H0 H locs) (hA : ∀ q, H0.size ≤ q → A q) {z i index : Nat} (hz : H.size = z) (had : ∀ k, k < 7 → ad (i + k) = z + k) (hi : ∀ k, k < 7 → i + k ∉ J) (q1 : Cond.classLink own index "[[J" ∈ AL) (q2 : Cond.arrayOver (.array .long) ∈ NL) (q3 : Cond.arrayClass .long ∈ AL) (hcells : cells + 7 ≤ R.cells) (hslots : slots + 366 ≤ R.slots) (hdg : decode cc pc = .ok (.multianewarray index 2, 4))
    (kk : ∀ (J2 : List Nat) (c2 : CF) (H1 : Heap), (∀ j, j ∈ J2 ↔ j ∈ J ∨ (i ≤ j ∧ j ≤ i + 6)) → c2 i = .inl (ct 5, 6, .inr (.inr (.inr (.inr (rfA ad 6 (fun t => i + 1 + t)))))) → (∀ t, t < 6 → c2 (i + 1 + t) = .inl (ct 1, 60, .inr (.inl (fun _ => 0)))) → (∀ j, (j < i ∨ i + 7 ≤ j) → c2 j = c j) → H1.size = z + 7 → HW D J2 ad c2 A H0 H1 locs → W p l e R s m args below meth cd H1 locs (cells + 1 + 6) (slots + 6 + 6 * 60) Q (F0 m (pc + 4) ls (.ref (ad i) :: rest))) : W p l e R s m args below meth cd H locs cells slots Q (F0 m pc ls (.int 60 :: .int 6 :: rest)) := by
  subst hz
  intro T hT Xs
  have hN : (6 : Int32).toNatClampNeg = 6 := by decide
  have hK : (60 : Int32).toNatClampNeg = 60 := by decide
  obtain ⟨vm₁, cA, comp, -, fA, fC, hO, -, X', step⟩ := Xs.multianewarray2F hE.1 hE.2.2.2.1 (ty := .long) (hE.2.2.2.2.1 _ q1) (hE.2.2.2.2.2.2 _ q2) (hE.2.2.2.2.1 _ q3) (g := F0 m pc ls (.int 60 :: .int 6 :: rest)) rfl (by rw [hE.2.1]; exact hdg) rfl (by decide) (by decide) (by decide) (by decide) (by decide) rfl rfl (by rw [hN]; exact hcells) (by rw [hN, hK]; exact hslots)
  have h5 := (hE.2.2.2.2.2.1.2 5 (ct 5, .array .long) rfl).2
  have h1 := (hE.2.2.2.2.2.1.2 1 (ct 1, .long) rfl).2
  have ec : cA = ct 5 := Option.some.inj (fA.symm.trans h5)
  have ed : comp = ct 1 := Option.some.inj (fC.symm.trans h1)
  subst ec
  subst ed
  rw [hN, hK] at X' step
  generalize hF : Jvm.Free.Multi.fill (T.setVm vm₁) (ct 5) (ct 1) 6 60 (defaultValue .long) 6 = F at X' step
  have hTh : (T.setVm vm₁).heap = H := hT
  obtain ⟨f1, f2, -, -⟩ := Jvm.Free.Multi.fill_facts (T.setVm vm₁) (ct 5) (ct 1) 6 60 (defaultValue .long) 6
  rw [hF, hTh] at f1 f2
  have hold : ∀ x : Nat, x < H.size → F.heap[x]? = H[x]? := fun x hx => by
    have := Jvm.Free.Multi.fill_old (T.setVm vm₁) (ct 5) (ct 1) 6 60 (defaultValue .long) (a := x) (by rw [hTh]; exact hx) 6
    rw [hF, hTh] at this
    exact this
  have hrow : ∀ j : Nat, j < 6 → F.heap[H.size + 1 + j]? = some (vp_cell (ct 1) (60, .inr (.inl (fun _ => 0)))) := fun j hj => by
    have := Jvm.Free.Multi.fill_inner (T.setVm vm₁) (ct 5) (ct 1) 6 60 (defaultValue .long) 6 j hj
    rw [hF, hTh] at this
    rw [this]
    congr 1
  have hrf : (fun j : Nat => va_rf (if j < 6 then some (H.size + 1 + j) else none)) = (fun j => va_rf (rfA ad 6 (fun t => i + 1 + t) j)) := by
    funext j
    unfold rfA
    by_cases h : j < 6
    · rw [if_pos h, if_pos h]
      show va_rf (some (H.size + 1 + j)) = va_rf (some (ad (i + 1 + j)))
      rw [show i + 1 + j = i + (1 + j) by omega, had (1 + j) (by omega), Nat.add_assoc]
    · rw [if_neg h, if_neg h]
  rw [mn_outer, hrf, ← vp_cell_q] at f2
  obtain ⟨J2, c2, g1, g2, g3, g4, g5⟩ := hW.made7 (ct := ct) hA had hi (H1 := F.heap) (by omega) hold (x := .inl (ct 5, 6, .inr (.inr (.inr (.inr (rfA ad 6 (fun t => i + 1 + t))))))) f2 (y := .inl (ct 1, 60, .inr (.inl (fun _ => 0)))) hrow
  have h0 := had 0 (by omega)
  simp only [Nat.add_zero] at h0
  have h2 := kk J2 c2 F.heap g1 g2 g3 g4 (by omega) g5
  rw [h0] at h2
  obtain ⟨t, a1, b1⟩ := h2 F rfl X'
  refine ⟨t, step t ?_, b1⟩
  have e : T.heap.size = H.size := by rw [hT]
  rw [e]
  exact a1
end KMN
