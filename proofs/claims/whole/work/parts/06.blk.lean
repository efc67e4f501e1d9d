/-! ===== pure programs: Option, none: no end within the fuel, or an index outside ===== -/
abbrev CS : Type := (Nat → Nat → Int32) × (Nat → Int32)
def FU : Nat := 10000
def sA (st : CS) (k : Nat) (f : Nat → Int32) : CS := (va_up st.1 k f, st.2)
def sF (st : CS) (j : Nat) (v : Int32) : CS := (st.1, va_up st.2 j v)
def wA (st : CS) (k : Nat) (i v : Int32) : CS := sA st k (upd (st.1 k) i.toNatClampNeg v)
def zl {α β : Type} (x : α) (K : α → β) : β := K x
def zb {α β : Type} (o : Option α) (K : α → Option β) : Option β := match o with
  | none => none
  | some v => K v
def zb2 {α β γ : Type} (o : Option (α × β)) (K : α → β → Option γ) : Option γ := match o with
  | none => none
  | some v => K v.1 v.2
def zi {α : Type} (i : Int32) (n : Nat) (K : Option α) : Option α := if i < 0 ∨ n ≤ i.toNatClampNeg then none else K
def zz {α : Type} (y : Int32) (K : Option α) : Option α := if y = 0 then none else K
def zn32 {α : Type} (x : UInt32) (K : Option α) : Option α := if x &&& 0x7fffffff ≤ 0x7f800000 then K else none
def zn64 {α : Type} (x : UInt64) (K : Option α) : Option α := if x &&& 0x7fffffffffffffff ≤ 0x7ff0000000000000 then K else none
theorem zl_n {α β : Type} {x y : α} {K : α → β} {r : β} (h : zl x K = r) (e : y = x) : K y = r := by rw [e]; exact h
theorem zl_e {α β : Type} {x : α} {K : α → β} {r : β} (h : zl x K = r) : ∃ y, y = x ∧ K y = r := ⟨x, rfl, h⟩
theorem zb_e {α β : Type} {o : Option α} {K : α → Option β} {r : β} (h : zb o K = some r) : ∃ v, o = some v ∧ K v = some r := by
  cases o with
  | none => cases h
  | some v => exact ⟨v, rfl, h⟩
theorem zb2_e {α β γ : Type} {o : Option (α × β)} {K : α → β → Option γ} {r : γ} (h : zb2 o K = some r) : ∃ v w, o = some (v, w) ∧ K v w = some r := by
  cases o with
  | none => cases h
  | some v => exact ⟨v.1, v.2, rfl, h⟩
theorem zi_e {α : Type} {i : Int32} {n : Nat} {K : Option α} {r : α} (h : zi i n K = some r) : vp_in i n ∧ K = some r := by
  unfold zi at h
  split at h
  · cases h
  · rename_i hh
    exact ⟨hh, h⟩
theorem zz_e {α : Type} {y : Int32} {K : Option α} {r : α} (h : zz y K = some r) : ¬ y = 0 ∧ K = some r := by
  unfold zz at h
  split at h
  · cases h
  · rename_i hh
    exact ⟨hh, h⟩
theorem zn32_e {α : Type} {x : UInt32} {K : Option α} {r : α} (h : zn32 x K = some r) : vf_n32 x ∧ K = some r := by
  unfold zn32 at h
  split at h
  · rename_i hh
    exact ⟨hh, h⟩
  · cases h
theorem zn64_e {α : Type} {x : UInt64} {K : Option α} {r : α} (h : zn64 x K = some r) : vf_n64 x ∧ K = some r := by
  unfold zn64 at h
  split at h
  · rename_i hh
    exact ⟨hh, h⟩
  · cases h
theorem it_t {α : Type} {c : Prop} {hd : Decidable c} {A B x : α} (hc : c) (h : (if c then A else B) = x) : A = x := by rw [if_pos hc] at h; exact h
theorem it_f {α : Type} {c : Prop} {hd : Decidable c} {A B x : α} (hc : ¬ c) (h : (if c then A else B) = x) : B = x := by rw [if_neg hc] at h; exact h
theorem tb_ne {x k : Int32} (h : ¬ x = k) : x.toInt ≠ k.toInt := fun e => h (Int32.toInt_inj.mp e)
theorem tb_out3 {x : Int32} (h0 : ¬ x = (0 : Int32)) (h1 : ¬ x = (1 : Int32)) (h2 : ¬ x = (2 : Int32)) : x.toInt < 0 ∨ (2 : Int) < x.toInt := by
  have a0 : x.toInt ≠ 0 := tb_ne h0
  have a1 : x.toInt ≠ 1 := tb_ne h1
  have a2 : x.toInt ≠ 2 := tb_ne h2
  omega
theorem tb_out4 {x : Int32} (h0 : ¬ x = (0 : Int32)) (h1 : ¬ x = (1 : Int32)) (h2 : ¬ x = (2 : Int32)) (h3 : ¬ x = (3 : Int32)) : x.toInt < 0 ∨ (3 : Int) < x.toInt := by
  have a3 : x.toInt ≠ 3 := tb_ne h3
  have := tb_out3 h0 h1 h2
  omega
theorem tb_out5 {x : Int32} (h0 : ¬ x = (0 : Int32)) (h1 : ¬ x = (1 : Int32)) (h2 : ¬ x = (2 : Int32)) (h3 : ¬ x = (3 : Int32)) (h4 : ¬ x = (4 : Int32)) : x.toInt < 0 ∨ (4 : Int) < x.toInt := by
  have a4 : x.toInt ≠ 4 := tb_ne h4
  have := tb_out4 h0 h1 h2 h3
  omega
theorem tb_out6 {x : Int32} (h0 : ¬ x = (0 : Int32)) (h1 : ¬ x = (1 : Int32)) (h2 : ¬ x = (2 : Int32)) (h3 : ¬ x = (3 : Int32)) (h4 : ¬ x = (4 : Int32)) (h5 : ¬ x = (5 : Int32)) : x.toInt < 0 ∨ (5 : Int) < x.toInt := by
  have a5 : x.toInt ≠ 5 := tb_ne h5
  have := tb_out5 h0 h1 h2 h3 h4
  omega
theorem tb_out10 {x : Int32} (h0 : ¬ x = (0 : Int32)) (h1 : ¬ x = (1 : Int32)) (h2 : ¬ x = (2 : Int32)) (h3 : ¬ x = (3 : Int32)) (h4 : ¬ x = (4 : Int32)) (h5 : ¬ x = (5 : Int32)) (h6 : ¬ x = (6 : Int32)) (h7 : ¬ x = (7 : Int32)) (h8 : ¬ x = (8 : Int32)) (h9 : ¬ x = (9 : Int32)) : x.toInt < 0 ∨ (9 : Int) < x.toInt := by
  have a6 : x.toInt ≠ 6 := tb_ne h6
  have a7 : x.toInt ≠ 7 := tb_ne h7
  have a8 : x.toInt ≠ 8 := tb_ne h8
  have a9 : x.toInt ≠ 9 := tb_ne h9
  have := tb_out6 h0 h1 h2 h3 h4 h5
  omega
theorem tb_out11 {x : Int32} (h0 : ¬ x = (0 : Int32)) (h1 : ¬ x = (1 : Int32)) (h2 : ¬ x = (2 : Int32)) (h3 : ¬ x = (3 : Int32)) (h4 : ¬ x = (4 : Int32)) (h5 : ¬ x = (5 : Int32)) (h6 : ¬ x = (6 : Int32)) (h7 : ¬ x = (7 : Int32)) (h8 : ¬ x = (8 : Int32)) (h9 : ¬ x = (9 : Int32)) (h10 : ¬ x = (10 : Int32)) : x.toInt < 0 ∨ (10 : Int) < x.toInt := by
  have a10 : x.toInt ≠ 10 := tb_ne h10
  have := tb_out10 h0 h1 h2 h3 h4 h5 h6 h7 h8 h9
  omega
/-! ===== blocks: an object with its own arrays of ints behind it ===== -/
def Fr (c0 c : CF) (b n : Nat) : Prop := ∀ i, (i < b ∨ b + n ≤ i) → c i = c0 i
theorem Fr.rf {c : CF} {b n : Nat} : Fr c c b n := fun _ _ => rfl
theorem Fr.trans {c0 c1 c2 : CF} {b n : Nat} (h : Fr c0 c1 b n) (h2 : Fr c1 c2 b n) : Fr c0 c2 b n := fun i hi => (h2 i hi).trans (h i hi)
theorem Fr.up {c0 c : CF} {b n i : Nat} {e : va_E} (h : Fr c0 c b n) (h1 : b ≤ i) (h2 : i < b + n) : Fr c0 (va_up c i e) b n := fun j hj => by
  rw [va_up_ne _ _ (by omega)]
  exact h j hj
theorem Fr.wide {c0 c : CF} {b n b2 n2 : Nat} (h : Fr c0 c b n) (h1 : b2 ≤ b) (h2 : b + n ≤ b2 + n2) : Fr c0 c b2 n2 := fun j hj => h j (by omega)
def slv (ad : Nat → Nat) (b : Nat) (st : CS) : Nat ⊕ Nat → Value
  | .inl k => .ref (ad (b + 1 + k))
  | .inr j => .int (st.2 j)
def BK (ci : Nat) (sl : List (Nat ⊕ Nat)) (ars : List (Nat × Nat)) (ct : Nat → ClassId) (J : List Nat) (ad : Nat → Nat) (c : CF) (b : Nat) (st : CS) : Prop :=
  (∀ k, k ≤ ars.length → b + k ∈ J) ∧ c b = .inr (ci, sl.map (slv ad b st)) ∧ ∀ (k : Nat) (q : Nat × Nat), ars[k]? = some q → c (b + 1 + k) = .inl (ct q.1, q.2, .inl (st.1 k))
section BKS
variable {ci : Nat} {sl : List (Nat ⊕ Nat)} {ars : List (Nat × Nat)} {ct : Nat → ClassId} {J : List Nat} {ad : Nat → Nat} {c c2 : CF} {b : Nat} {st st2 : CS}
theorem BK.o (h : BK ci sl ars ct J ad c b st) : b ∈ J := h.1 0 (Nat.zero_le _)
theorem BK.obj (h : BK ci sl ars ct J ad c b st) : c b = .inr (ci, sl.map (slv ad b st)) := h.2.1
theorem BK.memA (h : BK ci sl ars ct J ad c b st) (k : Nat) (hk : k < ars.length) : b + 1 + k ∈ J := by
  have := h.1 (k + 1) hk
  rwa [show b + 1 + k = b + (k + 1) by omega]
theorem BK.arr (h : BK ci sl ars ct J ad c b st) (k : Nat) {q : Nat × Nat} (hq : ars[k]? = some q) : c (b + 1 + k) = .inl (ct q.1, q.2, .inl (st.1 k)) := h.2.2 k q hq
theorem BK.wA (h : BK ci sl ars ct J ad c b st) {k : Nat} {q : Nat × Nat} (hq : ars[k]? = some q) {f : Nat → Int32} (e : st2 = sA st k f) : BK ci sl ars ct J ad (va_up c (b + 1 + k) (.inl (ct q.1, q.2, .inl f))) b st2 := by
  subst e
  refine ⟨h.1, ?_, fun j q2 hj => ?_⟩
  · rw [va_up_ne _ _ (by omega), h.2.1]
    rfl
  · by_cases hk : j = k
    · subst hk
      rw [hq] at hj
      cases hj
      rw [va_up_self]
      simp [sA, va_up_self]
    · rw [va_up_ne _ _ (by omega), h.2.2 j q2 hj]
      simp [sA, va_up_ne _ _ hk]
theorem BK.wF (h : BK ci sl ars ct J ad c b st) {k j : Nat} {v : Int32} (hs : (sl.map (slv ad b st)).set k (.int v) = sl.map (slv ad b (sF st j v))) (e : st2 = sF st j v) : BK ci sl ars ct J ad (va_up c b (.inr (ci, (sl.map (slv ad b st)).set k (.int v)))) b st2 := by
  subst e
  refine ⟨h.1, ?_, fun i q hi => ?_⟩
  · rw [va_up_self, hs]
  · rw [va_up_ne _ _ (by omega), h.2.2 i q hi]
    rfl
theorem BK.congr (h : BK ci sl ars ct J ad c b st) (he : ∀ i, b ≤ i → i < b + (ars.length + 1) → c2 i = c i) : BK ci sl ars ct J ad c2 b st := by
  refine ⟨h.1, ?_, fun k q hk => ?_⟩
  · rw [he b (Nat.le_refl _) (by omega)]
    exact h.2.1
  · have := (List.getElem?_eq_some_iff.mp hk).1
    rw [he _ (by omega) (by omega)]
    exact h.2.2 k q hk
end BKS
abbrev GrB := BK 0 [.inl 0, .inl 1, .inl 2, .inl 3, .inr 0] [(2, 4), (0, 4), (0, 4), (0, 4)]
abbrev KrB := BK 1 [.inl 0, .inl 1, .inl 2, .inl 3, .inr 0] [(0, 60), (0, 60), (0, 60), (0, 60)]
abbrev LgB := BK 2 [.inl 0, .inl 1, .inl 2, .inl 3, .inl 4, .inl 5, .inl 6, .inr 0, .inr 1] [(0, 200), (0, 200), (0, 200), (0, 200), (0, 200), (0, 201), (0, 26)]
abbrev RwB (nR : Nat) := BK 3 [.inl 0, .inl 1, .inr 0] [(0, nR), (0, nR)]
abbrev TxB := BK 6 [.inl 0, .inr 0, .inl 1, .inl 2, .inl 3, .inl 4, .inr 1, .inr 2] [(0, 100), (0, 12), (0, 12), (0, 12), (0, 12)]
/-! ===== the reference's block ===== -/
abbrev MS : Type := (Nat → Nat → Int32) × (Nat → Int32) × (Nat → Nat → Int64)
def sAm (st : MS) (k : Nat) (f : Nat → Int32) : MS := (va_up st.1 k f, st.2.1, st.2.2)
def sFm (st : MS) (j : Nat) (v : Int32) : MS := (st.1, va_up st.2.1 j v, st.2.2)
def wAm (st : MS) (k : Nat) (i v : Int32) : MS := sAm st k (upd (st.1 k) i.toNatClampNeg v)
def wLm (st : MS) (t : Nat) (i : Int32) (v : Int64) : MS := (st.1, st.2.1, va_up st.2.2 t (vp_updL (st.2.2 t) i.toNatClampNeg v))
def rfA (ad : Nat → Nat) (n : Nat) (g : Nat → Nat) : Nat → Option Nat := fun j => if j < n then some (ad (g j)) else none
theorem vp_lt {i : Int32} {n : Nat} (h : vp_in i n) : i.toNatClampNeg < n := Nat.not_le.mp fun q => h (Or.inr q)
theorem vp_lt7 {i : Int32} (h : vp_in i 6) : i.toNatClampNeg < 7 := Nat.lt_of_lt_of_le (vp_lt h) (Nat.le_of_ble_eq_true rfl)
def slvM (ad : Nat → Nat) (b : Nat) (st : MS) : Nat ⊕ Nat → Value
  | .inl k => .ref (ad (b + 1 + k))
  | .inr j => .int (st.2.1 j)
abbrev slM : List (Nat ⊕ Nat) := [.inl 0, .inl 1, .inl 2, .inr 0, .inl 3, .inr 1, .inl 4, .inl 5, .inl 6, .inr 2, .inl 7, .inl 8, .inl 9, .inl 10, .inl 17, .inr 3, .inr 4]
abbrev arM : List Nat := [5140, 5140, 5140, 100, 60, 26, 4, 240, 6, 6]
def MoB (ct : Nat → ClassId) (J : List Nat) (ad : Nat → Nat) (c : CF) (b : Nat) (st : MS) : Prop :=
  (∀ k, k ≤ 18 → b + k ∈ J) ∧ c b = .inr (8, slM.map (slvM ad b st)) ∧ (∀ (k : Nat) (q : Nat), arM[k]? = some q → c (b + 1 + k) = .inl (ct 0, q, .inl (st.1 k))) ∧ c (b + 11) = .inl (ct 5, 6, .inr (.inr (.inr (.inr (rfA ad 6 (fun t => b + 12 + t)))))) ∧ ∀ t, t < 7 → c (b + 12 + t) = .inl (ct 1, 60, .inr (.inl (st.2.2 t)))
section MBS
variable {ct : Nat → ClassId} {J : List Nat} {ad : Nat → Nat} {c c2 : CF} {b : Nat} {st st2 : MS}
theorem MoB.o (h : MoB ct J ad c b st) : b ∈ J := h.1 0 (Nat.zero_le _)
theorem MoB.obj (h : MoB ct J ad c b st) : c b = .inr (8, slM.map (slvM ad b st)) := h.2.1
theorem MoB.memA (h : MoB ct J ad c b st) (k : Nat) (hk : k < 10) : b + 1 + k ∈ J := by
  have := h.1 (k + 1) (by omega)
  rwa [show b + 1 + k = b + (k + 1) by omega]
theorem MoB.memO (h : MoB ct J ad c b st) : b + 11 ∈ J := h.1 11 (by omega)
theorem MoB.memR (h : MoB ct J ad c b st) (t : Nat) (ht : t < 7) : b + 12 + t ∈ J := by
  have := h.1 (12 + t) (by omega)
  rwa [show b + 12 + t = b + (12 + t) by omega]
theorem MoB.arr (h : MoB ct J ad c b st) (k : Nat) {q : Nat} (hq : arM[k]? = some q) : c (b + 1 + k) = .inl (ct 0, q, .inl (st.1 k)) := h.2.2.1 k q hq
theorem MoB.out (h : MoB ct J ad c b st) : c (b + 11) = .inl (ct 5, 6, .inr (.inr (.inr (.inr (rfA ad 6 (fun t => b + 12 + t)))))) := h.2.2.2.1
theorem MoB.row (h : MoB ct J ad c b st) (t : Nat) (ht : t < 7) : c (b + 12 + t) = .inl (ct 1, 60, .inr (.inl (st.2.2 t))) := h.2.2.2.2 t ht
theorem arM_lt {k q : Nat} (h : arM[k]? = some q) : k < 10 := (List.getElem?_eq_some_iff.mp h).1
theorem MoB.wA (h : MoB ct J ad c b st) {k q : Nat} (hq : arM[k]? = some q) {f : Nat → Int32} (e : st2 = sAm st k f) : MoB ct J ad (va_up c (b + 1 + k) (.inl (ct 0, q, .inl f))) b st2 := by
  subst e
  have hk := arM_lt hq
  refine ⟨h.1, ?_, fun j q2 hj => ?_, ?_, fun t ht => ?_⟩
  · rw [va_up_ne _ _ (by omega), h.2.1]
    rfl
  · by_cases hk : j = k
    · subst hk
      rw [hq] at hj
      cases hj
      rw [va_up_self]
      simp [sAm, va_up_self]
    · rw [va_up_ne _ _ (by omega), h.2.2.1 j q2 hj]
      simp [sAm, va_up_ne _ _ hk]
  · rw [va_up_ne _ _ (by omega)]
    exact h.2.2.2.1
  · rw [va_up_ne _ _ (by omega)]
    exact h.2.2.2.2 t ht
theorem MoB.wF (h : MoB ct J ad c b st) {k j : Nat} {v : Int32} (hs : (slM.map (slvM ad b st)).set k (.int v) = slM.map (slvM ad b (sFm st j v))) (e : st2 = sFm st j v) : MoB ct J ad (va_up c b (.inr (8, (slM.map (slvM ad b st)).set k (.int v)))) b st2 := by
  subst e
  refine ⟨h.1, ?_, fun j q2 hj => ?_, ?_, fun t ht => ?_⟩
  · rw [va_up_self, hs]
  · rw [va_up_ne _ _ (by omega)]
    exact h.2.2.1 j q2 hj
  · rw [va_up_ne _ _ (by omega)]
    exact h.2.2.2.1
  · rw [va_up_ne _ _ (by omega)]
    exact h.2.2.2.2 t ht
theorem MoB.wL (h : MoB ct J ad c b st) {t : Nat} (ht : t < 7) {i : Int32} {v : Int64} (e : st2 = wLm st t i v) : MoB ct J ad (va_up c (b + 12 + t) (.inl (ct 1, 60, .inr (.inl (vp_updL (st.2.2 t) i.toNatClampNeg v))))) b st2 := by
  subst e
  refine ⟨h.1, ?_, fun j q2 hj => ?_, ?_, fun u hu => ?_⟩
  · rw [va_up_ne _ _ (by omega), h.2.1]
    rfl
  · have := arM_lt hj
    rw [va_up_ne _ _ (by omega)]
    exact h.2.2.1 j q2 hj
  · rw [va_up_ne _ _ (by omega)]
    exact h.2.2.2.1
  · by_cases hk : u = t
    · subst hk
      rw [va_up_self]
      simp [wLm, va_up_self]
    · rw [va_up_ne _ _ (by omega), h.2.2.2.2 u hu]
      simp [wLm, va_up_ne _ _ hk]
end MBS
section KLQ
variable {p : Program} {l : Launch} {e : Env} {R : Room} {s : State} {m : MethodId} {args : Array Value} {below : List Frame} {meth : Method} {cd : Code} {H : Heap} {locs : List Loc} {cells slots : Nat} {Q : State → Prop}
variable {cc : ByteArray} {own : String} {nL pc : Nat} {ls : Array Slot} {rest : List Value} {D : va_G} {ct : Nat → ClassId} {J : List Nat} {ad : Nat → Nat} {c : CF} {A : Nat → Prop} {H0 : Heap}
theorem rfA_in {n i : Nat} {g : Nat → Nat} (h : i < n) : va_rf (rfA ad n g i) = .ref (ad (g i)) := by
  unfold rfA
  rw [if_pos h]
  rfl
theorem k_aaldR3 (hE : ME p s m cd args D ct cc own nL) (hW : HW D J ad c A H0 H locs) {a n : Nat} {g : Nat → Nat} (hi : a ∈ J) (hc : c a = .inl (ct 3, n, .inr (.inr (.inr (.inr (rfA ad n g)))))) {i : Int32} (hin : vp_in i n) (hdg : decode cc pc = .ok (.aaload, 1)) (kk : W p l e R s m args below meth cd H locs cells slots Q (F0 m (pc + 1) ls (.ref (ad (g i.toNatClampNeg)) :: rest))) : W p l e R s m args below meth cd H locs cells slots Q (F0 m pc ls (.int i :: .ref (ad a) :: rest)) := by
  refine k_aald3 hE hW hi hc hin hdg ?_
  rw [rfA_in (vp_lt hin)]
  exact kk
theorem k_aaldR4 (hE : ME p s m cd args D ct cc own nL) (hW : HW D J ad c A H0 H locs) {a n : Nat} {g : Nat → Nat} (hi : a ∈ J) (hc : c a = .inl (ct 4, n, .inr (.inr (.inr (.inr (rfA ad n g)))))) {i : Int32} (hin : vp_in i n) (hdg : decode cc pc = .ok (.aaload, 1)) (kk : W p l e R s m args below meth cd H locs cells slots Q (F0 m (pc + 1) ls (.ref (ad (g i.toNatClampNeg)) :: rest))) : W p l e R s m args below meth cd H locs cells slots Q (F0 m pc ls (.int i :: .ref (ad a) :: rest)) := by
  refine k_aald4 hE hW hi hc hin hdg ?_
  rw [rfA_in (vp_lt hin)]
  exact kk
theorem k_aaldR5 (hE : ME p s m cd args D ct cc own nL) (hW : HW D J ad c A H0 H locs) {a n : Nat} {g : Nat → Nat} (hi : a ∈ J) (hc : c a = .inl (ct 5, n, .inr (.inr (.inr (.inr (rfA ad n g)))))) {i : Int32} (hin : vp_in i n) (hdg : decode cc pc = .ok (.aaload, 1)) (kk : W p l e R s m args below meth cd H locs cells slots Q (F0 m (pc + 1) ls (.ref (ad (g i.toNatClampNeg)) :: rest))) : W p l e R s m args below meth cd H locs cells slots Q (F0 m pc ls (.int i :: .ref (ad a) :: rest)) := by
  obtain ⟨q, -, hq0⟩ := wl_get (ad := ad) (c := c) hi
  have ha : (wl J ad c)[q]? = some (ad a, .inl (ct 5, n, .inr (.inr (.inr (.inr (rfA ad n g)))))) := by rw [hq0, hc]
  have hlt : i.toNatClampNeg < n := vp_lt hin
  refine W.aald (v := va_rf (rfA ad n g i.toNatClampNeg)) (ty := .array .long) hE.1 hE.2.1 (hW.1 q _ ha) ((hE.2.2.2.2.2.1.2 5 (ct 5, .array .long) rfl).1 n (fun j => va_rf (rfA ad n g j))) rfl (fun q => by cases q) (by show ¬ (i < 0 ∨ (arrV _ _ _).slots.size ≤ _); rw [arrV_size]; exact hin) (by show (arrV _ _ _).slots[_]? = _; rw [arrV_read _ _ hlt]) rfl rfl hdg ?_
  rw [rfA_in hlt]
  exact kk
end KLQ
def zq {α : Type} (v : Int32) (K : Option α) : Option α := if v = 0 ∨ v = 1 then K else none
theorem zq_e {α : Type} {v : Int32} {K : Option α} {r : α} (h : zq v K = some r) : (v = 0 ∨ v = 1) ∧ K = some r := by
  unfold zq at h
  split at h
  · rename_i hh
    exact ⟨hh, h⟩
  · cases h
theorem nb_of {v : Int32} (h : v = 0 ∨ v = 1) : narrow .boolean (.int v) = .int v := by
  rcases h with rfl | rfl <;> rfl
