/-! ===== copies of rows, rows of booleans ===== -/
def zc {α : Type} (sp dp n : Int32) (n0 n1 : Nat) (K : Option α) : Option α := if sp < 0 ∨ dp < 0 ∨ n < 0 ∨ n0 < sp.toNatClampNeg + n.toNatClampNeg ∨ n1 < dp.toNatClampNeg + n.toNatClampNeg then none else K
theorem zc_e {α : Type} {sp dp n : Int32} {n0 n1 : Nat} {K : Option α} {r : α} (h : zc sp dp n n0 n1 K = some r) : (¬ sp < 0 ∧ ¬ dp < 0 ∧ ¬ n < 0 ∧ sp.toNatClampNeg + n.toNatClampNeg ≤ n0 ∧ dp.toNatClampNeg + n.toNatClampNeg ≤ n1) ∧ K = some r := by
  unfold zc at h
  split at h
  · cases h
  · rename_i hh
    refine ⟨⟨fun q => hh (Or.inl q), fun q => hh (Or.inr (Or.inl q)), fun q => hh (Or.inr (Or.inr (Or.inl q))), ?_, ?_⟩, h⟩
    · exact Nat.not_lt.mp fun q => hh (Or.inr (Or.inr (Or.inr (Or.inl q))))
    · exact Nat.not_lt.mp fun q => hh (Or.inr (Or.inr (Or.inr (Or.inr q))))
/-- all of a row's first four places are 0 or 1 -/
def zw {α : Type} (f : Nat → Int32) (K : Option α) : Option α := if (f 0 = 0 ∨ f 0 = 1) ∧ (f 1 = 0 ∨ f 1 = 1) ∧ (f 2 = 0 ∨ f 2 = 1) ∧ (f 3 = 0 ∨ f 3 = 1) then K else none
theorem zw_e {α : Type} {f : Nat → Int32} {K : Option α} {r : α} (h : zw f K = some r) : (∀ i, i < 4 → fits .boolean (.int (f i)) = true) ∧ K = some r := by
  unfold zw at h
  split at h
  · rename_i hh
    refine ⟨fun i hi => ?_, h⟩
    have key : ∀ v : Int32, (v = 0 ∨ v = 1) → fits .boolean (.int v) = true := fun v hv => by rcases hv with rfl | rfl <;> rfl
    obtain ⟨h0, h1, h2, h3⟩ := hh
    rcases (show i = 0 ∨ i = 1 ∨ i = 2 ∨ i = 3 by omega) with rfl | rfl | rfl | rfl
    · exact key _ h0
    · exact key _ h1
    · exact key _ h2
    · exact key _ h3
  · cases h
section KLC
variable {p : Program} {l : Launch} {e : Env} {R : Room} {s : State} {m : MethodId} {args : Array Value} {below : List Frame} {meth : Method} {cd : Code} {H : Heap} {locs : List Loc} {cells slots : Nat} {Q : State → Prop}
variable {cc : ByteArray} {own : String} {nL pc : Nat} {ls : Array Slot} {rest : List Value} {D : va_G} {ct : Nat → ClassId} {J : List Nat} {ad : Nat → Nat} {c : CF} {A : Nat → Prop} {H0 : Heap}
theorem k_zast (hE : ME p s m cd args D ct cc own nL) (hW : HW D J ad c A H0 H locs) {a n : Nat} {f : Nat → Int32} (hi : a ∈ J) (hc : c a = .inl (ct 2, n, .inl f)) {i : Int32} {x : Int32} (hin : vp_in i n) (hdg : decode cc pc = .ok (.bastore, 1)) (kk : ∀ (H1 : Heap) (locs1 : List Loc), HW D J ad (va_up c a (.inl (ct 2, n, .inl (upd f i.toNatClampNeg (vp_nar .boolean x))))) A H0 H1 locs1 → W p l e R s m args below meth cd H1 locs1 cells slots Q (F0 m (pc + 1) ls rest)) : W p l e R s m args below meth cd H locs cells slots Q (F0 m pc ls (.int x :: .int i :: .ref (ad a) :: rest)) := by
  obtain ⟨q, hq1, hq0⟩ := wl_get (ad := ad) (c := c) hi
  refine va_zast hE.1 hE.2.1 hE.2.2.2.2.2.1 hW.1 hW.2.1 hW.2.2 q 2 (by rw [hq0, hc]) rfl hin hdg (fun H1 locs1 h1 h2 h3 => kk H1 locs1 ⟨?_, wl_D _ hW.2.1, h3⟩)
  rw [← wl_set hW.2.1 hq1]
  exact h1
theorem k_copyi (hE : ME p s m cd args D ct cc own nL) (hW : HW D J ad c A H0 H locs) (hls : nL = ls.size) {index a a0 n0 n1 t : Nat} {f g : Nat → Int32} {ty : FieldType} (q1 : Cond.methodLink own index arraycopyName ∈ AL) (q2 : Cond.native arraycopyName ∈ AL) (q3 : Cond.static arraycopyName ∈ AL) (q4 : Cond.initialized "java/lang/System" ∈ AL) (hi0 : a0 ∈ J) (hc0 : c a0 = .inl (ct t, n0, .inl f)) (hi : a ∈ J) (hc : c a = .inl (ct t, n1, .inl g)) (ht : (TY ct)[t]? = some (ct t, ty)) (hprim : refKind ty = false) {sp dp n : Int32} (hh : ¬ sp < 0 ∧ ¬ dp < 0 ∧ ¬ n < 0 ∧ sp.toNatClampNeg + n.toNatClampNeg ≤ n0 ∧ dp.toNatClampNeg + n.toNatClampNeg ≤ n1) (hfit : ∀ i, i < n.toNatClampNeg → fits ty (.int (f (sp.toNatClampNeg + i))) = true)
    (hframes : 1 ≤ R.frames) (hlocals : (rest.map fun v => v.category).sum + (nativeFrameWords "java/lang/System" "arraycopy" 5 + 11) ≤ R.locals) (hdg : decode cc pc = .ok (.invokestatic index, 3))
    (kk : ∀ (H1 : Heap) (locs1 : List Loc), HW D J ad (va_up c a (.inl (ct t, n1, .inl (va_cpy f g sp.toNatClampNeg dp.toNatClampNeg n.toNatClampNeg)))) A H0 H1 locs1 → W p l e R s m args below meth cd H1 locs1 cells slots Q (F0 m (pc + 3) ls rest)) : W p l e R s m args below meth cd H locs cells slots Q (F0 m pc ls (.int n :: .int dp :: .ref (ad a) :: .int sp :: .ref (ad a0) :: rest)) := by
  obtain ⟨q, hq1, hq0⟩ := wl_get (ad := ad) (c := c) hi
  obtain ⟨q', hq1', hq0'⟩ := wl_get (ad := ad) (c := c) hi0
  refine va_copyi hE.1 hE.2.1 (hE.2.2.1.trans hls) hE.2.2.2.1 (hE.2.2.2.2.1 _ q1) (hE.2.2.2.2.1 _ q2) (hE.2.2.2.2.1 _ q3) (hE.2.2.2.2.1 _ q4) hE.2.2.2.2.2.1 hW.1 hW.2.1 hW.2.2 q' q t t (by rw [hq0', hc0]) (by rw [hq0, hc]) ht ht hprim hh.1 hh.2.1 hh.2.2.1 hh.2.2.2.1 hh.2.2.2.2 hfit hframes hlocals hdg (fun H1 locs1 h1 h2 h3 => kk H1 locs1 ⟨?_, wl_D _ hW.2.1, h3⟩)
  rw [← wl_set hW.2.1 hq1]
  exact h1
theorem k_copyl (hE : ME p s m cd args D ct cc own nL) (hW : HW D J ad c A H0 H locs) (hls : nL = ls.size) {index a a0 n0 n1 t : Nat} {f g : Nat → Int64} {ty : FieldType} (q1 : Cond.methodLink own index arraycopyName ∈ AL) (q2 : Cond.native arraycopyName ∈ AL) (q3 : Cond.static arraycopyName ∈ AL) (q4 : Cond.initialized "java/lang/System" ∈ AL) (hi0 : a0 ∈ J) (hc0 : c a0 = .inl (ct t, n0, .inr (.inl f))) (hi : a ∈ J) (hc : c a = .inl (ct t, n1, .inr (.inl g))) (ht : (TY ct)[t]? = some (ct t, ty)) (hprim : refKind ty = false) {sp dp n : Int32} (hh : ¬ sp < 0 ∧ ¬ dp < 0 ∧ ¬ n < 0 ∧ sp.toNatClampNeg + n.toNatClampNeg ≤ n0 ∧ dp.toNatClampNeg + n.toNatClampNeg ≤ n1) (hfit : ∀ i, i < n.toNatClampNeg → fits ty (.long (f (sp.toNatClampNeg + i))) = true)
    (hframes : 1 ≤ R.frames) (hlocals : (rest.map fun v => v.category).sum + (nativeFrameWords "java/lang/System" "arraycopy" 5 + 11) ≤ R.locals) (hdg : decode cc pc = .ok (.invokestatic index, 3))
    (kk : ∀ (H1 : Heap) (locs1 : List Loc), HW D J ad (va_up c a (.inl (ct t, n1, .inr (.inl (va_cpy f g sp.toNatClampNeg dp.toNatClampNeg n.toNatClampNeg))))) A H0 H1 locs1 → W p l e R s m args below meth cd H1 locs1 cells slots Q (F0 m (pc + 3) ls rest)) : W p l e R s m args below meth cd H locs cells slots Q (F0 m pc ls (.int n :: .int dp :: .ref (ad a) :: .int sp :: .ref (ad a0) :: rest)) := by
  obtain ⟨q, hq1, hq0⟩ := wl_get (ad := ad) (c := c) hi
  obtain ⟨q', hq1', hq0'⟩ := wl_get (ad := ad) (c := c) hi0
  refine va_copyl hE.1 hE.2.1 (hE.2.2.1.trans hls) hE.2.2.2.1 (hE.2.2.2.2.1 _ q1) (hE.2.2.2.2.1 _ q2) (hE.2.2.2.2.1 _ q3) (hE.2.2.2.2.1 _ q4) hE.2.2.2.2.2.1 hW.1 hW.2.1 hW.2.2 q' q t t (by rw [hq0', hc0]) (by rw [hq0, hc]) ht ht hprim hh.1 hh.2.1 hh.2.2.1 hh.2.2.2.1 hh.2.2.2.2 hfit hframes hlocals hdg (fun H1 locs1 h1 h2 h3 => kk H1 locs1 ⟨?_, wl_D _ hW.2.1, h3⟩)
  rw [← wl_set hW.2.1 hq1]
  exact h1
end KLC
theorem Fr.sym_in {c c' : CF} {b n : Nat} (h : Fr c c' b n) {i : Nat} (hi : i < b ∨ b + n ≤ i) : c' i = c i := h i hi
/-! ===== a tape ===== -/
abbrev TS : Type := (Nat → Int64) × (Nat → Int32)
def sFt (st : TS) (j : Nat) (v : Int32) : TS := (st.1, va_up st.2 j v)
def wLt (st : TS) (i : Int32) (v : Int64) : TS := (vp_updL st.1 i.toNatClampNeg v, st.2)
def sLt (st : TS) (f : Nat → Int64) : TS := (f, st.2)
def TpB (ct : Nat → ClassId) (J : List Nat) (ad : Nat → Nat) (c : CF) (b : Nat) (st : TS) : Prop :=
  (b ∈ J ∧ b + 1 ∈ J) ∧ c b = .inr (5, [.ref (ad (b + 1 + 0)), .int (st.2 0), .int (st.2 1)]) ∧ c (b + 1) = .inl (ct 1, 60, .inr (.inl st.1))
section TBS
variable {ct : Nat → ClassId} {J : List Nat} {ad : Nat → Nat} {c c2 : CF} {b : Nat} {st st2 : TS}
theorem TpB.o (h : TpB ct J ad c b st) : b ∈ J := h.1.1
theorem TpB.obj (h : TpB ct J ad c b st) : c b = .inr (5, [.ref (ad (b + 1 + 0)), .int (st.2 0), .int (st.2 1)]) := h.2.1
theorem TpB.memR (h : TpB ct J ad c b st) (t : Nat) (ht : t < 1) : b + 1 + t ∈ J := by
  have : t = 0 := by omega
  subst this
  exact h.1.2
theorem TpB.row (h : TpB ct J ad c b st) (t : Nat) (ht : t < 1) : c (b + 1 + t) = .inl (ct 1, 60, .inr (.inl st.1)) := by
  have : t = 0 := by omega
  subst this
  exact h.2.2
theorem TpB.wF0 (h : TpB ct J ad c b st) {v : Int32} (e : st2 = sFt st 0 v) : TpB ct J ad (va_up c b (.inr (5, [.ref (ad (b + 1 + 0)), .int v, .int (st.2 1)]))) b st2 := by
  subst e
  exact ⟨h.1, by rw [va_up_self]; rfl, by rw [va_up_ne _ _ (by omega)]; exact h.2.2⟩
theorem TpB.wF1 (h : TpB ct J ad c b st) {v : Int32} (e : st2 = sFt st 1 v) : TpB ct J ad (va_up c b (.inr (5, [.ref (ad (b + 1 + 0)), .int (st.2 0), .int v]))) b st2 := by
  subst e
  exact ⟨h.1, by rw [va_up_self]; rfl, by rw [va_up_ne _ _ (by omega)]; exact h.2.2⟩
theorem TpB.wLf (h : TpB ct J ad c b st) {t : Nat} (ht : t < 1) {f : Nat → Int64} (e : st2 = sLt st f) : TpB ct J ad (va_up c (b + 1 + t) (.inl (ct 1, 60, .inr (.inl f)))) b st2 := by
  subst e
  have : t = 0 := by omega
  subst this
  exact ⟨h.1, by rw [va_up_ne _ _ (by omega)]; exact h.2.1, by rw [va_up_self]; rfl⟩
theorem TpB.wL (h : TpB ct J ad c b st) {t : Nat} (ht : t < 1) {i : Int32} {v : Int64} (e : st2 = wLt st i v) : TpB ct J ad (va_up c (b + 1 + t) (.inl (ct 1, 60, .inr (.inl (vp_updL st.1 i.toNatClampNeg v))))) b st2 := h.wLf ht e
theorem TpB.congr (h : TpB ct J ad c b st) (he : ∀ i, b ≤ i → i < b + 2 → c2 i = c i) : TpB ct J ad c2 b st :=
  ⟨h.1, by rw [he b (by omega) (by omega)]; exact h.2.1, by rw [he (b + 1) (by omega) (by omega)]; exact h.2.2⟩
end TBS
/-! ===== the logs, the store, the whole ===== -/
def LsB (ct : Nat → ClassId) (J : List Nat) (ad : Nat → Nat) (c : CF) (a : Nat) (S : Nat → CS) : Prop :=
  a ∈ J ∧ c a = .inl (ct 3, 4, .inr (.inr (.inr (.inr (rfA ad 4 (fun i => a + 1 + 8 * i)))))) ∧ ∀ i, i < 4 → LgB ct J ad c (a + 1 + 8 * i) (S i)
abbrev SS : Type := (Nat → CS) × CS × CS × CS × (Nat → Int32)
def sLg (S : SS) (i : Nat) (x : CS) : SS := (va_up S.1 i x, S.2)
def sGr (S : SS) (x : CS) : SS := (S.1, x, S.2.2)
def sPl (S : SS) (x : CS) : SS := (S.1, S.2.1, x, S.2.2.2)
def sBk (S : SS) (x : CS) : SS := (S.1, S.2.1, S.2.2.1, x, S.2.2.2.2)
def sTm (S : SS) (j : Nat) (v : Int32) : SS := (S.1, S.2.1, S.2.2.1, S.2.2.2.1, va_up S.2.2.2.2 j v)
abbrev stO (ad : Nat → Nat) (b : Nat) (f : Nat → Int32) : List Value := [.ref (ad (b + 1)), .ref (ad (b + 34)), .ref (ad (b + 39)), .ref (ad (b + 42)), .int (f 0), .int (f 1), .int (f 2), .int (f 3)]
def StB (ct : Nat → ClassId) (J : List Nat) (ad : Nat → Nat) (c : CF) (b : Nat) (S : SS) : Prop :=
  (b ∈ J ∧ c b = .inr (4, stO ad b S.2.2.2.2)) ∧ LsB ct J ad c (b + 1) S.1 ∧ GrB ct J ad c (b + 34) S.2.1 ∧ RwB 10 ct J ad c (b + 39) S.2.2.1 ∧ RwB 8 ct J ad c (b + 42) S.2.2.2.1
section SBS
variable {ct : Nat → ClassId} {J : List Nat} {ad : Nat → Nat} {c c2 : CF} {a b : Nat}
theorem LgB.fr {st : CS} (h : LgB ct J ad c b st) {b2 n : Nat} (hF : Fr c c2 b2 n) (hd : b + 8 ≤ b2 ∨ b2 + n ≤ b) : LgB ct J ad c2 b st := h.congr (fun i h1 h2 => hF i (by have : i < b + 8 := h2; omega))
theorem GrB.fr {st : CS} (h : GrB ct J ad c b st) {b2 n : Nat} (hF : Fr c c2 b2 n) (hd : b + 5 ≤ b2 ∨ b2 + n ≤ b) : GrB ct J ad c2 b st := h.congr (fun i h1 h2 => hF i (by have : i < b + 5 := h2; omega))
theorem RwB.fr {nR : Nat} {st : CS} (h : RwB nR ct J ad c b st) {b2 n : Nat} (hF : Fr c c2 b2 n) (hd : b + 3 ≤ b2 ∨ b2 + n ≤ b) : RwB nR ct J ad c2 b st := h.congr (fun i h1 h2 => hF i (by have : i < b + 3 := h2; omega))
theorem TxB.fr {st : CS} (h : TxB ct J ad c b st) {b2 n : Nat} (hF : Fr c c2 b2 n) (hd : b + 6 ≤ b2 ∨ b2 + n ≤ b) : TxB ct J ad c2 b st := h.congr (fun i h1 h2 => hF i (by have : i < b + 6 := h2; omega))
theorem KrB.fr {st : CS} (h : KrB ct J ad c b st) {b2 n : Nat} (hF : Fr c c2 b2 n) (hd : b + 5 ≤ b2 ∨ b2 + n ≤ b) : KrB ct J ad c2 b st := h.congr (fun i h1 h2 => hF i (by have : i < b + 5 := h2; omega))
theorem TpB.fr {st : TS} (h : TpB ct J ad c b st) {b2 n : Nat} (hF : Fr c c2 b2 n) (hd : b + 2 ≤ b2 ∨ b2 + n ≤ b) : TpB ct J ad c2 b st := h.congr (fun i h1 h2 => hF i (by omega))
theorem LsB.o {S : Nat → CS} (h : LsB ct J ad c a S) : a ∈ J := h.1
theorem LsB.out {S : Nat → CS} (h : LsB ct J ad c a S) : c a = .inl (ct 3, 4, .inr (.inr (.inr (.inr (rfA ad 4 (fun i => a + 1 + 8 * i)))))) := h.2.1
theorem LsB.log {S : Nat → CS} (h : LsB ct J ad c a S) {i : Nat} (hi : i < 4) : LgB ct J ad c (a + 1 + 8 * i) (S i) := h.2.2 i hi
theorem LsB.fr {S : Nat → CS} (h : LsB ct J ad c a S) {b2 n : Nat} (hF : Fr c c2 b2 n) (hd : a + 33 ≤ b2 ∨ b2 + n ≤ a) : LsB ct J ad c2 a S :=
  ⟨h.1, by rw [hF a (by omega)]; exact h.2.1, fun i hi => (h.2.2 i hi).fr hF (by omega)⟩
theorem LsB.pLog {S : Nat → CS} (h : LsB ct J ad c a S) {i : Nat} {x : CS} (hi : i < 4) (hx : LgB ct J ad c2 (a + 1 + 8 * i) x) (hF : Fr c c2 (a + 1 + 8 * i) 8) : LsB ct J ad c2 a (va_up S i x) := by
  refine ⟨h.1, by rw [hF a (by omega)]; exact h.2.1, fun j hj => ?_⟩
  by_cases e : j = i
  · subst e
    rw [va_up_self]
    exact hx
  · rw [va_up_ne _ _ e]
    exact (h.2.2 j hj).fr hF (by omega)
variable {S : SS}
theorem StB.o (h : StB ct J ad c b S) : b ∈ J := h.1.1
theorem StB.obj (h : StB ct J ad c b S) : c b = .inr (4, stO ad b S.2.2.2.2) := h.1.2
theorem StB.logs (h : StB ct J ad c b S) : LsB ct J ad c (b + 1) S.1 := h.2.1
theorem StB.log (h : StB ct J ad c b S) {i : Nat} (hi : i < 4) : LgB ct J ad c (b + 1 + 1 + 8 * i) (S.1 i) := h.2.1.log hi
theorem StB.gr (h : StB ct J ad c b S) : GrB ct J ad c (b + 34) S.2.1 := h.2.2.1
theorem StB.pl (h : StB ct J ad c b S) : RwB 10 ct J ad c (b + 39) S.2.2.1 := h.2.2.2.1
theorem StB.bk (h : StB ct J ad c b S) : RwB 8 ct J ad c (b + 42) S.2.2.2.1 := h.2.2.2.2
theorem StB.pLog (h : StB ct J ad c b S) {i : Nat} {x : CS} (hi : i < 4) (hx : LgB ct J ad c2 (b + 1 + 1 + 8 * i) x) (hF : Fr c c2 (b + 1 + 1 + 8 * i) 8) : StB ct J ad c2 b (sLg S i x) :=
  ⟨⟨h.1.1, by rw [hF b (by omega)]; exact h.1.2⟩, h.2.1.pLog hi hx hF, h.2.2.1.fr hF (by omega), h.2.2.2.1.fr hF (by omega), h.2.2.2.2.fr hF (by omega)⟩
theorem StB.pGr (h : StB ct J ad c b S) {x : CS} (hx : GrB ct J ad c2 (b + 34) x) (hF : Fr c c2 (b + 34) 5) : StB ct J ad c2 b (sGr S x) :=
  ⟨⟨h.1.1, by rw [hF b (by omega)]; exact h.1.2⟩, h.2.1.fr hF (by omega), hx, h.2.2.2.1.fr hF (by omega), h.2.2.2.2.fr hF (by omega)⟩
theorem StB.pPl (h : StB ct J ad c b S) {x : CS} (hx : RwB 10 ct J ad c2 (b + 39) x) (hF : Fr c c2 (b + 39) 3) : StB ct J ad c2 b (sPl S x) :=
  ⟨⟨h.1.1, by rw [hF b (by omega)]; exact h.1.2⟩, h.2.1.fr hF (by omega), h.2.2.1.fr hF (by omega), hx, h.2.2.2.2.fr hF (by omega)⟩
theorem StB.pBk (h : StB ct J ad c b S) {x : CS} (hx : RwB 8 ct J ad c2 (b + 42) x) (hF : Fr c c2 (b + 42) 3) : StB ct J ad c2 b (sBk S x) :=
  ⟨⟨h.1.1, by rw [hF b (by omega)]; exact h.1.2⟩, h.2.1.fr hF (by omega), h.2.2.1.fr hF (by omega), h.2.2.2.1.fr hF (by omega), hx⟩
theorem StB.wF (h : StB ct J ad c b S) {k j : Nat} {v : Int32} {S2 : SS} (hs : (stO ad b S.2.2.2.2).set k (.int v) = stO ad b (va_up S.2.2.2.2 j v)) (e : S2 = sTm S j v) : StB ct J ad (va_up c b (.inr (4, (stO ad b S.2.2.2.2).set k (.int v)))) b S2 := by
  subst e
  have hF : Fr c (va_up c b (.inr (4, (stO ad b S.2.2.2.2).set k (.int v)))) b 1 := Fr.rf.up (Nat.le_refl _) (by omega)
  exact ⟨⟨h.1.1, by rw [va_up_self, hs]; rfl⟩, h.2.1.fr hF (by omega), h.2.2.1.fr hF (by omega), h.2.2.2.1.fr hF (by omega), h.2.2.2.2.fr hF (by omega)⟩
theorem StB.fr (h : StB ct J ad c b S) {b2 n : Nat} (hF : Fr c c2 b2 n) (hd : b + 45 ≤ b2 ∨ b2 + n ≤ b) : StB ct J ad c2 b S :=
  ⟨⟨h.1.1, by rw [hF b (by omega)]; exact h.1.2⟩, h.2.1.fr hF (by omega), h.2.2.1.fr hF (by omega), h.2.2.2.1.fr hF (by omega), h.2.2.2.2.fr hF (by omega)⟩
end SBS
abbrev KS : Type := SS × CS × CS × (Nat → TS) × Option SS × Option SS
def kLv (K : KS) (x : SS) : KS := (x, K.2)
def kTx (K : KS) (x : CS) : KS := (K.1, x, K.2.2)
def kKr (K : KS) (x : CS) : KS := (K.1, K.2.1, x, K.2.2.2)
def kTp (K : KS) (t : Nat) (x : TS) : KS := (K.1, K.2.1, K.2.2.1, va_up K.2.2.2.1 t x, K.2.2.2.2)
def kTk (K : KS) (x : Option SS) : KS := (K.1, K.2.1, K.2.2.1, K.2.2.2.1, x, K.2.2.2.2.2)
def kTr (K : KS) (x : Option SS) : KS := (K.1, K.2.1, K.2.2.1, K.2.2.2.1, K.2.2.2.2.1, x)
def oRf (ad : Nat → Nat) (i : Nat) (o : Option SS) : Value := match o with
  | none => .null
  | some _ => .ref (ad i)
abbrev klO (ad : Nat → Nat) (b : Nat) (K : KS) : List Value := [.ref (ad (b + 1)), .ref (ad (b + 136)), .ref (ad (b + 142)), .ref (ad (b + 147)), oRf ad (b + 46) K.2.2.2.2.1, oRf ad (b + 91) K.2.2.2.2.2]
def KlB (ct : Nat → ClassId) (J : List Nat) (ad : Nat → Nat) (c : CF) (b : Nat) (K : KS) : Prop :=
  (b ∈ J ∧ c b = .inr (7, klO ad b K)) ∧ StB ct J ad c (b + 1) K.1 ∧ TxB ct J ad c (b + 136) K.2.1 ∧ KrB ct J ad c (b + 142) K.2.2.1 ∧ (b + 147 ∈ J ∧ c (b + 147) = .inl (ct 4, 6, .inr (.inr (.inr (.inr (rfA ad 6 (fun t => b + 148 + 2 * t))))))) ∧ (∀ t, t < 6 → TpB ct J ad c (b + 148 + 2 * t) (K.2.2.2.1 t)) ∧ (∀ S, K.2.2.2.2.1 = some S → StB ct J ad c (b + 46) S) ∧ ∀ S, K.2.2.2.2.2 = some S → StB ct J ad c (b + 91) S
section KBS
variable {ct : Nat → ClassId} {J : List Nat} {ad : Nat → Nat} {c c2 : CF} {b : Nat} {K : KS}
theorem KlB.o (h : KlB ct J ad c b K) : b ∈ J := h.1.1
theorem KlB.obj (h : KlB ct J ad c b K) : c b = .inr (7, klO ad b K) := h.1.2
theorem KlB.lv (h : KlB ct J ad c b K) : StB ct J ad c (b + 1) K.1 := h.2.1
theorem KlB.tx (h : KlB ct J ad c b K) : TxB ct J ad c (b + 136) K.2.1 := h.2.2.1
theorem KlB.kr (h : KlB ct J ad c b K) : KrB ct J ad c (b + 142) K.2.2.1 := h.2.2.2.1
theorem KlB.memO (h : KlB ct J ad c b K) : b + 147 ∈ J := h.2.2.2.2.1.1
theorem KlB.out (h : KlB ct J ad c b K) : c (b + 147) = .inl (ct 4, 6, .inr (.inr (.inr (.inr (rfA ad 6 (fun t => b + 148 + 2 * t)))))) := h.2.2.2.2.1.2
theorem KlB.tp (h : KlB ct J ad c b K) {t : Nat} (ht : t < 6) : TpB ct J ad c (b + 148 + 2 * t) (K.2.2.2.1 t) := h.2.2.2.2.2.1 t ht
theorem KlB.tk (h : KlB ct J ad c b K) {S : SS} (e : K.2.2.2.2.1 = some S) : StB ct J ad c (b + 46) S := h.2.2.2.2.2.2.1 S e
theorem KlB.tr (h : KlB ct J ad c b K) {S : SS} (e : K.2.2.2.2.2 = some S) : StB ct J ad c (b + 91) S := h.2.2.2.2.2.2.2 S e
theorem KlB.pLv (h : KlB ct J ad c b K) {x : SS} (hx : StB ct J ad c2 (b + 1) x) (hF : Fr c c2 (b + 1) 45) : KlB ct J ad c2 b (kLv K x) :=
  ⟨⟨h.1.1, by rw [hF b (by omega)]; exact h.1.2⟩, hx, h.2.2.1.fr hF (by omega), h.2.2.2.1.fr hF (by omega), ⟨h.2.2.2.2.1.1, by rw [hF _ (by omega)]; exact h.2.2.2.2.1.2⟩, fun t ht => (h.2.2.2.2.2.1 t ht).fr hF (by omega), fun S e => (h.2.2.2.2.2.2.1 S e).fr hF (by omega), fun S e => (h.2.2.2.2.2.2.2 S e).fr hF (by omega)⟩
theorem KlB.pTx (h : KlB ct J ad c b K) {x : CS} (hx : TxB ct J ad c2 (b + 136) x) (hF : Fr c c2 (b + 136) 6) : KlB ct J ad c2 b (kTx K x) :=
  ⟨⟨h.1.1, by rw [hF b (by omega)]; exact h.1.2⟩, h.2.1.fr hF (by omega), hx, h.2.2.2.1.fr hF (by omega), ⟨h.2.2.2.2.1.1, by rw [hF _ (by omega)]; exact h.2.2.2.2.1.2⟩, fun t ht => (h.2.2.2.2.2.1 t ht).fr hF (by omega), fun S e => (h.2.2.2.2.2.2.1 S e).fr hF (by omega), fun S e => (h.2.2.2.2.2.2.2 S e).fr hF (by omega)⟩
theorem KlB.pKr (h : KlB ct J ad c b K) {x : CS} (hx : KrB ct J ad c2 (b + 142) x) (hF : Fr c c2 (b + 142) 5) : KlB ct J ad c2 b (kKr K x) :=
  ⟨⟨h.1.1, by rw [hF b (by omega)]; exact h.1.2⟩, h.2.1.fr hF (by omega), h.2.2.1.fr hF (by omega), hx, ⟨h.2.2.2.2.1.1, by rw [hF _ (by omega)]; exact h.2.2.2.2.1.2⟩, fun t ht => (h.2.2.2.2.2.1 t ht).fr hF (by omega), fun S e => (h.2.2.2.2.2.2.1 S e).fr hF (by omega), fun S e => (h.2.2.2.2.2.2.2 S e).fr hF (by omega)⟩
theorem KlB.pTp (h : KlB ct J ad c b K) {t : Nat} {x : TS} (ht : t < 6) (hx : TpB ct J ad c2 (b + 148 + 2 * t) x) (hF : Fr c c2 (b + 148 + 2 * t) 2) : KlB ct J ad c2 b (kTp K t x) := by
  refine ⟨⟨h.1.1, by rw [hF b (by omega)]; exact h.1.2⟩, h.2.1.fr hF (by omega), h.2.2.1.fr hF (by omega), h.2.2.2.1.fr hF (by omega), ⟨h.2.2.2.2.1.1, by rw [hF _ (by omega)]; exact h.2.2.2.2.1.2⟩, fun u hu => ?_, fun S e => (h.2.2.2.2.2.2.1 S e).fr hF (by omega), fun S e => (h.2.2.2.2.2.2.2 S e).fr hF (by omega)⟩
  show TpB ct J ad c2 (b + 148 + 2 * u) (va_up K.2.2.2.1 t x u)
  by_cases e : u = t
  · subst e
    rw [va_up_self]
    exact hx
  · rw [va_up_ne _ _ e]
    exact (h.2.2.2.2.2.1 u hu).fr hF (by omega)
end KBS
def zo {α β : Type} (o : Option α) (A : β) (B : α → β) : β := match o with
  | none => A
  | some v => B v
theorem zo_n {α β : Type} {o : Option α} {A r : β} {B : α → β} (e : o = none) (h : zo o A B = r) : A = r := by subst e; exact h
theorem zo_s {α β : Type} {o : Option α} {A r : β} {B : α → β} {v : α} (e : o = some v) (h : zo o A B = r) : B v = r := by subst e; exact h
