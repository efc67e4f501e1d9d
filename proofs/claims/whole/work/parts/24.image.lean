theorem KlB.mono {ct : Nat → ClassId} {J J' : List Nat} {ad : Nat → Nat} {c : CF} {b : Nat} {K : KS} (h : KlB ct J ad c b K) (hJ : ∀ i, i ∈ J → i ∈ J') : KlB ct J' ad c b K :=
  ⟨⟨hJ _ h.1.1, h.1.2⟩, h.2.1.mono hJ, TxB.mono h.2.2.1 hJ, KrB.mono h.2.2.2.1 hJ, ⟨hJ _ h.2.2.2.2.1.1, h.2.2.2.2.1.2⟩, fun t ht => (h.2.2.2.2.2.1 t ht).mono hJ, fun S e => (h.2.2.2.2.2.2.1 S e).mono hJ, fun S e => (h.2.2.2.2.2.2.2 S e).mono hJ⟩
def fX8_image (K : KS) : Option (Int32 × KS) := zb (fX5_copyFrom K.1 (K.2.2.2.2.1.getD st0)) (fun S => zb (fX5_records K.1) (fun r => some (r, kTk K (some S))))
def fX8_ends (a1 : Int32) (K : KS) : Option (Int32 × KS) := if a1 < 0 then some ((-1 : Int32), K) else if a1 ≤ (1 : Int32) then zb (fX5_copyFrom K.1 (K.2.2.2.2.2.getD st0)) (fun S => zb (fX5_followPlan S) (fun S2 => if a1 = 0 then zb (fX5_records S2) (fun r => some (r, kTr K (some S2))) else some (S2.2.1.2 0, kTr K (some S2)))) else some ((-1 : Int32), K)
def MX (l : Launch) (D : va_G) (ct : Nat → ClassId) (J : List Nat) (ad : Nat → Nat) (y : MethodName) (cc : ByteArray) (n : Nat) (rm : Room) (av : List Value) (c : CF) (sz : Nat) (r : Int32) (P : List Nat → CF → Prop) (mc ms : Nat) : Prop :=
  Met l y (wsm y cc n (some .int)) rm (va_Pc av (PW D ct J ad c sz)) (va_Qi (fun (r' : Int32) (u : List Nat × CF) => r' = r ∧ P u.1 u.2) (fun u t => va_P D vwCl (wl u.1 ad u.2) t.heap ∧ va_D (aA J ad sz) (wl u.1 ad u.2)) (aA J ad sz)) mc ms (aA J ad sz)
def Qx (D : va_G) (J : List Nat) (ad : Nat → Nat) (sz : Nat) (r : Int32) (P : List Nat → CF → Prop) : Array Value → State → Outcome → State → Prop := va_Qi (fun (r' : Int32) (u : List Nat × CF) => r' = r ∧ P u.1 u.2) (fun u t => va_P D vwCl (wl u.1 ad u.2) t.heap ∧ va_D (aA J ad sz) (wl u.1 ad u.2)) (aA J ad sz)
theorem MX_of {l : Launch} {D : va_G} {ct : Nat → ClassId} {J : List Nat} {ad : Nat → Nat} {y : MethodName} {cc : ByteArray} {n : Nat} {rm : Room} {av : List Value} {c : CF} {sz : Nat} {r : Int32} {P : List Nat → CF → Prop} {mc ms : Nat} {own : String} (hy : plainName y.cls = true) (ho : y.cls = own) (hn : (lg_sl av).length ≤ n)
    (body : ∀ (p : Program) (e : Env) (s : State) (m : MethodId) (below : List Frame) (meth : Method) (cd : Code), s.heap.size = sz → ME p s m cd av.toArray D ct cc own n → meth.sig.returnType = some .int → meth.locks = false → HW D J ad c (aA J ad s.heap.size) s.heap s.heap [] → ∀ ls : Array Slot, lv_has ls n (lv_args 0 av) →
      W p l e rm s m av.toArray below meth cd s.heap [] 0 0 (MQ below (Qx D J ad s.heap.size r P) av.toArray s mc ms (aA J ad s.heap.size)) (F0 m 0 ls [])) : MX l D ct J ad y cc n rm av c sz r P mc ms := by
  refine Met.ofW (cc := cc) (maxL := n) (ret := some .int) hy rfl ?_
  intro p e s m args below meth cd s1 B hml hv
  obtain ⟨rfl, rfl, hP, hD, hK⟩ := hv
  have hts := atoms_spec (ws := wsm y cc n (some .int)) B.pre
  have hown : s.vm.findClass own = some m.cls := by rw [← ho]; exact findClass_of_methodNamed B.named
  rw [lg_entry_eq]
  exact body p e s m below meth cd rfl ⟨B.exec, B.bytes, hml, hown, fun w hw => hts w (List.mem_cons_of_mem _ hw), hK⟩ B.returns B.notSynchronized ⟨hP, aA_D hD, va_S.rf⟩ _ (lv_entry av hn)
theorem k_xret {p : Program} {l : Launch} {e : Env} {R : Room} {s : State} {m : MethodId} {args : Array Value} {below : List Frame} {meth : Method} {cd : Code} {H : Heap} {locs : List Loc} {cc : ByteArray} {own : String} {nL pc : Nat} {ls : Array Slot} {D : va_G} {ct : Nat → ClassId} {J J1 : List Nat} {ad : Nat → Nat} {c : CF} (hE : ME p s m cd args D ct cc own nL) (hr : meth.sig.returnType = some .int) (hlk : meth.locks = false) (hW : HW D J1 ad c (aA J ad s.heap.size) s.heap H locs) {P : List Nat → CF → Prop} {mc ms : Nat} {r : Int32} (hP : P J1 c) (hdg : decode cc pc = .ok (.ireturn, 1)) : W p l e R s m args below meth cd H locs mc ms (MQ below (Qx D J ad s.heap.size r P) args s mc ms (aA J ad s.heap.size)) (F0 m pc ls [.int r]) :=
  W.iret hE.1 hE.2.1 hr (fun t ht hWm => ⟨⟨r, (J1, c), rfl, ⟨rfl, hP⟩, by show va_P D vwCl (wl J1 ad c) t.heap; rw [ht]; exact hW.1, hW.2.1⟩, hW.2.2.F ht⟩) hW.2.2.2.2 hdg hlk
theorem KlB.pTk {ct : Nat → ClassId} {J : List Nat} {ad : Nat → Nat} {c c2 : CF} {b : Nat} {K : KS} {S x : SS} (h : KlB ct J ad c b K) (ho : K.2.2.2.2.1 = some S) (hx : StB ct J ad c2 (b + 46) x) (hF : Fr c c2 (b + 46) 45) : KlB ct J ad c2 b (kTk K (some x)) := by
  refine ⟨⟨h.1.1, ?_⟩, h.2.1.fr hF (by omega), h.2.2.1.fr hF (by omega), h.2.2.2.1.fr hF (by omega), ⟨h.2.2.2.2.1.1, by rw [hF _ (by omega)]; exact h.2.2.2.2.1.2⟩, fun t ht => (h.2.2.2.2.2.1 t ht).fr hF (by omega), ?_, ?_⟩
  · rw [hF b (by omega), h.1.2]
    show (Sum.inr (7, [_, _, _, _, _, _]) : va_E) = Sum.inr (7, [_, _, _, _, _, _])
    simp only [klO, kTk, ho, oRf]
  · intro S2 e
    obtain rfl := Option.some.inj (show some x = some S2 from e)
    exact hx
  · intro S2 e
    exact (h.2.2.2.2.2.2.2 S2 e).fr hF (by omega)
    
/-- the new one's cells lie where nothing of the object is -/
theorem KlB.unTk {ct : Nat → ClassId} {J : List Nat} {ad : Nat → Nat} {c c2 : CF} {b : Nat} {K : KS} (h : KlB ct J ad c b K) (ho : K.2.2.2.2.1 = none) (hF : Fr c c2 (b + 46) 45) : KlB ct J ad c2 b K :=
  ⟨⟨h.1.1, by rw [hF b (by omega)]; exact h.1.2⟩, h.2.1.fr hF (by omega), h.2.2.1.fr hF (by omega), h.2.2.2.1.fr hF (by omega), ⟨h.2.2.2.2.1.1, by rw [hF _ (by omega)]; exact h.2.2.2.2.1.2⟩, fun t ht => (h.2.2.2.2.2.1 t ht).fr hF (by omega), fun S2 e => (by rw [ho] at e; cases e), fun S2 e => (h.2.2.2.2.2.2.2 S2 e).fr hF (by omega)⟩
theorem KlB.newTk {ct : Nat → ClassId} {J : List Nat} {ad : Nat → Nat} {c : CF} {b : Nat} {K : KS} {x : SS} (h : KlB ct J ad c b K) (hx : StB ct J ad c (b + 46) x) : KlB ct J ad (va_up c b (.inr (7, (klO ad b K).set 4 (.ref (ad (b + 46)))))) b (kTk K (some x)) := by
  have hF : Fr c (va_up c b (.inr (7, (klO ad b K).set 4 (.ref (ad (b + 46)))))) b 1 := Fr.rf.up (Nat.le_refl _) (by omega)
  refine ⟨⟨h.1.1, by rw [va_up_self]; rfl⟩, h.2.1.fr hF (by omega), h.2.2.1.fr hF (by omega), h.2.2.2.1.fr hF (by omega), ⟨h.2.2.2.2.1.1, by rw [hF _ (by omega)]; exact h.2.2.2.2.1.2⟩, fun t ht => (h.2.2.2.2.2.1 t ht).fr hF (by omega), ?_, ?_⟩
  · intro S2 e
    obtain rfl := Option.some.inj (show some x = some S2 from e)
    exact hx.fr hF (by omega)
  · intro S2 e
    exact (h.2.2.2.2.2.2.2 S2 e).fr hF (by omega)
    
theorem KlB.pTr {ct : Nat → ClassId} {J : List Nat} {ad : Nat → Nat} {c c2 : CF} {b : Nat} {K : KS} {S x : SS} (h : KlB ct J ad c b K) (ho : K.2.2.2.2.2 = some S) (hx : StB ct J ad c2 (b + 91) x) (hF : Fr c c2 (b + 91) 45) : KlB ct J ad c2 b (kTr K (some x)) := by
  refine ⟨⟨h.1.1, ?_⟩, h.2.1.fr hF (by omega), h.2.2.1.fr hF (by omega), h.2.2.2.1.fr hF (by omega), ⟨h.2.2.2.2.1.1, by rw [hF _ (by omega)]; exact h.2.2.2.2.1.2⟩, fun t ht => (h.2.2.2.2.2.1 t ht).fr hF (by omega), ?_, ?_⟩
  · rw [hF b (by omega), h.1.2]
    show (Sum.inr (7, [_, _, _, _, _, _]) : va_E) = Sum.inr (7, [_, _, _, _, _, _])
    simp only [klO, kTr, ho, oRf]
  · intro S2 e
    exact (h.2.2.2.2.2.2.1 S2 e).fr hF (by omega)
    
  · intro S2 e
    obtain rfl := Option.some.inj (show some x = some S2 from e)
    exact hx
/-- the new one's cells lie where nothing of the object is -/
theorem KlB.unTr {ct : Nat → ClassId} {J : List Nat} {ad : Nat → Nat} {c c2 : CF} {b : Nat} {K : KS} (h : KlB ct J ad c b K) (ho : K.2.2.2.2.2 = none) (hF : Fr c c2 (b + 91) 45) : KlB ct J ad c2 b K :=
  ⟨⟨h.1.1, by rw [hF b (by omega)]; exact h.1.2⟩, h.2.1.fr hF (by omega), h.2.2.1.fr hF (by omega), h.2.2.2.1.fr hF (by omega), ⟨h.2.2.2.2.1.1, by rw [hF _ (by omega)]; exact h.2.2.2.2.1.2⟩, fun t ht => (h.2.2.2.2.2.1 t ht).fr hF (by omega), fun S2 e => (h.2.2.2.2.2.2.1 S2 e).fr hF (by omega), fun S2 e => (by rw [ho] at e; cases e)⟩
theorem KlB.newTr {ct : Nat → ClassId} {J : List Nat} {ad : Nat → Nat} {c : CF} {b : Nat} {K : KS} {x : SS} (h : KlB ct J ad c b K) (hx : StB ct J ad c (b + 91) x) : KlB ct J ad (va_up c b (.inr (7, (klO ad b K).set 5 (.ref (ad (b + 91)))))) b (kTr K (some x)) := by
  have hF : Fr c (va_up c b (.inr (7, (klO ad b K).set 5 (.ref (ad (b + 91)))))) b 1 := Fr.rf.up (Nat.le_refl _) (by omega)
  refine ⟨⟨h.1.1, by rw [va_up_self]; rfl⟩, h.2.1.fr hF (by omega), h.2.2.1.fr hF (by omega), h.2.2.2.1.fr hF (by omega), ⟨h.2.2.2.2.1.1, by rw [hF _ (by omega)]; exact h.2.2.2.2.1.2⟩, fun t ht => (h.2.2.2.2.2.1 t ht).fr hF (by omega), ?_, ?_⟩
  · intro S2 e
    exact (h.2.2.2.2.2.2.1 S2 e).fr hF (by omega)
    
  · intro S2 e
    obtain rfl := Option.some.inj (show some x = some S2 from e)
    exact hx.fr hF (by omega)
set_option maxHeartbeats 4000000 in
set_option maxRecDepth 100000 in
theorem image_tail {p : Program} {l : Launch} {e : Env} {R : Room} {s : State} {m : MethodId} {args : Array Value} {below : List Frame} {meth : Method} {cd : Code} {H : Heap} {locs : List Loc} {cells slots : Nat} {Q : State → Prop} {ls : Array Slot} {D : va_G} {ct : Nat → ClassId} {J : List Nat} {ad : Nat → Nat} {c : CF} {A : Nat → Prop} {H0 : Heap} {b : Nat} {K : KS} {S S2 : SS} {r : Int32} (hE : ME p s m cd args D ct cX8_image RX8 1) (hW : HW D J ad c A H0 H locs) (hA : ∀ q, H0.size ≤ q → A q) (hB : KlB ct J ad c b K) (ho : K.2.2.2.2.1 = some S) (h1 : fX5_copyFrom K.1 S = some S2) (h2 : fX5_records K.1 = some r) (hl : lv_has ls 1 [(0, .ref (ad b))]) (hRf : 4 ≤ R.frames) (hRl : 86 ≤ R.locals) (hcs : cells ≤ R.cells ∧ slots ≤ R.slots)
    (kk : ∀ (c' : CF) (H1 : Heap) (locs1 : List Loc), KlB ct J ad c' b (kTk K (some S2)) → Fr c c' b 160 → HW D J ad c' A H0 H1 locs1 → W p l e R s m args below meth cd H1 locs1 cells slots Q (F0 m 36 ls [.int r])) : W p l e R s m args below meth cd H locs cells slots Q (F0 m 18 ls []) := by
  have hx := hE.1
  have hb := hE.2.1
  have hAf := hW.af hA
  refine lv_aload_n hx hb dX8_image_18 rfl (lv_at hl 0 rfl) ?_
  refine k_get (v := .ref (ad (b + 46))) hE hW hB.o hB.obj rfl inX8 4 (by decide) q248 (by show some (oRf ad _ _) = _; rw [ho]; rfl) dX8_image_19 ?_
  refine lv_aload_n hx hb dX8_image_22 rfl (lv_at hl 0 rfl) ?_
  refine k_get (v := .ref (ad (b + 1))) hE hW hB.o hB.obj rfl inX8 0 (by decide) q244 rfl dX8_image_23 ?_
  refine g_callVNv (rest := []) hE hW hAf hl.1 (mX5_copyFrom (hB.tk ho) hB.lv (by omega) h1) (hB.tk ho).o (hB.tk ho).obj rfl q719 q721 qs67 q2 q722 hd_X5_copyFrom.2 ⟨Nat.le_trans (Nat.le_of_ble_eq_true rfl) hRf, Nat.le_trans (Nat.le_of_ble_eq_true rfl) hRl⟩ ⟨rfl, rfl⟩ rfl (Nat.le_of_ble_eq_true rfl) dX8_image_26 hcs (fun c1 H locs hP hz hW => ?_)
  have hB1 := hB.pTk ho hP.1 hP.2
  have hAf := hW.af hA
  refine lv_aload_n hx hb dX8_image_29 rfl (lv_at hl 0 rfl) ?_
  refine k_get (v := .ref (ad (b + 1))) hE hW hB1.o hB1.obj rfl inX8 0 (by decide) q244 rfl dX8_image_30 ?_
  refine g_callVNi (rest := []) hE hW hAf hl.1 (mX5_records hB1.lv h2) hB1.lv.o hB1.lv.obj rfl q749 q751 qs73 q2 q752 hd_X5_records.2 ⟨Nat.le_trans (Nat.le_of_ble_eq_true rfl) hRf, Nat.le_trans (Nat.le_of_ble_eq_true rfl) hRl⟩ ⟨rfl, rfl⟩ rfl (Nat.le_of_ble_eq_true rfl) dX8_image_33 hcs (fun c2 H locs hP2 hz2 hW => ?_)
  rw [hP2] at hW
  exact kk _ _ _ hB1 (hP.2.wide (by omega) (by omega)) hW
set_option maxHeartbeats 4000000 in
set_option maxRecDepth 100000 in
theorem ends_tail {p : Program} {l : Launch} {e : Env} {R : Room} {s : State} {m : MethodId} {args : Array Value} {below : List Frame} {meth : Method} {cd : Code} {H : Heap} {locs : List Loc} {cells slots : Nat} {Q : State → Prop} {ls : Array Slot} {D : va_G} {ct : Nat → ClassId} {J : List Nat} {ad : Nat → Nat} {c : CF} {A : Nat → Prop} {H0 : Heap} {b : Nat} {K : KS} {S S1 S2 : SS} {r a1 : Int32} (hE : ME p s m cd args D ct cX8_ends RX8 2) (hW : HW D J ad c A H0 H locs) (hA : ∀ q, H0.size ≤ q → A q) (hB : KlB ct J ad c b K) (ho : K.2.2.2.2.2 = some S) (h1 : fX5_copyFrom K.1 S = some S1) (h2 : fX5_followPlan S1 = some S2) (h3 : (if a1 = 0 then fX5_records S2 else some (S2.2.1.2 0)) = some r) (hl : lv_has ls 2 [(0, .ref (ad b)), (1, .int a1)]) (hRf : 7 ≤ R.frames) (hRl : 160 ≤ R.locals) (hcs : cells ≤ R.cells ∧ slots ≤ R.slots)
    (kk : ∀ (c' : CF) (H1 : Heap) (locs1 : List Loc), KlB ct J ad c' b (kTr K (some S2)) → Fr c c' b 160 → HW D J ad c' A H0 H1 locs1 → W p l e R s m args below meth cd H1 locs1 cells slots Q (F0 m 71 ls [.int r])) : W p l e R s m args below meth cd H locs cells slots Q (F0 m 29 ls []) := by
  have hx := hE.1
  have hb := hE.2.1
  have hAf := hW.af hA
  refine lv_aload_n hx hb dX8_ends_29 rfl (lv_at hl 0 rfl) ?_
  refine k_get (v := .ref (ad (b + 91))) hE hW hB.o hB.obj rfl inX8 5 (by decide) q249 (by show some (oRf ad _ _) = _; rw [ho]; rfl) dX8_ends_30 ?_
  refine lv_aload_n hx hb dX8_ends_33 rfl (lv_at hl 0 rfl) ?_
  refine k_get (v := .ref (ad (b + 1))) hE hW hB.o hB.obj rfl inX8 0 (by decide) q244 rfl dX8_ends_34 ?_
  refine g_callVNv (rest := []) hE hW hAf hl.1 (mX5_copyFrom (hB.tr ho) hB.lv (by omega) h1) (hB.tr ho).o (hB.tr ho).obj rfl q719 q721 qs67 q2 q722 hd_X5_copyFrom.2 ⟨Nat.le_trans (Nat.le_of_ble_eq_true rfl) hRf, Nat.le_trans (Nat.le_of_ble_eq_true rfl) hRl⟩ ⟨rfl, rfl⟩ rfl (Nat.le_of_ble_eq_true rfl) dX8_ends_37 hcs (fun c1 H locs hP hz hW => ?_)
  have hB1 := hB.pTr ho hP.1 hP.2
  have ho1 : (kTr K (some S1)).2.2.2.2.2 = some S1 := rfl
  have hAf := hW.af hA
  refine lv_aload_n hx hb dX8_ends_40 rfl (lv_at hl 0 rfl) ?_
  refine k_get (v := .ref (ad (b + 91))) hE hW hB1.o hB1.obj rfl inX8 5 (by decide) q249 (by show some (oRf ad _ _) = _; rw [ho1]; rfl) dX8_ends_41 ?_
  refine g_callVNv (rest := []) hE hW hAf hl.1 (mX5_followPlan (hB1.tr ho1) h2) (hB1.tr ho1).o (hB1.tr ho1).obj rfl q738 q740 qs71 q2 q741 hd_X5_followPlan.2 ⟨Nat.le_trans (Nat.le_of_ble_eq_true rfl) hRf, Nat.le_trans (Nat.le_of_ble_eq_true rfl) hRl⟩ ⟨rfl, rfl⟩ rfl (Nat.le_of_ble_eq_true rfl) dX8_ends_44 hcs (fun c2 H locs hP2 hz2 hW => ?_)
  have hB2 : KlB ct J ad c2 b (kTr K (some S2)) := hB1.pTr ho1 hP2.1 hP2.2
  have ho2 : (kTr K (some S2)).2.2.2.2.2 = some S2 := rfl
  have hF2 : Fr c c2 b 160 := (hP.2.wide (by omega) (by omega)).trans (hP2.2.wide (by omega) (by omega))
  have hAf := hW.af hA
  refine lv_iload_n hx hb dX8_ends_47 rfl (lv_at hl 1 rfl) ?_
  refine lv_if_ne (tgt := 61) hx hb dX8_ends_48 (by decide) (fun k1 => ?_) (fun k1 => ?_)
  · have h3 := it_f k1 h3
    refine lv_aload_n hx hb dX8_ends_61 rfl (lv_at hl 0 rfl) ?_
    refine k_get (v := .ref (ad (b + 91))) hE hW hB2.o hB2.obj rfl inX8 5 (by decide) q249 (by show some (oRf ad _ _) = _; rw [ho2]; rfl) dX8_ends_62 ?_
    refine k_getN (v := .ref (ad (b + 91 + 34))) hE hW (hB2.tr ho2).o (hB2.tr ho2).obj rfl inX5 1 (by decide) q133 rfl dX8_ends_65 ?_
    refine k_getN (v := .int (S2.2.1.2 0)) hE hW (hB2.tr ho2).gr.o (hB2.tr ho2).gr.obj rfl inX1 4 (by decide) q94 rfl dX8_ends_68 ?_
    obtain rfl := Option.some.inj h3
    exact kk _ _ _ hB2 hF2 hW
  · have h3 := it_t k1 h3
    refine lv_aload_n hx hb dX8_ends_51 rfl (lv_at hl 0 rfl) ?_
    refine k_get (v := .ref (ad (b + 91))) hE hW hB2.o hB2.obj rfl inX8 5 (by decide) q249 (by show some (oRf ad _ _) = _; rw [ho2]; rfl) dX8_ends_52 ?_
    refine g_callVNi (rest := []) hE hW hAf hl.1 (mX5_records (hB2.tr ho2) h3) (hB2.tr ho2).o (hB2.tr ho2).obj rfl q749 q751 qs73 q2 q752 hd_X5_records.2 ⟨Nat.le_trans (Nat.le_of_ble_eq_true rfl) hRf, Nat.le_trans (Nat.le_of_ble_eq_true rfl) hRl⟩ ⟨rfl, rfl⟩ rfl (Nat.le_of_ble_eq_true rfl) dX8_ends_55 hcs (fun c3 H locs hP3 hz3 hW => ?_)
    rw [hP3] at hW
    refine lv_goto (tgt := 71) hx hb dX8_ends_58 (by decide) ?_
    exact kk _ _ _ hB2 hF2 hW
theorem hd_X8_image : yX8_image.cls = RX8 ∧ yX8_image.cls ≠ "java/lang/invoke/MethodHandle" ∧ yX8_image.cls ≠ "java/lang/invoke/VarHandle" ∧ (parseMethodDescriptor yX8_image.desc).map (fun d => d.parameters.length) = some 0 := by decide +kernel
theorem hd_X8_ends : yX8_ends.cls = RX8 ∧ yX8_ends.cls ≠ "java/lang/invoke/MethodHandle" ∧ yX8_ends.cls ≠ "java/lang/invoke/VarHandle" ∧ (parseMethodDescriptor yX8_ends.desc).map (fun d => d.parameters.length) = some 1 := by decide +kernel
set_option maxHeartbeats 4000000 in
set_option maxRecDepth 100000 in
theorem mX8_image_some {l : Launch} {D : va_G} {ct : Nat → ClassId} {J : List Nat} {ad : Nat → Nat} {c0 : CF} {b : Nat} {K K2 : KS} {S : SS} {r : Int32} (hB : KlB ct J ad c0 b K) (ho : K.2.2.2.2.1 = some S) (h : fX8_image K = some (r, K2)) : Mi l D ct J ad yX8_image cX8_image 1 (some .int) (rr 4 86) [.ref (ad b)] c0 r (fun c' => KlB ct J ad c' b K2 ∧ Fr c0 c' b 160) := by
  refine Mi_of (own := RX8) (by decide) rfl (Nat.le_of_ble_eq_true rfl) (fun p e s m below meth cd hE hr hlk hW ls hl => ?_)
  have hx := hE.1
  have hb := hE.2.1
  have hA : ∀ q, s.heap.size ≤ q → aA J ad s.heap.size q := fun q h => Or.inr h
  have hl : lv_has ls 1 [(0, .ref (ad b))] := hl
  unfold fX8_image at h
  rw [ho] at h
  obtain ⟨S2, h1, h⟩ := zb_e h
  obtain ⟨r2, h2, h⟩ := zb_e h
  obtain ⟨rfl, rfl⟩ := Prod.mk.inj (Option.some.inj h)
  refine lv_aload_n hx hb dX8_image_0 rfl (lv_at hl 0 rfl) ?_
  refine k_get (v := .ref (ad (b + 46))) hE hW hB.o hB.obj rfl inX8 4 (by decide) q248 (by show some (oRf ad _ _) = _; rw [ho]; rfl) dX8_image_1 ?_
  refine lv_ifnonnull (tgt := 18) hx hb dX8_image_4 (by decide) ?_
  exact image_tail hE hW hA hB ho h1 h2 hl (Nat.le_of_ble_eq_true rfl) (Nat.le_of_ble_eq_true rfl) ⟨Nat.zero_le _, Nat.zero_le _⟩ (fun c1 H1 locs1 hB1 hF1 hW1 => k_iret hE hr hlk hW1 ⟨hB1, hF1⟩ rfl dX8_image_36)
set_option maxHeartbeats 4000000 in
set_option maxRecDepth 100000 in
theorem mX8_image_none {l : Launch} {D : va_G} {ct : Nat → ClassId} {J : List Nat} {ad : Nat → Nat} {c0 : CF} {b sz : Nat} {K K2 : KS} {r : Int32} (hB : KlB ct J ad c0 b K) (ho : K.2.2.2.2.1 = none) (hnew : ∀ k, 46 ≤ k → k ≤ 90 → b + k ∉ J) (had : ∀ k, 46 ≤ k → k ≤ 90 → ad (b + k) = sz + (k - 46)) (h : fX8_image K = some (r, K2)) : MX l D ct J ad yX8_image cX8_image 1 { frames := 4, cells := 45, slots := 5019, locals := 86 } [.ref (ad b)] c0 sz r (fun J' c' => (∀ i, i ∈ J' ↔ i ∈ J ∨ (b + 46 ≤ i ∧ i ≤ b + 90)) ∧ KlB ct J' ad c' b K2 ∧ Fr c0 c' b 160) 45 5019 := by
  refine MX_of (own := RX8) (by decide) rfl (Nat.le_of_ble_eq_true rfl) (fun p e s m below meth cd hsz hE hr hlk hW ls hl => ?_)
  subst hsz
  have hx := hE.1
  have hb := hE.2.1
  have hA : ∀ q, s.heap.size ≤ q → aA J ad s.heap.size q := fun q h => Or.inr h
  have hl : lv_has ls 1 [(0, .ref (ad b))] := hl
  unfold fX8_image at h
  rw [ho] at h
  obtain ⟨S2, h1, h⟩ := zb_e h
  obtain ⟨r2, h2, h⟩ := zb_e h
  obtain ⟨rfl, rfl⟩ := Prod.mk.inj (Option.some.inj h)
  refine lv_aload_n hx hb dX8_image_0 rfl (lv_at hl 0 rfl) ?_
  refine k_get (v := .null) hE hW hB.o hB.obj rfl inX8 4 (by decide) q248 (by show some (oRf ad _ _) = _; rw [ho]; rfl) dX8_image_1 ?_
  refine lv_ifnonnullN hx hb dX8_image_4 ?_
  refine lv_aload_n hx hb dX8_image_7 rfl (lv_at hl 0 rfl) ?_
  refine k_newO (z := s.heap.size) (i := b + 46) (ci := 4) (fs := [.null, .null, .null, .null, .int 0, .int 0, .int 0, .int 0]) hE hW hA rfl (had 46 (Nat.le_of_ble_eq_true rfl) (Nat.le_of_ble_eq_true rfl)) (hnew 46 (Nat.le_of_ble_eq_true rfl) (Nat.le_of_ble_eq_true rfl)) rfl inX5 tyX5 tyX5_ok q24 q25 q2 (fun j hj => by rcases (show j = 0 ∨ j = 1 ∨ j = 2 ∨ j = 3 ∨ j = 4 ∨ j = 5 ∨ j = 6 ∨ j = 7 by omega) with rfl | rfl | rfl | rfl | rfl | rfl | rfl | rfl <;> rfl) (Nat.le_of_ble_eq_true rfl) (Nat.le_of_ble_eq_true rfl) dX8_image_8 (fun H hz2 hW => ?_)
  refine lv_dup hx hb dX8_image_11 rfl ?_
  have hB1 : KlB ct (J ++ [b + 46]) ad (va_up c0 (b + 46) (.inr (4, [.null, .null, .null, .null, .int 0, .int 0, .int 0, .int 0]))) b K := (hB.unTk ho (Fr.rf.up (by omega) (by omega))).mono (fun i hi => List.mem_append_left _ hi)
  refine k_callIN (rest := [.ref (ad (b + 46)), .ref (ad b)]) hE hW (hW.af hA) hl.1 (nX5_init (b := b + 46) (List.mem_append_right _ (List.mem_singleton.mpr rfl)) (fun k h1 h2 hh => by
    rcases List.mem_append.mp hh with h3 | h3
    · rw [Nat.add_assoc] at h3
      exact hnew (46 + k) (by omega) (by omega) h3
    · have := List.mem_singleton.mp h3
      omega) (fun k h1 h2 => by rw [Nat.add_assoc, had (46 + k) (by omega) (by omega), hz2]; omega) (va_up_self _ _ _)) q26 q27 rfl q2 q28 hd_X5_init.2 ⟨(Nat.le_of_ble_eq_true rfl), (Nat.le_of_ble_eq_true rfl)⟩ ⟨rfl, rfl⟩ rfl (Nat.le_of_ble_eq_true rfl) dX8_image_12 ⟨(Nat.le_of_ble_eq_true rfl), (Nat.le_of_ble_eq_true rfl)⟩ (fun J2 c1 H locs hP hz3 hW => ?_)
  obtain ⟨hJ2, hS2, hF2⟩ := hP
  have hB2 : KlB ct J2 ad c1 b K := (hB1.unTk ho hF2).mono (fun i hi => (hJ2 i).mpr (Or.inl hi))
  refine k_put hE hW hB2.o hB2.obj rfl inX8 tyX8 tyX8_ok nmX8 4 (by decide) q248 rfl rfl rfl (Nat.le_of_ble_eq_true rfl) dX8_image_15 (fun H locs hW => ?_)
  have hB3 := hB2.newTk hS2
  have hF3 : Fr c0 (va_up c1 b (.inr (7, (klO ad b K).set 4 (.ref (ad (b + 46)))))) b 160 := Fr.up (Fr.trans (Fr.up Fr.rf (by omega) (by omega)) (hF2.wide (by omega) (by omega))) (by omega) (by omega)
  have ho3 : (kTk K (some st0)).2.2.2.2.1 = some st0 := rfl
  exact image_tail hE hW hA hB3 ho3 h1 h2 hl (Nat.le_of_ble_eq_true rfl) (Nat.le_of_ble_eq_true rfl) ⟨(Nat.le_of_ble_eq_true rfl), (Nat.le_of_ble_eq_true rfl)⟩ (fun c3 H3 locs3 hB4 hF4 hW4 => k_xret hE hr hlk hW4 ⟨fun i => by
    rw [hJ2 i, List.mem_append, List.mem_singleton]
    by_cases hm : i ∈ J <;> simp only [hm, true_or, false_or, iff_true, or_true] <;> omega, hB4, hF3.trans hF4⟩ dX8_image_36)
set_option maxHeartbeats 4000000 in
set_option maxRecDepth 100000 in
theorem mX8_ends_some {l : Launch} {D : va_G} {ct : Nat → ClassId} {J : List Nat} {ad : Nat → Nat} {c0 : CF} {a1 : Int32} {b : Nat} {K K2 : KS} {S : SS} {r : Int32} (hB : KlB ct J ad c0 b K) (ho : K.2.2.2.2.2 = some S) (h : fX8_ends a1 K = some (r, K2)) : Mi l D ct J ad yX8_ends cX8_ends 2 (some .int) (rr 7 160) [.ref (ad b), .int a1] c0 r (fun c' => KlB ct J ad c' b K2 ∧ Fr c0 c' b 160) := by
  refine Mi_of (own := RX8) (by decide) rfl (Nat.le_of_ble_eq_true rfl) (fun p e s m below meth cd hE hr hlk hW ls hl => ?_)
  have hx := hE.1
  have hb := hE.2.1
  have hA : ∀ q, s.heap.size ≤ q → aA J ad s.heap.size q := fun q h => Or.inr h
  have hl : lv_has ls 2 [(0, .ref (ad b)), (1, .int a1)] := hl
  refine lv_iload_n hx hb dX8_ends_0 rfl (lv_at hl 1 rfl) ?_
  refine lv_if_lt (tgt := 9) hx hb dX8_ends_1 (by decide) (fun k1 => ?_) (fun k1 => ?_)
  · unfold fX8_ends at h
    rw [if_pos k1] at h
    obtain ⟨rfl, rfl⟩ := Prod.mk.inj (Option.some.inj h)
    refine lv_iconst (v := (-1 : Int32)) hx hb dX8_ends_9 (by decide) ?_
    exact k_iret hE hr hlk hW ⟨hB, Fr.rf⟩ rfl dX8_ends_10
  refine lv_iload_n hx hb dX8_ends_4 rfl (lv_at hl 1 rfl) ?_
  refine lv_iconst (v := (1 : Int32)) hx hb dX8_ends_5 (by decide) ?_
  refine lv_icmp_le (tgt := 11) hx hb dX8_ends_6 (by decide) (fun k2 => ?_) (fun k2 => ?_)
  rotate_left
  · unfold fX8_ends at h
    rw [if_neg k1, if_neg k2] at h
    obtain ⟨rfl, rfl⟩ := Prod.mk.inj (Option.some.inj h)
    refine lv_iconst (v := (-1 : Int32)) hx hb dX8_ends_9 (by decide) ?_
    exact k_iret hE hr hlk hW ⟨hB, Fr.rf⟩ rfl dX8_ends_10
  unfold fX8_ends at h
  rw [if_neg k1, if_pos k2, ho] at h
  obtain ⟨S1, h1, h⟩ := zb_e h
  obtain ⟨S2, h2, h⟩ := zb_e h
  obtain ⟨h3, rfl⟩ : (if a1 = 0 then fX5_records S2 else some (S2.2.1.2 0)) = some r ∧ kTr K (some S2) = K2 := by
    by_cases k3 : a1 = 0
    · rw [if_pos k3] at h ⊢
      obtain ⟨r2, h3, h⟩ := zb_e h
      obtain ⟨rfl, rfl⟩ := Prod.mk.inj (Option.some.inj h)
      exact ⟨h3, rfl⟩
    · rw [if_neg k3] at h ⊢
      obtain ⟨rfl, rfl⟩ := Prod.mk.inj (Option.some.inj h)
      exact ⟨rfl, rfl⟩
  refine lv_aload_n hx hb dX8_ends_11 rfl (lv_at hl 0 rfl) ?_
  refine k_get (v := .ref (ad (b + 91))) hE hW hB.o hB.obj rfl inX8 5 (by decide) q249 (by show some (oRf ad _ _) = _; rw [ho]; rfl) dX8_ends_12 ?_
  refine lv_ifnonnull (tgt := 29) hx hb dX8_ends_15 (by decide) ?_
  exact ends_tail hE hW hA hB ho h1 h2 h3 hl (Nat.le_of_ble_eq_true rfl) (Nat.le_of_ble_eq_true rfl) ⟨Nat.zero_le _, Nat.zero_le _⟩ (fun c1 H1 locs1 hB1 hF1 hW1 => k_iret hE hr hlk hW1 ⟨hB1, hF1⟩ rfl dX8_ends_71)
set_option maxHeartbeats 4000000 in
set_option maxRecDepth 100000 in
theorem mX8_ends_none {l : Launch} {D : va_G} {ct : Nat → ClassId} {J : List Nat} {ad : Nat → Nat} {c0 : CF} {a1 : Int32} {b sz : Nat} {K K2 : KS} {r : Int32} (hB : KlB ct J ad c0 b K) (ho : K.2.2.2.2.2 = none) (hnew : ∀ k, 91 ≤ k → k ≤ 135 → b + k ∉ J) (had : ∀ k, 91 ≤ k → k ≤ 135 → ad (b + k) = sz + (k - 91)) (h : fX8_ends a1 K = some (r, K2)) (ha : ¬ a1 < 0) (ha1 : a1 ≤ (1 : Int32)) : MX l D ct J ad yX8_ends cX8_ends 2 { frames := 7, cells := 45, slots := 5019, locals := 160 } [.ref (ad b), .int a1] c0 sz r (fun J' c' => (∀ i, i ∈ J' ↔ i ∈ J ∨ (b + 91 ≤ i ∧ i ≤ b + 135)) ∧ KlB ct J' ad c' b K2 ∧ Fr c0 c' b 160) 45 5019 := by
  refine MX_of (own := RX8) (by decide) rfl (Nat.le_of_ble_eq_true rfl) (fun p e s m below meth cd hsz hE hr hlk hW ls hl => ?_)
  subst hsz
  have hx := hE.1
  have hb := hE.2.1
  have hA : ∀ q, s.heap.size ≤ q → aA J ad s.heap.size q := fun q h => Or.inr h
  have hl : lv_has ls 2 [(0, .ref (ad b)), (1, .int a1)] := hl
  refine lv_iload_n hx hb dX8_ends_0 rfl (lv_at hl 1 rfl) ?_
  refine lv_if_lt (tgt := 9) hx hb dX8_ends_1 (by decide) (fun k1 => ?_) (fun k1 => ?_)
  · exact absurd k1 ha
  refine lv_iload_n hx hb dX8_ends_4 rfl (lv_at hl 1 rfl) ?_
  refine lv_iconst (v := (1 : Int32)) hx hb dX8_ends_5 (by decide) ?_
  refine lv_icmp_le (tgt := 11) hx hb dX8_ends_6 (by decide) (fun k2 => ?_) (fun k2 => ?_)
  rotate_left
  · exact absurd ha1 k2
  unfold fX8_ends at h
  rw [if_neg k1, if_pos k2, ho] at h
  obtain ⟨S1, h1, h⟩ := zb_e h
  obtain ⟨S2, h2, h⟩ := zb_e h
  obtain ⟨h3, rfl⟩ : (if a1 = 0 then fX5_records S2 else some (S2.2.1.2 0)) = some r ∧ kTr K (some S2) = K2 := by
    by_cases k3 : a1 = 0
    · rw [if_pos k3] at h ⊢
      obtain ⟨r2, h3, h⟩ := zb_e h
      obtain ⟨rfl, rfl⟩ := Prod.mk.inj (Option.some.inj h)
      exact ⟨h3, rfl⟩
    · rw [if_neg k3] at h ⊢
      obtain ⟨rfl, rfl⟩ := Prod.mk.inj (Option.some.inj h)
      exact ⟨rfl, rfl⟩
  refine lv_aload_n hx hb dX8_ends_11 rfl (lv_at hl 0 rfl) ?_
  refine k_get (v := .null) hE hW hB.o hB.obj rfl inX8 5 (by decide) q249 (by show some (oRf ad _ _) = _; rw [ho]; rfl) dX8_ends_12 ?_
  refine lv_ifnonnullN hx hb dX8_ends_15 ?_
  refine lv_aload_n hx hb dX8_ends_18 rfl (lv_at hl 0 rfl) ?_
  refine k_newO (z := s.heap.size) (i := b + 91) (ci := 4) (fs := [.null, .null, .null, .null, .int 0, .int 0, .int 0, .int 0]) hE hW hA rfl (had 91 (Nat.le_of_ble_eq_true rfl) (Nat.le_of_ble_eq_true rfl)) (hnew 91 (Nat.le_of_ble_eq_true rfl) (Nat.le_of_ble_eq_true rfl)) rfl inX5 tyX5 tyX5_ok q24 q25 q2 (fun j hj => by rcases (show j = 0 ∨ j = 1 ∨ j = 2 ∨ j = 3 ∨ j = 4 ∨ j = 5 ∨ j = 6 ∨ j = 7 by omega) with rfl | rfl | rfl | rfl | rfl | rfl | rfl | rfl <;> rfl) (Nat.le_of_ble_eq_true rfl) (Nat.le_of_ble_eq_true rfl) dX8_ends_19 (fun H hz2 hW => ?_)
  refine lv_dup hx hb dX8_ends_22 rfl ?_
  have hB1 : KlB ct (J ++ [b + 91]) ad (va_up c0 (b + 91) (.inr (4, [.null, .null, .null, .null, .int 0, .int 0, .int 0, .int 0]))) b K := (hB.unTr ho (Fr.rf.up (by omega) (by omega))).mono (fun i hi => List.mem_append_left _ hi)
  refine k_callIN (rest := [.ref (ad (b + 91)), .ref (ad b)]) hE hW (hW.af hA) hl.1 (nX5_init (b := b + 91) (List.mem_append_right _ (List.mem_singleton.mpr rfl)) (fun k h1 h2 hh => by
    rcases List.mem_append.mp hh with h3 | h3
    · rw [Nat.add_assoc] at h3
      exact hnew (91 + k) (by omega) (by omega) h3
    · have := List.mem_singleton.mp h3
      omega) (fun k h1 h2 => by rw [Nat.add_assoc, had (91 + k) (by omega) (by omega), hz2]; omega) (va_up_self _ _ _)) q26 q27 rfl q2 q28 hd_X5_init.2 ⟨(Nat.le_of_ble_eq_true rfl), (Nat.le_of_ble_eq_true rfl)⟩ ⟨rfl, rfl⟩ rfl (Nat.le_of_ble_eq_true rfl) dX8_ends_23 ⟨(Nat.le_of_ble_eq_true rfl), (Nat.le_of_ble_eq_true rfl)⟩ (fun J2 c1 H locs hP hz3 hW => ?_)
  obtain ⟨hJ2, hS2, hF2⟩ := hP
  have hB2 : KlB ct J2 ad c1 b K := (hB1.unTr ho hF2).mono (fun i hi => (hJ2 i).mpr (Or.inl hi))
  refine k_put hE hW hB2.o hB2.obj rfl inX8 tyX8 tyX8_ok nmX8 5 (by decide) q249 rfl rfl rfl (Nat.le_of_ble_eq_true rfl) dX8_ends_26 (fun H locs hW => ?_)
  have hB3 := hB2.newTr hS2
  have hF3 : Fr c0 (va_up c1 b (.inr (7, (klO ad b K).set 5 (.ref (ad (b + 91)))))) b 160 := Fr.up (Fr.trans (Fr.up Fr.rf (by omega) (by omega)) (hF2.wide (by omega) (by omega))) (by omega) (by omega)
  have ho3 : (kTr K (some st0)).2.2.2.2.2 = some st0 := rfl
  exact ends_tail hE hW hA hB3 ho3 h1 h2 h3 hl (Nat.le_of_ble_eq_true rfl) (Nat.le_of_ble_eq_true rfl) ⟨(Nat.le_of_ble_eq_true rfl), (Nat.le_of_ble_eq_true rfl)⟩ (fun c3 H3 locs3 hB4 hF4 hW4 => k_xret hE hr hlk hW4 ⟨fun i => by
    rw [hJ2 i, List.mem_append, List.mem_singleton]
    by_cases hm : i ∈ J <;> simp only [hm, true_or, false_or, iff_true, or_true] <;> omega, hB4, hF3.trans hF4⟩ dX8_ends_71)
set_option maxHeartbeats 4000000 in
set_option maxRecDepth 100000 in
theorem mX8_ends_bad {l : Launch} {D : va_G} {ct : Nat → ClassId} {J : List Nat} {ad : Nat → Nat} {c0 : CF} {a1 : Int32} {b : Nat} {K : KS} (hB : KlB ct J ad c0 b K) (ha : a1 < 0 ∨ ¬ a1 ≤ (1 : Int32)) : Mi l D ct J ad yX8_ends cX8_ends 2 (some .int) (rr 0 0) [.ref (ad b), .int a1] c0 (-1 : Int32) (fun c' => c' = c0) := by
  refine Mi_of (own := RX8) (by decide) rfl (Nat.le_of_ble_eq_true rfl) (fun p e s m below meth cd hE hr hlk hW ls hl => ?_)
  have hx := hE.1
  have hb := hE.2.1
  have hl : lv_has ls 2 [(0, .ref (ad b)), (1, .int a1)] := hl
  refine lv_iload_n hx hb dX8_ends_0 rfl (lv_at hl 1 rfl) ?_
  refine lv_if_lt (tgt := 9) hx hb dX8_ends_1 (by decide) (fun k1 => ?_) (fun k1 => ?_)
  · refine lv_iconst (v := (-1 : Int32)) hx hb dX8_ends_9 (by decide) ?_
    exact k_iret hE hr hlk hW rfl rfl dX8_ends_10
  refine lv_iload_n hx hb dX8_ends_4 rfl (lv_at hl 1 rfl) ?_
  refine lv_iconst (v := (1 : Int32)) hx hb dX8_ends_5 (by decide) ?_
  refine lv_icmp_le (tgt := 11) hx hb dX8_ends_6 (by decide) (fun k2 => ?_) (fun k2 => ?_)
  · exact absurd k2 (ha.resolve_left k1)
  · refine lv_iconst (v := (-1 : Int32)) hx hb dX8_ends_9 (by decide) ?_
    exact k_iret hE hr hlk hW rfl rfl dX8_ends_10
