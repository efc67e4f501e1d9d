/-! ===== making cells: the address of the next id is the heap's size ===== -/
theorem wl_push {J : List Nat} {ad : Nat → Nat} {c : CF} {i : Nat} {e : va_E} (hi : i ∉ J) : wl (J ++ [i]) ad (va_up c i e) = wl J ad c ++ [(ad i, e)] := by
  unfold wl
  rw [List.map_append]
  congr 1
  · apply List.map_congr_left
    intro j hj
    have hne : j ≠ i := fun h => hi (h ▸ hj)
    show (ad j, va_up c i e j) = (ad j, c j)
    rw [va_up_ne _ _ hne]
  · simp [va_up_self]
section KLA
variable {p : Program} {l : Launch} {e : Env} {R : Room} {s : State} {m : MethodId} {args : Array Value} {below : List Frame} {meth : Method} {cd : Code} {H : Heap} {locs : List Loc} {cells slots : Nat} {Q : State → Prop}
variable {cc : ByteArray} {own : String} {nL pc : Nat} {ls : Array Slot} {rest : List Value} {D : va_G} {ct : Nat → ClassId} {J : List Nat} {ad : Nat → Nat} {c : CF} {A : Nat → Prop} {H0 : Heap}
/-- the world behind a cell that was made -/
theorem HW.made (hW : HW D J ad c A H0 H locs) (hA : ∀ q, H0.size ≤ q → A q) {z i : Nat} {x : va_E} {H1 : Heap} (hz : H.size = z) (had : ad i = z) (hi : i ∉ J) (z1 : H1.size = H.size + 1) (o1 : ∀ q, q < H.size → H1[q]? = H[q]?) (hx : va_at D vwCl (H.size, x) H1) : HW D (J ++ [i]) ad (va_up c i x) A H0 H1 locs := by
  have ha : ad i = H.size := had.trans hz.symm
  have hk : ∀ (k : Nat) (y : Nat × va_E), (wl J ad c)[k]? = some y → H1[y.1]? = H[y.1]? := fun k y hy => o1 y.1 ((hW.1 k y hy).lt)
  refine ⟨?_, ?_, Nat.le_trans hW.2.2.1 (by omega), fun y h1 h2 => (o1 y (Nat.lt_of_lt_of_le h1 hW.2.2.1)).trans (hW.2.2.2.1 y h1 h2), hW.2.2.2.2⟩
  · rw [wl_push hi, ha]
    refine (hW.1.kept hk).app (fun k y hy => ?_)
    have h0 : k < 1 := (List.getElem?_eq_some_iff.mp hy).1
    rw [show k = 0 by omega] at hy
    cases hy
    exact hx
  · rw [wl_push hi, ha]
    exact hW.2.1.push hW.1 rfl (hA _ hW.2.2.1)
theorem k_newO (hE : ME p s m cd args D ct cc own nL) (hW : HW D J ad c A H0 H locs) (hA : ∀ q, H0.size ≤ q → A q) {z i ci N index : Nat} {C : String} {T : u_T} {fs : List Value} (hz : H.size = z) (had : ad i = z) (hi : i ∉ J) (hcl : vwCl[ci]? = some (C, T, N)) (hin : ∀ w ∈ u_ws C T N, w ∈ AL) (ty : Nat → FieldType) (hty : ∀ k, k < N → parseFieldDescriptor (T k).2.2.1 = some (ty k)) (q1 : Cond.classLink own index C ∈ AL) (q2 : Cond.instantiable C N ∈ AL) (q3 : Cond.initialized C ∈ AL) (hfs : ∀ j, j < N → defaultValue (ty j) = vp_V fs j) (hcells : cells + 1 ≤ R.cells) (hslots : slots + N ≤ R.slots) (hdg : decode cc pc = .ok (.new index, 3))
    (kk : ∀ H1 : Heap, H1.size = z + 1 → HW D (J ++ [i]) ad (va_up c i (.inr (ci, fs))) A H0 H1 locs → W p l e R s m args below meth cd H1 locs (cells + 1) (slots + N) Q (F0 m (pc + 3) ls (.ref (ad i) :: rest))) : W p l e R s m args below meth cd H locs cells slots Q (F0 m pc ls rest) := by
  have hKn := hE.2.2.2.2.2.1.1 ci _ hcl
  refine W.newcK hE.1 hE.2.1 hE.2.2.2.1 (hE.2.2.2.2.1 _ q1) (hE.2.2.2.2.1 _ q2) (hE.2.2.2.2.1 _ q3) rfl hdg hcells hslots hKn.2.1 rfl fun H1 kC hkC e1 z1 o1 => ?_
  have h2 := kk H1 (by omega) (hW.made hA hz had hi z1 o1 ⟨_, hcl, (u_born ty hE.2.2.2.2.1 hin hKn hkC e1 hty).to hfs⟩)
  rw [had, ← hz] at h2
  exact h2
theorem k_newA (hE : ME p s m cd args D ct cc own nL) (hW : HW D J ad c A H0 H locs) (hA : ∀ q, H0.size ≤ q → A q) {z i t N : Nat} {atype : ArrayType} {ty : FieldType} (hat : newarray.typeOf atype = ty) (ht : (TY ct)[t]? = some (ct t, ty)) (q1 : Cond.arrayClass ty ∈ AL) (hz : H.size = z) (had : ad i = z) (hi : i ∉ J) {n : Int32} {x : vp_A} (hx : ∀ cA : ClassId, vp_cell cA x = arrV cA N (fun _ => defaultValue ty)) (hra : ∀ cA, va_RA s cA ty ↔ s.vm.findClass ("[" ++ ty.toString) = some cA) (hn : ¬ n < 0) (hN : n.toNatClampNeg = N) (hbytes : N * componentBytes ty ≤ 536870912) (hcells : cells + 1 ≤ R.cells) (hslots : slots + N ≤ R.slots) (hdg : decode cc pc = .ok (.newarray atype, 2))
    (kk : ∀ H1 : Heap, H1.size = z + 1 → HW D (J ++ [i]) ad (va_up c i (.inl (ct t, x))) A H0 H1 locs → W p l e R s m args below meth cd H1 locs (cells + 1) (slots + N) Q (F0 m (pc + 2) ls (.ref (ad i) :: rest))) : W p l e R s m args below meth cd H locs cells slots Q (F0 m pc ls (.int n :: rest)) := by
  subst hat
  refine va_newaK hE.1 hE.2.1 (hE.2.2.2.2.1 _ q1) (g := F0 m pc ls (.int n :: rest)) rfl hdg rfl hn hN hbytes hcells hslots rfl fun H1 cA e1 z1 o1 hAr hNm => ?_
  have hc : ct t = cA := by
    have h3 := (hra _).mp (hE.2.2.2.2.2.1.2 t _ ht).2
    exact Option.some.inj (h3.symm.trans hNm)
  subst hc
  have h2 := kk H1 (by omega) (hW.made hA hz had hi z1 o1 (by show H1[H.size]? = some (vp_cell _ _); rw [hx]; exact e1))
  rw [had, ← hz] at h2
  exact h2
theorem k_newQ (hE : ME p s m cd args D ct cc own nL) (hW : HW D J ad c A H0 H locs) (hA : ∀ q, H0.size ≤ q → A q) {z i t N index : Nat} {C : String} (ht : (TY ct)[t]? = some (ct t, .object C)) (q1 : Cond.classLink own index C ∈ AL) (q2 : Cond.arrayOver (.object C) ∈ NL) (hz : H.size = z) (had : ad i = z) (hi : i ∉ J) {n : Int32} (hn : ¬ n < 0) (hN : n.toNatClampNeg = N) (hbytes : N * 4 ≤ 536870912) (hcells : cells + 1 ≤ R.cells) (hslots : slots + N ≤ R.slots) (hdg : decode cc pc = .ok (.anewarray index, 3))
    (kk : ∀ H1 : Heap, H1.size = z + 1 → HW D (J ++ [i]) ad (va_up c i (.inl (ct t, N, .inr (.inr (.inr (.inr (fun _ => none))))))) A H0 H1 locs → W p l e R s m args below meth cd H1 locs (cells + 1) (slots + N) Q (F0 m (pc + 3) ls (.ref (ad i) :: rest))) : W p l e R s m args below meth cd H locs cells slots Q (F0 m pc ls (.int n :: rest)) := by
  subst hN
  refine W.anew hE.1 hE.2.1 hE.2.2.2.1 (hE.2.2.2.2.1 _ q1) (va_AO.use (hE.2.2.2.2.2.2 _ q2)) rfl hdg rfl hn hbytes hcells hslots fun cA kA comp f1 f2 f3 f4 => ?_
  obtain ⟨kA2, comp2, g1, g2, g3, g4⟩ := (hE.2.2.2.2.2.1.2 t _ ht).2
  have hc : ct t = cA := Option.some.inj (g4.symm.trans f1)
  subst hc
  generalize hH1 : H.push ({ cls := ct t, slots := Array.replicate n.toNatClampNeg .null, vm := .none } : Cell) = H1
  have z1 : H1.size = H.size + 1 := by rw [← hH1, Array.size_push]
  have e1 : H1[H.size]? = some (arrV (ct t) n.toNatClampNeg (fun _ => .null)) := by rw [← hH1, Array.getElem?_push_size, ← arrV_new]
  have o1 : ∀ q : Nat, q < H.size → H1[q]? = H[q]? := fun q hq => by rw [← hH1, Array.getElem?_push, if_neg (Nat.ne_of_lt hq)]
  have h2 := kk H1 (by omega) (hW.made hA hz had hi z1 o1 (by show H1[H.size]? = some (vp_cell _ _); rw [vp_cell_q]; exact e1))
  rw [had, ← hz] at h2
  exact h2
theorem W_sized {g : JFrame} (k : H.size ≤ s.heap.size + cells → W p l e R s m args below meth cd H locs cells slots Q g) : W p l e R s m args below meth cd H locs cells slots Q g := fun T hT X => k (by rw [← hT]; exact X.same.2.2.1) T hT X
theorem HW.self (hW : HW D J ad c A H0 H locs) : HW D J ad c A H H locs := ⟨hW.1, hW.2.1, Nat.le_refl _, fun _ _ _ => rfl, hW.2.2.2.2⟩
theorem HW.trans {J1 : List Nat} {c1 : CF} {H1 : Heap} {locs1 : List Loc} (hW : HW D J ad c A H0 H locs) (h1 : HW D J1 ad c1 A H H1 locs1) : HW D J1 ad c1 A H0 H1 locs1 :=
  ⟨h1.1, h1.2.1, Nat.le_trans hW.2.2.1 h1.2.2.1, fun q hq hn => (h1.2.2.2.1 q (Nat.lt_of_lt_of_le hq hW.2.2.1) hn).trans (hW.2.2.2.1 q hq hn), h1.2.2.2.2⟩
/-- a final field set in a constructor -/
theorem k_putF (hE : ME p s m cd args D ct cc own nL) (hW : HW D J ad c A H0 H locs) {i ci : Nat} {fs : List Value} {C : String} {T : u_T} {N index : Nat} (hi : i ∈ J) (hc : c i = .inr (ci, fs)) (hcl : vwCl[ci]? = some (C, T, N)) (hin : ∀ w ∈ u_ws C T N, w ∈ AL) (ty0 : Nat → FieldType) (hty : ∀ k, k < N → parseFieldDescriptor (T k).2.2.1 = some (ty0 k)) (hnm : ∀ a, a < N → ∀ b, b < N → a ≠ b → (T a).2.1 ≠ (T b).2.1) (k : Nat) (hk : k < N) (hq : Cond.fieldLink own index (T k).1 (T k).2.1 (T k).2.2.1 ∈ AL) (hfin : (T k).2.2.2 = true) (hinit : meth.name = "<init>") (hdecl : (T k).1 = own) {v : Value} (hn : narrow (ty0 k) v = v) (hfit : fits (ty0 k) v = true) (hl : k < fs.length) (hdg : decode cc pc = .ok (.putfield index, 3)) (kk : ∀ (H1 : Heap) (locs1 : List Loc), HW D J ad (va_up c i (.inr (ci, fs.set k v))) A H0 H1 locs1 → W p l e R s m args below meth cd H1 locs1 cells slots Q (F0 m (pc + 3) ls rest)) : W p l e R s m args below meth cd H locs cells slots Q (F0 m pc ls (v :: .ref (ad i) :: rest)) := by
  obtain ⟨q, hq1, hq0⟩ := wl_get (ad := ad) (c := c) hi
  refine va_putF (T := T) hE.1 hE.2.1 hE.2.2.2.2.1 hin ty0 hty hnm hE.2.2.2.1 hE.2.2.2.2.2.1 hW.1 hW.2.1 hW.2.2 q (by rw [hq0, hc]) hcl k hk (hE.2.2.2.2.1 _ hq) (fun _ h => h) hfin hinit hdecl (hty k hk) hn hfit hl hdg (fun H1 locs1 h1 h2 h3 => kk H1 locs1 ⟨?_, wl_D _ hW.2.1, h3⟩)
  rw [← wl_set hW.2.1 hq1]
  exact h1
/-- an object put into a row of references -/
theorem k_aast (hE : ME p s m cd args D ct cc own nL) (hW : HW D J ad c A H0 H locs) {a j n t ci N : Nat} {C : String} {T : u_T} {vs : List Value} {f : Nat → Option Nat} (hi : a ∈ J) (hc : c a = .inl (ct t, n, .inr (.inr (.inr (.inr f))))) (hj : j ∈ J) (hcj : c j = .inr (ci, vs)) (hcl : vwCl[ci]? = some (C, T, N)) (ht : (TY ct)[t]? = some (ct t, .object C)) {i : Int32} (hin : vp_in i n) (hdg : decode cc pc = .ok (.aastore, 1))
    (kk : ∀ (H1 : Heap) (locs1 : List Loc), HW D J ad (va_up c a (.inl (ct t, n, .inr (.inr (.inr (.inr (va_up f i.toNatClampNeg (some (ad j)))))))) ) A H0 H1 locs1 → W p l e R s m args below meth cd H1 locs1 cells slots Q (F0 m (pc + 1) ls rest)) : W p l e R s m args below meth cd H locs cells slots Q (F0 m pc ls (.ref (ad j) :: .int i :: .ref (ad a) :: rest)) := by
  obtain ⟨q, hq1, hq0⟩ := wl_get (ad := ad) (c := c) hi
  obtain ⟨q2, hq3, hq2⟩ := wl_get (ad := ad) (c := c) hj
  refine va_astq hE.1 hE.2.1 hE.2.2.2.2.2.1 hW.1 hW.2.1 hW.2.2 q t q2 ci (r := (C, T, N)) (by rw [hq0, hc]) ht (by rw [hq2, hcj]) hcl hin hdg (fun H1 locs1 h1 h2 h3 => kk H1 locs1 ⟨?_, wl_D _ hW.2.1, h3⟩)
  rw [← wl_set hW.2.1 hq1]
  exact h1
end KLA
/-- a constructor's contract: mc cells of ms slots come, at the addresses behind the heap's end -/
def MN (l : Launch) (D : va_G) (ct : Nat → ClassId) (J : List Nat) (ad : Nat → Nat) (y : MethodName) (cc : ByteArray) (n : Nat) (rm : Room) (av : List Value) (c : CF) (sz : Nat) (P : List Nat → CF → Prop) (mc ms : Nat) : Prop :=
  Met l y (wsm y cc n none) rm (va_Pc av (PW D ct J ad c sz)) (va_Qv (fun u : List Nat × CF => P u.1 u.2) (fun u t => va_P D vwCl (wl u.1 ad u.2) t.heap ∧ sz + mc ≤ t.heap.size ∧ va_D (aA J ad sz) (wl u.1 ad u.2)) (aA J ad sz)) mc ms (aA J ad sz)
def Qn (D : va_G) (J : List Nat) (ad : Nat → Nat) (sz : Nat) (P : List Nat → CF → Prop) (mc : Nat) : Array Value → State → Outcome → State → Prop := va_Qv (fun u : List Nat × CF => P u.1 u.2) (fun u t => va_P D vwCl (wl u.1 ad u.2) t.heap ∧ sz + mc ≤ t.heap.size ∧ va_D (aA J ad sz) (wl u.1 ad u.2)) (aA J ad sz)
theorem MN_of {l : Launch} {D : va_G} {ct : Nat → ClassId} {J : List Nat} {ad : Nat → Nat} {y : MethodName} {cc : ByteArray} {n : Nat} {rm : Room} {av : List Value} {c : CF} {sz : Nat} {P : List Nat → CF → Prop} {mc ms : Nat} {own : String} (hy : plainName y.cls = true) (ho : y.cls = own) (hyn : y.name = "<init>") (hn : (lg_sl av).length ≤ n)
    (body : ∀ (p : Program) (e : Env) (s : State) (m : MethodId) (below : List Frame) (meth : Method) (cd : Code), s.heap.size = sz → ME p s m cd av.toArray D ct cc own n → meth.sig.returnType = none → meth.locks = false → meth.name = "<init>" → HW D J ad c (aA J ad s.heap.size) s.heap s.heap [] → ∀ ls : Array Slot, lv_has ls n (lv_args 0 av) →
      W p l e rm s m av.toArray below meth cd s.heap [] 0 0 (MQ below (Qn D J ad s.heap.size P mc) av.toArray s mc ms (aA J ad s.heap.size)) (F0 m 0 ls [])) : MN l D ct J ad y cc n rm av c sz P mc ms := by
  refine Met.ofW (cc := cc) (maxL := n) (ret := none) hy rfl ?_
  intro p e s m args below meth cd s1 B hml hv
  obtain ⟨rfl, rfl, hP, hD, hK⟩ := hv
  have hts := atoms_spec (ws := wsm y cc n none) B.pre
  have hown : s.vm.findClass own = some m.cls := by rw [← ho]; exact findClass_of_methodNamed B.named
  have hin : meth.name = "<init>" := by rw [← hyn]; exact (name_of_methodNamed B.named B.method).1
  rw [lg_entry_eq]
  exact body p e s m below meth cd rfl ⟨B.exec, B.bytes, hml, hown, fun w hw => hts w (List.mem_cons_of_mem _ hw), hK⟩ B.returns B.notSynchronized hin ⟨hP, aA_D hD, va_S.rf⟩ _ (lv_entry av hn)
section KLB
variable {p : Program} {l : Launch} {e : Env} {R : Room} {s : State} {m : MethodId} {args : Array Value} {below : List Frame} {meth : Method} {cd : Code} {H : Heap} {locs : List Loc} {cells slots : Nat} {Q : State → Prop}
variable {cc : ByteArray} {own : String} {nL pc : Nat} {ls : Array Slot} {rest : List Value} {D : va_G} {ct : Nat → ClassId} {J J1 : List Nat} {ad : Nat → Nat} {c : CF} {A : Nat → Prop} {H0 : Heap}
theorem k_nret (hE : ME p s m cd args D ct cc own nL) (hr : meth.sig.returnType = none) (hlk : meth.locks = false) (hW : HW D J1 ad c (aA J ad s.heap.size) s.heap H locs) {P : List Nat → CF → Prop} {mc ms : Nat} (hP : P J1 c) (hz : s.heap.size + mc ≤ H.size) (hdg : decode cc pc = .ok (.return_, 1)) : W p l e R s m args below meth cd H locs mc ms (MQ below (Qn D J ad s.heap.size P mc) args s mc ms (aA J ad s.heap.size)) (F0 m pc ls []) :=
  W.vret hE.1 hE.2.1 hr (fun t ht hWm => ⟨⟨(J1, c), rfl, hP, by show va_P D vwCl (wl J1 ad c) t.heap; rw [ht]; exact hW.1, by rw [ht]; exact hz, hW.2.1⟩, hW.2.2.F ht⟩) hW.2.2.2.2 hdg hlk
theorem k_callIN (hE : ME p s m cd args D ct cc own nL) (hW : HW D J ad c A H0 H locs) (hAf : ∀ q, aA J ad H.size q → A q) (hls : ls.size = nL) {y : MethodName} {bytes : ByteArray} {maxL index i mc ms : Nat} {rm : Room} {As : List Value} {P : List Nat → CF → Prop} {host : String} (hM : MN l D ct J ad y bytes maxL rm (.ref (ad i) :: As) c H.size P mc ms) (q1 : Cond.methodLinkNest own index y host ∈ NL) (q2 : Cond.instanceMethod y ∈ AL) (hin : y.name = "<init>") (q4 : Cond.initialized y.cls ∈ AL) (q5 : Cond.code y bytes maxL none ∈ AL) (hd : y.cls ≠ "java/lang/invoke/MethodHandle" ∧ y.cls ≠ "java/lang/invoke/VarHandle" ∧ (parseMethodDescriptor y.desc).map (fun d => d.parameters.length) = some As.length) (hR : rm.frames + 1 ≤ R.frames ∧ 8 + (maxL + 11) + rm.locals ≤ R.locals) (h0 : rm.cells = mc ∧ rm.slots = ms) {st0 : List Value} (hst : st0 = As.reverse ++ .ref (ad i) :: rest) (hcat : (rest.map fun v => v.category).sum ≤ 8) (hdg : decode cc pc = .ok (.invokespecial index, 3)) (hcs : cells + mc ≤ R.cells ∧ slots + ms ≤ R.slots)
    (kk : ∀ (J1 : List Nat) (c' : CF) (H1 : Heap) (locs1 : List Loc), P J1 c' → H.size + mc ≤ H1.size → HW D J1 ad c' A H0 H1 locs1 → W p l e R s m args below meth cd H1 locs1 (cells + mc) (slots + ms) Q (F0 m (pc + 3) ls rest)) : W p l e R s m args below meth cd H locs cells slots Q (F0 m pc ls st0) := by
  refine va_callv (S := List Nat × CF) (va_runIN (cc := cc) (nL := nL) (Ts := AL) (n := As.length) (As := As) (rest := rest) ⟨hE.1, hE.2.1, hE.2.2.1, hE.2.2.2.1, hE.2.2.2.2.1⟩ hM ⟨va_cnB As.length hE.2.2.2.2.1 (AL_code q5) rfl h0.1 h0.2 (hE.2.2.2.2.2.2 _ q1) (hE.2.2.2.2.1 _ q4) hd hR, hin, hE.2.2.2.2.1 _ q2⟩ ⟨PW_blind, fun U hU hWm => ⟨rfl, by rw [hU], by rw [hU]; exact hW.1, hW.2.1.weaken (fun _ _ _ _ => trivial), hE.2.2.2.2.2.warm hWm⟩⟩ rfl rfl hls hst (lv_room hcat) hdg hcs) hW.2.2 (fun q _ h => hAf q h) (fun q h => hAf q h) (fun u t H1 locs1 ht hvm hw hB hz1 hk1 hS => ?_)
  obtain ⟨hB1, hB2, hB3⟩ := hB
  exact kk u.1 u.2 H1 locs1 hw (by rw [← ht]; exact hB2) ⟨by rw [← ht]; exact hB1, hB3.weaken (fun k q _ h => hAf q.1 h), hS⟩
theorem k_callI (hE : ME p s m cd args D ct cc own nL) (hW : HW D J ad c A H0 H locs) (hAf : ∀ q, aA J ad H.size q → A q) (hls : ls.size = nL) {y : MethodName} {bytes : ByteArray} {maxL index i mc ms : Nat} {rm : Room} {As : List Value} {P : List Nat → CF → Prop} (hM : MN l D ct J ad y bytes maxL rm (.ref (ad i) :: As) c H.size P mc ms) (q1 : Cond.methodLink own index y ∈ AL) (q2 : Cond.instanceMethod y ∈ AL) (hin : y.name = "<init>") (q4 : Cond.initialized y.cls ∈ AL) (q5 : Cond.code y bytes maxL none ∈ AL) (hd : y.cls ≠ "java/lang/invoke/MethodHandle" ∧ y.cls ≠ "java/lang/invoke/VarHandle" ∧ (parseMethodDescriptor y.desc).map (fun d => d.parameters.length) = some As.length) (hR : rm.frames + 1 ≤ R.frames ∧ 8 + (maxL + 11) + rm.locals ≤ R.locals) (h0 : rm.cells = mc ∧ rm.slots = ms) {st0 : List Value} (hst : st0 = As.reverse ++ .ref (ad i) :: rest) (hcat : (rest.map fun v => v.category).sum ≤ 8) (hdg : decode cc pc = .ok (.invokespecial index, 3)) (hcs : cells + mc ≤ R.cells ∧ slots + ms ≤ R.slots)
    (kk : ∀ (J1 : List Nat) (c' : CF) (H1 : Heap) (locs1 : List Loc), P J1 c' → H.size + mc ≤ H1.size → HW D J1 ad c' A H0 H1 locs1 → W p l e R s m args below meth cd H1 locs1 (cells + mc) (slots + ms) Q (F0 m (pc + 3) ls rest)) : W p l e R s m args below meth cd H locs cells slots Q (F0 m pc ls st0) := by
  refine va_callv (S := List Nat × CF) (va_runI (cc := cc) (nL := nL) (Ts := AL) (n := As.length) (As := As) (rest := rest) ⟨hE.1, hE.2.1, hE.2.2.1, hE.2.2.2.1, hE.2.2.2.2.1⟩ hM ⟨callB_of As.length hE.2.2.2.2.1 (AL_code q5) rfl h0.1 h0.2 (hE.2.2.2.2.1 _ q4) (hE.2.2.2.2.1 _ q1) hd hR, hin, hE.2.2.2.2.1 _ q2⟩ ⟨PW_blind, fun U hU hWm => ⟨rfl, by rw [hU], by rw [hU]; exact hW.1, hW.2.1.weaken (fun _ _ _ _ => trivial), hE.2.2.2.2.2.warm hWm⟩⟩ rfl rfl hls hst (lv_room hcat) hdg hcs) hW.2.2 (fun q _ h => hAf q h) (fun q h => hAf q h) (fun u t H1 locs1 ht hvm hw hB hz1 hk1 hS => ?_)
  obtain ⟨hB1, hB2, hB3⟩ := hB
  exact kk u.1 u.2 H1 locs1 hw (by rw [← ht]; exact hB2) ⟨by rw [← ht]; exact hB1, hB3.weaken (fun k q _ h => hAf q.1 h), hS⟩
end KLB
