theorem ME.dr {p : Program} {s : State} {m : MethodId} {cd : Code} {args : Array Value} {D : va_G} {ct : Nat → ClassId} {cc : ByteArray} {own : String} {nL : Nat} (h : ME p s m cd args D ct cc own nL) (d : Drawn) : ME p (s.setDrawn d) m cd args D ct cc own nL :=
  ⟨h.1, h.2.1, h.2.2.1, h.2.2.2.1, dr_words h.2.2.2.2.1 d, va_K.moved (u := s) (U := s.setDrawn d) (Vm.Alike.refl s.vm) h.2.2.2.2.2.1, fun w hw => isN_same (u := s) (NL_is hw) rfl (h.2.2.2.2.2.2 w hw)⟩
def MDi (l : Launch) (D : va_G) (ct : Nat → ClassId) (J : List Nat) (ad : Nat → Nat) (y : MethodName) (cc : ByteArray) (n : Nat) (ret : Option FieldType) (rm : Room) (av : List Value) (c : CF) (r : Int32) (P : CF → Prop) : Prop := ∀ sz, MetD lw_cs l y (wsm y cc n ret) rm (va_Pc av (PW D ct J ad c sz)) (va_Qi (fun (r' : Int32) (c' : CF) => r' = r ∧ P c') (fun c' t => va_P D vwCl (wl J ad c') t.heap) (aA J ad sz)) 0 0 (aA J ad sz)
theorem MDi_of {l : Launch} {D : va_G} {ct : Nat → ClassId} {J : List Nat} {ad : Nat → Nat} {y : MethodName} {cc : ByteArray} {n : Nat} {ret : Option FieldType} {rm : Room} {av : List Value} {c : CF} {r : Int32} {P : CF → Prop} {own : String} (hy : plainName y.cls = true) (ho : y.cls = own) (hn : (lg_sl av).length ≤ n)
    (body : ∀ (p : Program) (e : Env) (s : State) (m : MethodId) (below : List Frame) (meth : Method) (cd : Code) (d0 : Drawn), s.drawn.sameBut d0 lw_cs → ME p s m cd av.toArray D ct cc own n → meth.sig.returnType = ret → meth.locks = false → HW D J ad c (aA J ad s.heap.size) s.heap s.heap [] → ∀ ls : Array Slot, lv_has ls n (lv_args 0 av) →
      W p l e rm (s.setDrawn d0) m av.toArray below meth cd s.heap [] 0 0 (MQD lw_cs below (Qi D J ad s.heap.size r P) av.toArray s 0 0 (aA J ad s.heap.size)) (F0 m 0 ls [])) : MDi l D ct J ad y cc n ret rm av c r P := by
  intro sz
  refine MetD.ofW (cc := cc) (maxL := n) (ret := ret) hy rfl ?_
  intro p e s m args below meth cd s1 B hml hv hd0
  obtain ⟨rfl, rfl, hP, hD, hK⟩ := hv
  have hts := atoms_spec (ws := wsm y cc n ret) B.pre
  have hown : s.vm.findClass own = some m.cls := by rw [← ho]; exact findClass_of_methodNamed B.named
  rw [lg_entry_eq]
  exact body p e s m below meth cd s.drawn hd0 ⟨B.exec, B.bytes, hml, hown, fun w hw => hts w (List.mem_cons_of_mem _ hw), hK⟩ B.returns B.notSynchronized ⟨hP, aA_D hD, va_S.rf⟩ _ (lv_entry av hn)
def MDl (l : Launch) (D : va_G) (ct : Nat → ClassId) (J : List Nat) (ad : Nat → Nat) (y : MethodName) (cc : ByteArray) (n : Nat) (ret : Option FieldType) (rm : Room) (av : List Value) (c : CF) (r : Int64) (P : CF → Prop) : Prop := ∀ sz, MetD lw_cs l y (wsm y cc n ret) rm (va_Pc av (PW D ct J ad c sz)) (va_Ql (fun (r' : Int64) (c' : CF) => r' = r ∧ P c') (fun c' t => va_P D vwCl (wl J ad c') t.heap) (aA J ad sz)) 0 0 (aA J ad sz)
theorem MDl_of {l : Launch} {D : va_G} {ct : Nat → ClassId} {J : List Nat} {ad : Nat → Nat} {y : MethodName} {cc : ByteArray} {n : Nat} {ret : Option FieldType} {rm : Room} {av : List Value} {c : CF} {r : Int64} {P : CF → Prop} {own : String} (hy : plainName y.cls = true) (ho : y.cls = own) (hn : (lg_sl av).length ≤ n)
    (body : ∀ (p : Program) (e : Env) (s : State) (m : MethodId) (below : List Frame) (meth : Method) (cd : Code) (d0 : Drawn), s.drawn.sameBut d0 lw_cs → ME p s m cd av.toArray D ct cc own n → meth.sig.returnType = ret → meth.locks = false → HW D J ad c (aA J ad s.heap.size) s.heap s.heap [] → ∀ ls : Array Slot, lv_has ls n (lv_args 0 av) →
      W p l e rm (s.setDrawn d0) m av.toArray below meth cd s.heap [] 0 0 (MQD lw_cs below (Ql D J ad s.heap.size r P) av.toArray s 0 0 (aA J ad s.heap.size)) (F0 m 0 ls [])) : MDl l D ct J ad y cc n ret rm av c r P := by
  intro sz
  refine MetD.ofW (cc := cc) (maxL := n) (ret := ret) hy rfl ?_
  intro p e s m args below meth cd s1 B hml hv hd0
  obtain ⟨rfl, rfl, hP, hD, hK⟩ := hv
  have hts := atoms_spec (ws := wsm y cc n ret) B.pre
  have hown : s.vm.findClass own = some m.cls := by rw [← ho]; exact findClass_of_methodNamed B.named
  rw [lg_entry_eq]
  exact body p e s m below meth cd s.drawn hd0 ⟨B.exec, B.bytes, hml, hown, fun w hw => hts w (List.mem_cons_of_mem _ hw), hK⟩ B.returns B.notSynchronized ⟨hP, aA_D hD, va_S.rf⟩ _ (lv_entry av hn)
theorem Met.ofWF {l : Launch} {y : MethodName} {ws ws' : List Cond} {rm : Room} {Pc : Array Value → State → Prop} {Qc : Array Value → State → Outcome → State → Prop} {mc ms : Nat} {free : Addr → Prop} {cc : ByteArray} {maxL : Nat} {ret : Option FieldType}
    (hy : plainFor y = true) (hw : ws = Cond.code y cc maxL ret :: ws')
    (body : ∀ p e s m args below meth c s₁, BodyLoose p l y (headSpec ws rm) cc maxL ret e s m args below meth c s₁ → c.maxLocals = maxL → Pc args s →
      W p l e (headSpec ws rm).room s m args below meth c s.heap [] 0 0 (MQ below Qc args s mc ms free) (entryFrame m args maxL)) : Met l y ws rm Pc Qc mc ms free := by
  refine MetFree.of_bodySF (code := cc) (maxLocals := maxL) (ret := ret) hy ?_ ?_
  · intro args s m h hn
    obtain ⟨meth, c, h1, h2, h3, h4, h5, h6, -, -⟩ := Cond.code_spec hn (atoms_spec (ws := ws) h _ (by rw [hw]; exact List.mem_cons_self))
    exact ⟨meth, c, h1, h2, h3, h4, h5, h6⟩
  · intro p e s m args below meth c s₁ B hml hP _
    have hh0 : s₁.heap = s.heap := by rw [B.state]; rfl
    obtain ⟨t, a1, o, b1, b2, b3⟩ := body p e s m args below meth c s₁ B hml hP s₁ hh0 (Stand.of_body B)
    exact ⟨t, o, a1, b1, b2, ⟨b3.1, b3.2⟩⟩
theorem MiF_of {l : Launch} {D : va_G} {ct : Nat → ClassId} {J : List Nat} {ad : Nat → Nat} {y : MethodName} {cc : ByteArray} {n : Nat} {ret : Option FieldType} {rm : Room} {av : List Value} {c : CF} {r : Int32} {P : CF → Prop} {own : String} (hy : plainFor y = true) (ho : y.cls = own) (hn : (lg_sl av).length ≤ n)
    (body : ∀ (p : Program) (e : Env) (s : State) (m : MethodId) (below : List Frame) (meth : Method) (cd : Code), ME p s m cd av.toArray D ct cc own n → meth.sig.returnType = ret → meth.locks = false → HW D J ad c (aA J ad s.heap.size) s.heap s.heap [] → ∀ ls : Array Slot, lv_has ls n (lv_args 0 av) →
      W p l e rm s m av.toArray below meth cd s.heap [] 0 0 (MQ below (Qi D J ad s.heap.size r P) av.toArray s 0 0 (aA J ad s.heap.size)) (F0 m 0 ls [])) : Mi l D ct J ad y cc n ret rm av c r P := by
  intro sz
  refine Met.ofWF (cc := cc) (maxL := n) (ret := ret) hy rfl ?_
  intro p e s m args below meth cd s1 B hml hv
  obtain ⟨rfl, rfl, hP, hD, hK⟩ := hv
  have hts := atoms_spec (ws := wsm y cc n ret) B.pre
  have hown : s.vm.findClass own = some m.cls := by rw [← ho]; exact findClass_of_methodNamed B.named
  rw [lg_entry_eq]
  exact body p e s m below meth cd ⟨B.exec, B.bytes, hml, hown, fun w hw => hts w (List.mem_cons_of_mem _ hw), hK⟩ B.returns B.notSynchronized ⟨hP, aA_D hD, va_S.rf⟩ _ (lv_entry av hn)
theorem pl_isNaN : plainFor yJxf58ca_isNaN_12338 = true := by decide +kernel
theorem pl_floatToIntBits : plainFor yJxf58ca_floatToIntBits_5c35a = true := by decide +kernel
theorem pl_compare : plainFor yJxf58ca_compare_66c2b = true := by decide +kernel
section KGC
variable {p : Program} {l : Launch} {e : Env} {R : Room} {s : State} {m : MethodId} {args : Array Value} {below : List Frame} {meth : Method} {cd : Code} {H : Heap} {locs : List Loc} {cells slots : Nat} {Q : State → Prop}
variable {cc : ByteArray} {own : String} {nL pc : Nat} {ls : Array Slot} {rest : List Value} {D : va_G} {ct : Nat → ClassId} {J : List Nat} {ad : Nat → Nat} {c : CF} {A : Nat → Prop} {H0 : Heap}
theorem g_callVi (hE : ME p s m cd args D ct cc own nL) (hW : HW D J ad c A H0 H locs) (hAf : ∀ q, aA J ad H.size q → A q) (hls : ls.size = nL) {y : MethodName} {bytes : ByteArray} {maxL index : Nat} {ret : Option FieldType} {rm : Room} {As : List Value} {r : Int32} {P : CF → Prop} {i : Nat} (hM : Mi l D ct J ad y bytes maxL ret rm (.ref (ad i) :: As) c r P) (hi : i ∈ J) {ci : Nat} {fs : List Value} {C : String} {T : u_T} {N : Nat} (hc : c i = .inr (ci, fs)) (hcl : vwCl[ci]? = some (C, T, N)) (q1 : Cond.methodLink own index y ∈ AL) (q2 : Cond.instanceMethod y ∈ AL) (q3 : Cond.selects C y y ∈ AL) (q4 : Cond.initialized y.cls ∈ AL) (q5 : Cond.code y bytes maxL ret ∈ AL) (hd : y.cls = C ∧ y.cls ≠ "java/lang/invoke/MethodHandle" ∧ y.cls ≠ "java/lang/invoke/VarHandle" ∧ (parseMethodDescriptor y.desc).map (fun d => d.parameters.length) = some As.length) (hR : rm.frames + 1 ≤ R.frames ∧ 8 + (maxL + 11) + rm.locals ≤ R.locals) (h0 : rm.cells = 0 ∧ rm.slots = 0) {st0 : List Value} (hst : st0 = As.reverse ++ .ref (ad i) :: rest) (hcat : (rest.map fun v => v.category).sum ≤ 8) (hdg : decode cc pc = .ok (.invokevirtual index, 3)) (hcs : cells ≤ R.cells ∧ slots ≤ R.slots) (kk : ∀ (c' : CF) (H1 : Heap) (locs1 : List Loc), P c' → H.size ≤ H1.size → HW D J ad c' A H0 H1 locs1 → W p l e R s m args below meth cd H1 locs1 cells slots Q (F0 m (pc + 3) ls (.int r :: rest))) : W p l e R s m args below meth cd H locs cells slots Q (F0 m pc ls st0) := by
  obtain ⟨q9, -, hq9⟩ := wl_get (ad := ad) (c := c) hi
  refine va_calli (S := CF) (va_runV (cc := cc) (nL := nL) (Ts := AL) (n := As.length) (As := As) (rest := rest) ⟨hE.1, hE.2.1, hE.2.2.1, hE.2.2.2.1, hE.2.2.2.2.1⟩ (hM H.size) ⟨callB_of As.length hE.2.2.2.2.1 (AL_code q5) rfl h0.1 h0.2 (hE.2.2.2.2.1 _ q4) (hE.2.2.2.2.1 _ q1) hd.2 hR, hE.2.2.2.2.1 _ q2, hE.2.2.2.2.1 _ q3⟩ ⟨PW_blind, va_recv (cl := vwCl) hE.2.2.2.2.2.1 hW.1 (q0 := q9) hcl (by rw [hq9, hc]), fun U hU hWm => ⟨rfl, by rw [hU], by rw [hU]; exact hW.1, hW.2.1.weaken (fun _ _ _ _ => trivial), hE.2.2.2.2.2.warm hWm⟩⟩ rfl rfl hls hst (lv_room hcat) hdg hcs) hW.2.2 (fun q _ h => hAf q h) (fun q h => hAf q h) (fun r' c' t H1 locs1 ht hvm hw hB hz1 hk1 hS => ?_)
  obtain ⟨rfl, hw⟩ := hw
  exact kk c' H1 locs1 hw hz1 ⟨by rw [← ht]; exact hB, wl_D c' hW.2.1, hS⟩
theorem g_callViD {d0 : Drawn} (hd0 : s.drawn.sameBut d0 lw_cs) (hE : ME p (s.setDrawn d0) m cd args D ct cc own nL) (hW : HW D J ad c A H0 H locs) (hAf : ∀ q, aA J ad H.size q → A q) (hls : ls.size = nL) {y : MethodName} {bytes : ByteArray} {maxL index : Nat} {ret : Option FieldType} {rm : Room} {As : List Value} {r : Int32} {P : CF → Prop} {i : Nat} (hM : MDi l D ct J ad y bytes maxL ret rm (.ref (ad i) :: As) c r P) (hi : i ∈ J) {ci : Nat} {fs : List Value} {C : String} {T : u_T} {N : Nat} (hc : c i = .inr (ci, fs)) (hcl : vwCl[ci]? = some (C, T, N)) (q1 : Cond.methodLink own index y ∈ AL) (q2 : Cond.instanceMethod y ∈ AL) (q3 : Cond.selects C y y ∈ AL) (q4 : Cond.initialized y.cls ∈ AL) (q5 : Cond.code y bytes maxL ret ∈ AL) (hd : y.cls = C ∧ y.cls ≠ "java/lang/invoke/MethodHandle" ∧ y.cls ≠ "java/lang/invoke/VarHandle" ∧ (parseMethodDescriptor y.desc).map (fun d => d.parameters.length) = some As.length) (hR : rm.frames + 1 ≤ R.frames ∧ 8 + (maxL + 11) + rm.locals ≤ R.locals) (h0 : rm.cells = 0 ∧ rm.slots = 0) {st0 : List Value} (hst : st0 = As.reverse ++ .ref (ad i) :: rest) (hcat : (rest.map fun v => v.category).sum ≤ 8) (hdg : decode cc pc = .ok (.invokevirtual index, 3)) (hcs : cells ≤ R.cells ∧ slots ≤ R.slots) (kk : ∀ (c' : CF) (H1 : Heap) (locs1 : List Loc), P c' → H.size ≤ H1.size → HW D J ad c' A H0 H1 locs1 → ∀ d' : Drawn, s.drawn.sameBut d' lw_cs → W p l e R (s.setDrawn d') m args below meth cd H1 locs1 cells slots Q (F0 m (pc + 3) ls (.int r :: rest))) : W p l e R (s.setDrawn d0) m args below meth cd H locs cells slots Q (F0 m pc ls st0) := by
  obtain ⟨q9, -, hq9⟩ := wl_get (ad := ad) (c := c) hi
  refine va_calliD hd0 (S := CF) (va_runV_D (cc := cc) (nL := nL) (Ts := AL) (n := As.length) (As := As) (rest := rest) ⟨hE.1, hE.2.1, hE.2.2.1, hE.2.2.2.1, hE.2.2.2.2.1⟩ (hM H.size) ⟨callB_of As.length hE.2.2.2.2.1 (AL_code q5) rfl h0.1 h0.2 (hE.2.2.2.2.1 _ q4) (hE.2.2.2.2.1 _ q1) hd.2 hR, hE.2.2.2.2.1 _ q2, hE.2.2.2.2.1 _ q3⟩ ⟨PW_blind, va_recv (cl := vwCl) hE.2.2.2.2.2.1 hW.1 (q0 := q9) hcl (by rw [hq9, hc]), fun U hU hWm => ⟨rfl, by rw [hU], by rw [hU]; exact hW.1, hW.2.1.weaken (fun _ _ _ _ => trivial), hE.2.2.2.2.2.warm hWm⟩⟩ rfl rfl hls hst (lv_room hcat) hdg hcs) hW.2.2 (fun q _ h => hAf q h) (fun q h => hAf q h) (fun r' c' t H1 locs1 ht hvm hw hB hz1 hk1 hS d' hd' => ?_)
  obtain ⟨rfl, hw⟩ := hw
  exact kk c' H1 locs1 hw hz1 ⟨by rw [← ht]; exact hB, wl_D c' hW.2.1, hS⟩ d' hd'
theorem g_callVl (hE : ME p s m cd args D ct cc own nL) (hW : HW D J ad c A H0 H locs) (hAf : ∀ q, aA J ad H.size q → A q) (hls : ls.size = nL) {y : MethodName} {bytes : ByteArray} {maxL index : Nat} {ret : Option FieldType} {rm : Room} {As : List Value} {r : Int64} {P : CF → Prop} {i : Nat} (hM : Ml l D ct J ad y bytes maxL ret rm (.ref (ad i) :: As) c r P) (hi : i ∈ J) {ci : Nat} {fs : List Value} {C : String} {T : u_T} {N : Nat} (hc : c i = .inr (ci, fs)) (hcl : vwCl[ci]? = some (C, T, N)) (q1 : Cond.methodLink own index y ∈ AL) (q2 : Cond.instanceMethod y ∈ AL) (q3 : Cond.selects C y y ∈ AL) (q4 : Cond.initialized y.cls ∈ AL) (q5 : Cond.code y bytes maxL ret ∈ AL) (hd : y.cls = C ∧ y.cls ≠ "java/lang/invoke/MethodHandle" ∧ y.cls ≠ "java/lang/invoke/VarHandle" ∧ (parseMethodDescriptor y.desc).map (fun d => d.parameters.length) = some As.length) (hR : rm.frames + 1 ≤ R.frames ∧ 8 + (maxL + 11) + rm.locals ≤ R.locals) (h0 : rm.cells = 0 ∧ rm.slots = 0) {st0 : List Value} (hst : st0 = As.reverse ++ .ref (ad i) :: rest) (hcat : (rest.map fun v => v.category).sum ≤ 8) (hdg : decode cc pc = .ok (.invokevirtual index, 3)) (hcs : cells ≤ R.cells ∧ slots ≤ R.slots) (kk : ∀ (c' : CF) (H1 : Heap) (locs1 : List Loc), P c' → H.size ≤ H1.size → HW D J ad c' A H0 H1 locs1 → W p l e R s m args below meth cd H1 locs1 cells slots Q (F0 m (pc + 3) ls (.long r :: rest))) : W p l e R s m args below meth cd H locs cells slots Q (F0 m pc ls st0) := by
  obtain ⟨q9, -, hq9⟩ := wl_get (ad := ad) (c := c) hi
  refine va_calll (S := CF) (va_runV (cc := cc) (nL := nL) (Ts := AL) (n := As.length) (As := As) (rest := rest) ⟨hE.1, hE.2.1, hE.2.2.1, hE.2.2.2.1, hE.2.2.2.2.1⟩ (hM H.size) ⟨callB_of As.length hE.2.2.2.2.1 (AL_code q5) rfl h0.1 h0.2 (hE.2.2.2.2.1 _ q4) (hE.2.2.2.2.1 _ q1) hd.2 hR, hE.2.2.2.2.1 _ q2, hE.2.2.2.2.1 _ q3⟩ ⟨PW_blind, va_recv (cl := vwCl) hE.2.2.2.2.2.1 hW.1 (q0 := q9) hcl (by rw [hq9, hc]), fun U hU hWm => ⟨rfl, by rw [hU], by rw [hU]; exact hW.1, hW.2.1.weaken (fun _ _ _ _ => trivial), hE.2.2.2.2.2.warm hWm⟩⟩ rfl rfl hls hst (lv_room hcat) hdg hcs) hW.2.2 (fun q _ h => hAf q h) (fun q h => hAf q h) (fun r' c' t H1 locs1 ht hvm hw hB hz1 hk1 hS => ?_)
  obtain ⟨rfl, hw⟩ := hw
  exact kk c' H1 locs1 hw hz1 ⟨by rw [← ht]; exact hB, wl_D c' hW.2.1, hS⟩
theorem g_callVlD {d0 : Drawn} (hd0 : s.drawn.sameBut d0 lw_cs) (hE : ME p (s.setDrawn d0) m cd args D ct cc own nL) (hW : HW D J ad c A H0 H locs) (hAf : ∀ q, aA J ad H.size q → A q) (hls : ls.size = nL) {y : MethodName} {bytes : ByteArray} {maxL index : Nat} {ret : Option FieldType} {rm : Room} {As : List Value} {r : Int64} {P : CF → Prop} {i : Nat} (hM : MDl l D ct J ad y bytes maxL ret rm (.ref (ad i) :: As) c r P) (hi : i ∈ J) {ci : Nat} {fs : List Value} {C : String} {T : u_T} {N : Nat} (hc : c i = .inr (ci, fs)) (hcl : vwCl[ci]? = some (C, T, N)) (q1 : Cond.methodLink own index y ∈ AL) (q2 : Cond.instanceMethod y ∈ AL) (q3 : Cond.selects C y y ∈ AL) (q4 : Cond.initialized y.cls ∈ AL) (q5 : Cond.code y bytes maxL ret ∈ AL) (hd : y.cls = C ∧ y.cls ≠ "java/lang/invoke/MethodHandle" ∧ y.cls ≠ "java/lang/invoke/VarHandle" ∧ (parseMethodDescriptor y.desc).map (fun d => d.parameters.length) = some As.length) (hR : rm.frames + 1 ≤ R.frames ∧ 8 + (maxL + 11) + rm.locals ≤ R.locals) (h0 : rm.cells = 0 ∧ rm.slots = 0) {st0 : List Value} (hst : st0 = As.reverse ++ .ref (ad i) :: rest) (hcat : (rest.map fun v => v.category).sum ≤ 8) (hdg : decode cc pc = .ok (.invokevirtual index, 3)) (hcs : cells ≤ R.cells ∧ slots ≤ R.slots) (kk : ∀ (c' : CF) (H1 : Heap) (locs1 : List Loc), P c' → H.size ≤ H1.size → HW D J ad c' A H0 H1 locs1 → ∀ d' : Drawn, s.drawn.sameBut d' lw_cs → W p l e R (s.setDrawn d') m args below meth cd H1 locs1 cells slots Q (F0 m (pc + 3) ls (.long r :: rest))) : W p l e R (s.setDrawn d0) m args below meth cd H locs cells slots Q (F0 m pc ls st0) := by
  obtain ⟨q9, -, hq9⟩ := wl_get (ad := ad) (c := c) hi
  refine va_calllD hd0 (S := CF) (va_runV_D (cc := cc) (nL := nL) (Ts := AL) (n := As.length) (As := As) (rest := rest) ⟨hE.1, hE.2.1, hE.2.2.1, hE.2.2.2.1, hE.2.2.2.2.1⟩ (hM H.size) ⟨callB_of As.length hE.2.2.2.2.1 (AL_code q5) rfl h0.1 h0.2 (hE.2.2.2.2.1 _ q4) (hE.2.2.2.2.1 _ q1) hd.2 hR, hE.2.2.2.2.1 _ q2, hE.2.2.2.2.1 _ q3⟩ ⟨PW_blind, va_recv (cl := vwCl) hE.2.2.2.2.2.1 hW.1 (q0 := q9) hcl (by rw [hq9, hc]), fun U hU hWm => ⟨rfl, by rw [hU], by rw [hU]; exact hW.1, hW.2.1.weaken (fun _ _ _ _ => trivial), hE.2.2.2.2.2.warm hWm⟩⟩ rfl rfl hls hst (lv_room hcat) hdg hcs) hW.2.2 (fun q _ h => hAf q h) (fun q h => hAf q h) (fun r' c' t H1 locs1 ht hvm hw hB hz1 hk1 hS d' hd' => ?_)
  obtain ⟨rfl, hw⟩ := hw
  exact kk c' H1 locs1 hw hz1 ⟨by rw [← ht]; exact hB, wl_D c' hW.2.1, hS⟩ d' hd'
theorem g_callSiD {d0 : Drawn} (hd0 : s.drawn.sameBut d0 lw_cs) (hE : ME p (s.setDrawn d0) m cd args D ct cc own nL) (hW : HW D J ad c A H0 H locs) (hAf : ∀ q, aA J ad H.size q → A q) (hls : ls.size = nL) {y : MethodName} {bytes : ByteArray} {maxL index : Nat} {ret : Option FieldType} {rm : Room} {As : List Value} {r : Int32} {P : CF → Prop} (hM : MDi l D ct J ad y bytes maxL ret rm As c r P) (q1 : Cond.methodLink own index y ∈ AL) (q2 : Cond.static y ∈ AL) (q4 : Cond.initialized y.cls ∈ AL) (q5 : Cond.code y bytes maxL ret ∈ AL) (hd : y.cls ≠ "java/lang/invoke/MethodHandle" ∧ y.cls ≠ "java/lang/invoke/VarHandle" ∧ (parseMethodDescriptor y.desc).map (fun d => d.parameters.length) = some As.length) (hR : rm.frames + 1 ≤ R.frames ∧ 8 + (maxL + 11) + rm.locals ≤ R.locals) (h0 : rm.cells = 0 ∧ rm.slots = 0) {st0 : List Value} (hst : st0 = As.reverse ++ rest) (hcat : (rest.map fun v => v.category).sum ≤ 8) (hdg : decode cc pc = .ok (.invokestatic index, 3)) (hcs : cells ≤ R.cells ∧ slots ≤ R.slots) (kk : ∀ (c' : CF) (H1 : Heap) (locs1 : List Loc), P c' → H.size ≤ H1.size → HW D J ad c' A H0 H1 locs1 → ∀ d' : Drawn, s.drawn.sameBut d' lw_cs → W p l e R (s.setDrawn d') m args below meth cd H1 locs1 cells slots Q (F0 m (pc + 3) ls (.int r :: rest))) : W p l e R (s.setDrawn d0) m args below meth cd H locs cells slots Q (F0 m pc ls st0) := by
  refine va_calliD hd0 (S := CF) (va_runS_D (cc := cc) (nL := nL) (Ts := AL) (n := As.length) (As := As) (rest := rest) ⟨hE.1, hE.2.1, hE.2.2.1, hE.2.2.2.1, hE.2.2.2.2.1⟩ (hM H.size) ⟨callB_of As.length hE.2.2.2.2.1 (AL_code q5) rfl h0.1 h0.2 (hE.2.2.2.2.1 _ q4) (hE.2.2.2.2.1 _ q1) hd hR, hE.2.2.2.2.1 _ q2⟩ ⟨PW_blind, fun U hU hWm => ⟨rfl, by rw [hU], by rw [hU]; exact hW.1, hW.2.1.weaken (fun _ _ _ _ => trivial), hE.2.2.2.2.2.warm hWm⟩⟩ rfl rfl hls hst (lv_room hcat) hdg hcs) hW.2.2 (fun q _ h => hAf q h) (fun q h => hAf q h) (fun r' c' t H1 locs1 ht hvm hw hB hz1 hk1 hS d' hd' => ?_)
  obtain ⟨rfl, hw⟩ := hw
  exact kk c' H1 locs1 hw hz1 ⟨by rw [← ht]; exact hB, wl_D c' hW.2.1, hS⟩ d' hd'
theorem g_callVv (hE : ME p s m cd args D ct cc own nL) (hW : HW D J ad c A H0 H locs) (hAf : ∀ q, aA J ad H.size q → A q) (hls : ls.size = nL) {y : MethodName} {bytes : ByteArray} {maxL index : Nat} {ret : Option FieldType} {rm : Room} {As : List Value} {P : CF → Prop} {i : Nat} (hM : Mv l D ct J ad y bytes maxL ret rm (.ref (ad i) :: As) c P) (hi : i ∈ J) {ci : Nat} {fs : List Value} {C : String} {T : u_T} {N : Nat} (hc : c i = .inr (ci, fs)) (hcl : vwCl[ci]? = some (C, T, N)) (q1 : Cond.methodLink own index y ∈ AL) (q2 : Cond.instanceMethod y ∈ AL) (q3 : Cond.selects C y y ∈ AL) (q4 : Cond.initialized y.cls ∈ AL) (q5 : Cond.code y bytes maxL ret ∈ AL) (hd : y.cls = C ∧ y.cls ≠ "java/lang/invoke/MethodHandle" ∧ y.cls ≠ "java/lang/invoke/VarHandle" ∧ (parseMethodDescriptor y.desc).map (fun d => d.parameters.length) = some As.length) (hR : rm.frames + 1 ≤ R.frames ∧ 8 + (maxL + 11) + rm.locals ≤ R.locals) (h0 : rm.cells = 0 ∧ rm.slots = 0) {st0 : List Value} (hst : st0 = As.reverse ++ .ref (ad i) :: rest) (hcat : (rest.map fun v => v.category).sum ≤ 8) (hdg : decode cc pc = .ok (.invokevirtual index, 3)) (hcs : cells ≤ R.cells ∧ slots ≤ R.slots) (kk : ∀ (c' : CF) (H1 : Heap) (locs1 : List Loc), P c' → H.size ≤ H1.size → HW D J ad c' A H0 H1 locs1 → W p l e R s m args below meth cd H1 locs1 cells slots Q (F0 m (pc + 3) ls (rest))) : W p l e R s m args below meth cd H locs cells slots Q (F0 m pc ls st0) := by
  obtain ⟨q9, -, hq9⟩ := wl_get (ad := ad) (c := c) hi
  refine va_callv (S := CF) (va_runV (cc := cc) (nL := nL) (Ts := AL) (n := As.length) (As := As) (rest := rest) ⟨hE.1, hE.2.1, hE.2.2.1, hE.2.2.2.1, hE.2.2.2.2.1⟩ (hM H.size) ⟨callB_of As.length hE.2.2.2.2.1 (AL_code q5) rfl h0.1 h0.2 (hE.2.2.2.2.1 _ q4) (hE.2.2.2.2.1 _ q1) hd.2 hR, hE.2.2.2.2.1 _ q2, hE.2.2.2.2.1 _ q3⟩ ⟨PW_blind, va_recv (cl := vwCl) hE.2.2.2.2.2.1 hW.1 (q0 := q9) hcl (by rw [hq9, hc]), fun U hU hWm => ⟨rfl, by rw [hU], by rw [hU]; exact hW.1, hW.2.1.weaken (fun _ _ _ _ => trivial), hE.2.2.2.2.2.warm hWm⟩⟩ rfl rfl hls hst (lv_room hcat) hdg hcs) hW.2.2 (fun q _ h => hAf q h) (fun q h => hAf q h) (fun c' t H1 locs1 ht hvm hw hB hz1 hk1 hS => ?_)
  exact kk c' H1 locs1 hw hz1 ⟨by rw [← ht]; exact hB, wl_D c' hW.2.1, hS⟩
theorem g_callVNv (hE : ME p s m cd args D ct cc own nL) (hW : HW D J ad c A H0 H locs) (hAf : ∀ q, aA J ad H.size q → A q) (hls : ls.size = nL) {y : MethodName} {bytes : ByteArray} {maxL index : Nat} {ret : Option FieldType} {rm : Room} {As : List Value} {P : CF → Prop} {i : Nat} (hM : Mv l D ct J ad y bytes maxL ret rm (.ref (ad i) :: As) c P) (hi : i ∈ J) {ci : Nat} {fs : List Value} {C : String} {T : u_T} {N : Nat} (hc : c i = .inr (ci, fs)) (hcl : vwCl[ci]? = some (C, T, N)) {host : String} (q1 : Cond.methodLinkNest own index y host ∈ NL) (q2 : Cond.instanceMethod y ∈ AL) (q3 : Cond.selects C y y ∈ AL) (q4 : Cond.initialized y.cls ∈ AL) (q5 : Cond.code y bytes maxL ret ∈ AL) (hd : y.cls ≠ "java/lang/invoke/MethodHandle" ∧ y.cls ≠ "java/lang/invoke/VarHandle" ∧ (parseMethodDescriptor y.desc).map (fun d => d.parameters.length) = some As.length) (hR : rm.frames + 1 ≤ R.frames ∧ 8 + (maxL + 11) + rm.locals ≤ R.locals) (h0 : rm.cells = 0 ∧ rm.slots = 0) {st0 : List Value} (hst : st0 = As.reverse ++ .ref (ad i) :: rest) (hcat : (rest.map fun v => v.category).sum ≤ 8) (hdg : decode cc pc = .ok (.invokevirtual index, 3)) (hcs : cells ≤ R.cells ∧ slots ≤ R.slots) (kk : ∀ (c' : CF) (H1 : Heap) (locs1 : List Loc), P c' → H.size ≤ H1.size → HW D J ad c' A H0 H1 locs1 → W p l e R s m args below meth cd H1 locs1 cells slots Q (F0 m (pc + 3) ls (rest))) : W p l e R s m args below meth cd H locs cells slots Q (F0 m pc ls st0) := by
  obtain ⟨q9, -, hq9⟩ := wl_get (ad := ad) (c := c) hi
  refine va_callv (S := CF) (va_runVN (cc := cc) (nL := nL) (Ts := AL) (n := As.length) (As := As) (rest := rest) ⟨hE.1, hE.2.1, hE.2.2.1, hE.2.2.2.1, hE.2.2.2.2.1⟩ (hM H.size) ⟨va_cnB As.length hE.2.2.2.2.1 (AL_code q5) rfl h0.1 h0.2 (hE.2.2.2.2.2.2 _ q1) (hE.2.2.2.2.1 _ q4) hd hR, hE.2.2.2.2.1 _ q2, hE.2.2.2.2.1 _ q3⟩ ⟨PW_blind, va_recv (cl := vwCl) hE.2.2.2.2.2.1 hW.1 (q0 := q9) hcl (by rw [hq9, hc]), fun U hU hWm => ⟨rfl, by rw [hU], by rw [hU]; exact hW.1, hW.2.1.weaken (fun _ _ _ _ => trivial), hE.2.2.2.2.2.warm hWm⟩⟩ rfl rfl hls hst (lv_room hcat) hdg hcs) hW.2.2 (fun q _ h => hAf q h) (fun q h => hAf q h) (fun c' t H1 locs1 ht hvm hw hB hz1 hk1 hS => ?_)
  exact kk c' H1 locs1 hw hz1 ⟨by rw [← ht]; exact hB, wl_D c' hW.2.1, hS⟩
theorem g_callVNi (hE : ME p s m cd args D ct cc own nL) (hW : HW D J ad c A H0 H locs) (hAf : ∀ q, aA J ad H.size q → A q) (hls : ls.size = nL) {y : MethodName} {bytes : ByteArray} {maxL index : Nat} {ret : Option FieldType} {rm : Room} {As : List Value} {r : Int32} {P : CF → Prop} {i : Nat} (hM : Mi l D ct J ad y bytes maxL ret rm (.ref (ad i) :: As) c r P) (hi : i ∈ J) {ci : Nat} {fs : List Value} {C : String} {T : u_T} {N : Nat} (hc : c i = .inr (ci, fs)) (hcl : vwCl[ci]? = some (C, T, N)) {host : String} (q1 : Cond.methodLinkNest own index y host ∈ NL) (q2 : Cond.instanceMethod y ∈ AL) (q3 : Cond.selects C y y ∈ AL) (q4 : Cond.initialized y.cls ∈ AL) (q5 : Cond.code y bytes maxL ret ∈ AL) (hd : y.cls ≠ "java/lang/invoke/MethodHandle" ∧ y.cls ≠ "java/lang/invoke/VarHandle" ∧ (parseMethodDescriptor y.desc).map (fun d => d.parameters.length) = some As.length) (hR : rm.frames + 1 ≤ R.frames ∧ 8 + (maxL + 11) + rm.locals ≤ R.locals) (h0 : rm.cells = 0 ∧ rm.slots = 0) {st0 : List Value} (hst : st0 = As.reverse ++ .ref (ad i) :: rest) (hcat : (rest.map fun v => v.category).sum ≤ 8) (hdg : decode cc pc = .ok (.invokevirtual index, 3)) (hcs : cells ≤ R.cells ∧ slots ≤ R.slots) (kk : ∀ (c' : CF) (H1 : Heap) (locs1 : List Loc), P c' → H.size ≤ H1.size → HW D J ad c' A H0 H1 locs1 → W p l e R s m args below meth cd H1 locs1 cells slots Q (F0 m (pc + 3) ls (.int r :: rest))) : W p l e R s m args below meth cd H locs cells slots Q (F0 m pc ls st0) := by
  obtain ⟨q9, -, hq9⟩ := wl_get (ad := ad) (c := c) hi
  refine va_calli (S := CF) (va_runVN (cc := cc) (nL := nL) (Ts := AL) (n := As.length) (As := As) (rest := rest) ⟨hE.1, hE.2.1, hE.2.2.1, hE.2.2.2.1, hE.2.2.2.2.1⟩ (hM H.size) ⟨va_cnB As.length hE.2.2.2.2.1 (AL_code q5) rfl h0.1 h0.2 (hE.2.2.2.2.2.2 _ q1) (hE.2.2.2.2.1 _ q4) hd hR, hE.2.2.2.2.1 _ q2, hE.2.2.2.2.1 _ q3⟩ ⟨PW_blind, va_recv (cl := vwCl) hE.2.2.2.2.2.1 hW.1 (q0 := q9) hcl (by rw [hq9, hc]), fun U hU hWm => ⟨rfl, by rw [hU], by rw [hU]; exact hW.1, hW.2.1.weaken (fun _ _ _ _ => trivial), hE.2.2.2.2.2.warm hWm⟩⟩ rfl rfl hls hst (lv_room hcat) hdg hcs) hW.2.2 (fun q _ h => hAf q h) (fun q h => hAf q h) (fun r' c' t H1 locs1 ht hvm hw hB hz1 hk1 hS => ?_)
  obtain ⟨rfl, hw⟩ := hw
  exact kk c' H1 locs1 hw hz1 ⟨by rw [← ht]; exact hB, wl_D c' hW.2.1, hS⟩
end KGC
/-! ===== NaN and the twelve instructions that draw ===== -/
theorem and31 (x : UInt32) : (x &&& 0x7fffffff).toNat = x.toNat % 2 ^ 31 := by
  rw [UInt32.toNat_and]
  exact Nat.and_two_pow_sub_one_eq_mod x.toNat 31
theorem and63 (x : UInt64) : (x &&& 0x7fffffffffffffff).toNat = x.toNat % 2 ^ 63 := by
  rw [UInt64.toNat_and]
  exact Nat.and_two_pow_sub_one_eq_mod x.toNat 63
theorem nan32_iff (x : UInt32) : isNaN32 x = true ↔ 0x7f800000 < x.toNat % 2 ^ 31 := by
  simp only [isNaN32, decide_eq_true_eq, gt_iff_lt, UInt32.lt_iff_toNat_lt, and31]
  rfl
theorem nan64_iff (x : UInt64) : isNaN64 x = true ↔ 0x7ff0000000000000 < x.toNat % 2 ^ 63 := by
  simp only [isNaN64, decide_eq_true_eq, gt_iff_lt, UInt64.lt_iff_toNat_lt, and63]
  rfl
theorem dec32_nan {n : Nat} : FP.Core.decode FP.Core.b32 n = .nan ↔ 0x7f800000 < n % 2 ^ 31 := by
  have ht : FP.Core.b32.tails = 8388608 := rfl
  have he : FP.Core.b32.exps = 256 := rfl
  unfold FP.Core.decode FP.Core.fieldE FP.Core.fieldT
  rw [ht, he]
  constructor
  · intro h
    split at h
    · split at h
      · cases h
      · omega
    · split at h <;> cases h
  · intro h
    rw [if_pos (by omega), if_neg (by omega)]
theorem dec64_nan {n : Nat} : FP.Core.decode FP.Core.b64 n = .nan ↔ 0x7ff0000000000000 < n % 2 ^ 63 := by
  have ht : FP.Core.b64.tails = 4503599627370496 := rfl
  have he : FP.Core.b64.exps = 2048 := rfl
  unfold FP.Core.decode FP.Core.fieldE FP.Core.fieldT
  rw [ht, he]
  constructor
  · intro h
    split at h
    · split at h
      · cases h
      · omega
    · split at h <;> cases h
  · intro h
    rw [if_pos (by omega), if_neg (by omega)]
theorem nan32_dec (x : UInt32) : isNaN32 x = true ↔ FP.Core.decode FP.Core.b32 x.toNat = .nan := by rw [nan32_iff, dec32_nan]
theorem nan64_dec (x : UInt64) : isNaN64 x = true ↔ FP.Core.decode FP.Core.b64 x.toNat = .nan := by rw [nan64_iff, dec64_nan]
theorem enc32_nan : isNaN32 (UInt32.ofNat (FP.Core.encode FP.Core.b32 .nan)) = true := by decide
theorem enc64_nan : isNaN64 (UInt64.ofNat (FP.Core.encode FP.Core.b64 .nan)) = true := by decide
theorem fadd_nan {x y : UInt32} (h : isNaN32 x = true ∨ isNaN32 y = true) : isNaN32 (FP.fadd x y) = true := by
  have : FP.Core.exactSum (FP.Core.decode FP.Core.b32 x.toNat) (FP.Core.decode FP.Core.b32 y.toNat) = .nan := by
    rcases h with h | h
    · rw [(nan32_dec x).mp h]; rfl
    · rw [(nan32_dec y).mp h]
      cases FP.Core.decode FP.Core.b32 x.toNat <;> rfl
  show isNaN32 (UInt32.ofNat (FP.Core.add _ _ _)) = true
  unfold FP.Core.add
  rw [this]
  exact enc32_nan
theorem dadd_nan {x y : UInt64} (h : isNaN64 x = true ∨ isNaN64 y = true) : isNaN64 (FP.dadd x y) = true := by
  have : FP.Core.exactSum (FP.Core.decode FP.Core.b64 x.toNat) (FP.Core.decode FP.Core.b64 y.toNat) = .nan := by
    rcases h with h | h
    · rw [(nan64_dec x).mp h]; rfl
    · rw [(nan64_dec y).mp h]
      cases FP.Core.decode FP.Core.b64 x.toNat <;> rfl
  show isNaN64 (UInt64.ofNat (FP.Core.add _ _ _)) = true
  unfold FP.Core.add
  rw [this]
  exact enc64_nan
theorem ddiv_nan {x y : UInt64} (h : isNaN64 x = true ∨ isNaN64 y = true) : isNaN64 (FP.ddiv x y) = true := by
  have : FP.Core.quotient FP.Core.b64 (FP.Core.decode FP.Core.b64 x.toNat) (FP.Core.decode FP.Core.b64 y.toNat) = .nan := by
    rcases h with h | h
    · rw [(nan64_dec x).mp h]; rfl
    · rw [(nan64_dec y).mp h]
      cases FP.Core.decode FP.Core.b64 x.toNat <;> rfl
  show isNaN64 (UInt64.ofNat (FP.Core.div _ _ _)) = true
  unfold FP.Core.div
  rw [this]
  exact enc64_nan
theorem al32 {x y : UInt32} (h : alike32 x y = true) : x = y ∨ (isNaN32 x = true ∧ isNaN32 y = true) := by
  simpa [alike32] using h
theorem al64 {x y : UInt64} (h : alike64 x y = true) : x = y ∨ (isNaN64 x = true ∧ isNaN64 y = true) := by
  simpa [alike64] using h
theorem al32_n {x y : UInt32} (h : isNaN32 x = true) (h2 : isNaN32 y = true) : alike32 x y = true := by simp [alike32, h, h2]
theorem al64_n {x y : UInt64} (h : isNaN64 x = true) (h2 : isNaN64 y = true) : alike64 x y = true := by simp [alike64, h, h2]
theorem al32_nan {x y : UInt32} (h : alike32 x y = true) (hy : isNaN32 y = true) : isNaN32 x = true := by
  rcases al32 h with rfl | h2
  · exact hy
  · exact h2.1
theorem al64_nan {x y : UInt64} (h : alike64 x y = true) (hy : isNaN64 y = true) : isNaN64 x = true := by
  rcases al64 h with rfl | h2
  · exact hy
  · exact h2.1
theorem al_fadd {r x y x2 y2 : UInt32} (h : alike32 r (FP.fadd x y) = true) (hx : alike32 x x2 = true) (hy : alike32 y y2 = true) : alike32 r (FP.fadd x2 y2) = true := by
  rcases al32 hx with rfl | ⟨a1, a2⟩
  · rcases al32 hy with rfl | ⟨b1, b2⟩
    · exact h
    · exact al32_n (al32_nan h (fadd_nan (Or.inr b1))) (fadd_nan (Or.inr b2))
  · exact al32_n (al32_nan h (fadd_nan (Or.inl a1))) (fadd_nan (Or.inl a2))
theorem al_dadd {r x y x2 y2 : UInt64} (h : alike64 r (FP.dadd x y) = true) (hx : alike64 x x2 = true) (hy : alike64 y y2 = true) : alike64 r (FP.dadd x2 y2) = true := by
  rcases al64 hx with rfl | ⟨a1, a2⟩
  · rcases al64 hy with rfl | ⟨b1, b2⟩
    · exact h
    · exact al64_n (al64_nan h (dadd_nan (Or.inr b1))) (dadd_nan (Or.inr b2))
  · exact al64_n (al64_nan h (dadd_nan (Or.inl a1))) (dadd_nan (Or.inl a2))
theorem al_ddiv {r x y x2 y2 : UInt64} (h : alike64 r (FP.ddiv x y) = true) (hx : alike64 x x2 = true) (hy : alike64 y y2 = true) : alike64 r (FP.ddiv x2 y2) = true := by
  rcases al64 hx with rfl | ⟨a1, a2⟩
  · rcases al64 hy with rfl | ⟨b1, b2⟩
    · exact h
    · exact al64_n (al64_nan h (ddiv_nan (Or.inr b1))) (ddiv_nan (Or.inr b2))
  · exact al64_n (al64_nan h (ddiv_nan (Or.inl a1))) (ddiv_nan (Or.inl a2))
theorem al64_refl (x : UInt64) : alike64 x x = true := by simp [alike64]
def zs {α : Type} (b : Int32) (K : Option α) : Option α := if vn_sni2f b = false then K else none
theorem zs_e {α : Type} {b : Int32} {K : Option α} {r : α} (h : zs b K = some r) : vn_sni2f b = false ∧ K = some r := by
  unfold zs at h
  split at h
  · rename_i hh
    exact ⟨hh, h⟩
  · cases h
