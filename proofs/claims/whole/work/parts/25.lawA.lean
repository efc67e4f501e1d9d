/-! THE CLAIM OUT OF ONE WALK OF THE LAW'S BODY. Your part is whole_start (and what it stands on); all else here is the same for every law, but numbers. -/
def R_law : String := "KeyedLogsLaw"
def lw_P (b : Addr) (xs : List Int32) (args : Array Value) (s : State) : Prop := args = #[.ref b] ∧ s.IntsAt b xs ∧ xs.length ≤ 3072 ∧ (Jvm.Cond.and given_1 narrow_1).before args s = true
/-- what a walk over the start with the record d0 says of its end, said of the start itself -/
theorem lw_closed {s t : State} {o : Outcome} {d0 : Drawn} {L : List Loc} {k n : Nat} (hd0 : s.drawn.sameBut d0 lw_cs) (hv : ∃ v, o = .returned v) (hW : (s.setDrawn d0).WarmedH t.vm) (hs : (s.setDrawn d0).sameButNew ({ t with vm := s.vm } : State) L k n) : State.butDraws s t lw_cs (fun t1 => Framed s o t1 L k n) := by
  have h2 : t.drawn = d0 := congrArg State.drawn hs.1
  refine ⟨⟨hv, hW, State.sameButNew.setDrawn hs s.drawn⟩, ?_, by decide⟩
  rw [h2]
  exact hd0
def lw_Q (_ : Array Value) (s : State) (o : Outcome) (t : State) : Prop := o = .returned (some (.int 1)) ∧ State.butDraws s t lw_cs (fun t1 => Framed s o t1 [] 120646 8740312)
def lw_Z (below : List Frame) (a : Array Value) (s : State) : State → Prop := fun t => ∃ o, t.status = .running ∧ Ended t below o ∧ lw_Q a s o t
/-- the law's own end, with 1 on the stack, nothing written that was there before, its room as the claim has it; d0: the record of draws at this point (at the entry s.drawn: begin with 'refine W.base ?_' and 'have hd0 := Drawn.sameBut.refl s.drawn lw_cs') -/
theorem lw_ret {p : Program} {l : Launch} {e : Env} {s : State} {m : MethodId} {below : List Frame} {meth : Method} {c : Code} {b : Nat} {d0 : Drawn} (hd0 : s.drawn.sameBut d0 lw_cs) (hx : p.tables.exec = Jvm.exec) (hb : c.code = code) (hr : meth.sig.returnType = ret) (hlocks : meth.locks = false) {pc : Nat} {H : Heap} {ls : Array Slot} (hdg : decode code pc = .ok (.ireturn, 1)) : W p l e room_1 (s.setDrawn d0) m #[Value.ref b] below meth c H [] 120646 8740312 (lw_Z below #[Value.ref b] s) (F0 m pc ls [.int 1]) := by
  intro T hT X
  obtain ⟨fs, hret, hrun, hended, hW, hframe⟩ := X.leave (v := some (.int 1)) (hlocks := hlocks) (fun h => by rw [hr] at h; cases h)
  have hmeth' : T.vm.method? m = some meth := X.method'
  refine ⟨T.setFrames fs, ?_, .returned (some (.int 1)), hrun, hended, rfl, lw_closed hd0 ⟨_, rfl⟩ hW hframe⟩
  jvm_step X.here [X.here.top, hx, hb, hdg, hmeth', hr, ret, narrow_b1]
  (try refine ⟨rfl, ?_⟩); (try refine ⟨rfl, ?_⟩)
  first | (intro acts; rw [hret _ acts rfl rfl rfl]) | rw [hret _ _ rfl rfl rfl]
  exact Steps.refl _
/-- what holds at the law's entry: the machine, the code, the tables' words (any of lw_tbl by 'hts w (by decide +kernel)'), the script of L ints xs at the cell b, what the Statement gives of the start (any of its parts by flat_of_before) -/
def lw_At (p : Program) (s : State) (m : MethodId) (meth : Method) (c : Code) (b L : Nat) (xs : Nat → Int32) : Prop :=
  p.tables.exec = Jvm.exec ∧ c.code = code ∧ meth.sig.returnType = ret ∧ c.maxLocals = 4 ∧ s.vm.findClass R_law = some m.cls ∧ (∀ w ∈ lw_tbl, w.before #[Value.ref b] s = true) ∧ va_X b L xs s s.heap ∧ b < s.heap.size ∧ meth.locks = false ∧ (Jvm.Cond.and given_1 narrow_1).before #[Value.ref b] s = true
/-! ===== the addresses of ids that aren't there yet may be chosen anew ===== -/
section ADS
variable {ct : Nat → ClassId} {J : List Nat} {ad ad2 : Nat → Nat} {c : CF} {b : Nat}
theorem wl_ad (h : ∀ i, i ∈ J → ad2 i = ad i) : wl J ad2 c = wl J ad c := by
  unfold wl
  apply List.map_congr_left
  intro i hi
  rw [h i hi]
theorem HW.adm {D : va_G} {A : Nat → Prop} {H0 H : Heap} {locs : List Loc} (hW : HW D J ad c A H0 H locs) (h : ∀ i, i ∈ J → ad2 i = ad i) : HW D J ad2 c A H0 H locs := ⟨by rw [wl_ad h]; exact hW.1, by rw [wl_ad h]; exact hW.2.1, hW.2.2⟩
theorem BK.adm {ci : Nat} {sl : List (Nat ⊕ Nat)} {ars : List (Nat × Nat)} {st : CS} (hB : BK ci sl ars ct J ad c b st) (hs : ∀ k, Sum.inl k ∈ sl → k < ars.length) (h : ∀ i, i ∈ J → ad2 i = ad i) : BK ci sl ars ct J ad2 c b st := by
  refine ⟨hB.1, ?_, hB.2.2⟩
  rw [hB.2.1]
  congr 2
  apply List.map_congr_left
  intro x hx
  cases x with
  | inl k =>
    show Value.ref (ad (b + 1 + k)) = Value.ref (ad2 (b + 1 + k))
    rw [h _ (hB.memA k (hs k hx))]
  | inr j => rfl
theorem LgB.adm {st : CS} (hB : LgB ct J ad c b st) (h : ∀ i, i ∈ J → ad2 i = ad i) : LgB ct J ad2 c b st := BK.adm hB (by simp) h
theorem GrB.adm {st : CS} (hB : GrB ct J ad c b st) (h : ∀ i, i ∈ J → ad2 i = ad i) : GrB ct J ad2 c b st := BK.adm hB (by simp) h
theorem RwB.adm {nR : Nat} {st : CS} (hB : RwB nR ct J ad c b st) (h : ∀ i, i ∈ J → ad2 i = ad i) : RwB nR ct J ad2 c b st := BK.adm hB (by simp) h
theorem TxB.adm {st : CS} (hB : TxB ct J ad c b st) (h : ∀ i, i ∈ J → ad2 i = ad i) : TxB ct J ad2 c b st := BK.adm hB (by simp) h
theorem KrB.adm {st : CS} (hB : KrB ct J ad c b st) (h : ∀ i, i ∈ J → ad2 i = ad i) : KrB ct J ad2 c b st := BK.adm hB (by simp) h
theorem TpB.adm {st : TS} (hB : TpB ct J ad c b st) (h : ∀ i, i ∈ J → ad2 i = ad i) : TpB ct J ad2 c b st := ⟨hB.1, by rw [hB.2.1, h (b + 1 + 0) hB.1.2], hB.2.2⟩
theorem rfA_ad {n : Nat} {g : Nat → Nat} (h : ∀ i, i < n → ad2 (g i) = ad (g i)) : rfA ad2 n g = rfA ad n g := by
  funext i
  unfold rfA
  by_cases hi : i < n
  · rw [if_pos hi, if_pos hi, h i hi]
  · rw [if_neg hi, if_neg hi]
theorem StB.adm {S : SS} (hB : StB ct J ad c b S) (h : ∀ i, i ∈ J → ad2 i = ad i) : StB ct J ad2 c b S := by
  refine ⟨⟨hB.1.1, ?_⟩, ⟨hB.2.1.1, ?_, fun i hi => LgB.adm (hB.2.1.2.2 i hi) h⟩, GrB.adm hB.2.2.1 h, RwB.adm hB.2.2.2.1 h, RwB.adm hB.2.2.2.2 h⟩
  · rw [hB.1.2]
    unfold stO
    rw [h _ hB.2.1.1, h _ hB.2.2.1.o, h _ hB.2.2.2.1.o, h _ hB.2.2.2.2.o]
  · rw [hB.2.1.2.1, rfA_ad (fun i hi => h _ (hB.2.1.2.2 i hi).o)]
theorem KlB.adm {K : KS} (hB : KlB ct J ad c b K) (h : ∀ i, i ∈ J → ad2 i = ad i) : KlB ct J ad2 c b K := by
  refine ⟨⟨hB.1.1, ?_⟩, hB.2.1.adm h, TxB.adm hB.2.2.1 h, KrB.adm hB.2.2.2.1 h, ⟨hB.2.2.2.2.1.1, ?_⟩, fun t ht => (hB.2.2.2.2.2.1 t ht).adm h, fun S e => (hB.2.2.2.2.2.2.1 S e).adm h, fun S e => (hB.2.2.2.2.2.2.2 S e).adm h⟩
  · rw [hB.1.2]
    unfold klO
    have e1 : oRf ad2 (b + 46) K.2.2.2.2.1 = oRf ad (b + 46) K.2.2.2.2.1 := by
      rcases ho : K.2.2.2.2.1 with _ | S
      · rfl
      · show Value.ref _ = Value.ref _
        rw [h _ (hB.tk ho).o]
    have e2 : oRf ad2 (b + 91) K.2.2.2.2.2 = oRf ad (b + 91) K.2.2.2.2.2 := by
      rcases ho : K.2.2.2.2.2 with _ | S
      · rfl
      · show Value.ref _ = Value.ref _
        rw [h _ (hB.tr ho).o]
    rw [e1, e2, h _ hB.2.1.o, h _ hB.2.2.1.o, h _ hB.2.2.2.1.o, h _ hB.2.2.2.2.1.1]
  · rw [hB.2.2.2.2.1.2, rfA_ad (fun t ht => h _ (hB.2.2.2.2.2.1 t ht).o)]
theorem MoB.adm {st : MS} (hB : MoB ct J ad c b st) (h : ∀ i, i ∈ J → ad2 i = ad i) : MoB ct J ad2 c b st := by
  refine ⟨hB.1, ?_, hB.2.2.1, ?_, hB.2.2.2.2⟩
  · rw [hB.2.1]
    congr 2
    apply List.map_congr_left
    intro x hx
    cases x with
    | inl k =>
      have hk : k ≤ 17 := by
        simp only [slM, List.mem_cons, Sum.inl.injEq, reduceCtorEq, List.not_mem_nil, or_false, false_or] at hx
        omega
      show Value.ref (ad (b + 1 + k)) = Value.ref (ad2 (b + 1 + k))
      have := hB.1 (1 + k) (by omega)
      rw [h _ (by rw [Nat.add_assoc]; exact this)]
    | inr j => rfl
  · rw [hB.2.2.2.1, rfA_ad (fun t ht => h _ (hB.memR t (by omega)))]
theorem MoB.mono {J' : List Nat} {st : MS} (hB : MoB ct J ad c b st) (hJ : ∀ i, i ∈ J → i ∈ J') : MoB ct J' ad c b st := ⟨fun k hk => hJ _ (hB.1 k hk), hB.2.1, hB.2.2.1, hB.2.2.2.1, hB.2.2.2.2⟩
end ADS
section KGX
variable {p : Program} {l : Launch} {e : Env} {R : Room} {s : State} {m : MethodId} {args : Array Value} {below : List Frame} {meth : Method} {cd : Code} {H : Heap} {locs : List Loc} {cells slots : Nat} {Q : State → Prop}
variable {cc : ByteArray} {own : String} {nL pc : Nat} {ls : Array Slot} {rest : List Value} {D : va_G} {ct : Nat → ClassId} {J : List Nat} {ad : Nat → Nat} {c : CF} {A : Nat → Prop} {H0 : Heap}
theorem g_callX (hE : ME p s m cd args D ct cc own nL) (hW : HW D J ad c A H0 H locs) (hAf : ∀ q, aA J ad H.size q → A q) (hls : ls.size = nL) {y : MethodName} {bytes : ByteArray} {maxL index i mc ms : Nat} {rm : Room} {As : List Value} {r : Int32} {P : List Nat → CF → Prop} (hM : MX l D ct J ad y bytes maxL rm (.ref (ad i) :: As) c H.size r P mc ms) (hi : i ∈ J) {ci : Nat} {fs : List Value} {C : String} {T : u_T} {N : Nat} (hc : c i = .inr (ci, fs)) (hcl : vwCl[ci]? = some (C, T, N)) (q1 : Cond.methodLink own index y ∈ AL) (q2 : Cond.instanceMethod y ∈ AL) (q3 : Cond.selects C y y ∈ AL) (q4 : Cond.initialized y.cls ∈ AL) (q5 : Cond.code y bytes maxL (some .int) ∈ AL) (hd : y.cls = C ∧ y.cls ≠ "java/lang/invoke/MethodHandle" ∧ y.cls ≠ "java/lang/invoke/VarHandle" ∧ (parseMethodDescriptor y.desc).map (fun d => d.parameters.length) = some As.length) (hR : rm.frames + 1 ≤ R.frames ∧ 8 + (maxL + 11) + rm.locals ≤ R.locals) (h0 : rm.cells = mc ∧ rm.slots = ms) {st0 : List Value} (hst : st0 = As.reverse ++ .ref (ad i) :: rest) (hcat : (rest.map fun v => v.category).sum ≤ 8) (hdg : decode cc pc = .ok (.invokevirtual index, 3)) (hcs : cells + mc ≤ R.cells ∧ slots + ms ≤ R.slots)
    (kk : ∀ (J1 : List Nat) (c' : CF) (H1 : Heap) (locs1 : List Loc), P J1 c' → H.size ≤ H1.size → HW D J1 ad c' A H0 H1 locs1 → W p l e R s m args below meth cd H1 locs1 (cells + mc) (slots + ms) Q (F0 m (pc + 3) ls (.int r :: rest))) : W p l e R s m args below meth cd H locs cells slots Q (F0 m pc ls st0) := by
  obtain ⟨q9, -, hq9⟩ := wl_get (ad := ad) (c := c) hi
  refine va_calli (S := List Nat × CF) (va_runV (cc := cc) (nL := nL) (Ts := AL) (n := As.length) (As := As) (rest := rest) ⟨hE.1, hE.2.1, hE.2.2.1, hE.2.2.2.1, hE.2.2.2.2.1⟩ hM ⟨callB_of As.length hE.2.2.2.2.1 (AL_code q5) rfl h0.1 h0.2 (hE.2.2.2.2.1 _ q4) (hE.2.2.2.2.1 _ q1) hd.2 hR, hE.2.2.2.2.1 _ q2, hE.2.2.2.2.1 _ q3⟩ ⟨PW_blind, va_recv (cl := vwCl) hE.2.2.2.2.2.1 hW.1 (q0 := q9) hcl (by rw [hq9, hc]), fun U hU hWm => ⟨rfl, by rw [hU], by rw [hU]; exact hW.1, hW.2.1.weaken (fun _ _ _ _ => trivial), hE.2.2.2.2.2.warm hWm⟩⟩ rfl rfl hls hst (lv_room hcat) hdg hcs) hW.2.2 (fun q _ h => hAf q h) (fun q h => hAf q h) (fun r' u t H1 locs1 ht hvm hw hB hz1 hk1 hS => ?_)
  obtain ⟨rfl, hw⟩ := hw
  exact kk u.1 u.2 H1 locs1 hw hz1 ⟨by rw [← ht]; exact hB.1, hB.2.weaken (fun k q _ h => hAf q.1 h), hS⟩
end KGX
def S_put (Rel : KS → MS → Prop) : Prop := ∀ (a1 : Int32) (a2 : Int32) (a3 : Int32) (a4 : Int32) (a5 : Int32) (K : KS) (M : MS), Rel K M → ∃ (r : Int32) (K' : KS) (M' : MS), fX8_put a1 a2 a3 a4 a5 K = some (r, K') ∧ fX9_put a1 a2 a3 a4 a5 M = some (r, M') ∧ Rel K' M' ∧ K'.2.2.2.2 = K.2.2.2.2
def S_tomb (Rel : KS → MS → Prop) : Prop := ∀ (a1 : Int32) (a2 : Int32) (a3 : Int32) (K : KS) (M : MS), Rel K M → ∃ (r : Int32) (K' : KS) (M' : MS), fX8_tomb a1 a2 a3 K = some (r, K') ∧ fX9_tomb a1 a2 a3 M = some (r, M') ∧ Rel K' M' ∧ K'.2.2.2.2 = K.2.2.2.2
def S_tick (Rel : KS → MS → Prop) : Prop := ∀ (a1 : Int32) (K : KS) (M : MS), Rel K M → ∃ (r : Int32) (K' : KS) (M' : MS), fX8_tick a1 K = some (r, K') ∧ fX9_tick a1 M = some (r, M') ∧ Rel K' M' ∧ K'.2.2.2.2 = K.2.2.2.2
def S_set (Rel : KS → MS → Prop) : Prop := ∀ (a1 : Int32) (a2 : Int32) (K : KS) (M : MS), Rel K M → ∃ (r : Int32) (K' : KS) (M' : MS), fX8_set a1 a2 K = some (r, K') ∧ fX9_set a1 a2 M = some (r, M') ∧ Rel K' M' ∧ K'.2.2.2.2 = K.2.2.2.2
def S_compact (Rel : KS → MS → Prop) : Prop := ∀ (a1 : Int32) (K : KS) (M : MS), Rel K M → ∃ (r : Int32) (K' : KS) (M' : MS), fX8_compact a1 K = some (r, K') ∧ fX9_compact a1 M = some (r, M') ∧ Rel K' M' ∧ K'.2.2.2.2 = K.2.2.2.2
def S_retain (Rel : KS → MS → Prop) : Prop := ∀ (a1 : Int32) (K : KS) (M : MS), Rel K M → ∃ (r : Int32) (K' : KS) (M' : MS), fX8_retain a1 K = some (r, K') ∧ fX9_retain a1 M = some (r, M') ∧ Rel K' M' ∧ K'.2.2.2.2 = K.2.2.2.2
def S_feed (Rel : KS → MS → Prop) : Prop := ∀ (a1 : Int32) (K : KS) (M : MS), Rel K M → ∃ (r : Int32) (K' : KS) (M' : MS), fX8_feed a1 K = some (r, K') ∧ fX9_feed a1 M = some (r, M') ∧ Rel K' M' ∧ K'.2.2.2.2 = K.2.2.2.2
def S_read (Rel : KS → MS → Prop) : Prop := ∀ (K : KS) (M : MS), Rel K M → ∃ (r : Int32) (K' : KS) (M' : MS), fX8_read K = some (r, K') ∧ fX9_read M = some (r, M') ∧ Rel K' M' ∧ K'.2.2.2.2 = K.2.2.2.2
def S_of (Rel : KS → MS → Prop) : Prop := ∀ (a1 : Int32) (a2 : Int32) (K : KS) (M : MS), Rel K M → ∃ (r : Int32) (K' : KS) (M' : MS), fX8_of a1 a2 K = some (r, K') ∧ fX9_of a1 a2 M = some (r, M') ∧ Rel K' M' ∧ K'.2.2.2.2 = K.2.2.2.2
def S_record (Rel : KS → MS → Prop) : Prop := ∀ (a1 : Int32) (a2 : Int32) (a3 : Int32) (K : KS) (M : MS), Rel K M → ∃ (r : Int64), fX8_record a1 a2 a3 K = some r ∧ fX9_record a1 a2 a3 M = some r ∧ Rel K M
def S_segment (Rel : KS → MS → Prop) : Prop := ∀ (a1 : Int32) (a2 : Int32) (a3 : Int32) (K : KS) (M : MS), Rel K M → ∃ (r : Int32), fX8_segment a1 a2 a3 K = some r ∧ fX9_segment a1 a2 a3 M = some r ∧ Rel K M
def S_value (Rel : KS → MS → Prop) : Prop := ∀ (a1 : Int32) (a2 : Int32) (K : KS) (M : MS), Rel K M → ∃ (r : Int64) (K' : KS) (M' : MS), fX8_value a1 a2 K = some (r, K') ∧ fX9_value a1 a2 M = some (r, M') ∧ Rel K' M' ∧ K'.2.2.2.2 = K.2.2.2.2
def S_map (Rel : KS → MS → Prop) : Prop := ∀ (a1 : Int32) (a2 : Int32) (K : KS) (M : MS), Rel K M → ∃ (r : Int64) (K' : KS) (M' : MS), fX8_map a1 a2 K = some (r, K') ∧ fX9_map a1 a2 M = some (r, M') ∧ Rel K' M' ∧ K'.2.2.2.2 = K.2.2.2.2
def S_replay (Rel : KS → MS → Prop) : Prop := ∀ (a1 : Int32) (a2 : Int32) (a3 : Int32) (K : KS) (M : MS), Rel K M → ∃ (r : Int64) (K' : KS) (M' : MS), fX8_replay a1 a2 a3 K = some (r, K') ∧ fX9_replay a1 a2 a3 M = some (r, M') ∧ Rel K' M' ∧ K'.2.2.2.2 = K.2.2.2.2
def S_near (Rel : KS → MS → Prop) : Prop := ∀ (a1 : Int32) (a2 : Int32) (a3 : Int32) (K : KS) (M : MS), Rel K M → ∃ (r : Int32), fX8_near a1 a2 a3 K = some r ∧ fX9_near a1 a2 a3 M = some r ∧ Rel K M
def S_oldest (Rel : KS → MS → Prop) : Prop := ∀ (a1 : Int32) (a2 : Int32) (K : KS) (M : MS), Rel K M → ∃ (r : Int32), fX8_oldest a1 a2 K = some r ∧ fX9_oldest a1 a2 M = some r ∧ Rel K M
def S_would (Rel : KS → MS → Prop) : Prop := ∀ (a1 : Int32) (a2 : Int32) (K : KS) (M : MS), Rel K M → ∃ (r : Int32) (K' : KS) (M' : MS), fX8_would a1 a2 K = some (r, K') ∧ fX9_would a1 a2 M = some (r, M') ∧ Rel K' M' ∧ K'.2.2.2.2 = K.2.2.2.2
def S_need (Rel : KS → MS → Prop) : Prop := ∀ (a1 : Int32) (a2 : Int32) (K : KS) (M : MS), Rel K M → ∃ (r : Int32) (M' : MS), fX8_need a1 a2 K = some r ∧ fX9_need a1 a2 M = some (r, M') ∧ Rel K M'
def S_join (Rel : KS → MS → Prop) : Prop := ∀ (a1 : Int32) (K : KS) (M : MS), Rel K M → ∃ (r : Int32) (K' : KS) (M' : MS), fX8_join a1 K = some (r, K') ∧ fX9_join a1 M = some (r, M') ∧ Rel K' M' ∧ K'.2.2.2.2 = K.2.2.2.2
def S_leave (Rel : KS → MS → Prop) : Prop := ∀ (a1 : Int32) (K : KS) (M : MS), Rel K M → ∃ (r : Int32) (K' : KS) (M' : MS), fX8_leave a1 K = some (r, K') ∧ fX9_leave a1 M = some (r, M') ∧ Rel K' M' ∧ K'.2.2.2.2 = K.2.2.2.2
def S_poll (Rel : KS → MS → Prop) : Prop := ∀ (a1 : Int32) (K : KS) (M : MS), Rel K M → ∃ (r : Int32) (K' : KS) (M' : MS), fX8_poll a1 K = some (r, K') ∧ fX9_poll a1 M = some (r, M') ∧ Rel K' M' ∧ K'.2.2.2.2 = K.2.2.2.2
def S_seek (Rel : KS → MS → Prop) : Prop := ∀ (a1 : Int32) (a2 : Int32) (K : KS) (M : MS), Rel K M → ∃ (r : Int32) (K' : KS) (M' : MS), fX8_seek a1 a2 K = some (r, K') ∧ fX9_seek a1 a2 M = some (r, M') ∧ Rel K' M' ∧ K'.2.2.2.2 = K.2.2.2.2
def S_member (Rel : KS → MS → Prop) : Prop := ∀ (a1 : Int32) (a2 : Int32) (K : KS) (M : MS), Rel K M → ∃ (r : Int32), fX8_member a1 a2 K = some r ∧ fX9_member a1 a2 M = some r ∧ Rel K M
def S_told (Rel : KS → MS → Prop) : Prop := ∀ (a1 : Int32) (K : KS) (M : MS), Rel K M → ∃ (r : Int32), fX8_told a1 K = some r ∧ fX9_told a1 M = some r ∧ Rel K M
def S_odds (Rel : KS → MS → Prop) : Prop := ∀ (a1 : Int32) (a2 : Int32) (K : KS) (M : MS), Rel K M → ∃ (r : Int64) (M' : MS), fX8_odds a1 a2 K = some r ∧ fX9_odds a1 a2 M = some (r, M') ∧ Rel K M'
def S_plan (Rel : KS → MS → Prop) : Prop := ∀ (a1 : Int32) (a2 : Int32) (K : KS) (M : MS), Rel K M → ∃ (r : Int32) (K' : KS) (M' : MS), fX8_plan a1 a2 K = some (r, K') ∧ fX9_plan a1 a2 M = some (r, M') ∧ Rel K' M' ∧ K'.2.2.2.2 = K.2.2.2.2
def S_ends (Rel : KS → MS → Prop) : Prop := ∀ (a1 : Int32) (K : KS) (M : MS), Rel K M → ∃ (r : Int32) (K' : KS) (M' : MS), fX8_ends a1 K = some (r, K') ∧ fX9_ends a1 M = some (r, M') ∧ Rel K' M'
def S_book (Rel : KS → MS → Prop) : Prop := ∀ (a1 : Int32) (a2 : Int32) (K : KS) (M : MS), Rel K M → ∃ (r : Int32) (K' : KS) (M' : MS), fX8_book a1 a2 K = some (r, K') ∧ fX9_book a1 a2 M = some (r, M') ∧ Rel K' M' ∧ K'.2.2.2.2 = K.2.2.2.2
def S_looked (Rel : KS → MS → Prop) : Prop := ∀ (K : KS) (M : MS), Rel K M → ∃ (r : Int32), fX8_looked K = some r ∧ fX9_looked M = some r ∧ Rel K M
def S_keep (Rel : KS → MS → Prop) : Prop := ∀ (a1 : Int32) (a2 : Int32) (a3 : Int32) (K : KS) (M : MS), Rel K M → ∃ (r : Int32) (K' : KS) (M' : MS), fX8_keep a1 a2 a3 K = some (r, K') ∧ fX9_keep a1 a2 a3 M = some (r, M') ∧ Rel K' M' ∧ K'.2.2.2.2 = K.2.2.2.2
def S_kept (Rel : KS → MS → Prop) : Prop := ∀ (a1 : Int32) (a2 : Int32) (K : KS) (M : MS), Rel K M → ∃ (r : Int64), fX8_kept a1 a2 K = some r ∧ fX9_kept a1 a2 M = some r ∧ Rel K M
def S_judge (Rel : KS → MS → Prop) : Prop := ∀ (a1 : Int32) (a2 : Int32) (a3 : Int32) (K : KS) (M : MS), Rel K M → ∃ (r : Int32), fX8_judge a1 a2 a3 K = some r ∧ fX9_judge a1 a2 a3 M = some r ∧ Rel K M
def S_image (Rel : KS → MS → Prop) : Prop := ∀ (K : KS) (M : MS), Rel K M → ∃ (r : Int32) (K' : KS) (M' : MS), fX8_image K = some (r, K') ∧ fX9_image M = some (r, M') ∧ Rel K' M'
def S_undo (Rel : KS → MS → Prop) : Prop := ∀ (K : KS) (M : MS), Rel K M → ∃ (r : Int32) (K' : KS) (M' : MS), fX8_undo K = some (r, K') ∧ fX9_undo M = some (r, M') ∧ Rel K' M' ∧ K'.2.2.2.2 = K.2.2.2.2
def S_count (Rel : KS → MS → Prop) : Prop := ∀ (a1 : Int32) (K : KS) (M : MS), Rel K M → ∃ (r : Int32), fX8_count a1 K = some r ∧ fX9_count a1 M = some r ∧ Rel K M
def S_tape (Rel : KS → MS → Prop) : Prop := ∀ (a1 : Int32) (a2 : Int32) (a3 : Int32) (K : KS) (M : MS), Rel K M → ∃ (r : Int32) (K' : KS) (M' : MS), fX8_tape a1 a2 a3 K = some (r, K') ∧ fX9_tape a1 a2 a3 M = some (r, M') ∧ Rel K' M' ∧ K'.2.2.2.2 = K.2.2.2.2
def S_item (Rel : KS → MS → Prop) : Prop := ∀ (a1 : Int32) (a2 : Int32) (a3 : Int64) (K : KS) (M : MS), Rel K M → ∃ (r : Int32) (K' : KS) (M' : MS), fX8_item a1 a2 a3 K = some (r, K') ∧ fX9_item a1 a2 a3 M = some (r, M') ∧ Rel K' M' ∧ K'.2.2.2.2 = K.2.2.2.2
def S_peek (Rel : KS → MS → Prop) : Prop := ∀ (a1 : Int32) (a2 : Int32) (K : KS) (M : MS), Rel K M → ∃ (r : Int64), fX8_peek a1 a2 K = some r ∧ fX9_peek a1 a2 M = some r ∧ Rel K M
def S_shift (Rel : KS → MS → Prop) : Prop := ∀ (a1 : Int32) (a2 : Int32) (a3 : Int32) (a4 : Int32) (a5 : Int32) (K : KS) (M : MS), Rel K M → ∃ (r : Int32) (K' : KS) (M' : MS), fX8_shift a1 a2 a3 a4 a5 K = some (r, K') ∧ fX9_shift a1 a2 a3 a4 a5 M = some (r, M') ∧ Rel K' M' ∧ K'.2.2.2.2 = K.2.2.2.2
def SIM (Rel : KS → MS → Prop) : Prop := S_put Rel ∧ S_tomb Rel ∧ S_tick Rel ∧ S_set Rel ∧ S_compact Rel ∧ S_retain Rel ∧ S_feed Rel ∧ S_read Rel ∧ S_of Rel ∧ S_record Rel ∧ S_segment Rel ∧ S_value Rel ∧ S_map Rel ∧ S_replay Rel ∧ S_near Rel ∧ S_oldest Rel ∧ S_would Rel ∧ S_need Rel ∧ S_join Rel ∧ S_leave Rel ∧ S_poll Rel ∧ S_seek Rel ∧ S_member Rel ∧ S_told Rel ∧ S_odds Rel ∧ S_plan Rel ∧ S_ends Rel ∧ S_book Rel ∧ S_looked Rel ∧ S_keep Rel ∧ S_kept Rel ∧ S_judge Rel ∧ S_image Rel ∧ S_undo Rel ∧ S_count Rel ∧ S_tape Rel ∧ S_item Rel ∧ S_peek Rel ∧ S_shift Rel
def LI (D : va_G) (ct : Nat → ClassId) (s : State) (Rel : KS → MS → Prop) (K : KS) (M : MS) (J : List Nat) (ad : Nat → Nat) (c : CF) (H : Heap) (locs : List Loc) (d0 : Drawn) (cells slots : Nat) : Prop :=
  Rel K M ∧ KlB ct J ad c 0 K ∧ MoB ct J ad c 160 M ∧ HW D J ad c (fun q => s.heap.size ≤ q) s.heap H locs ∧ s.drawn.sameBut d0 lw_cs ∧ (K.2.2.2.2.1 = none → ∀ k, 46 ≤ k → k ≤ 90 → 0 + k ∉ J) ∧ (K.2.2.2.2.2 = none → ∀ k, 91 ≤ k → k ≤ 135 → 0 + k ∉ J) ∧ cells + (if K.2.2.2.2.1 = none then 45 else 0) + (if K.2.2.2.2.2 = none then 45 else 0) ≤ 300 ∧ slots + (if K.2.2.2.2.1 = none then 5019 else 0) + (if K.2.2.2.2.2 = none then 5019 else 0) ≤ 60000
theorem lg_same (r : Int64) : lg_cmp r r = 0 := by
  unfold lg_cmp
  rw [if_neg (fun h => absurd h (by simp)), if_pos rfl]
section LFR
variable {ct : Nat → ClassId} {J : List Nat} {ad : Nat → Nat} {c c2 : CF} {b : Nat}
theorem MoB.fr {st : MS} (h : MoB ct J ad c b st) {b2 n : Nat} (hF : Fr c c2 b2 n) (hd : b + 19 ≤ b2 ∨ b2 + n ≤ b) : MoB ct J ad c2 b st :=
  ⟨h.1, by rw [hF b (by omega)]; exact h.2.1, fun k q hk => by have := arM_lt hk; rw [hF _ (by omega)]; exact h.2.2.1 k q hk, by rw [hF _ (by omega)]; exact h.2.2.2.1, fun t ht => by rw [hF _ (by omega)]; exact h.2.2.2.2 t ht⟩
theorem KlB.fr {K : KS} (h : KlB ct J ad c b K) {b2 n : Nat} (hF : Fr c c2 b2 n) (hd : b + 160 ≤ b2 ∨ b2 + n ≤ b) : KlB ct J ad c2 b K :=
  ⟨⟨h.1.1, by rw [hF b (by omega)]; exact h.1.2⟩, h.2.1.fr hF (by omega), h.2.2.1.fr hF (by omega), h.2.2.2.1.fr hF (by omega), ⟨h.2.2.2.2.1.1, by rw [hF _ (by omega)]; exact h.2.2.2.2.1.2⟩, fun t ht => (h.2.2.2.2.2.1 t ht).fr hF (by omega), fun S e => (h.2.2.2.2.2.2.1 S e).fr hF (by omega), fun S e => (h.2.2.2.2.2.2.2 S e).fr hF (by omega)⟩
end LFR
theorem KlB.keep {ct : Nat → ClassId} {J : List Nat} {ad : Nat → Nat} {c : CF} {b : Nat} {K : KS} (h : KlB ct J ad c b K) : KlB ct J ad c b K := h
