/-! ===== the oldest ===== -/
theorem sg_mono {f g : Nat → Nat} : ∀ (d o : Nat), (∀ i, o ≤ i → i < o + d → f i ≤ g i) → sg f o d ≤ sg g o d := by
  intro d
  induction d with
  | zero => intro o _; exact Nat.le_refl _
  | succ d ih =>
    intro o h
    have h1 := h o (by omega) (by omega)
    have h2 := ih (o + 1) (fun i q1 q2 => h i (by omega) (by omega))
    rw [sg_s, sg_s]
    omega
theorem sg_lt {f g : Nat → Nat} {x : Nat} : ∀ (d o : Nat), (∀ i, o ≤ i → i < o + d → f i ≤ g i) → o ≤ x → x < o + d → f x < g x → sg f o d < sg g o d := by
  intro d
  induction d with
  | zero => intro o _ h1 h2 _; omega
  | succ d ih =>
    intro o h h1 h2 h3
    have q1 := h o (by omega) (by omega)
    rw [sg_s, sg_s]
    by_cases e : x = o
    · have q2 := sg_mono (f := f) (g := g) d (o + 1) (fun i r1 r2 => h i (by omega) (by omega))
      rw [e] at h3
      omega
    · have q2 := ih (o + 1) (fun i r1 r2 => h i (by omega) (by omega)) (by omega) (by omega) h3
      omega
theorem sg_one {f g : Nat → Nat} {x : Nat} : ∀ (d o : Nat), (∀ i, o ≤ i → i < o + d → i ≠ x → f i = g i) → o ≤ x → x < o + d → f x = g x + 1 → sg f o d = sg g o d + 1 := by
  intro d
  induction d with
  | zero => intro o _ h1 h2 _; omega
  | succ d ih =>
    intro o h h1 h2 h3
    rw [sg_s, sg_s]
    by_cases e : x = o
    · have q2 := sg_congr (f := f) (g := g) d (o + 1) (fun i r1 r2 => h i (by omega) (by omega) (by omega))
      rw [e] at h3
      omega
    · have q1 := h o (by omega) (by omega) (fun q => e q.symm)
      have q2 := ih (o + 1) (fun i r1 r2 r3 => h i (by omega) (by omega) r3) (by omega) (by omega) h3
      omega
def ahd (a : AB) (q o : Nat) : Prop := a.1 2 q < a.1 2 o ∨ (a.1 2 q = a.1 2 o ∧ (a.1 3 o < a.1 3 q ∨ (a.1 3 q = a.1 3 o ∧ q < o)))
def ahb (a : AB) (q o : Nat) : Bool := decide (a.1 2 q < a.1 2 o) || (decide (a.1 2 q = a.1 2 o) && (decide (a.1 3 o < a.1 3 q) || (decide (a.1 3 q = a.1 3 o) && decide (q < o))))
theorem ahb_iff {a : AB} {q o : Nat} : ahb a q o = true ↔ ahd a q o := by
  unfold ahb ahd
  simp [Bool.or_eq_true, Bool.and_eq_true]
def ai1 (a : AB) (o q : Nat) : Nat := if a.1 0 q = 0 then 0 else if ahb a q o = true then 1 else 0
def rk (a : AB) (o : Nat) : Nat := sg (ai1 a o) 0 200
theorem ai1_le (a : AB) (o q : Nat) : ai1 a o q ≤ hb a q := by
  unfold ai1 hb
  split
  · omega
  · split <;> omega
theorem ai1_1 {a : AB} {o q : Nat} (h : a.1 0 q ≠ 0) (h2 : ahd a q o) : ai1 a o q = 1 := by
  unfold ai1
  rw [if_neg h, if_pos (ahb_iff.mpr h2)]
theorem ai1_0 {a : AB} {o q : Nat} (h2 : ¬ ahd a q o) : ai1 a o q = 0 := by
  unfold ai1
  rw [if_neg (fun e => h2 (ahb_iff.mp e)), ite_self]
section OLD
variable {a : AB} {L : CS} {M : MS} {w i : Nat}
theorem rk_uniq {x y : Nat} (hx : x < 200) (hy : y < 200) (px : a.1 0 x ≠ 0) (py : a.1 0 y ≠ 0) (h : rk a x = rk a y) : x = y := by
  have key : ∀ (x y : Nat), x < 200 → a.1 0 x ≠ 0 → ahd a x y → rk a x < rk a y := fun x y hx px hxy => by
    refine sg_lt (x := x) 200 0 (fun q _ _ => ?_) (by omega) (by omega) ?_
    · by_cases h0 : a.1 0 q = 0
      · have : ai1 a x q = 0 := if_pos h0
        omega
      · by_cases hq : ahd a q x
        · have h2 : ahd a q y := by
            unfold ahd at hq hxy ⊢
            omega
          rw [ai1_1 h0 hq, ai1_1 h0 h2]
          omega
        · rw [ai1_0 hq]
          omega
    · have h1 : ¬ ahd a x x := by unfold ahd; omega
      rw [ai1_0 h1, ai1_1 px hxy]
      omega
  by_cases e : x = y
  · exact e
  · have htot : ahd a x y ∨ ahd a y x := by
      unfold ahd
      omega
    rcases htot with q | q
    · have := key x y hx px q
      omega
    · have := key y x hy py q
      omega
theorem rk_max {x : Nat} (hx : x < 200) (px : a.1 0 x ≠ 0) : rk a x < sg (hb a) 0 200 := by
  refine sg_lt (x := x) 200 0 (fun q _ _ => ai1_le a x q) (by omega) (by omega) ?_
  have h1 : ¬ ahd a x x := by unfold ahd; omega
  have h2 : hb a x = 1 := if_neg px
  rw [ai1_0 h1, h2]
  omega
theorem AI.tmono (hA : AI a w) : ∀ (d x : Nat), x + d < a.1 6 0 → a.1 2 x ≤ a.1 2 (x + d) := by
  intro d
  induction d with
  | zero => intro x _; exact Nat.le_refl _
  | succ d ih =>
    intro x h
    have h1 := ih x (by omega)
    have h2 := hA.2.2.2.2.1 (x + d) (by omega)
    rw [show x + (d + 1) = x + d + 1 by omega]
    omega
theorem AI.tm (hA : AI a w) {x y : Nat} (h : x ≤ y) (hy : y < a.1 6 0) : a.1 2 x ≤ a.1 2 y := by
  have := hA.tmono (y - x) x (by omega)
  rw [show x + (y - x) = y by omega] at this
  exact this
/-- in the records of one time: those that are larger, or as large and ahead -/
def gi1 (a : AB) (sz o q : Nat) : Nat := if a.1 0 q = 0 then 0 else if sz < a.1 3 q ∨ (a.1 3 q = sz ∧ q < o) then 1 else 0
def gcn (a : AB) (f t sz o : Nat) : Nat := sg (gi1 a sz o) f (t - f)
/-- the records of one time lie from f to t -/
def grp (a : AB) (f t : Nat) : Prop := f < t ∧ t ≤ a.1 6 0 ∧ (∀ x, f ≤ x → x < t → a.1 2 x = a.1 2 f) ∧ (f = 0 ∨ a.1 2 f ≠ a.1 2 (f - 1)) ∧ (t < a.1 6 0 → a.1 2 t ≠ a.1 2 (t - 1))
theorem rk_grp (hA : AI a w) {f t o : Nat} (hg : grp a f t) (h1 : f ≤ o) (h2 : o < t) : rk a o = sg (hb a) 0 f + gcn a f t (a.1 3 o) o := by
  obtain ⟨g1, g2, g3, g4, g5⟩ := hg
  have he := hA.2.1
  have e1 := sg_split (ai1 a o) (o := 0) (m := f) (h := 200) (by omega) (by omega)
  have e2 := sg_split (ai1 a o) (o := f) (m := t) (h := 200) (by omega) (by omega)
  rw [Nat.sub_zero, Nat.sub_zero] at e1
  have e3 : sg (ai1 a o) t (200 - t) = 0 := sg_zero _ _ (fun q q1 q2 => by
    by_cases hq : q < a.1 6 0
    · have m1 := hA.tm (show t ≤ q by omega) hq
      have m2 := g5 (by omega)
      have m3 := hA.tm (show t - 1 ≤ t by omega) (by omega)
      have m4 := g3 (t - 1) (by omega) (by omega)
      have m5 := g3 o h1 h2
      exact ai1_0 (by unfold ahd; omega)
    · have : a.1 0 q = 0 := (hA.2.2.2.1 q (by omega)).2.2.2.2.1 (by omega)
      exact if_pos this)
  have e4 : sg (ai1 a o) 0 f = sg (hb a) 0 f := sg_congr _ _ (fun q _ q2 => by
    by_cases h0 : a.1 0 q = 0
    · have x1 : ai1 a o q = 0 := if_pos h0
      have x2 : hb a q = 0 := if_pos h0
      omega
    · have x2 : hb a q = 1 := if_neg h0
      have m1 := hA.tm (show q ≤ f - 1 by omega) (by omega)
      have m3 := hA.tm (show f - 1 ≤ f by omega) (by omega)
      have m5 := g3 o h1 h2
      rw [x2]
      refine ai1_1 h0 (Or.inl ?_)
      rcases g4 with g4 | g4
      · omega
      · omega)
  have e5 : sg (ai1 a o) f (t - f) = gcn a f t (a.1 3 o) o := sg_congr _ _ (fun q q1 q2 => by
    have m4 := g3 q q1 (by omega)
    have m5 := g3 o h1 h2
    unfold gi1
    by_cases h0 : a.1 0 q = 0
    · rw [if_pos h0]
      exact if_pos h0
    · rw [if_neg h0]
      by_cases hq : a.1 3 o < a.1 3 q ∨ (a.1 3 q = a.1 3 o ∧ q < o)
      · rw [if_pos hq]
        exact ai1_1 h0 (Or.inr ⟨by omega, hq⟩)
      · rw [if_neg hq]
        exact ai1_0 (by unfold ahd; omega))
  unfold rk
  omega
theorem gcn_s (f t sz o : Nat) (h1 : f ≤ o) (h2 : o < t) : gcn a f t sz (o + 1) = gcn a f t sz o + (if a.1 0 o ≠ 0 ∧ a.1 3 o = sz then 1 else 0) := by
  by_cases hq : a.1 0 o ≠ 0 ∧ a.1 3 o = sz
  · rw [if_pos hq]
    refine sg_one (x := o) _ _ (fun q q1 q2 q3 => ?_) h1 (by omega) ?_
    · unfold gi1
      by_cases h0 : a.1 0 q = 0
      · rw [if_pos h0, if_pos h0]
      · rw [if_neg h0, if_neg h0]
        by_cases hc : sz < a.1 3 q ∨ (a.1 3 q = sz ∧ q < o)
        · rw [if_pos hc, if_pos (by omega)]
        · rw [if_neg hc, if_neg (by omega)]
    · unfold gi1
      rw [if_neg hq.1, if_neg hq.1, if_pos (by omega), if_neg (by omega)]
  · rw [if_neg hq, Nat.add_zero]
    refine sg_congr _ _ (fun q q1 q2 => ?_)
    unfold gi1
    by_cases h0 : a.1 0 q = 0
    · rw [if_pos h0, if_pos h0]
    · rw [if_neg h0, if_neg h0]
      by_cases hc : sz < a.1 3 q ∨ (a.1 3 q = sz ∧ q < o)
      · rw [if_pos hc, if_pos (by omega)]
      · rw [if_neg hc, if_neg (fun q9 => by
          have : q ≠ o := fun e => hq (by rw [← e]; exact ⟨h0, by omega⟩)
          omega)]
theorem gcn_next (f t sz : Nat) : gcn a f t (sz + 1) t = gcn a f t sz f := sg_congr _ _ (fun q q1 q2 => by
  unfold gi1
  by_cases h0 : a.1 0 q = 0
  · rw [if_pos h0, if_pos h0]
  · rw [if_neg h0, if_neg h0]
    by_cases hc : sz < a.1 3 q
    · rw [if_pos (by omega), if_pos (by omega)]
    · rw [if_neg (by omega), if_neg (by omega)])
theorem gcn_all (hA : AI a w) {f t : Nat} (ht : t ≤ a.1 6 0) : gcn a f t 0 f = sg (hb a) f (t - f) := sg_congr _ _ (fun q q1 q2 => by
  have he := hA.2.1
  unfold gi1 hb
  by_cases h0 : a.1 0 q = 0
  · rw [if_pos h0, if_pos h0]
  · have := (hA.2.2.2.1 q (by omega)).2.2.2.2.2.2.1 h0
    rw [if_neg h0, if_neg h0, if_pos (by omega)])
theorem gcn_9 (hA : AI a w) {f t : Nat} (ht : t ≤ a.1 6 0) : gcn a f t 9 f = 0 := sg_zero _ _ (fun q q1 q2 => by
  have he := hA.2.1
  unfold gi1
  by_cases h0 : a.1 0 q = 0
  · rw [if_pos h0]
  · have := (hA.2.2.2.1 q (by omega)).2.2.2.1
    rw [if_neg h0, if_neg (by omega)])
theorem c_size_l (hC : CR a L) (hA : AI a w) {f t sz k : Nat} (ht : t ≤ a.1 6 0) (hsz : sz ≤ 9) (hk : k < 2 ^ 31) (K7 : Int32 → Int32 → Option Int32) : ∀ (d n o ts : Nat), o + d = t → d < n → f ≤ o → ts + gcn a f t sz o = k → (∃ p, fX3_bySize_15 (nI f) (nI t) (nI sz) L K7 n (nI ts) (nI o) = some (nI p) ∧ f ≤ p ∧ p < t ∧ a.1 0 p ≠ 0 ∧ gcn a f t (a.1 3 p) p = k) ∨ (∃ ts', fX3_bySize_15 (nI f) (nI t) (nI sz) L K7 n (nI ts) (nI o) = K7 (nI ts') (nI sz + (-1)) ∧ ts' + gcn a f t sz t = k) := by
  have he := hA.2.1
  intro d
  induction d with
  | zero =>
    intro n o ts h1 h2 h3 h4
    obtain ⟨q9, rfl⟩ : ∃ q9, n = q9 + 1 := ⟨n - 1, by omega⟩
    right
    refine ⟨ts, ?_, by rw [show t = o by omega] at h4 ⊢; exact h4⟩
    rw [fX3_bySize_15, if_pos (nI_le (by omega) (by omega))]
  | succ d ih =>
    intro n o ts h1 h2 h3 h4
    obtain ⟨q9, rfl⟩ : ∃ q9, n = q9 + 1 := ⟨n - 1, by omega⟩
    have hf := (hC.1 o (by omega)).1
    have hs := (hC.1 o (by omega)).2.2.2.1
    have hf2 := (hA.2.2.2.1 o (by omega)).1
    have hs2 := (hA.2.2.2.1 o (by omega)).2.2.2.1
    have hst := gcn_s (a := a) f t sz o h3 (by omega)
    rw [fX3_bySize_15, if_neg (nI_ge (by omega) (by omega)), zi_ok (by omega) (by omega), nI_clamp (by omega), hf, nI_1]
    by_cases h0 : a.1 0 o = 0
    · rw [if_neg (fun q => q.1 h0), Nat.add_zero] at hst
      rw [if_pos ((nI_eq0 (by omega)).mpr h0)]
      exact ih q9 (o + 1) ts (by omega) (by omega) (by omega) (by omega)
    · rw [if_neg (fun e => h0 ((nI_eq0 (by omega)).mp e)), zi_ok (by omega) (by omega), hs]
      by_cases hz : a.1 3 o = sz
      · rw [if_pos ⟨h0, hz⟩] at hst
        rw [if_pos (by rw [hz])]
        by_cases hts : ts = 0
        · left
          refine ⟨o, ?_, h3, by omega, h0, by rw [hz]; omega⟩
          rw [if_pos (show nI ts = 0 by rw [hts]; rfl)]
        · rw [if_neg (fun e => hts ((nI_eq0 (by omega)).mp e)), show ts = (ts - 1) + 1 by omega, pk_m1]
          exact ih q9 (o + 1) (ts - 1) (by omega) (by omega) (by omega) (by omega)
      · rw [if_neg (fun q => hz q.2), Nat.add_zero] at hst
        rw [if_neg (fun e => hz ((nI_eq (by omega) (by omega)).mp e))]
        exact ih q9 (o + 1) ts (by omega) (by omega) (by omega) (by omega)
theorem c_size (hC : CR a L) (hA : AI a w) {f t k : Nat} (hft : f ≤ t) (ht : t ≤ a.1 6 0) (hk : k < sg (hb a) f (t - f)) : ∀ (sz n ts : Nat), sz ≤ 9 → sz < n → ts + gcn a f t sz f = k → ∃ p, fX3_bySize_7 (nI f) (nI t) L n (nI ts) (nI sz) = some (nI p) ∧ f ≤ p ∧ p < t ∧ a.1 0 p ≠ 0 ∧ gcn a f t (a.1 3 p) p = k := by
  have he := hA.2.1
  have hle := sg_le (f := hb a) (c := 1) (t - f) f (fun i _ _ => hb_le a i)
  intro sz
  induction sz with
  | zero =>
    intro n ts h1 h2 h3
    rw [gcn_all hA ht] at h3
    omega
  | succ sz ih =>
    intro n ts h1 h2 h3
    obtain ⟨q9, rfl⟩ : ∃ q9, n = q9 + 1 := ⟨n - 1, by omega⟩
    rw [fX3_bySize_7, if_neg (nI_nle (by omega) (by omega))]
    rcases c_size_l hC hA (k := k) ht h1 (by omega) (fX3_bySize_7 (nI f) (nI t) L q9) (t - f) FU f ts (by omega) (fu_lt (by omega)) (Nat.le_refl _) h3 with h | ⟨ts', e1, e2⟩
    · exact h
    · rw [e1, pk_m1]
      exact ih q9 ts' (by omega) (by omega) (by rw [← gcn_next]; exact e2)
theorem c_like (hC : CR a L) (hA : AI a w) {f : Nat} (hf : f < a.1 6 0) : ∀ (d n o : Nat), o + d = a.1 6 0 → d < n → f ≤ o → (∀ x, f ≤ x → x < o → a.1 2 x = a.1 2 f) → ∃ t, fX3_likeTimesEnd_2 (nI f) L n (nI o) = some (nI t) ∧ o ≤ t ∧ t ≤ a.1 6 0 ∧ (∀ x, f ≤ x → x < t → a.1 2 x = a.1 2 f) ∧ (t < a.1 6 0 → a.1 2 t ≠ a.1 2 f) := by
  have he := hA.2.1
  have hw := hA.1
  intro d
  induction d with
  | zero =>
    intro n o h1 h2 h3 h4
    obtain ⟨q9, rfl⟩ : ∃ q9, n = q9 + 1 := ⟨n - 1, by omega⟩
    refine ⟨o, ?_, Nat.le_refl _, by omega, h4, fun q => by omega⟩
    rw [fX3_likeTimesEnd_2, hC.2.2.1, if_pos (nI_le (by omega) (by omega))]
  | succ d ih =>
    intro n o h1 h2 h3 h4
    obtain ⟨q9, rfl⟩ : ∃ q9, n = q9 + 1 := ⟨n - 1, by omega⟩
    have ht := (hC.1 o (by omega)).2.2.1
    have ht1 := (hC.1 f (by omega)).2.2.1
    have ht2 := (hA.2.2.2.1 o (by omega)).2.2.1
    have ht3 := (hA.2.2.2.1 f (by omega)).2.2.1
    rw [fX3_likeTimesEnd_2, hC.2.2.1, if_neg (nI_ge (by omega) (by omega)), zi_ok (by omega) (by omega), zi_ok (by omega) (by omega), nI_clamp (by omega), nI_clamp (by omega), ht, ht1, nI_1]
    by_cases e : a.1 2 o = a.1 2 f
    · rw [if_pos (by rw [e])]
      obtain ⟨t, t1, t2, t3, t4⟩ := ih q9 (o + 1) (by omega) (by omega) (by omega) (fun x q1 q2 => by
        by_cases ex : x = o
        · rw [ex]; exact e
        · exact h4 x q1 (by omega))
      exact ⟨t, t1, by omega, t3, t4⟩
    · rw [if_neg (fun q => e ((nI_eq (by omega) (by omega)).mp q))]
      exact ⟨o, rfl, Nat.le_refl _, by omega, h4, fun _ => e⟩
/-- what byAge answers: the place of rank k, or none -/
def old (a : AB) (k : Nat) (r : Int32) : Prop := (∃ p, r = nI p ∧ p < 200 ∧ a.1 0 p ≠ 0 ∧ rk a p = k) ∨ (r = -5 ∧ sg (hb a) 0 200 ≤ k)
theorem c_age_l (hC : CR a L) (hA : AI a w) {k : Nat} (hk : k < 2 ^ 31) : ∀ (d n f E ts : Nat), f + d = a.1 6 0 → d < n → f ≤ E → E ≤ a.1 6 0 → (∀ x, f ≤ x → x < E → 0 < x ∧ a.1 2 x = a.1 2 (x - 1)) → (E < a.1 6 0 → E = 0 ∨ a.1 2 E ≠ a.1 2 (E - 1)) → ts + sg (hb a) 0 E = k → ∃ r, fX3_byAge_4 L n (nI ts) (nI f) = some r ∧ old a k r := by
  have he := hA.2.1
  intro d
  induction d with
  | zero =>
    intro n f E ts h1 h2 h3 h4 h5 h6 h7
    obtain ⟨q9, rfl⟩ : ∃ q9, n = q9 + 1 := ⟨n - 1, by omega⟩
    refine ⟨-5, ?_, Or.inr ⟨rfl, ?_⟩⟩
    · rw [fX3_byAge_4, hC.2.2.1, if_pos (nI_le (by omega) (by omega))]
    · have := sg_tail (f := hb a) (lo := 0) (e := a.1 6 0) (h := 200) (by omega) he (fun o q1 q2 => hA.hb0 q1 q2)
      rw [Nat.sub_zero, Nat.sub_zero] at this
      rw [this, show a.1 6 0 = E by omega]
      omega
  | succ d ih =>
    intro n f E ts h1 h2 h3 h4 h5 h6 h7
    obtain ⟨q9, rfl⟩ : ∃ q9, n = q9 + 1 := ⟨n - 1, by omega⟩
    have ht2 := (hA.2.2.2.1 f (by omega)).2.2.1
    have hwl := hA.1
    by_cases hst : f = 0 ∨ a.1 2 f ≠ a.1 2 (f - 1)
    · have hE : E = f := by
        by_cases q : f < E
        · have := h5 f (Nat.le_refl _) q
          rcases hst with e | e
          · omega
          · exact absurd this.2 e
        · omega
      subst hE
      obtain ⟨t, t1, t2, t3, t4, t5⟩ := c_like hC hA (f := E) (by omega) (a.1 6 0 - E) FU E (by omega) (fu_lt (by omega)) (Nat.le_refl _) (fun x q1 q2 => absurd q2 (by omega))
      have hEt : E < t := by
        by_cases q : E < t
        · exact q
        · have e : t = E := by omega
          rw [e] at t5
          exact absurd rfl (t5 (by omega))
      have t1' : fX3_likeTimesEnd (nI E) L = some (nI t) := t1
      have hrec := c_rec hC hA (lo := E) (hi := t) (by omega) t3
      have hle := sg_le (f := hb a) (c := 1) (t - E) E (fun i _ _ => hb_le a i)
      have hsum : sg (hb a) 0 t = sg (hb a) 0 E + sg (hb a) E (t - E) := by
        have := sg_split (hb a) (o := 0) (m := E) (h := t) (Nat.zero_le _) (by omega)
        rw [Nat.sub_zero, Nat.sub_zero] at this
        exact this
      have h33 : ∃ r, fX3_byAge_33 L (fX3_byAge_4 L q9) (nI ts) (nI E) = some r ∧ old a k r := by
        unfold fX3_byAge_33
        rw [t1', zb_s, hrec, zb_s]
        by_cases hc : sg (hb a) E (t - E) ≤ ts
        · rw [if_pos (nI_le hc (by omega)), pk_sub hc, nI_1]
          exact ih q9 (E + 1) t (ts - sg (hb a) E (t - E)) (by omega) (by omega) (by omega) t3 (fun x q1 q2 => ⟨by omega, by rw [t4 x (by omega) q2, t4 (x - 1) (by omega) (by omega)]⟩) (fun q => Or.inr (by rw [t4 (t - 1) (by omega) (by omega)]; exact t5 q)) (by omega)
        · obtain ⟨p, p1, p2, p3, p4, p5⟩ := c_size hC hA (f := E) (t := t) (k := ts) (by omega) t3 (by omega) 9 FU ts (by omega) (fu_lt (by omega)) (by rw [gcn_9 hA t3]; omega)
          have p1' : fX3_bySize (nI E) (nI t) (nI ts) L = some (nI p) := p1
          rw [if_neg (nI_ge (by omega) (by omega)), p1', zb_s]
          refine ⟨nI p, rfl, Or.inl ⟨p, rfl, by omega, p4, ?_⟩⟩
          rw [rk_grp hA (f := E) (t := t) ⟨hEt, t3, t4, hst, fun q => by rw [t4 (t - 1) (by omega) (by omega)]; exact t5 q⟩ p2 p3, p5]
          omega
      rw [fX3_byAge_4, hC.2.2.1, if_neg (nI_ge (by omega) (by omega))]
      by_cases hz : E = 0
      · rw [if_pos (show nI E = 0 by rw [hz]; rfl)]
        exact h33
      · have hne : a.1 2 E ≠ a.1 2 (E - 1) := by
          rcases hst with e | e
          · exact absurd e hz
          · exact e
        have ht3 := (hA.2.2.2.1 (E - 1) (by omega)).2.2.1
        rw [if_neg (fun e => hz ((nI_eq0 (by omega)).mp e)), zi_ok (by omega) (by omega), nI_m1 (by omega), zi_ok (by omega) (by omega), nI_clamp (by omega), nI_clamp (by omega), (hC.1 E (by omega)).2.2.1, (hC.1 (E - 1) (by omega)).2.2.1, if_neg (fun q => hne ((nI_eq (by omega) (by omega)).mp q))]
        exact h33
    · have hz : f ≠ 0 := fun e => hst (Or.inl e)
      have heq : a.1 2 f = a.1 2 (f - 1) := Decidable.byContradiction (fun e => hst (Or.inr e))
      have hlt : f < E := by
        by_cases q : f < E
        · exact q
        · have e : E = f := by omega
          rw [e] at h6
          rcases h6 (by omega) with e2 | e2
          · exact absurd e2 hz
          · exact absurd heq e2
      rw [fX3_byAge_4, hC.2.2.1, if_neg (nI_ge (by omega) (by omega)), if_neg (fun e => hz ((nI_eq0 (by omega)).mp e)), zi_ok (by omega) (by omega), nI_m1 (by omega), zi_ok (by omega) (by omega), nI_clamp (by omega), nI_clamp (by omega), (hC.1 f (by omega)).2.2.1, (hC.1 (f - 1) (by omega)).2.2.1, if_pos (by rw [heq]), nI_1]
      exact ih q9 (f + 1) E ts (by omega) (by omega) (by omega) h4 (fun x q1 q2 => h5 x (by omega) q2) h6 h7
theorem c_age (hC : CR a L) (hA : AI a w) {k : Nat} (hk : k < 2 ^ 31) : ∃ r, fX3_byAge (nI k) L = some r ∧ old a k r := by
  have he := hA.2.1
  exact c_age_l hC hA hk (a.1 6 0) FU 0 0 k (by omega) (fu_lt (by omega)) (Nat.le_refl _) (by omega) (fun x q1 q2 => absurd q2 (by omega)) (fun _ => Or.inl rfl) (by rw [sg_0]; omega)
theorem sub_eq0 {x y : Nat} (hx : x < 2 ^ 29) (hy : y < 2 ^ 29) : (nI x - nI y = 0) ↔ x = y := by
  constructor
  · intro h
    have h1 := sub_toInt (a := x) (b := y) (by omega) (by omega)
    rw [h, show (0 : Int32).toInt = 0 by decide] at h1
    omega
  · intro h
    rw [h, pk_sub (Nat.le_refl _), Nat.sub_self]
    rfl
theorem sub_ge0 {x y : Nat} (hx : x < 2 ^ 29) (hy : y < 2 ^ 29) : (0 ≤ nI x - nI y) ↔ y ≤ x := by
  rw [Int32.le_iff_toInt_le, sub_toInt (by omega) (by omega), show (0 : Int32).toInt = 0 by decide]
  omega
theorem m_ahead (hi : i < 4) (hM : MR a (M.1 0) (i * 1274)) (hA : AI a w) {q o : Nat} (hq : q < 200) (ho : o < 200) : fX9_isAhead (nI i) (nI q) (nI o) M = some (if ahb a q o = true then 1 else 0) := by
  have hw := hA.1
  obtain ⟨-, -, g2, g3, -⟩ := hM.1 q hq
  obtain ⟨-, -, f2, f3, -⟩ := hM.1 o ho
  have b2 := (hA.2.2.2.1 q hq).2.2.1
  have b3 := (hA.2.2.2.1 q hq).2.2.2.1
  have c2 := (hA.2.2.2.1 o ho).2.2.1
  have c3 := (hA.2.2.2.1 o ho).2.2.2.1
  have t1 := sub_eq0 (x := a.1 2 q) (y := a.1 2 o) (by omega) (by omega)
  have t2 := sub_ge0 (x := a.1 2 q) (y := a.1 2 o) (by omega) (by omega)
  have s1 := sub_eq0 (x := a.1 3 o) (y := a.1 3 q) (by omega) (by omega)
  have s2 := sub_ge0 (x := a.1 3 o) (y := a.1 3 q) (by omega) (by omega)
  unfold fX9_isAhead
  rw [show (400 : Int32) = nI 400 from rfl, show (600 : Int32) = nI 600 from rfl, nI_add, nI_add, nI_add, nI_add, m_at _ hi (by omega), m_at _ hi (by omega), m_at _ hi (by omega), m_at _ hi (by omega), zb_s, zb_s, zb_s, zb_s, g2, f2, f3, g3]
  by_cases h : ahd a q o
  · rw [if_pos (ahb_iff.mpr h)]
    unfold ahd at h
    by_cases e1 : a.1 2 q = a.1 2 o
    · rw [if_pos (t1.mpr e1)]
      by_cases e2 : a.1 3 o = a.1 3 q
      · rw [if_pos (s1.mpr e2), if_neg (nI_ge (by omega) (by omega))]
      · rw [if_neg (fun k => e2 (s1.mp k)), if_neg (fun k => by have := s2.mp k; omega)]
    · rw [if_neg (fun k => e1 (t1.mp k)), if_neg (fun k => by have := t2.mp k; omega)]
  · rw [if_neg (fun k => h (ahb_iff.mp k))]
    unfold ahd at h
    by_cases e1 : a.1 2 q = a.1 2 o
    · rw [if_pos (t1.mpr e1)]
      by_cases e2 : a.1 3 o = a.1 3 q
      · rw [if_pos (s1.mpr e2), if_pos (nI_le (by omega) (by omega))]
      · rw [if_neg (fun k => e2 (s1.mp k)), if_pos (s2.mpr (by omega))]
    · rw [if_neg (fun k => e1 (t1.mp k)), if_pos (t2.mpr (by omega))]
theorem m_rank (hi : i < 4) (hM : MR a (M.1 0) (i * 1274)) (hA : AI a w) {o : Nat} (ho : o < 200) (hp : a.1 0 o ≠ 0) (k : Int32) (K15 : Int32 → Option Int32) : ∀ (d n acc q : Nat), q + d = 200 → d < n → fX9_oldest_28 (nI i) k (nI o) M K15 n (nI acc) (nI q) = fX9_oldest_82 (nI i) k M K15 (nI o) (nI (acc + sg (ai1 a o) q d)) := by
  intro d
  induction d with
  | zero =>
    intro n acc q h1 h2
    obtain ⟨q9, rfl⟩ : ∃ q9, n = q9 + 1 := ⟨n - 1, by omega⟩
    rw [fX9_oldest_28, if_pos (show (200 : Int32) ≤ nI q from nI_le (a := 200) (by omega) (by omega))]
    rfl
  | succ d ih =>
    intro n acc q h1 h2
    obtain ⟨q9, rfl⟩ : ∃ q9, n = q9 + 1 := ⟨n - 1, by omega⟩
    rw [fX9_oldest_28, if_neg (show ¬ (200 : Int32) ≤ nI q from nI_ge (b := 200) (by omega) (by omega)), m_there hi hM (by omega), m_there hi hM (by omega), zb_s, if_pos (show o < 200 ∧ a.1 0 o ≠ 0 from ⟨ho, hp⟩), i10, zb_s, Int32.add_zero, nI_1, nI_1, ih _ _ _ (by omega) (by omega), ih _ _ _ (by omega) (by omega), m_ahead hi hM hA (by omega) ho, zb_s, sg_s]
    unfold ai1
    by_cases h0 : a.1 0 q = 0
    · rw [if_neg (show ¬ (q < 200 ∧ a.1 0 q ≠ 0) from fun e => e.2 h0), i00, if_pos h0, Nat.zero_add]
    · rw [if_pos (show q < 200 ∧ a.1 0 q ≠ 0 from ⟨by omega, h0⟩), i10, if_neg h0]
      by_cases hh : ahb a q o = true
      · rw [if_pos hh, if_pos hh, i10, Nat.add_assoc]
      · rw [if_neg hh, if_neg hh, i00, Nat.zero_add]
theorem m_old_o (hi : i < 4) (hM : MR a (M.1 0) (i * 1274)) (hA : AI a w) {k : Nat} (hk : k < 2 ^ 31) {r : Int32} (hr : old a k r) : ∀ (d n o : Nat), o + d = 200 → d < n → (∀ p, r = nI p → p < 200 → a.1 0 p ≠ 0 → rk a p = k → o ≤ p) → fX9_oldest_15 (nI i) (nI k) M n (nI o) = some r := by
  intro d
  induction d with
  | zero =>
    intro n o h1 h2 h3
    obtain ⟨q9, rfl⟩ : ∃ q9, n = q9 + 1 := ⟨n - 1, by omega⟩
    rw [fX9_oldest_15, if_pos (show (200 : Int32) ≤ nI o from nI_le (a := 200) (by omega) (by omega))]
    rcases hr with ⟨p, e1, e2, e3, e4⟩ | ⟨e1, e2⟩
    · have := h3 p e1 e2 e3 e4
      omega
    · rw [e1]
  | succ d ih =>
    intro n o h1 h2 h3
    obtain ⟨q9, rfl⟩ : ∃ q9, n = q9 + 1 := ⟨n - 1, by omega⟩
    rw [fX9_oldest_15, if_neg (show ¬ (200 : Int32) ≤ nI o from nI_ge (b := 200) (by omega) (by omega))]
    by_cases hp : a.1 0 o = 0
    · have h28 : fX9_oldest_28 (nI i) (nI k) (nI o) M (fX9_oldest_15 (nI i) (nI k) M q9) FU 0 0 = fX9_oldest_15 (nI i) (nI k) M q9 (nI (o + 1)) := by
        obtain ⟨n9, hn9⟩ : ∃ n9, FU = n9 + 1 := ⟨9999, rfl⟩
        rw [hn9, fX9_oldest_28, if_neg (show ¬ (200 : Int32) ≤ 0 by decide), m_there hi hM (by omega), zb_s, if_neg (show ¬ (o < 200 ∧ a.1 0 o ≠ 0) from fun e => e.2 hp), i00]
        unfold fX9_oldest_82
        rw [m_there hi hM (by omega), zb_s, if_neg (show ¬ (o < 200 ∧ a.1 0 o ≠ 0) from fun e => e.2 hp), i00, nI_1]
      rw [h28]
      exact ih q9 (o + 1) (by omega) (by omega) (fun p e1 e2 e3 e4 => by
        have q1 := h3 p e1 e2 e3 e4
        have q2 : p ≠ o := fun e => e3 (by rw [e]; exact hp)
        omega)
    · have h28 := m_rank hi hM hA (o := o) (by omega) hp (nI k) (fX9_oldest_15 (nI i) (nI k) M q9) 200 FU 0 0 (by omega) (fu_lt (by omega))
      have h28' : fX9_oldest_28 (nI i) (nI k) (nI o) M (fX9_oldest_15 (nI i) (nI k) M q9) FU 0 0 = _ := h28
      have hrk : 0 + sg (ai1 a o) 0 200 = rk a o := Nat.zero_add _
      have hrl : rk a o ≤ 200 := by
        have := rk_max (a := a) (x := o) (by omega) hp
        have q2 := sg_le (f := hb a) (c := 1) 200 0 (fun i _ _ => hb_le a i)
        omega
      rw [h28', hrk]
      unfold fX9_oldest_82
      rw [m_there hi hM (by omega), zb_s, if_pos (show o < 200 ∧ a.1 0 o ≠ 0 from ⟨by omega, hp⟩), i10, nI_1]
      by_cases hkk : rk a o = k
      · rw [if_pos (by rw [hkk])]
        rcases hr with ⟨p, e1, e2, e3, e4⟩ | ⟨e1, e2⟩
        · rw [e1, rk_uniq (a := a) e2 (by omega) e3 hp (by rw [e4, hkk])]
        · have := rk_max (a := a) (x := o) (by omega) hp
          omega
      · rw [if_neg (fun e => hkk ((nI_eq (by omega) hk).mp e))]
        exact ih q9 (o + 1) (by omega) (by omega) (fun p e1 e2 e3 e4 => by
          have q1 := h3 p e1 e2 e3 e4
          have q2 : p ≠ o := fun e => hkk (by rw [← e]; exact e4)
          omega)
end OLD
theorem s_oldest : S_oldest Rel := by
  intro a1 a2 K M h
  obtain ⟨A, hS, ht⟩ := h.1
  unfold fX8_oldest fX9_oldest
  rcases ck_log a1 with ⟨i, hi, rfl, e1, e2⟩ | ⟨e1, e2⟩
  · rw [e1, e2, zb_s, zb_s, i10, i10]
    by_cases hx : a2 < 0
    · rw [if_pos hx, if_neg (fun q => absurd hx (Int32.not_lt.mpr q))]
      exact ⟨_, rfl, rfl, h⟩
    · obtain ⟨k, hk, rfl⟩ := nI_of hx
      obtain ⟨r, r1, r2⟩ := c_age (hS.c hi) (hS.ai hi) hk
      have hm := m_old_o hi (hS.m hi) (hS.ai hi) hk r2 200 FU 0 (by omega) (fu_lt (by omega)) (fun _ _ _ _ _ => by omega)
      have hm' : fX9_oldest_15 (nI i) (nI k) M FU 0 = some r := hm
      rw [if_neg hx, if_pos (nI_pos' hk), zi_ok hi (by omega), nI_clamp (by omega : i < 2 ^ 31), r1, zb_s, hm']
      exact ⟨_, rfl, rfl, h⟩
  · rw [e1, e2, zb_s, zb_s, i00, i00]
    exact ⟨_, rfl, rfl, h⟩
