/-! the reference's reach: the mathematics -/
def ule (U U' : sU) : Prop := ((∀ f i r v, uS U f i r v → uS U' f i r v) ∧ (∀ k p v, uY U k p v → uY U' k p v) ∧ (∀ f i, uC U f i → uC U' f i) ∧ (∀ f r v, uB U f r v → uB U' f r v) ∧ (∀ f, uR U f → uR U' f)) ∧ (∀ k p, uRd U k p → uRd U' k p) ∧ (∀ k p, uFo U k p → uFo U' k p) ∧ (∀ k, uWr U k → uWr U' k) ∧ (∀ k, uCm U k → uCm U' k)
theorem ule.rf {U : sU} : ule U U := ⟨⟨fun _ _ _ _ z => z, fun _ _ _ z => z, fun _ _ z => z, fun _ _ _ z => z, fun _ z => z⟩, fun _ _ z => z, fun _ _ z => z, fun _ z => z, fun _ z => z⟩
theorem ule.tr {U U' U'' : sU} (h : ule U U') (h' : ule U' U'') : ule U U'' := by
  obtain ⟨⟨a1, a2, a3, a4, a5⟩, a6, a7, a8, a9⟩ := h
  obtain ⟨⟨b1, b2, b3, b4, b5⟩, b6, b7, b8, b9⟩ := h'
  exact ⟨⟨fun f i r v z => b1 f i r v (a1 f i r v z), fun k p v z => b2 k p v (a2 k p v z), fun f i z => b3 f i (a3 f i z), fun f r v z => b4 f r v (a4 f r v z), fun f z => b5 f (a5 f z)⟩, fun k p z => b6 k p (a6 k p z), fun k p z => b7 k p (a7 k p z), fun k z => b8 k (a8 k z), fun k z => b9 k (a9 k z)⟩
/-- nothing new in U' -/
def usm (U U' : sU) : Prop := (∀ f, f < 12 → ∀ i, i < 41 → ∀ r, r < 4 → ∀ v, v < 256 → uS U' f i r v → uS U f i r v) ∧ (∀ k, k < 24 → ∀ p, p < 64 → ∀ v, v < 256 → uY U' k p v → uY U k p v) ∧ (∀ f, f < 12 → ∀ i, i < 41 → uC U' f i → uC U f i) ∧ (∀ f, f < 12 → ∀ r, r < 4 → ∀ v, v < 256 → uB U' f r v → uB U f r v) ∧ (∀ f, f < 12 → uR U' f → uR U f)
theorem usm.rf {U : sU} : usm U U := ⟨fun _ _ _ _ _ _ _ _ z => z, fun _ _ _ _ _ _ z => z, fun _ _ _ _ z => z, fun _ _ _ _ _ _ z => z, fun _ _ z => z⟩
theorem usm.tr {U U' U'' : sU} (h : usm U U') (h' : usm U' U'') : usm U U'' := by
  obtain ⟨a1, a2, a3, a4, a5⟩ := h
  obtain ⟨b1, b2, b3, b4, b5⟩ := h'
  exact ⟨fun f hf i hi r hr v hv z => a1 f hf i hi r hr v hv (b1 f hf i hi r hr v hv z), fun k hk p hp v hv z => a2 k hk p hp v hv (b2 k hk p hp v hv z), fun f hf i hi z => a3 f hf i hi (b3 f hf i hi z), fun f hf r hr v hv z => a4 f hf r hr v hv (b4 f hf r hr v hv z), fun f hf z => a5 f hf (b5 f hf z)⟩
theorem usm.l {U U' U'' : sU} (h : ule U' U'') (h' : usm U U'') : usm U U' := by
  obtain ⟨⟨a1, a2, a3, a4, a5⟩, _⟩ := h
  obtain ⟨b1, b2, b3, b4, b5⟩ := h'
  exact ⟨fun f hf i hi r hr v hv z => b1 f hf i hi r hr v hv (a1 f i r v z), fun k hk p hp v hv z => b2 k hk p hp v hv (a2 k p v z), fun f hf i hi z => b3 f hf i hi (a3 f i z), fun f hf r hr v hv z => b4 f hf r hr v hv (a4 f r v z), fun f hf z => b5 f hf (a5 f z)⟩
theorem usm.r {U U' U'' : sU} (h : ule U U') (h' : usm U U'') : usm U' U'' := by
  obtain ⟨⟨a1, a2, a3, a4, a5⟩, _⟩ := h
  obtain ⟨b1, b2, b3, b4, b5⟩ := h'
  exact ⟨fun f hf i hi r hr v hv z => a1 f i r v (b1 f hf i hi r hr v hv z), fun k hk p hp v hv z => a2 k p v (b2 k hk p hp v hv z), fun f hf i hi z => a3 f i (b3 f hf i hi z), fun f hf r hr v hv z => a4 f r v (b4 f hf r hr v hv z), fun f hf z => a5 f (b5 f hf z)⟩
/-- a piece of the reference's work, with its flag -/
def upc (U U' : sU) (c : Bool) : Prop := ule U U' ∧ (c = true ↔ ¬ usm U U')
theorem upc.tr {U U' U'' : sU} {c c' : Bool} (h : upc U U' c) (h' : upc U' U'' c') : upc U U'' (c || c') := by
  refine ⟨h.1.tr h'.1, ?_⟩
  rw [Bool.or_eq_true, h.2, h'.2]
  constructor
  · rintro (z | z)
    · exact fun y => z (y.l h'.1)
    · exact fun y => z (y.r h.1)
  · intro z
    by_cases e : usm U U'
    · exact Or.inr (fun y => z (e.tr y))
    · exact Or.inl e
theorem upc_rf {U U' : sU} (h : ule U U') (hs : usm U U') : upc U U' false := ⟨h, (fun z => by cases z), fun z => absurd hs z⟩
theorem upc_add {U : sU} {f j : Nat} (hf : f < 12) (hj : j < 41) {X : Nat → Nat → Prop} {c : Bool} (hc : c = true ↔ uGw U f j X) : upc U (uAdd U f j X) c := by
  refine ⟨⟨⟨fun _ _ _ _ => Or.inl, fun _ _ _ z => z, fun _ _ => Or.inl, fun _ _ _ z => z, fun _ z => z⟩, fun _ _ z => z, fun _ _ z => z, fun _ z => z, fun _ z => z⟩, hc.trans ⟨fun z y => ?_, fun z => ?_⟩⟩
  · rcases z with z | ⟨r, hr, v, hv, z1, z2⟩
    · exact z (y.2.2.1 f hf j hj (Or.inr ⟨rfl, rfl⟩))
    · exact z2 (y.1 f hf j hj r hr v hv (Or.inr ⟨rfl, rfl, z1⟩))
  · refine Classical.byContradiction (fun hn => z ⟨fun f' hf' i hi r hr v hv y => ?_, fun _ _ _ _ _ _ y => y, fun f' hf' i hi y => ?_, fun _ _ _ _ _ _ y => y, fun _ _ y => y⟩)
    · rcases y with y | ⟨rfl, rfl, y⟩
      · exact y
      · exact Classical.byContradiction (fun w => hn (Or.inr ⟨r, hr, v, hv, y, w⟩))
    · rcases y with y | ⟨rfl, rfl⟩
      · exact y
      · exact Classical.byContradiction (fun w => hn (Or.inl w))
theorem upc_ret {U : sU} {f : Nat} (hf : f < 12) {X : Nat → Nat → Prop} {c : Bool} (hc : c = true ↔ uRw U f X) : upc U (uRet U f X) c := by
  refine ⟨⟨⟨fun _ _ _ _ z => z, fun _ _ _ z => z, fun _ _ z => z, fun _ _ _ => Or.inl, fun _ => Or.inl⟩, fun _ _ z => z, fun _ _ z => z, fun _ z => z, fun _ z => z⟩, hc.trans ⟨fun z y => ?_, fun z => ?_⟩⟩
  · rcases z with z | ⟨r, hr, v, hv, z1, z2⟩
    · exact z (y.2.2.2.2 f hf (Or.inr rfl))
    · exact z2 (y.2.2.2.1 f hf r hr v hv (Or.inr ⟨rfl, z1⟩))
  · refine Classical.byContradiction (fun hn => z ⟨fun _ _ _ _ _ _ _ _ y => y, fun _ _ _ _ _ _ y => y, fun _ _ _ _ y => y, fun f' hf' r hr v hv y => ?_, fun f' hf' y => ?_⟩)
    · rcases y with y | ⟨rfl, y⟩
      · exact y
      · exact Classical.byContradiction (fun w => hn (Or.inr ⟨r, hr, v, hv, y, w⟩))
    · rcases y with y | rfl
      · exact y
      · exact Classical.byContradiction (fun w => hn (Or.inl w))
theorem upc_store {U : sU} {k : Nat} (hk : k < 24) {pl Z : Nat → Prop} (hpl : ∀ p, pl p → p < 64) {c : Bool} (hc : c = true ↔ ∃ p, pl p ∧ ∃ v, v < 256 ∧ Z v ∧ ¬ uY U k p v) : upc U (uStore U k pl Z) c := by
  refine ⟨⟨⟨fun _ _ _ _ z => z, fun _ _ _ => Or.inl, fun _ _ z => z, fun _ _ _ z => z, fun _ z => z⟩, fun _ _ z => z, fun _ _ z => z, fun _ => Or.inl, fun _ z => z⟩, hc.trans ⟨fun ⟨p, z1, v, hv, z2, z3⟩ y => ?_, fun z => ?_⟩⟩
  · exact z3 (y.2.1 k hk p (hpl p z1) v hv (Or.inr ⟨rfl, z1, z2⟩))
  · refine Classical.byContradiction (fun hn => z ⟨fun _ _ _ _ _ _ _ _ y => y, fun k' hk' p hp v hv y => ?_, fun _ _ _ _ y => y, fun _ _ _ _ _ _ y => y, fun _ _ y => y⟩)
    rcases y with y | ⟨rfl, y1, y2⟩
    · exact y
    · exact Classical.byContradiction (fun w => hn ⟨p, y1, v, hv, y2, w⟩)
theorem upc_load {U : sU} {k : Nat} {pl : Nat → Prop} : upc U (uLoad U k pl) false := upc_rf ⟨ule.rf.1, fun _ _ => Or.inl, fun _ _ z => z, fun _ z => z, fun _ z => z⟩ usm.rf
theorem upc_foll {P : sP} {U : sU} {k : Nat} {pl : Nat → Prop} : upc U (uFoll P U k pl) false := upc_rf ⟨ule.rf.1, fun _ _ => Or.inl, fun _ _ => Or.inl, fun _ z => z, fun _ z => z⟩ usm.rf
theorem upc_comp {U : sU} {a b : Nat} : upc U (uComp U a b) false := upc_rf ⟨ule.rf.1, fun _ _ z => z, fun _ _ z => z, fun _ z => z, fun _ => Or.inl⟩ usm.rf
theorem tkm_upc {P : sP} (hw : wP P) {U U1 : sU} {f i : Nat} {q : Nat × Int32 × Int32 × Int32} {N : Nat → Nat → Prop} {b c : Bool} (hf : f < 12) (hv : vN q) (h : tkm P U f i q U1 N b c) : upc U U1 c := by
  have hl := (hw.2.2.2.1 f hf).1
  have hat : ∀ x, atU P f x < 41 := fun x => by have := atU_le (P := P) (f := f) (x := x) hl; omega
  have hq12 := vN_le hv
  obtain ⟨o, a, bb, cc⟩ := q
  replace hq12 : o < 12 := hq12
  match o, hq12, hv, h with
  | 0, _, _, ⟨h1, _, _, h4⟩ => rw [h1, h4]; exact upc_rf ule.rf usm.rf
  | 1, _, _, ⟨h1, _, _, h4⟩ => rw [h1, h4]; exact upc_rf ule.rf usm.rf
  | 2, _, _, ⟨h1, _, _, h4⟩ => rw [h1, h4]; exact upc_rf ule.rf usm.rf
  | 3, _, _, ⟨h1, _, _, h4⟩ => rw [h1, h4]; exact upc_load
  | 4, _, hv, ⟨h1, _, _, h4⟩ =>
    obtain ⟨k0, hk0, x0, ek0⟩ := vT_n hv.1
    have hk24 : ix a < 24 := by rw [ek0]; exact hk0
    have h64 := (hw.1 _ hk24).1
    rw [h1]
    exact upc_store hk24 (fun p z => by have : p < pS P (ix a) := z.1; omega) h4
  | 5, _, hv, ⟨h1, _, _, h4⟩ =>
    obtain ⟨g0, hg0, x0, eg0⟩ := vF_n hv.1
    have h12 : ix a < 12 := by rw [eg0]; exact hg0
    have := atU_le (P := P) (f := ix a) (x := 0) (hw.2.2.2.1 _ h12).1
    have := (hw.2.2.2.1 _ h12).1
    rw [h1]
    exact upc_add h12 (by show atU P (ix a) 0 < 41; omega) h4
  | 6, _, _, ⟨h1, _, _⟩ =>
    rcases h1 with ⟨_, h1, h4⟩ | ⟨_, h1, h4⟩
    · rw [h1]; exact upc_add hf (hat _) h4
    · rw [h1, h4]; exact upc_rf ule.rf usm.rf
  | 7, _, _, ⟨h1, _, _, h4⟩ => rw [h1, h4]; exact upc_rf ule.rf usm.rf
  | 8, _, _, h => exact h.elim
  | 9, _, _, ⟨h1, _, _, h4⟩ => rw [h1, h4]; exact upc_rf ule.rf usm.rf
  | 10, _, _, ⟨h1, _, _, h4⟩ => rw [h1, h4]; exact upc_comp
  | 11, _, _, ⟨h1, _, _, h4⟩ => rw [h1, h4]; exact upc_foll
  | o + 12, hq, _, _ => omega
theorem tku_upc {P : sP} (hw : wP P) {U U' : sU} {f i : Nat} {c : Bool} (hf : f < 12) (h : tku P U f i U' c) : upc U U' c := by
  have hl := (hw.2.2.2.1 f hf).1
  rcases h with ⟨_, rfl, h3⟩ | ⟨q, U1, N, b, c1, hq, h8, ht, hor⟩
  · exact upc_ret hf h3
  · have hv : vN q := (hw.2.2.2.1 f hf).2 q (List.mem_of_getElem? hq)
    have h1 := tkm_upc hw hf hv ht
    rcases hor with ⟨_, rfl, c2, rfl, h4⟩ | ⟨_, rfl, rfl⟩
    · have := atU_le (P := P) (f := f) (x := nI i + 1) hl
      exact h1.tr (upc_add hf (by omega) h4)
    · exact h1
/-- what is unset: it falls whenever something new is found -/
noncomputable def MU (U : sU) : Nat := (sm 12 (fun f => sm 41 (fun i => sm 4 (fun r => sm 256 (fun v => ind (¬ uS U f i r v))))) + sm 24 (fun k => sm 64 (fun p => sm 256 (fun v => ind (¬ uY U k p v))))) + (sm 12 (fun f => sm 41 (fun i => ind (¬ uC U f i))) + (sm 12 (fun f => sm 4 (fun r => sm 256 (fun v => ind (¬ uB U f r v)))) + sm 12 (fun f => ind (¬ uR U f))))
theorem MU_lt {U U' : sU} (h : ule U U') (hs : ¬ usm U U') : MU U' < MU U := by
  obtain ⟨⟨a1, a2, a3, a4, a5⟩, _⟩ := h
  have i1 : ∀ f i r v, ind (¬ uS U' f i r v) ≤ ind (¬ uS U f i r v) := fun f i r v => ind_m (fun z y => z (a1 f i r v y))
  have i2 : ∀ k p v, ind (¬ uY U' k p v) ≤ ind (¬ uY U k p v) := fun k p v => ind_m (fun z y => z (a2 k p v y))
  have i3 : ∀ f i, ind (¬ uC U' f i) ≤ ind (¬ uC U f i) := fun f i => ind_m (fun z y => z (a3 f i y))
  have i4 : ∀ f r v, ind (¬ uB U' f r v) ≤ ind (¬ uB U f r v) := fun f r v => ind_m (fun z y => z (a4 f r v y))
  have i5 : ∀ f, ind (¬ uR U' f) ≤ ind (¬ uR U f) := fun f => ind_m (fun z y => z (a5 f y))
  have s1 : sm 12 (fun f => sm 41 (fun i => sm 4 (fun r => sm 256 (fun v => ind (¬ uS U' f i r v))))) ≤ sm 12 (fun f => sm 41 (fun i => sm 4 (fun r => sm 256 (fun v => ind (¬ uS U f i r v))))) := sm_le (fun f _ => sm_le (fun i _ => sm_le (fun r _ => sm_le (fun v _ => i1 f i r v))))
  have s2 : sm 24 (fun k => sm 64 (fun p => sm 256 (fun v => ind (¬ uY U' k p v)))) ≤ sm 24 (fun k => sm 64 (fun p => sm 256 (fun v => ind (¬ uY U k p v)))) := sm_le (fun k _ => sm_le (fun p _ => sm_le (fun v _ => i2 k p v)))
  have s3 : sm 12 (fun f => sm 41 (fun i => ind (¬ uC U' f i))) ≤ sm 12 (fun f => sm 41 (fun i => ind (¬ uC U f i))) := sm_le (fun f _ => sm_le (fun i _ => i3 f i))
  have s4 : sm 12 (fun f => sm 4 (fun r => sm 256 (fun v => ind (¬ uB U' f r v)))) ≤ sm 12 (fun f => sm 4 (fun r => sm 256 (fun v => ind (¬ uB U f r v)))) := sm_le (fun f _ => sm_le (fun r _ => sm_le (fun v _ => i4 f r v)))
  have s5 : sm 12 (fun f => ind (¬ uR U' f)) ≤ sm 12 (fun f => ind (¬ uR U f)) := sm_le (fun f _ => i5 f)
  have one : ∀ {p q : Prop}, p → ¬ q → ind (¬ p) < ind (¬ q) := by
    intro p q hp hq
    rw [ind_f (fun z => z hp), ind_t hq]
    omega
  unfold MU
  refine Classical.byContradiction (fun hn => hs ⟨fun f hf i hi r hr v hv z => Classical.byContradiction (fun w => hn ?_), fun k hk p hp v hv z => Classical.byContradiction (fun w => hn ?_), fun f hf i hi z => Classical.byContradiction (fun w => hn ?_), fun f hf r hr v hv z => Classical.byContradiction (fun w => hn ?_), fun f hf z => Classical.byContradiction (fun w => hn ?_)⟩)
  · have := sm_lt (n := 12) (fun f _ => sm_le (n := 41) (fun i _ => sm_le (n := 4) (fun r _ => sm_le (n := 256) (fun v _ => i1 f i r v)))) hf (sm_lt (fun i _ => sm_le (fun r _ => sm_le (fun v _ => i1 f i r v))) hi (sm_lt (fun r _ => sm_le (fun v _ => i1 f i r v)) hr (sm_lt (fun v _ => i1 f i r v) hv (one z w))))
    omega
  · have := sm_lt (n := 24) (fun k _ => sm_le (n := 64) (fun p _ => sm_le (n := 256) (fun v _ => i2 k p v))) hk (sm_lt (fun p _ => sm_le (fun v _ => i2 k p v)) hp (sm_lt (fun v _ => i2 k p v) hv (one z w)))
    omega
  · have := sm_lt (n := 12) (fun f _ => sm_le (n := 41) (fun i _ => i3 f i)) hf (sm_lt (fun i _ => i3 f i) hi (one z w))
    omega
  · have := sm_lt (n := 12) (fun f _ => sm_le (n := 4) (fun r _ => sm_le (n := 256) (fun v _ => i4 f r v))) hf (sm_lt (fun r _ => sm_le (fun v _ => i4 f r v)) hr (sm_lt (fun v _ => i4 f r v) hv (one z w)))
    omega
  · have := sm_lt (n := 12) (fun f _ => i5 f) hf (one z w)
    omega
