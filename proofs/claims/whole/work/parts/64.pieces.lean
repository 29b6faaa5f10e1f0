/-! pieces of work keep the invariant -/
def ppc (P : sP) (V V' : sV) : Prop := ((∀ f i, vC V f i → vC V' f i) ∧ (∀ f i r v, vS V f i r v → vS V' f i r v) ∧ (∀ k p v, vY V k p v → vY V' k p v) ∧ (∀ f i, vW V f i → vW V' f i)) ∧ ((∀ k p, vRd V k p → vRd V' k p) ∧ (∀ k, vWr V k → vWr V' k) ∧ (∀ k, vCm V k → vCm V' k) ∧ (∀ x y, vLk V x y → vLk V' x y)) ∧ (∀ f i r, r < 4 → ∀ v, v < 256 → vS V' f i r v → vS V f i r v ∨ vW V' f i) ∧ (∀ f i, vC V' f i → vC V f i ∨ vW V' f i) ∧ (∀ k p v, v < 256 → vY V' k p v → vY V k p v ∨ ∀ f i, (site P (12 + k) f i ∨ site P 36 f i) → vC V f i → vW V' f i)
theorem ppc.tr {P : sP} {V V' V'' : sV} (h : ppc P V V') (h' : ppc P V' V'') : ppc P V V'' := by
  obtain ⟨⟨a1, a2, a3, a4⟩, ⟨x1, x2, x3, x4⟩, a5, a6, a7⟩ := h
  obtain ⟨⟨b1, b2, b3, b4⟩, ⟨y1, y2, y3, y4⟩, b5, b6, b7⟩ := h'
  refine ⟨⟨fun f i z => b1 f i (a1 f i z), fun f i r v z => b2 f i r v (a2 f i r v z), fun k p v z => b3 k p v (a3 k p v z), fun f i z => b4 f i (a4 f i z)⟩, ⟨fun k p z => y1 k p (x1 k p z), fun k z => y2 k (x2 k z), fun k z => y3 k (x3 k z), fun x y z => y4 x y (x4 x y z)⟩, fun f i r hr v hv z => ?_, fun f i z => ?_, fun k p v hv z => ?_⟩
  · rcases b5 f i r hr v hv z with z | z
    · exact (a5 f i r hr v hv z).imp id (b4 f i)
    · exact Or.inr z
  · rcases b6 f i z with z | z
    · exact (a6 f i z).imp id (b4 f i)
    · exact Or.inr z
  · rcases b7 k p v hv z with z | z
    · rcases a7 k p v hv z with z | z
      · exact Or.inl z
      · exact Or.inr (fun f i s c => b4 f i (z f i s c))
    · exact Or.inr (fun f i s c => z f i s (a1 f i c))
theorem ppc_aux {P : sP} {V V' : sV} (h : (vS V', vY V', vC V', vW V') = (vS V, vY V, vC V, vW V)) (hx : (∀ k p, vRd V k p → vRd V' k p) ∧ (∀ k, vWr V k → vWr V' k) ∧ (∀ k, vCm V k → vCm V' k) ∧ (∀ x y, vLk V x y → vLk V' x y)) : ppc P V V' := by
  obtain ⟨e1, e2, e3, e4⟩ := by simpa only [Prod.mk.injEq] using h
  unfold ppc
  rw [e1, e2, e3, e4]
  exact ⟨⟨fun _ _ z => z, fun _ _ _ _ z => z, fun _ _ _ z => z, fun _ _ z => z⟩, hx, fun _ _ _ _ _ _ z => Or.inl z, fun _ _ z => Or.inl z, fun _ _ _ _ z => Or.inl z⟩
theorem ppc_load {P : sP} {V : sV} {f k : Nat} {pl : Nat → Prop} : ppc P V (vLoad V f k pl) := ppc_aux rfl ⟨fun _ _ => Or.inl, fun _ z => z, fun _ z => z, fun _ _ => Or.inl⟩
theorem ppc_follow {P : sP} {V : sV} {f k : Nat} {pl : Nat → Prop} : ppc P V (vFollow P V f k pl) := ppc_aux rfl ⟨fun _ _ => Or.inl, fun _ z => z, fun _ z => z, fun _ _ => Or.inl⟩
theorem ppc_lnk {P : sP} {V : sV} {a b : Nat} : ppc P V (vLnk V a b) := ppc_aux rfl ⟨fun _ _ z => z, fun _ z => z, fun _ z => z, fun _ _ => Or.inl⟩
theorem ppc_comp {P : sP} {V : sV} {a b : Nat} : ppc P V (vComp V a b) := ppc_aux rfl ⟨fun _ _ z => z, fun _ z => z, fun _ => Or.inl, fun _ _ z => z⟩
theorem ppc_rf {P : sP} {V : sV} : ppc P V V := ppc_aux rfl ⟨fun _ _ z => z, fun _ z => z, fun _ z => z, fun _ _ z => z⟩
theorem ppc_add {P : sP} {V : sV} {f j : Nat} {X : Nat → Nat → Prop} : ppc P V (vAdd V f j X) := by
  refine ⟨⟨fun _ _ => Or.inl, fun _ _ _ _ => Or.inl, fun _ _ _ z => z, fun _ _ => Or.inl⟩, ⟨fun _ _ z => z, fun _ z => z, fun _ z => z, fun _ _ z => z⟩, fun f' i r hr v hv z => ?_, fun f' i z => ?_, fun _ _ _ _ z => Or.inl z⟩
  · rcases z with z | ⟨rfl, rfl, z⟩
    · exact Or.inl z
    · by_cases hs : vS V f' i r v
      · exact Or.inl hs
      · exact Or.inr (Or.inr ⟨rfl, rfl, r, hr, v, hv, z, hs⟩)
  · rcases z with z | z
    · exact Or.inl z
    · exact Or.inr (Or.inr z)
theorem ppc_store {P : sP} {V : sV} {k : Nat} {pl Z : Nat → Prop} : ppc P V (vStore P V k pl Z) := by
  refine ⟨⟨fun _ _ z => z, fun _ _ _ _ z => z, fun _ _ _ => Or.inl, fun _ _ => Or.inl⟩, ⟨fun _ _ z => z, fun _ => Or.inl, fun _ z => z, fun _ _ z => z⟩, fun _ _ _ _ _ _ z => Or.inl z, fun _ _ z => Or.inl z, fun k' p v hv z => ?_⟩
  rcases z with z | ⟨rfl, z1, z2⟩
  · exact Or.inl z
  · by_cases hy : vY V k' p v
    · exact Or.inl hy
    · exact Or.inr (fun f i s c => Or.inr ⟨⟨p, z1, v, hv, z2, hy⟩, s, c⟩)
theorem tgt_mono {P : sP} {V V' : sV} (h : ppc P V V') {f j : Nat} {X X' : Nat → Nat → Prop} (hX : ∀ r, r < 4 → ∀ v, v < 256 → X' r v → X r v) (ht : tgt V f j X) : tgt V' f j X' := ⟨h.1.1 f j ht.1, fun r hr v hv z => h.1.2.1 f j r v (ht.2 r hr v hv (hX r hr v hv z))⟩
theorem ini_pc {P : sP} {V V' : sV} (h : ppc P V V') (hi : ini P V) : ini P V' := ⟨fun f hf he => tgt_mono h (fun _ _ _ _ z => z) (hi.1 f hf he), fun k hk p hp => h.1.2.2.1 k p _ (hi.2 k hk p hp)⟩
theorem rdq_mono {P : sP} (hw : wP P) {U W : sV} {f i : Nat} {q : Nat × Int32 × Int32 × Int32} (hv : vN q) (hS : ∀ r, r < 4 → ∀ v, v < 256 → vS U f i r v → vS W f i r v) {k p : Nat} (h : rdq P U f i q k p) : rdq P W f i q k p := by
  obtain ⟨o, a, b, c⟩ := q
  rcases h with ⟨e, e2, h1, h2⟩ | ⟨e, e2, h1, h2, h3⟩ | ⟨e, e2, p', h1, h2, h3⟩
  · replace e : o = 3 := e
    subst e
    obtain ⟨k', hk', x1, ek⟩ := vT_n hv.2.1
    obtain ⟨rc, hrc, x2, erc⟩ := vR_n hv.2.2
    have h64 : pS P k ≤ 64 := (hw.1 k (by rw [e2]; show ix b < 24; rw [ek]; exact hk')).1
    exact Or.inl ⟨rfl, e2, h1, hS _ (by show ix c < 4; rw [erc]; exact hrc) p (by omega) h2⟩
  · replace e : o = 11 := e
    subst e
    obtain ⟨rc, hrc, x2, erc⟩ := vR_n hv.2.2
    exact Or.inr (Or.inl ⟨rfl, e2, h1, hS _ (by show ix c < 4; rw [erc]; exact hrc) p (by omega) h2, h3⟩)
  · replace e : o = 11 := e
    subst e
    obtain ⟨rc, hrc, x2, erc⟩ := vR_n hv.2.2
    exact Or.inr (Or.inr ⟨rfl, e2, p', h1, hS _ (by show ix c < 4; rw [erc]; exact hrc) p' (by omega) h2, h3⟩)
theorem wrq_mono {P : sP} (hw : wP P) {U W : sV} {f i : Nat} {q : Nat × Int32 × Int32 × Int32} (hv : vN q) (hS : ∀ r, r < 4 → ∀ v, v < 256 → vS U f i r v → vS W f i r v) {k : Nat} (h : wrq P U f i q k) : wrq P W f i q k := by
  obtain ⟨o, a, b, c⟩ := q
  obtain ⟨e, e2, p, h1, h2⟩ := h
  replace e : o = 4 := e
  subst e
  obtain ⟨k', hk', x1, ek⟩ := vT_n hv.1
  obtain ⟨rb, hrb, x2, erb⟩ := vR_n hv.2.1
  have h64 : pS P k ≤ 64 := (hw.1 k (by rw [e2]; show ix a < 24; rw [ek]; exact hk')).1
  exact ⟨rfl, e2, p, h1, hS _ (by show ix b < 4; rw [erb]; exact hrb) p (by omega) h2⟩
theorem lkq_mono {P : sP} (hw : wP P) {U W : sV} {f i : Nat} {q : Nat × Int32 × Int32 × Int32} (hv : vN q) (hS : ∀ r, r < 4 → ∀ v, v < 256 → vS U f i r v → vS W f i r v) {x y : Nat} (h : lkq P U f i q x y) : lkq P W f i q x y := by
  obtain ⟨o, a, b, c⟩ := q
  rcases h with h | ⟨e, e2, e3, p, h1, h2⟩ | ⟨e, e2, e3, p, h1, h2, h3⟩ | ⟨e, e2, p, t, h1, h2, h3⟩
  · exact Or.inl h
  · replace e : o = 3 := e
    subst e
    obtain ⟨k', hk', x1, ek⟩ := vT_n hv.2.1
    obtain ⟨rc, hrc, x2, erc⟩ := vR_n hv.2.2
    have h64 : pS P (ix b) ≤ 64 := (hw.1 (ix b) (by rw [ek]; exact hk')).1
    exact Or.inr (Or.inl ⟨rfl, e2, e3, p, h1, hS _ (by show ix c < 4; rw [erc]; exact hrc) p (by have : p < pS P (ix b) := h1; omega) h2⟩)
  · replace e : o = 11 := e
    subst e
    obtain ⟨rc, hrc, x2, erc⟩ := vR_n hv.2.2
    exact Or.inr (Or.inr (Or.inl ⟨rfl, e2, e3, p, h1, hS _ (by show ix c < 4; rw [erc]; exact hrc) p (by omega) h2, h3⟩))
  · replace e : o = 11 := e
    subst e
    obtain ⟨rc, hrc, x2, erc⟩ := vR_n hv.2.2
    exact Or.inr (Or.inr (Or.inr ⟨rfl, e2, p, t, h1, hS _ (by show ix c < 4; rw [erc]; exact hrc) p (by omega) h2, h3⟩))
/-- consequences carried over a piece of work, for a place that waits no more -/
theorem okg_of {P : sP} (hw : wP P) {V V' : sV} (h : ppc P V V') {f i : Nat} {q : Nat × Int32 × Int32 × Int32} (hq : (pC P f)[i]? = some q) (hv : vN q) (hc : vC V f i) (hn : ¬ vW V' f i) (h1 : ∀ g j X, eg P V f i q g j X → tgt V' g j X) (h2 : q.1 = 5 → vC V' (ix q.2.1) 40 → vW V' (ix q.2.1) 40 ∨ tgt V' f (place P f (nI i + 1)) (vS V' (ix q.2.1) 40)) (h3 : q.1 = 4 → ∀ p, p < pS P (ix q.2.1) → vS V f i (ix q.2.2.1) p → ∀ v, v < 256 → vS V f i (ix q.2.2.2) v → vY V' (ix q.2.1) p v) (h4 : (∀ k p, rdq P V f i q k p → vRd V' k p) ∧ (∀ k, wrq P V f i q k → vWr V' k) ∧ (∀ k, cmq q k → vCm V' k) ∧ (∀ x y, lkq P V f i q x y → vLk V' x y)) : okg P V' (fun g => vW V' g 40) f i q ∧ okx P V' f i q := by
  have hS : ∀ r, r < 4 → ∀ v, v < 256 → vS V' f i r v → vS V f i r v := fun r hr v hv z => (h.2.2.1 f i r hr v hv z).resolve_right hn
  refine ⟨⟨fun g j X he => ?_, h2, fun e p hp z1 v hv2 z2 => ?_⟩, fun k p z => h4.1 k p (rdq_mono hw hv hS z), fun k z => h4.2.1 k (wrq_mono hw hv hS z), h4.2.2.1, fun x y z => h4.2.2.2 x y (lkq_mono hw hv hS z)⟩
  · obtain ⟨X', he', hX⟩ := eg_mono hw hv hS (fun e p hp v hv2 z => (h.2.2.2.2 _ p v hv2 z).resolve_right (fun z2 => hn (z2 f i (Or.inl ⟨q, hq, by unfold waker; rw [if_neg (by omega), if_pos e]⟩) hc))) (fun e t ht h0 v hv2 z => (h.2.2.2.2 t 0 v hv2 z).resolve_right (fun z2 => hn (z2 f i (Or.inr ⟨q, hq, by unfold waker; rw [if_neg (by omega), if_neg (by omega), if_pos e]⟩) hc))) he
    have ht := h1 g j X' he'
    exact ⟨ht.1, fun r hr v hv2 z => ht.2 r hr v hv2 (hX r hr v hv2 z)⟩
  · have ha : ix q.2.2.1 < 4 ∧ ix q.2.2.2 < 4 ∧ pS P (ix q.2.1) ≤ 64 := by
      obtain ⟨o, a, b, c⟩ := q
      replace e : o = 4 := e
      subst e
      obtain ⟨k', hk', x1, ek⟩ := vT_n hv.1
      obtain ⟨rb, hrb, x2, erb⟩ := vR_n hv.2.1
      obtain ⟨rc, hrc, x3, erc⟩ := vR_n hv.2.2
      exact ⟨by show ix b < 4; rw [erb]; exact hrb, by show ix c < 4; rw [erc]; exact hrc, (hw.1 (ix a) (by rw [ek]; exact hk')).1⟩
    exact h3 e p hp (hS _ ha.1 p (by omega) z1) v hv2 (hS _ ha.2.1 v hv2 z2)
def i4 (P : sP) (V : sV) (x : Nat → Nat → Prop) : Prop := ∀ f, f < 12 → ∀ i q, (pC P f)[i]? = some q → vC V f i → ¬ vW V f i → ¬ x f i → okg P V (fun g => vW V g 40) f i q ∧ okx P V f i q
theorem i4_pc {P : sP} (hw : wP P) {V V' : sV} {x : Nat → Nat → Prop} (h : ppc P V V') (h4 : i4 P V x) : i4 P V' x := by
  intro f hf i q hq hc hn hx
  have hv : vN q := (hw.2.2.2.1 f hf).2 q (List.mem_of_getElem? hq)
  have hc0 : vC V f i := (h.2.2.2.1 f i hc).resolve_right hn
  obtain ⟨⟨a1, a2, a3⟩, a4⟩ := h4 f hf i q hq hc0 (fun z => hn (h.1.2.2.2 f i z)) hx
  refine okg_of hw h hq hv hc0 hn (fun g j X he => tgt_mono h (fun _ _ _ _ z => z) (a1 g j X he)) (fun e z => ?_) (fun e p hp z1 v hv2 z2 => h.1.2.2.1 _ _ _ (a3 e p hp z1 v hv2 z2)) ⟨fun k p z => h.2.1.1 k p (a4.1 k p z), fun k z => h.2.1.2.1 k (a4.2.1 k z), fun k z => h.2.1.2.2.1 k (a4.2.2.1 k z), fun x y z => h.2.1.2.2.2 x y (a4.2.2.2 x y z)⟩
  by_cases hw2 : vW V' (ix q.2.1) 40
  · exact Or.inl hw2
  · have hc2 : vC V (ix q.2.1) 40 := (h.2.2.2.1 _ _ z).resolve_right hw2
    rcases a2 e hc2 with z2 | z2
    · exact absurd (h.1.2.2.2 _ _ z2) hw2
    · exact Or.inr (tgt_mono h (fun r hr v hv2 z3 => (h.2.2.1 _ _ r hr v hv2 z3).resolve_right hw2) z2)
theorem tgt_add {P : sP} {V : sV} (hb : bas P V) {f j : Nat} (hf : f < 12) (hj : j < 41) {X : Nat → Nat → Prop} (hX : ∀ r, r < 4 → ∃ v, v < 256 ∧ X r v) : tgt (vAdd V f j X) f j X := by
  refine ⟨?_, fun r hr v hv z => Or.inr ⟨rfl, rfl, z⟩⟩
  obtain ⟨v, hv, z⟩ := hX 0 (by omega)
  by_cases hs : vS V f j 0 v
  · exact Or.inl (hb.2.2.1 f hf j hj 0 (by omega) v hv hs)
  · exact Or.inr ⟨rfl, rfl, 0, by omega, v, hv, z, hs⟩
theorem bas_add {P : sP} {V : sV} (hw : wP P) (hb : bas P V) {f j : Nat} (hf : f < 12) (hj : j < (pC P f).length ∨ j = 40) {X : Nat → Nat → Prop} (hX : ∀ r, r < 4 → ∃ v, v < 256 ∧ X r v) : bas P (vAdd V f j X) := by
  have hl := (hw.2.2.2.1 f hf).1
  have ht := tgt_add (j := j) hb hf (by omega) hX
  obtain ⟨b1, b2, b3, b4, b5⟩ := hb
  refine ⟨fun f' i z => ?_, fun f' i z => ?_, fun f' hf' i hi r hr v hv z => ?_, fun f' i z r hr => ?_, b5⟩
  · rcases z with z | ⟨rfl, rfl, _⟩
    · exact b1 f' i z
    · exact ⟨hf, hj⟩
  · rcases z with z | z
    · exact Or.inl (b2 f' i z)
    · exact Or.inr z
  · rcases z with z | ⟨rfl, rfl, z⟩
    · exact Or.inl (b3 f' hf' i hi r hr v hv z)
    · exact ht.1
  · rcases z with z | ⟨rfl, rfl, _⟩
    · obtain ⟨v, hv, z2⟩ := b4 f' i z r hr
      exact ⟨v, hv, Or.inl z2⟩
    · obtain ⟨v, hv, z2⟩ := hX r hr
      exact ⟨v, hv, ht.2 r hr v hv z2⟩
theorem sub_add {P : sP} {V Z : sV} (h : sub P V Z) {f j : Nat} {X : Nat → Nat → Prop} (ht : tgt Z f j X) : sub P (vAdd V f j X) Z := by
  obtain ⟨a1, a2, a3, a4⟩ := h
  refine ⟨fun f' i z => ?_, fun f' hf' i hi r hr v hv z => ?_, a3, a4⟩
  · rcases z with z | ⟨rfl, rfl, _⟩
    · exact a1 f' i z
    · exact ht.1
  · rcases z with z | ⟨rfl, rfl, z⟩
    · exact a2 f' hf' i hi r hr v hv z
    · exact ht.2 r hr v hv z
/-- a closed value bears the edges of what lies within it -/
theorem sub_eg {P : sP} (hw : wP P) {V Z : sV} (h : sub P V Z) (hz : cls P Z) {f i : Nat} {q : Nat × Int32 × Int32 × Int32} (hf : f < 12) (hi : i < 41) (hq : (pC P f)[i]? = some q) (hc : vC V f i) {g j : Nat} {X : Nat → Nat → Prop} (he : eg P V f i q g j X) : tgt Z g j X := by
  have hv : vN q := (hw.2.2.2.1 f hf).2 q (List.mem_of_getElem? hq)
  have hL : q.1 = 3 → ix q.2.2.1 < 24 := by
    intro e
    obtain ⟨o, a, b, c⟩ := q
    replace e : o = 3 := e
    subst e
    obtain ⟨k', hk', x1, ek⟩ := vT_n hv.2.1
    show ix b < 24
    rw [ek]; exact hk'
  obtain ⟨X', he', hX⟩ := eg_mono hw hv (fun r hr v hv2 z => h.2.1 f hf i hi r hr v hv2 z) (fun e p hp v hv2 z => h.2.2.1 _ (hL e) p hp v hv2 z) (fun e t ht h0 v hv2 z => h.2.2.1 t ht 0 h0 v hv2 z) he
  have ht := (hz.2 f hf i q hq (h.1 f i hc)).1 g j X' he'
  exact ⟨ht.1, fun r hr v hv2 z => ht.2 r hr v hv2 (hX r hr v hv2 z)⟩
