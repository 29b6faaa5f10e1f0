/-! the reference's reach: a place taken stays within a closed value, and brings its consequences -/
theorem tkm_sub {P : sP} (hw : wP P) {U U1 : sU} {Z : sV} (h : subU P U Z) (hz : cls P Z) {f i : Nat} {q : Nat × Int32 × Int32 × Int32} {N : Nat → Nat → Prop} {b c : Bool} (hf : f < 12) (hq : (pC P f)[i]? = some q) (hc : uC U f i) (ht : tkm P U f i q U1 N b c) : subU P U1 Z := by
  have hv : vN q := (hw.2.2.2.1 f hf).2 q (List.mem_of_getElem? hq)
  have hl := (hw.2.2.2.1 f hf).1
  have hlt : i < (pC P f).length := (List.getElem?_eq_some_iff.mp hq).1
  have hS := toV_S (U := U) hl hlt
  have hpos : pos P f i = i := by unfold pos; rw [if_pos hlt]
  have hcz : vC Z f i := by have := h.1.1 f hf i (by omega) hc; rw [hpos] at this; exact this
  have hSZ : ∀ r, r < 4 → ∀ v, v < 256 → vS (toV P U) f i r v → vS Z f i r v := by
    intro r hr v hv2 z
    rw [hS] at z
    have := h.1.2.1 f hf i (by omega) r hr v hv2 z
    rw [hpos] at this
    exact this
  have hq12 := vN_le hv
  have h0 := h
  obtain ⟨⟨a1, a2, a3, a4, a5⟩, a6, a7, a8, a9⟩ := h
  obtain ⟨o, a, bb, cc⟩ := q
  replace hq12 : o < 12 := hq12
  match o, hq12, hv, hq, ht with
  | 0, _, _, _, ⟨h1, _⟩ => rw [h1]; exact h0
  | 1, _, _, _, ⟨h1, _⟩ => rw [h1]; exact h0
  | 2, _, _, _, ⟨h1, _⟩ => rw [h1]; exact h0
  | 7, _, _, _, ⟨h1, _⟩ => rw [h1]; exact h0
  | 9, _, _, _, ⟨h1, _⟩ => rw [h1]; exact h0
  | 8, _, _, _, h => exact h.elim
  | 3, _, hv, hq, ⟨h1, _⟩ =>
    rw [h1]
    refine ⟨⟨a1, a2, a3, a4, a5⟩, fun k p z => ?_, a7, a8, a9⟩
    rcases z with z | ⟨e, z⟩
    · exact a6 k p z
    · refine ⟨f, i, _, hf, hq, hcz, rdq_mono hw hv hSZ (Or.inl ⟨rfl, e, ?_, ?_⟩)⟩
      · rw [e]; exact z.1
      · rw [hS]; exact z.2
  | 4, _, hv, hq, ⟨h1, _⟩ =>
    obtain ⟨k0, hk0, x0, ek0⟩ := vT_n hv.1
    have hk24 : ix a < 24 := by rw [ek0]; exact hk0
    obtain ⟨rb, hrb, x2, erb⟩ := vR_n hv.2.1
    obtain ⟨rc, hrc, x3, erc⟩ := vR_n hv.2.2
    have h64 := (hw.1 _ hk24).1
    rw [h1]
    refine ⟨⟨a1, a2, a3, a4, fun k hk p hp v hv2 z => ?_⟩, a6, a7, fun k z => ?_, a9⟩
    · rcases z with z | ⟨e, z1, z2⟩
      · exact a5 k hk p hp v hv2 z
      · rw [e]
        have z1' : p < pS P (ix a) ∧ uS U f i (ix bb) p := z1
        refine (hz.2 f hf i _ hq hcz).2.2 rfl p z1'.1 (hSZ _ (by show ix bb < 4; rw [erb]; exact hrb) p (by omega) ?_) v hv2 (hSZ _ (by show ix cc < 4; rw [erc]; exact hrc) v hv2 ?_)
        · rw [hS]; exact z1'.2
        · rw [hS]; exact z2
    · rcases z with z | ⟨e, p, z⟩
      · exact a8 k z
      · refine ⟨f, i, _, hf, hq, hcz, wrq_mono hw hv hSZ ⟨rfl, e, p, ?_, ?_⟩⟩
        · rw [e]; exact z.1
        · rw [hS]; exact z.2
  | 5, _, hv, hq, ⟨h1, _⟩ =>
    obtain ⟨g0, hg0, x0, eg0⟩ := vF_n hv.1
    have h12 : ix a < 12 := by rw [eg0]; exact hg0
    rw [h1]
    exact subU_add h0 (hw.2.2.2.1 _ h12).1 (subU_eg hw h0 hz hf hq hc (g := ix a) ⟨rfl, rfl, hS.symm⟩)
  | 6, _, hv, hq, ⟨h1, _⟩ =>
    rcases h1 with ⟨z0, h1, _⟩ | ⟨_, h1, _⟩
    · rw [h1]
      refine subU_add h0 hl (subU_eg hw h0 hz hf hq hc (g := f) (Or.inl ⟨?_, rfl, rfl, ?_⟩))
      · rw [hS]; exact z0
      · rw [hS]
    · rw [h1]; exact h0
  | 10, _, hv, hq, ⟨h1, _⟩ =>
    rw [h1]
    refine ⟨⟨a1, a2, a3, a4, a5⟩, a6, a7, a8, fun k z => ?_⟩
    rcases z with z | z
    · exact a9 k z
    · exact ⟨f, i, _, hf, hq, hcz, rfl, z⟩
  | 11, _, hv, hq, ⟨h1, _⟩ =>
    obtain ⟨rc, hrc, x3, erc⟩ := vR_n hv.2.2
    rw [h1]
    refine ⟨⟨a1, a2, a3, a4, a5⟩, fun k p z => ?_, fun k p z => ?_, a8, a9⟩
    · rcases z with z | ⟨e, z⟩ | ⟨e, p', z1, z2⟩
      · exact a6 k p z
      · refine ⟨f, i, _, hf, hq, hcz, rdq_mono hw hv hSZ (Or.inr (Or.inl ⟨rfl, e, z.1, ?_, ?_⟩))⟩
        · rw [hS]; exact z.2.1
        · rw [e]; exact z.2.2
      · refine ⟨f, i, _, hf, hq, hcz, rdq_mono hw hv hSZ (Or.inr (Or.inr ⟨rfl, e, p', z1.1, ?_, z2⟩))⟩
        rw [hS]; exact z1.2.1
    · rcases z with z | ⟨e, z⟩
      · exact a7 k p z
      · refine ⟨f, i, _, hf, hq, hcz, rfl, e, z.1, hSZ _ (by show ix cc < 4; rw [erc]; exact hrc) p (by have := z.1; omega) ?_, ?_⟩
        · rw [hS]; exact z.2.1
        · rw [e]; exact z.2.2
  | o + 12, hq, _, _, _ => omega
theorem tku_sub {P : sP} (hw : wP P) {U U' : sU} {Z : sV} (h : subU P U Z) (hz : cls P Z) {f i : Nat} {c : Bool} (hf : f < 12) (hi : i ≤ (pC P f).length) (hc : uC U f i) (ht : tku P U f i U' c) : subU P U' Z := by
  have hl := (hw.2.2.2.1 f hf).1
  rcases ht with ⟨hor, rfl, _⟩ | ⟨q, U1, N, b, c1, hq, h8, htm, hor⟩
  · have key : tgt Z f 40 (uS U f i) := by
      rcases hor with e | ⟨q, hq, h8⟩
      · have hpos : pos P f i = 40 := by unfold pos; rw [if_neg (by omega)]
        have h1 := h.1.1 f hf i hi hc
        rw [hpos] at h1
        refine ⟨h1, fun r hr v hv z => ?_⟩
        have h2 := h.1.2.1 f hf i hi r hr v hv z
        rw [hpos] at h2
        exact h2
      · have hlt : i < (pC P f).length := (List.getElem?_eq_some_iff.mp hq).1
        have hS := toV_S (U := U) hl hlt
        rw [← hS]
        refine subU_eg hw h hz hf hq hc (g := f) ?_
        obtain ⟨o, a, bb, cc⟩ := q
        replace h8 : o = 8 := h8
        subst h8
        exact ⟨rfl, rfl, rfl⟩
    obtain ⟨⟨a1, a2, a3, a4, a5⟩, a6⟩ := h
    refine ⟨⟨a1, a2, fun f' hf' z => ?_, fun f' hf' r hr v hv z => ?_, a5⟩, a6⟩
    · rcases z with z | rfl
      · exact a3 f' hf' z
      · exact key.1
    · rcases z with z | ⟨rfl, z⟩
      · exact a4 f' hf' r hr v hv z
      · exact key.2 r hr v hv z
  · have h1 := tkm_sub hw h hz hf hq hc htm
    rcases hor with ⟨hb, rfl, _⟩ | ⟨_, rfl, _⟩
    · refine subU_add h1 hl ?_
      by_cases h5 : q.1 = 5
      · have hv : vN q := (hw.2.2.2.1 f hf).2 q (List.mem_of_getElem? hq)
        have hlt : i < (pC P f).length := (List.getElem?_eq_some_iff.mp hq).1
        have hpos : pos P f i = i := by unfold pos; rw [if_pos hlt]
        have hcz : vC Z f i := by have := h.1.1 f hf i hi hc; rw [hpos] at this; exact this
        obtain ⟨o, a, bb, cc⟩ := q
        replace h5 : o = 5 := h5
        subst h5
        obtain ⟨g0, hg0, x0, eg0⟩ := vF_n hv.1
        have h12 : ix a < 12 := by rw [eg0]; exact hg0
        obtain ⟨_, hN, hR, _⟩ := htm
        have h3 := ((hz.2 f hf i _ hq hcz).2.1 rfl (h.1.2.2.1 (ix a) h12 (hR.mp hb))).resolve_left id
        refine ⟨h3.1, fun r hr v hv2 z => h3.2 r hr v hv2 ?_⟩
        rw [hN] at z
        exact h.1.2.2.2.1 (ix a) h12 r hr v hv2 z
      · exact subU_eg hw h hz hf hq hc (tkm_eg hw hf hq h5 htm hb)
    · exact h1
/-- a place's consequences -/
def kU (P : sP) (U U' : sU) (f i : Nat) : Prop :=
  (((pC P f).length = i ∨ ∃ q, (pC P f)[i]? = some q ∧ q.1 = 8) → uR U' f ∧ ∀ r v, uS U f i r v → uB U' f r v) ∧ (∀ q, (pC P f)[i]? = some q → ¬ q.1 = 8 → (∀ g j X, eg P (toV P U) f i q g j X → uC U' g (slt P g j) ∧ ∀ r v, X r v → uS U' g (slt P g j) r v) ∧ (q.1 = 5 → uR U (ix q.2.1) → uC U' f (slt P f (place P f (nI i + 1))) ∧ ∀ r v, uB U (ix q.2.1) r v → uS U' f (slt P f (place P f (nI i + 1))) r v) ∧ (q.1 = 4 → ∀ p, p < pS P (ix q.2.1) → uS U f i (ix q.2.2.1) p → ∀ v, uS U f i (ix q.2.2.2) v → uY U' (ix q.2.1) p v) ∧ (∀ k p, rdq P (toV P U) f i q k p → uRd U' k p) ∧ (∀ k p, foq P (toV P U) f i q k p → uFo U' k p) ∧ (∀ k, wrq P (toV P U) f i q k → uWr U' k) ∧ (∀ k, cmq q k → uCm U' k))
