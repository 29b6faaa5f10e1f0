/-! both sides hold the same -/
theorem fin_aux {P : sP} (hw : wP P) {V : sV} (h : fin P V) : (∀ k p, vRd V k p ↔ gxs P V (fun f i q => rdq P V f i q k p)) ∧ (∀ k, vWr V k ↔ gxs P V (fun f i q => wrq P V f i q k)) ∧ (∀ k, vCm V k ↔ gxs P V (fun _ _ q => cmq q k)) ∧ (∀ x y, vLk V x y ↔ gxs P V (fun f i q => lkq P V f i q x y)) := by
  obtain ⟨h1, h2, h3, h4⟩ := h
  obtain ⟨_, _, _, s4, s5, s6, s7⟩ := h4 V h1
  exact ⟨fun k p => ⟨s4 k p, fun ⟨f, i, q, hf, hq, hc, hr⟩ => (h3 f hf i q hq hc).1 k p hr⟩, fun k => ⟨s5 k, fun ⟨f, i, q, hf, hq, hc, hr⟩ => (h3 f hf i q hq hc).2.1 k hr⟩, fun k => ⟨s6 k, fun ⟨f, i, q, hf, hq, hc, hr⟩ => (h3 f hf i q hq hc).2.2.1 k hr⟩, fun x y => ⟨s7 x y, fun ⟨f, i, q, hf, hq, hc, hr⟩ => (h3 f hf i q hq hc).2.2.2 x y hr⟩⟩
theorem same_VU {P : sP} (hw : wP P) {V : sV} {U : sU} (h : fin P V) (hu : finU P U) : (∀ f, f < 12 → ∀ i, i < (pC P f).length → (uC U f i ↔ vC V f i)) ∧ (∀ f, f < 12 → ∀ i, i < (pC P f).length → ∀ r, r < 4 → ∀ v, v < 256 → (uS U f i r v ↔ vS V f i r v)) ∧ (∀ f, f < 12 → (uR U f ↔ vC V f 40)) ∧ (∀ k p, uRd U k p ↔ vRd V k p) ∧ (∀ k, uWr U k ↔ vWr V k) ∧ (∀ k, uCm U k ↔ vCm V k) ∧ (∀ k p, uFo U k p ↔ gxs P V (fun f i q => foq P V f i q k p)) := by
  obtain ⟨u1, u2, u3⟩ := hu
  have hVU := h.2.2.2 (toV P U) u1
  have hUV := u2 V h.1
  obtain ⟨f1, f2, f3, f4⟩ := fin_aux hw h
  obtain ⟨s1, s2, s3, s4, s5, s6, s7⟩ := hVU
  obtain ⟨⟨t1, t2, t3, t4, t5⟩, t6, t7, t8, t9⟩ := hUV
  have hpos : ∀ f i, i < (pC P f).length → pos P f i = i := fun f i hi => by unfold pos; rw [if_pos hi]
  have hC : ∀ f, f < 12 → ∀ i, i < (pC P f).length → (uC U f i ↔ vC V f i) := by
    intro f hf i hi
    have hl := (hw.2.2.2.1 f hf).1
    constructor
    · intro z
      have := t1 f hf i (by omega) z
      rw [hpos f i hi] at this
      exact this
    · intro z
      exact (s1 f i z).elim (fun z => z.2) (fun z => by have := z.1; omega)
  have hS : ∀ f, f < 12 → ∀ i, i < (pC P f).length → ∀ r, r < 4 → ∀ v, v < 256 → (uS U f i r v ↔ vS V f i r v) := by
    intro f hf i hi r hr v hv
    have hl := (hw.2.2.2.1 f hf).1
    constructor
    · intro z
      have := t2 f hf i (by omega) r hr v hv z
      rw [hpos f i hi] at this
      exact this
    · intro z
      have := s2 f hf i (by omega) r hr v hv z
      rw [toV_S hl hi] at this
      exact this
  refine ⟨hC, hS, fun f hf => ⟨fun z => t3 f hf z, fun z => ?_⟩, fun k p => ⟨fun z => (f1 k p).mpr (t6 k p z), fun z => ?_⟩, fun k => ⟨fun z => (f2 k).mpr (t8 k z), fun z => ?_⟩, fun k => ⟨fun z => (f3 k).mpr (t9 k z), fun z => ?_⟩, fun k p => ⟨fun z => t7 k p z, fun z => ?_⟩⟩
  · have hl := (hw.2.2.2.1 f hf).1
    exact (s1 f 40 z).elim (fun z => by have := z.1; omega) (fun z => z.2)
  · obtain ⟨f, i, q, hf, hq, hc, hr⟩ := s4 k p z
    exact (u3 f hf i q hq hc).1 k p hr
  · obtain ⟨f, i, q, hf, hq, hc, hr⟩ := s5 k z
    exact (u3 f hf i q hq hc).2.2.1 k hr
  · obtain ⟨f, i, q, hf, hq, hc, hr⟩ := s6 k z
    exact (u3 f hf i q hq hc).2.2.2 k hr
  · obtain ⟨f, i, q, hf, hq, hc, hr⟩ := z
    have hl := (hw.2.2.2.1 f hf).1
    have hlt : i < (pC P f).length := (List.getElem?_eq_some_iff.mp hq).1
    have hv : vN q := (hw.2.2.2.1 f hf).2 q (List.mem_of_getElem? hq)
    refine (u3 f hf i q hq (s1 f i hc)).2.1 k p ⟨hr.1, hr.2.1, hr.2.2.1, s2 f hf i (by omega) _ ?_ p (by have := hr.2.2.1; omega) hr.2.2.2.1, hr.2.2.2.2⟩
    obtain ⟨o, a, bb, cc⟩ := q
    have e : o = 11 := hr.1
    subst e
    obtain ⟨rc, hrc, x3, erc⟩ := vR_n hv.2.2
    show ix cc < 4
    rw [erc]; exact hrc
