/-! the reference's reach: when nothing more is found, all is closed -/
theorem eg_g {P : sP} {V : sV} {f i : Nat} {q : Nat × Int32 × Int32 × Int32} (hf : f < 12) (hv : vN q) {g j : Nat} {X : Nat → Nat → Prop} (h : eg P V f i q g j X) : g < 12 := by
  have hq12 := vN_le hv
  obtain ⟨o, a, b, c⟩ := q
  replace hq12 : o < 12 := hq12
  match o, hq12, hv, h with
  | 0, _, _, h => rw [h.1]; exact hf
  | 1, _, _, h => rw [h.1]; exact hf
  | 2, _, _, h => rw [h.1]; exact hf
  | 3, _, _, h => rw [h.2.1]; exact hf
  | 4, _, _, h => rw [h.2.1]; exact hf
  | 5, _, hv, h =>
    obtain ⟨k, hk, e1, ek⟩ := vF_n hv.1
    rw [h.1]
    show ix a < 12
    rw [ek]; exact hk
  | 6, _, _, h =>
    rcases h with h | h
    · rw [h.2.1]; exact hf
    · rw [h.2.1]; exact hf
  | 7, _, _, h => rw [h.1]; exact hf
  | 8, _, _, h => rw [h.1]; exact hf
  | 9, _, _, h => rw [h.1]; exact hf
  | 10, _, _, h => rw [h.1]; exact hf
  | 11, _, _, h => rw [h.2.1]; exact hf
  | o + 12, hq, _, _ => omega
theorem eg_j {P : sP} (hw : wP P) {V : sV} {f i : Nat} {q : Nat × Int32 × Int32 × Int32} (hf : f < 12) (hv : vN q) {g j : Nat} {X : Nat → Nat → Prop} (h : eg P V f i q g j X) : j < (pC P g).length ∨ j = 40 := by
  have hl := (hw.2.2.2.1 f hf).1
  have hq12 := vN_le hv
  obtain ⟨o, a, b, c⟩ := q
  replace hq12 : o < 12 := hq12
  match o, hq12, hv, h with
  | 0, _, _, h => rw [h.1, h.2.1]; exact place_ok hl
  | 1, _, _, h => rw [h.1, h.2.1]; exact place_ok hl
  | 2, _, _, h => rw [h.1, h.2.1]; exact place_ok hl
  | 3, _, _, h => rw [h.2.1, h.2.2.1]; exact place_ok hl
  | 4, _, _, h => rw [h.2.1, h.2.2.1]; exact place_ok hl
  | 5, _, hv, h =>
    obtain ⟨k, hk, e1, ek⟩ := vF_n hv.1
    have h12 : ix a < 12 := by rw [ek]; exact hk
    rw [h.1, h.2.1]
    exact place_ok (hw.2.2.2.1 _ h12).1
  | 6, _, _, h =>
    rcases h with h | h
    · rw [h.2.1, h.2.2.1]; exact place_ok hl
    · rw [h.2.1, h.2.2.1]; exact place_ok hl
  | 7, _, _, h => rw [h.1, h.2.1]; exact place_ok hl
  | 8, _, _, h => exact Or.inr h.2.1
  | 9, _, _, h => rw [h.1, h.2.1]; exact place_ok hl
  | 10, _, _, h => rw [h.1, h.2.1]; exact place_ok hl
  | 11, _, _, h => rw [h.2.1, h.2.2.1]; exact place_ok hl
  | o + 12, hq, _, _ => omega
theorem slt_le {P : sP} {g j : Nat} : slt P g j ≤ (pC P g).length := by
  unfold slt
  split <;> omega
theorem toV_mono {P : sP} {U U' : sU} (h : ule U U') (f i r v : Nat) : vS (toV P U) f i r v → vS (toV P U') f i r v := fun z => z.imp (fun z => ⟨z.1, h.1.1 _ _ _ _ z.2⟩) (fun z => ⟨z.1, h.1.2.2.2.1 _ _ _ z.2⟩)
/-- at the end of a pass that found nothing new -/
theorem fix_ret {P : sP} (hw : wP P) {U0 U : sU} (h : pinv P U0 12 0 U false) {f i : Nat} (hf : f < 12) (hi : i ≤ (pC P f).length) (hc : uC U f i) (hor : (pC P f).length = i ∨ ∃ q, (pC P f)[i]? = some q ∧ q.1 = 8) : uR U f ∧ ∀ r, r < 4 → ∀ v, v < 256 → uS U f i r v → uB U f r v := by
  have hl := (hw.2.2.2.1 f hf).1
  have hs : usm U0 U := Classical.byContradiction (fun z => by have := h.1.2.mpr z; cases this)
  have hc0 := hs.2.2.1 f hf i (by omega) hc
  obtain ⟨Ut, Ut', a1, a2, a3, a4⟩ := h.2.2 f i hf hi (Or.inl hf) hc0
  obtain ⟨k1, k2⟩ := a4.1 hor
  exact ⟨a3.1.2.2.2.2 f k1, fun r hr v hv z => a3.1.2.2.2.1 f r v (k2 r v (a1.1.1 _ _ _ _ (hs.1 f hf i (by omega) r hr v hv z)))⟩
theorem fix_cls {P : sP} (hw : wP P) {U0 U : sU} (h : pinv P U0 12 0 U false) (hi : iniU P U0) : cls P (toV P U) ∧ (∀ f, f < 12 → ∀ i q, (pC P f)[i]? = some q → vC (toV P U) f i → (∀ k p, rdq P (toV P U) f i q k p → uRd U k p) ∧ (∀ k p, foq P (toV P U) f i q k p → uFo U k p) ∧ (∀ k, wrq P (toV P U) f i q k → uWr U k) ∧ (∀ k, cmq q k → uCm U k)) := by
  have hs : usm U0 U := Classical.byContradiction (fun z => by have := h.1.2.mpr z; cases this)
  have hup := h.1.1
  /- a slot's target, as a place's -/
  have hslot : ∀ g, g < 12 → ∀ j, (j < (pC P g).length ∨ j = 40) → ∀ X : Nat → Nat → Prop, uC U g (slt P g j) → (∀ r, r < 4 → ∀ v, v < 256 → X r v → uS U g (slt P g j) r v) → tgt (toV P U) g j X := by
    intro g hg j hj X hc hX
    have hl := (hw.2.2.2.1 g hg).1
    by_cases e : j < (pC P g).length
    · have es : slt P g j = j := by unfold slt; rw [if_pos e]
      rw [es] at hc hX
      exact ⟨Or.inl ⟨e, hc⟩, fun r hr v hv z => Or.inl ⟨e, hX r hr v hv z⟩⟩
    · have es : slt P g j = (pC P g).length := by unfold slt; rw [if_neg e]
      rw [es] at hc hX
      have j40 := hj.resolve_left e
      obtain ⟨k1, k2⟩ := fix_ret hw h hg (Nat.le_refl _) hc (Or.inl rfl)
      exact ⟨Or.inr ⟨j40, k1⟩, fun r hr v hv z => Or.inr ⟨j40, k2 r hr v hv (hX r hr v hv z)⟩⟩
  have hplace : ∀ f, f < 12 → ∀ x, place P f x < (pC P f).length ∨ place P f x = 40 := fun f hf x => place_ok (hw.2.2.2.1 f hf).1
  have main : ∀ f, f < 12 → ∀ i q, (pC P f)[i]? = some q → vC (toV P U) f i → okg P (toV P U) (fun _ => False) f i q ∧ (∀ k p, rdq P (toV P U) f i q k p → uRd U k p) ∧ (∀ k p, foq P (toV P U) f i q k p → uFo U k p) ∧ (∀ k, wrq P (toV P U) f i q k → uWr U k) ∧ (∀ k, cmq q k → uCm U k) := by
    intro f hf i q hq hcv
    have hv : vN q := (hw.2.2.2.1 f hf).2 q (List.mem_of_getElem? hq)
    have hl := (hw.2.2.2.1 f hf).1
    have hlt : i < (pC P f).length := (List.getElem?_eq_some_iff.mp hq).1
    have hc : uC U f i := hcv.elim (fun z => z.2) (fun z => by omega)
    by_cases h8 : q.1 = 8
    · obtain ⟨k1, k2⟩ := fix_ret hw h hf (by omega) hc (Or.inr ⟨q, hq, h8⟩)
      have hS := toV_S (U := U) hl hlt
      refine ⟨⟨fun g j X he => ?_, fun e => by omega, fun e => by omega⟩, fun k p z => ?_, fun k p z => absurd z.1 (by omega), fun k z => absurd z.1 (by omega), fun k z => absurd z.1 (by omega)⟩
      · obtain ⟨o, a, bb, cc⟩ := q
        replace h8 : o = 8 := h8
        subst h8
        obtain ⟨e1, e2, e3⟩ := he
        rw [e1, e2, e3, hS]
        exact ⟨Or.inr ⟨rfl, k1⟩, fun r hr v hv z => Or.inr ⟨rfl, k2 r hr v hv z⟩⟩
      · rcases z with z | z | z
        · exact absurd z.1 (by omega)
        · exact absurd z.1 (by omega)
        · exact absurd z.1 (by omega)
    · have hc0 := hs.2.2.1 f hf i (by omega) hc
      obtain ⟨Ut, Ut', a1, a2, a3, a4⟩ := h.2.2 f i hf (by omega) (Or.inl hf) hc0
      obtain ⟨b1, b2, b3, b4, b5, b6, b7⟩ := a4.2 q hq h8
      have hSt : ∀ r, r < 4 → ∀ v, v < 256 → vS (toV P U) f i r v → vS (toV P Ut) f i r v := by
        intro r hr v hv2 z
        rw [toV_S hl hlt] at z ⊢
        exact a1.1.1 _ _ _ _ (hs.1 f hf i (by omega) r hr v hv2 z)
      have hYt : ∀ k, k < 24 → ∀ p, p < 64 → ∀ v, v < 256 → uY U k p v → uY Ut k p v := fun k hk p hp v hv2 z => a1.1.2.1 _ _ _ (hs.2.1 k hk p hp v hv2 z)
      refine ⟨⟨fun g j X he => ?_, fun e hR => Or.inr ?_, fun e p hp z1 v hv2 z2 => ?_⟩, fun k p z => a3.2.1 k p (b4 k p (rdq_mono hw hv hSt z)), fun k p z => ?_, fun k z => a3.2.2.2.1 k (b6 k (wrq_mono hw hv hSt z)), fun k z => a3.2.2.2.2 k (b7 k z)⟩
      · obtain ⟨X', he', hX⟩ := eg_mono (W := toV P Ut) hw hv hSt (fun e p hp v hv2 z => by
          obtain ⟨o, a, bb, cc⟩ := q
          replace e : o = 3 := e
          subst e
          obtain ⟨k', hk', x1, ek⟩ := vT_n hv.2.1
          have hk24 : ix bb < 24 := by rw [ek]; exact hk'
          have := (hw.1 _ hk24).1
          exact hYt (ix bb) hk24 p (by have : p < pS P (ix bb) := hp; omega) v hv2 z) (fun e t ht h0 v hv2 z => hYt t ht 0 (by omega) v hv2 z) he
        have hg := eg_g hf hv he
        obtain ⟨t1, t2⟩ := b1 g j X' he'
        exact hslot g hg j (eg_j hw hf hv he) X (a3.1.2.2.1 _ _ t1) (fun r hr v hv2 z => a3.1.1 _ _ _ _ (t2 r v (hX r hr v hv2 z)))
      · have h12 : ix q.2.1 < 12 := by
          obtain ⟨o, a, bb, cc⟩ := q
          replace e : o = 5 := e
          subst e
          obtain ⟨k', hk', x1, ek⟩ := vF_n hv.1
          show ix a < 12
          rw [ek]; exact hk'
        have hlg := (hw.2.2.2.1 _ h12).1
        have hRU : uR U (ix q.2.1) := hR.elim (fun z => by have := z.1; omega) (fun z => z.2)
        obtain ⟨t1, t2⟩ := b2 e (a1.1.2.2.2.2 _ (hs.2.2.2.2 _ h12 hRU))
        refine hslot f hf _ (hplace f hf _) _ (a3.1.2.2.1 _ _ t1) (fun r hr v hv2 z => a3.1.1 _ _ _ _ (t2 r v ?_))
        rw [toV_E hlg] at z
        exact a1.1.2.2.2.1 _ _ _ (hs.2.2.2.1 _ h12 r hr v hv2 z)
      · have ha : ix q.2.2.1 < 4 ∧ ix q.2.2.2 < 4 ∧ pS P (ix q.2.1) ≤ 64 := by
          obtain ⟨o, a, bb, cc⟩ := q
          replace e : o = 4 := e
          subst e
          obtain ⟨k', hk', x1, ek⟩ := vT_n hv.1
          obtain ⟨rb, hrb, x2, erb⟩ := vR_n hv.2.1
          obtain ⟨rc, hrc, x3, erc⟩ := vR_n hv.2.2
          exact ⟨by show ix bb < 4; rw [erb]; exact hrb, by show ix cc < 4; rw [erc]; exact hrc, (hw.1 (ix a) (by rw [ek]; exact hk')).1⟩
        have y1 := hSt _ ha.1 p (by omega) z1
        have y2 := hSt _ ha.2.1 v hv2 z2
        rw [toV_S hl hlt] at y1 y2
        exact a3.1.2.1 _ _ _ (b3 e p hp y1 v y2)
      · refine a3.2.2.1 k p (b5 k p ⟨z.1, z.2.1, z.2.2.1, hSt _ ?_ p (by have := z.2.2.1; omega) z.2.2.2.1, z.2.2.2.2⟩)
        obtain ⟨o, a, bb, cc⟩ := q
        have e : o = 11 := z.1
        subst e
        obtain ⟨rc, hrc, x3, erc⟩ := vR_n hv.2.2
        show ix cc < 4
        rw [erc]; exact hrc
  refine ⟨⟨⟨fun f hf he => ?_, fun k hk p hp => hup.1.2.1 _ _ _ (hi.2 k hk p hp)⟩, fun f hf i q hq hc => (main f hf i q hq hc).1⟩, fun f hf i q hq hc => (main f hf i q hq hc).2⟩
  obtain ⟨t1, t2⟩ := hi.1 f hf he
  have hl := (hw.2.2.2.1 f hf).1
  refine hslot f hf _ (hplace f hf 0) _ ?_ ?_
  · rw [slt_place hl]
    exact hup.1.2.2.1 _ _ t1
  · intro r hr v hv z
    have z' : v = 0 := z
    rw [slt_place hl, z']
    exact hup.1.1 _ _ _ _ (t2 r hr)
