/-! an instruction taken on keeps the invariant -/
/-- the auxiliary values lie within a closed value -/
theorem sub_aux {P : sP} {V V' Z : sV} (h : sub P V Z) (e : (vS V', vY V', vC V') = (vS V, vY V, vC V)) (h1 : ∀ k p, vRd V' k p → vRd V k p ∨ gxs P Z (fun f i q => rdq P Z f i q k p)) (h2 : ∀ k, vWr V' k → vWr V k ∨ gxs P Z (fun f i q => wrq P Z f i q k)) (h3 : ∀ k, vCm V' k → vCm V k ∨ gxs P Z (fun _ _ q => cmq q k)) (h4 : ∀ x y, vLk V' x y → vLk V x y ∨ gxs P Z (fun f i q => lkq P Z f i q x y)) : sub P V' Z := by
  obtain ⟨e1, e2, e3⟩ := by simpa only [Prod.mk.injEq] using e
  obtain ⟨a1, a2, a3, a4, a5, a6, a7⟩ := h
  refine ⟨?_, ?_, ?_, fun k p z => (h1 k p z).elim (a4 k p) id, fun k z => (h2 k z).elim (a5 k) id, fun k z => (h3 k z).elim (a6 k) id, fun x y z => (h4 x y z).elim (a7 x y) id⟩
  · rw [e3]; exact a1
  · rw [e1]; exact a2
  · rw [e2]; exact a3
theorem bas_aux {P : sP} {V V' : sV} (hb : bas P V) (h : (vS V', vY V', vC V', vW V') = (vS V, vY V, vC V, vW V)) : bas P V' := by
  obtain ⟨e1, e2, e3, e4⟩ := by simpa only [Prod.mk.injEq] using h
  unfold bas
  rw [e1, e2, e3, e4]
  exact hb
theorem bas_store {P : sP} {V : sV} (hb : bas P V) {k : Nat} {pl Z : Nat → Prop} : bas P (vStore P V k pl Z) := by
  obtain ⟨b1, b2, b3, b4, b5⟩ := hb
  refine ⟨b1, fun f i z => ?_, b3, b4, fun k hk p hp => ?_⟩
  · rcases z with z | z
    · exact b2 f i z
    · exact z.2.2
  · obtain ⟨v, hv, z⟩ := b5 k hk p hp
    exact ⟨v, hv, Or.inl z⟩
def tkgood (P : sP) (V : sV) (f i : Nat) (q : Nat × Int32 × Int32 × Int32) (V' : sV) : Prop := ppc P V V' ∧ bas P V' ∧ (∀ Z, cls P Z → sub P V Z → sub P V' Z) ∧ (¬ vW V' f i → okg P V' (fun g => vW V' g 40) f i q ∧ okx P V' f i q)
/-- one edge, after work on what isn't a state -/
theorem good1 {P : sP} (hw : wP P) {V V1 : sV} {f i : Nat} {q : Nat × Int32 × Int32 × Int32} (hb : bas P V) (hf : f < 12) (hq : (pC P f)[i]? = some q) (hc : vC V f i) (hp : ppc P V V1) (hb1 : bas P V1) (hs1 : ∀ Z, cls P Z → sub P V Z → sub P V1 Z) {g j : Nat} {X : Nat → Nat → Prop} (he : eg P V f i q g j X) (hu : ∀ g' j' X', eg P V f i q g' j' X' → g' = g ∧ j' = j ∧ X' = X) (h5 : ¬ q.1 = 5) (h3 : q.1 = 4 → ∀ p, p < pS P (ix q.2.1) → vS V f i (ix q.2.2.1) p → ∀ v, v < 256 → vS V f i (ix q.2.2.2) v → vY V1 (ix q.2.1) p v) (h4 : (∀ k p, rdq P V f i q k p → vRd V1 k p) ∧ (∀ k, wrq P V f i q k → vWr V1 k) ∧ (∀ k, cmq q k → vCm V1 k) ∧ (∀ x y, lkq P V f i q x y → vLk V1 x y)) : tkgood P V f i q (vAdd V1 g j X) := by
  have hv : vN q := (hw.2.2.2.1 f hf).2 q (List.mem_of_getElem? hq)
  have hl40 := (hw.2.2.2.1 f hf).1
  have hlt : i < (pC P f).length := (List.getElem?_eq_some_iff.mp hq).1
  obtain ⟨hg, hj, hX⟩ := eg_ok hw hb hf hv hc he
  have hlg := (hw.2.2.2.1 g hg).1
  have hpp : ppc P V (vAdd V1 g j X) := hp.tr ppc_add
  refine ⟨hpp, bas_add hw hb1 hg hj hX, fun Z hz hs => sub_add (hs1 Z hz hs) (sub_eg hw hs hz hf (by omega) hq hc he), fun hn => ?_⟩
  refine okg_of hw hpp hq hv hc hn (fun g' j' X' he' => ?_) (fun e => absurd e h5) h3 h4
  obtain ⟨rfl, rfl, rfl⟩ := hu g' j' X' he'
  exact tgt_add (P := P) (j := j') hb1 hg (by omega) hX
/-- no edge: nothing is done -/
theorem good0 {P : sP} (hw : wP P) {V : sV} {f i : Nat} {q : Nat × Int32 × Int32 × Int32} (hb : bas P V) (hf : f < 12) (hq : (pC P f)[i]? = some q) (hc : vC V f i) (hu : ∀ g' j' X', ¬ eg P V f i q g' j' X') (h5 : ¬ q.1 = 5) (h3 : q.1 = 4 → ∀ p, p < pS P (ix q.2.1) → vS V f i (ix q.2.2.1) p → ∀ v, v < 256 → vS V f i (ix q.2.2.2) v → vY V (ix q.2.1) p v) (h4 : (∀ k p, rdq P V f i q k p → vRd V k p) ∧ (∀ k, wrq P V f i q k → vWr V k) ∧ (∀ k, cmq q k → vCm V k) ∧ (∀ x y, lkq P V f i q x y → vLk V x y)) : tkgood P V f i q V := by
  have hv : vN q := (hw.2.2.2.1 f hf).2 q (List.mem_of_getElem? hq)
  refine ⟨ppc_rf, hb, fun Z _ hs => hs, fun hn => ?_⟩
  exact okg_of hw ppc_rf hq hv hc hn (fun g' j' X' he' => absurd he' (hu g' j' X')) (fun e => absurd e h5) h3 h4
/-- no auxiliary value is due -/
theorem noaux {P : sP} {V V1 : sV} {f i : Nat} {q : Nat × Int32 × Int32 × Int32} (h : ¬ q.1 = 3 ∧ ¬ q.1 = 4 ∧ ¬ q.1 = 5 ∧ ¬ q.1 = 10 ∧ ¬ q.1 = 11) : (∀ k p, rdq P V f i q k p → vRd V1 k p) ∧ (∀ k, wrq P V f i q k → vWr V1 k) ∧ (∀ k, cmq q k → vCm V1 k) ∧ (∀ x y, lkq P V f i q x y → vLk V1 x y) := by
  obtain ⟨h3, h4, h5, h10, h11⟩ := h
  refine ⟨fun k p z => ?_, fun k z => absurd z.1 h4, fun k z => absurd z.1 h10, fun x y z => ?_⟩
  · rcases z with z | z | z
    · exact absurd z.1 h3
    · exact absurd z.1 h11
    · exact absurd z.1 h11
  · rcases z with z | z | z | z
    · exact absurd z.1 h5
    · exact absurd z.1 h3
    · exact absurd z.1 h11
    · exact absurd z.1 h11
theorem gx_in {P : sP} {V Z : sV} (h : sub P V Z) {f i : Nat} {q : Nat × Int32 × Int32 × Int32} (hf : f < 12) (hq : (pC P f)[i]? = some q) (hc : vC V f i) {R : Nat → Nat → (Nat × Int32 × Int32 × Int32) → Prop} (hR : R f i q) : gxs P Z R := ⟨f, i, q, hf, hq, h.1 f i hc, hR⟩
theorem tkq_ok {P : sP} (hw : wP P) {V V' : sV} {f i : Nat} {q : Nat × Int32 × Int32 × Int32} (hb : bas P V) (hf : f < 12) (hq : (pC P f)[i]? = some q) (hc : vC V f i) (ht : tkq P V f i q V') : tkgood P V f i q V' := by
  have hv : vN q := (hw.2.2.2.1 f hf).2 q (List.mem_of_getElem? hq)
  have hl40 := (hw.2.2.2.1 f hf).1
  have hlt : i < (pC P f).length := (List.getElem?_eq_some_iff.mp hq).1
  have hq12 := vN_le hv
  have hSZ : ∀ Z, sub P V Z → ∀ r, r < 4 → ∀ v, v < 256 → vS V f i r v → vS Z f i r v := fun Z hs r hr v hv z => hs.2.1 f hf i (by omega) r hr v hv z
  obtain ⟨o, a, b, c⟩ := q
  replace hq12 : o < 12 := hq12
  match o, hq12, hv, hq, ht with
  | 0, _, hv, hq, ht =>
    replace ht : V' = vAdd V f (place P f (nI i + 1)) (rs (vS V f i) (ix a) (fun v => v = ix b)) := ht
    subst ht
    exact good1 hw hb hf hq hc ppc_rf hb (fun _ _ z => z) ⟨rfl, rfl, rfl⟩ (fun _ _ _ z => z) (by simp) (fun e => by cases e) (noaux (by simp))
  | 1, _, hv, hq, ht =>
    cases ht
    exact good1 hw hb hf hq hc ppc_rf hb (fun _ _ z => z) ⟨rfl, rfl, rfl⟩ (fun _ _ _ z => z) (by simp) (fun e => by cases e) (noaux (by simp))
  | 2, _, hv, hq, ht =>
    cases ht
    exact good1 hw hb hf hq hc ppc_rf hb (fun _ _ z => z) ⟨rfl, rfl, rfl⟩ (fun _ _ _ z => z) (by simp) (fun e => by cases e) (noaux (by simp))
  | 7, _, hv, hq, ht =>
    cases ht
    exact good1 hw hb hf hq hc ppc_rf hb (fun _ _ z => z) ⟨rfl, rfl, rfl⟩ (fun _ _ _ z => z) (by simp) (fun e => by cases e) (noaux (by simp))
  | 8, _, hv, hq, ht =>
    cases ht
    exact good1 hw hb hf hq hc ppc_rf hb (fun _ _ z => z) ⟨rfl, rfl, rfl⟩ (fun _ _ _ z => z) (by simp) (fun e => by cases e) (noaux (by simp))
  | 9, _, hv, hq, ht =>
    cases ht
    exact good1 hw hb hf hq hc ppc_rf hb (fun _ _ z => z) ⟨rfl, rfl, rfl⟩ (fun _ _ _ z => z) (by simp) (fun e => by cases e) (noaux (by simp))
  | 10, _, hv, hq, ht =>
    cases ht
    refine good1 hw hb hf hq hc ppc_comp (bas_aux hb rfl) (fun Z _ hs => sub_aux hs rfl (fun _ _ => Or.inl) (fun _ => Or.inl) (fun k z => ?_) (fun _ _ => Or.inl)) ⟨rfl, rfl, rfl⟩ (fun _ _ _ z => z) (by simp) (fun e => by cases e) ⟨fun k p z => ?_, fun k z => absurd z.1 (by simp), fun k z => Or.inr z.2, fun x y z => ?_⟩
    · rcases z with z | z
      · exact Or.inl z
      · exact Or.inr (gx_in hs hf hq hc ⟨rfl, z⟩)
    · rcases z with z | z | z
      · exact absurd z.1 (by simp)
      · exact absurd z.1 (by simp)
      · exact absurd z.1 (by simp)
    · rcases z with z | z | z | z
      · exact absurd z.1 (by simp)
      · exact absurd z.1 (by simp)
      · exact absurd z.1 (by simp)
      · exact absurd z.1 (by simp)
  | 3, _, hv, hq, ht =>
    rcases ht with ⟨hne, ht⟩ | ⟨hex, ht⟩
    · subst ht
      refine good0 hw hb hf hq hc (fun g j X z => hne z.1) (by simp) (fun e => by cases e) ⟨fun k p z => ?_, fun k z => absurd z.1 (by simp), fun k z => absurd z.1 (by simp), fun x y z => ?_⟩
      · rcases z with ⟨_, rfl, z2, z3⟩ | z | z
        · exact absurd ⟨p, z2, z3⟩ hne
        · exact absurd z.1 (by simp)
        · exact absurd z.1 (by simp)
      · rcases z with z | ⟨_, _, _, z⟩ | z | z
        · exact absurd z.1 (by simp)
        · exact absurd z hne
        · exact absurd z.1 (by simp)
        · exact absurd z.1 (by simp)
    · subst ht
      refine good1 hw hb hf hq hc ppc_load (bas_aux hb rfl) (fun Z _ hs => sub_aux hs rfl (fun k p z => ?_) (fun _ => Or.inl) (fun _ => Or.inl) (fun x y z => ?_)) ⟨hex, rfl, rfl, rfl⟩ (fun _ _ _ z => z.2) (by simp) (fun e => by cases e) ⟨fun k p z => ?_, fun k z => absurd z.1 (by simp), fun k z => absurd z.1 (by simp), fun x y z => ?_⟩
      · rcases z with z | ⟨rfl, z⟩
        · exact Or.inl z
        · exact Or.inr (gx_in hs hf hq hc (rdq_mono hw hv (hSZ Z hs) (Or.inl ⟨rfl, rfl, z⟩)))
      · rcases z with z | ⟨rfl, rfl⟩
        · exact Or.inl z
        · exact Or.inr (gx_in hs hf hq hc (lkq_mono hw hv (hSZ Z hs) (Or.inr (Or.inl ⟨rfl, rfl, rfl, hex⟩))))
      · rcases z with ⟨_, rfl, z⟩ | z | z
        · exact Or.inr ⟨rfl, z⟩
        · exact absurd z.1 (by simp)
        · exact absurd z.1 (by simp)
      · rcases z with z | ⟨_, z1, z2, _⟩ | z | z
        · exact absurd z.1 (by simp)
        · exact Or.inr ⟨z1, z2⟩
        · exact absurd z.1 (by simp)
        · exact absurd z.1 (by simp)
  | 4, _, hv, hq, ht =>
    rcases ht with ⟨hne, ht⟩ | ⟨hex, ht⟩
    · subst ht
      refine good0 hw hb hf hq hc (fun g j X z => hne z.1) (by simp) (fun _ p hp z1 => absurd ⟨p, hp, z1⟩ hne) ⟨fun k p z => ?_, fun k z => ?_, fun k z => absurd z.1 (by simp), fun x y z => ?_⟩
      · rcases z with z | z | z
        · exact absurd z.1 (by simp)
        · exact absurd z.1 (by simp)
        · exact absurd z.1 (by simp)
      · obtain ⟨_, rfl, z⟩ := z
        exact absurd z hne
      · rcases z with z | z | z | z
        · exact absurd z.1 (by simp)
        · exact absurd z.1 (by simp)
        · exact absurd z.1 (by simp)
        · exact absurd z.1 (by simp)
    · subst ht
      obtain ⟨k0, hk0, x0, ek0⟩ := vT_n hv.1
      have hk24 : ix a < 24 := by rw [ek0]; exact hk0
      refine good1 hw hb hf hq hc ppc_store (bas_store hb) (fun Z hz hs => ?_) ⟨hex, rfl, rfl, rfl⟩ (fun _ _ _ z => z.2) (by simp) (fun _ p hp z1 v hv2 z2 => Or.inr ⟨rfl, ⟨hp, z1⟩, z2⟩) ⟨fun k p z => ?_, fun k z => Or.inr z.2.1, fun k z => absurd z.1 (by simp), fun x y z => ?_⟩
      · obtain ⟨a1, a2, a3, a4, a5, a6, a7⟩ := id hs
        refine ⟨a1, a2, fun k hk p hp v hv2 z => ?_, a4, fun k z => ?_, a6, a7⟩
        · rcases z with z | ⟨rfl, z1, z2⟩
          · exact a3 k hk p hp v hv2 z
          · obtain ⟨rb, hrb, x2, erb⟩ := vR_n hv.2.1
            obtain ⟨rc, hrc, x3, erc⟩ := vR_n hv.2.2
            have h64 := (hw.1 _ hk).1
            exact (hz.2 f hf i _ hq (a1 f i hc)).2.2 rfl p z1.1 (hSZ Z hs _ (by show ix b < 4; rw [erb]; exact hrb) p (by have : p < pS P (ix a) := z1.1; omega) z1.2) v hv2 (hSZ Z hs _ (by show ix c < 4; rw [erc]; exact hrc) v hv2 z2)
        · rcases z with z | rfl
          · exact a5 k z
          · exact gx_in hs hf hq hc (wrq_mono hw hv (hSZ Z hs) ⟨rfl, rfl, hex⟩)
      · rcases z with z | z | z
        · exact absurd z.1 (by simp)
        · exact absurd z.1 (by simp)
        · exact absurd z.1 (by simp)
      · rcases z with z | z | z | z
        · exact absurd z.1 (by simp)
        · exact absurd z.1 (by simp)
        · exact absurd z.1 (by simp)
        · exact absurd z.1 (by simp)
  | 11, _, hv, hq, ht =>
    rcases ht with ⟨hne, ht⟩ | ⟨hex, ht⟩
    · subst ht
      refine good0 hw hb hf hq hc (fun g j X z => hne z.1) (by simp) (fun e => by cases e) ⟨fun k p z => ?_, fun k z => absurd z.1 (by simp), fun k z => absurd z.1 (by simp), fun x y z => ?_⟩
      · rcases z with z | ⟨_, rfl, z⟩ | ⟨_, _, p', z1, z2, z3⟩
        · exact absurd z.1 (by simp)
        · exact absurd ⟨p, z⟩ hne
        · exact absurd ⟨p', z1, z2, Option.isSome_iff_exists.mpr ⟨_, z3⟩⟩ hne
      · rcases z with z | z | ⟨_, _, _, z⟩ | ⟨_, _, p', t, z1, z2, z3, _⟩
        · exact absurd z.1 (by simp)
        · exact absurd z.1 (by simp)
        · exact absurd z hne
        · exact absurd ⟨p', z1, z2, Option.isSome_iff_exists.mpr ⟨_, z3⟩⟩ hne
    · subst ht
      refine good1 hw hb hf hq hc ppc_follow (bas_aux hb rfl) (fun Z _ hs => sub_aux hs rfl (fun k p z => ?_) (fun _ => Or.inl) (fun _ => Or.inl) (fun x y z => ?_)) ⟨hex, rfl, rfl, rfl⟩ (fun _ _ _ z => z.2) (by simp) (fun e => by cases e) ⟨fun k p z => ?_, fun k z => absurd z.1 (by simp), fun k z => absurd z.1 (by simp), fun x y z => ?_⟩
      · rcases z with z | ⟨rfl, z⟩ | ⟨z, p', z1, z2⟩
        · exact Or.inl z
        · exact Or.inr (gx_in hs hf hq hc (rdq_mono hw hv (hSZ Z hs) (Or.inr (Or.inl ⟨rfl, rfl, z⟩))))
        · exact Or.inr (gx_in hs hf hq hc (rdq_mono hw hv (hSZ Z hs) (Or.inr (Or.inr ⟨rfl, z, p', z1.1, z1.2.1, z2⟩))))
      · rcases z with z | ⟨rfl, rfl⟩ | ⟨rfl, p', z1, t, z2, rfl⟩
        · exact Or.inl z
        · exact Or.inr (gx_in hs hf hq hc (lkq_mono hw hv (hSZ Z hs) (Or.inr (Or.inr (Or.inl ⟨rfl, rfl, rfl, hex⟩)))))
        · exact Or.inr (gx_in hs hf hq hc (lkq_mono hw hv (hSZ Z hs) (Or.inr (Or.inr (Or.inr ⟨rfl, rfl, p', t, z1.1, z1.2.1, z2, rfl⟩)))))
      · rcases z with z | ⟨_, rfl, z⟩ | ⟨_, z, p', z1, z2, z3⟩
        · exact absurd z.1 (by simp)
        · exact Or.inr (Or.inl ⟨rfl, z⟩)
        · exact Or.inr (Or.inr ⟨z, p', ⟨z1, z2, Option.isSome_iff_exists.mpr ⟨_, z3⟩⟩, z3⟩)
      · rcases z with z | z | ⟨_, z1, z2, _⟩ | ⟨_, z0, p', t, z1, z2, z3, z4⟩
        · exact absurd z.1 (by simp)
        · exact absurd z.1 (by simp)
        · exact Or.inr (Or.inl ⟨z1, z2⟩)
        · exact Or.inr (Or.inr ⟨z0, p', ⟨z1, z2, Option.isSome_iff_exists.mpr ⟨_, z3⟩⟩, t, z3, z4⟩)
  | 5, _, hv, hq, ht =>
    obtain ⟨V1, e1, ht⟩ := ht
    replace e1 : V1 = vAdd (vLnk V f (ix a)) (ix a) (place P (ix a) 0) (vS V f i) := e1
    replace ht : (vC V1 (ix a) 40 ∧ V' = vAdd V1 f (place P f (nI i + 1)) (vS V1 (ix a) 40)) ∨ (¬ vC V1 (ix a) 40 ∧ V' = V1) := ht
    obtain ⟨g0, hg0, x0, eg0⟩ := vF_n hv.1
    have h12 : ix a < 12 := by rw [eg0]; exact hg0
    have he : eg P V f i (5, a, b, c) (ix a) (place P (ix a) 0) (vS V f i) := ⟨rfl, rfl, rfl⟩
    obtain ⟨hg, hj, hX⟩ := eg_ok hw hb hf hv hc he
    have hlg := (hw.2.2.2.1 (ix a) h12).1
    have hb0 : bas P (vLnk V f (ix a)) := bas_aux hb rfl
    have hp1 : ppc P V V1 := by rw [e1]; exact ppc_lnk.tr ppc_add
    have hb1 : bas P V1 := by rw [e1]; exact bas_add hw hb0 h12 hj hX
    have ht1 : tgt V1 (ix a) (place P (ix a) 0) (vS V f i) := by rw [e1]; exact tgt_add hb0 h12 (place_lt hw h12 0) hX
    have hs1 : ∀ Z, cls P Z → sub P V Z → sub P V1 Z := by
      intro Z hz hs
      rw [e1]
      refine sub_add (V := vLnk V f (ix a)) (sub_aux hs rfl (fun _ _ => Or.inl) (fun _ => Or.inl) (fun _ => Or.inl) (fun x y z => ?_)) (sub_eg hw hs hz hf (by omega) hq hc he)
      rcases z with z | z
      · exact Or.inl z
      · exact Or.inr (gx_in hs hf hq hc (Or.inl ⟨rfl, z⟩))
    have hx1 : (∀ k p, rdq P V f i (5, a, b, c) k p → vRd V1 k p) ∧ (∀ k, wrq P V f i (5, a, b, c) k → vWr V1 k) ∧ (∀ k, cmq (5, a, b, c) k → vCm V1 k) ∧ (∀ x y, lkq P V f i (5, a, b, c) x y → vLk V1 x y) := by
      refine ⟨fun k p z => ?_, fun k z => absurd z.1 (by simp), fun k z => absurd z.1 (by simp), fun x y z => ?_⟩
      · rcases z with z | z | z
        · exact absurd z.1 (by simp)
        · exact absurd z.1 (by simp)
        · exact absurd z.1 (by simp)
      · rcases z with z | z | z | z
        · rw [e1]; exact Or.inr z.2
        · exact absurd z.1 (by simp)
        · exact absurd z.1 (by simp)
        · exact absurd z.1 (by simp)
    rcases ht with ⟨hce, ht⟩ | ⟨hce, ht⟩
    · have hX2 := hb1.2.2.2.1 (ix a) 40 hce
      have hp2 : ppc P V1 V' := by rw [ht]; exact ppc_add
      have ht2 : tgt V' f (place P f (nI i + 1)) (vS V1 (ix a) 40) := by
        have := place_lt hw hf (nI i + 1)
        rw [ht]; exact tgt_add hb1 hf this hX2
      refine ⟨hp1.tr hp2, by rw [ht]; exact bas_add hw hb1 hf (place_ok hl40) hX2, fun Z hz hs => ?_, fun hn => ?_⟩
      · have hs' := hs1 Z hz hs
        rw [ht]
        refine sub_add hs' ?_
        have h3 := (hz.2 f hf i _ hq (hs.1 f i hc)).2.1 rfl (hs'.1 _ _ hce)
        have h4 := h3.resolve_left id
        exact ⟨h4.1, fun r hr v hv2 z => h4.2 r hr v hv2 (hs'.2.1 _ h12 40 (by omega) r hr v hv2 z)⟩
      · refine okg_of hw (hp1.tr hp2) hq hv hc hn (fun g' j' X' he' => ?_) (fun _ z => ?_) (fun e => by cases e) ⟨fun k p z => hp2.2.1.1 k p (hx1.1 k p z), fun k z => hp2.2.1.2.1 k (hx1.2.1 k z), fun k z => hp2.2.1.2.2.1 k (hx1.2.2.1 k z), fun x y z => hp2.2.1.2.2.2 x y (hx1.2.2.2 x y z)⟩
        · obtain ⟨rfl, rfl, rfl⟩ := he'
          exact tgt_mono hp2 (fun _ _ _ _ z => z) ht1
        · by_cases hw2 : vW V' (ix a) 40
          · exact Or.inl hw2
          · exact Or.inr ⟨ht2.1, fun r hr v hv2 z3 => ht2.2 r hr v hv2 ((hp2.2.2.1 _ _ r hr v hv2 z3).resolve_right hw2)⟩
    · subst ht
      refine ⟨hp1, hb1, hs1, fun hn => ?_⟩
      refine okg_of hw hp1 hq hv hc hn (fun g' j' X' he' => ?_) (fun _ z => absurd z hce) (fun e => by cases e) hx1
      obtain ⟨rfl, rfl, rfl⟩ := he'
      exact ht1
  | 6, _, hv, hq, ht =>
    obtain ⟨V1, h1, h2⟩ := ht
    replace h1 : (vS V f i (ix a) 0 ∧ V1 = vAdd V f (place P f (nI i + b + 1)) (rs (vS V f i) (ix a) (fun v => v = 0))) ∨ (¬ vS V f i (ix a) 0 ∧ V1 = V) := h1
    replace h2 : ((∃ v, v < 256 ∧ ¬ v = 0 ∧ vS V1 f i (ix a) v) ∧ V' = vAdd V1 f (place P f (nI i + 1)) (rs (vS V1 f i) (ix a) (fun v => ¬ v = 0 ∧ vS V1 f i (ix a) v))) ∨ ((¬ ∃ v, v < 256 ∧ ¬ v = 0 ∧ vS V1 f i (ix a) v) ∧ V' = V1) := h2
    obtain ⟨ra, hra, x1, era⟩ := vR_n hv.1
    have h4 : ix a < 4 := by rw [era]; exact hra
    have hfst : ppc P V V1 ∧ bas P V1 ∧ (∀ Z, cls P Z → sub P V Z → sub P V1 Z) ∧ (vS V f i (ix a) 0 → tgt V1 f (place P f (nI i + b + 1)) (rs (vS V f i) (ix a) (fun v => v = 0))) := by
      rcases h1 with ⟨h0, e1⟩ | ⟨h0, e1⟩
      · have he : eg P V f i (6, a, b, c) f (place P f (nI i + b + 1)) (rs (vS V f i) (ix a) (fun v => v = 0)) := Or.inl ⟨h0, rfl, rfl, rfl⟩
        obtain ⟨hg, hj, hX⟩ := eg_ok hw hb hf hv hc he
        subst e1
        exact ⟨ppc_add, bas_add hw hb hf hj hX, fun Z hz hs => sub_add hs (sub_eg hw hs hz hf (by omega) hq hc he), fun _ => tgt_add hb hf (place_lt hw hf _) hX⟩
      · subst e1
        exact ⟨ppc_rf, hb, fun _ _ z => z, fun z => absurd z h0⟩
    obtain ⟨hp1, hb1, hs1, ht1⟩ := hfst
    have hc1 : vC V1 f i := hp1.1.1 f i hc
    have hscd : ppc P V1 V' ∧ bas P V' ∧ (∀ Z, cls P Z → sub P V1 Z → sub P V' Z) ∧ ((∃ v, v < 256 ∧ ¬ v = 0 ∧ vS V1 f i (ix a) v) → tgt V' f (place P f (nI i + 1)) (rs (vS V1 f i) (ix a) (fun v => ¬ v = 0 ∧ vS V1 f i (ix a) v))) := by
      rcases h2 with ⟨h0, e1⟩ | ⟨h0, e1⟩
      · have he : eg P V1 f i (6, a, b, c) f (place P f (nI i + 1)) (rs (vS V1 f i) (ix a) (fun v => ¬ v = 0 ∧ vS V1 f i (ix a) v)) := Or.inr ⟨h0, rfl, rfl, rfl⟩
        obtain ⟨hg, hj, hX⟩ := eg_ok hw hb1 hf hv hc1 he
        subst e1
        exact ⟨ppc_add, bas_add hw hb1 hf hj hX, fun Z hz hs => sub_add hs (sub_eg hw hs hz hf (by omega) hq hc1 he), fun _ => tgt_add hb1 hf (place_lt hw hf _) hX⟩
      · subst e1
        exact ⟨ppc_rf, hb1, fun _ _ z => z, fun z => absurd z h0⟩
    obtain ⟨hp2, hb2, hs2, ht2⟩ := hscd
    refine ⟨hp1.tr hp2, hb2, fun Z hz hs => hs2 Z hz (hs1 Z hz hs), fun hn => ?_⟩
    refine okg_of hw (hp1.tr hp2) hq hv hc hn (fun g' j' X' he' => ?_) (fun e => by cases e) (fun e => by cases e) (noaux (by simp))
    rcases he' with ⟨h0, y1, y2, y3⟩ | ⟨⟨v, z1, z2, z3⟩, y1, y2, y3⟩
    · rw [y1, y2, y3]
      exact tgt_mono hp2 (fun _ _ _ _ z => z) (ht1 h0)
    · rw [y1, y2, y3]
      have ht3 := ht2 ⟨v, z1, z2, hp1.1.2.1 _ _ _ _ z3⟩
      exact ⟨ht3.1, fun r hr v hv2 z => ht3.2 r hr v hv2 (rs_mono (fun r _ v _ => hp1.1.2.1 f i r v) (fun v _ z => ⟨z.1, hp1.1.2.1 _ _ _ _ z.2⟩) r hr v hv2 z)⟩
  | o + 12, hq, _, _, _ => omega
