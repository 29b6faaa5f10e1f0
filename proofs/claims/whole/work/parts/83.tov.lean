/-! the reference's reach as a value like the class's -/
def slt (P : sP) (f j : Nat) : Nat := if j < (pC P f).length then j else (pC P f).length
def pos (P : sP) (f i : Nat) : Nat := if i < (pC P f).length then i else 40
theorem place_in {P : sP} {f n : Nat} (hl : (pC P f).length ≤ 40) (hn : n < (pC P f).length) : place P f (nI n) = n := by
  unfold place
  rw [if_neg (fun z => z.elim (fun z => nI_pos (by omega) z) (fun z => z (nI_lt hn (by omega)))), ix_nI (by omega)]
theorem place_out {P : sP} {f : Nat} {x : Int32} (h : x < 0 ∨ ¬ x < nI (pC P f).length) : place P f x = 40 := by
  unfold place
  rw [if_pos h]
theorem at_place {P : sP} {f : Nat} (hl : (pC P f).length ≤ 40) (x : Int32) : (atU P f x = place P f x ∧ place P f x < (pC P f).length) ∨ (atU P f x = (pC P f).length ∧ place P f x = 40) := by
  by_cases h : x < 0 ∨ nI (pC P f).length < x
  · refine Or.inr ⟨?_, place_out ?_⟩
    · unfold atU
      rw [if_pos h]
    · rcases h with h | h
      · exact Or.inl h
      · exact Or.inr (fun z => Int32.lt_irrefl (Int32.lt_trans h z))
  · obtain ⟨k, hk, e⟩ := atU_in hl h
    have hat : atU P f x = k := by
      unfold atU
      rw [if_neg h, e, ix_nI (by omega)]
    by_cases hkl : k < (pC P f).length
    · rw [hat, e, place_in hl hkl]
      exact Or.inl ⟨rfl, hkl⟩
    · refine Or.inr ⟨by rw [hat]; omega, place_out (Or.inr (fun z => ?_))⟩
      rw [e, nI_ltI (by omega) (by omega)] at z
      exact hkl z
theorem slt_place {P : sP} {f : Nat} (hl : (pC P f).length ≤ 40) (x : Int32) : slt P f (place P f x) = atU P f x := by
  unfold slt
  rcases at_place hl x with ⟨h1, h2⟩ | ⟨h1, h2⟩
  · rw [if_pos h2, h1]
  · rw [if_neg (by omega), h1]
theorem pos_at {P : sP} {f : Nat} (hl : (pC P f).length ≤ 40) (x : Int32) : pos P f (atU P f x) = place P f x := by
  unfold pos
  rcases at_place hl x with ⟨h1, h2⟩ | ⟨h1, h2⟩
  · rw [h1, if_pos h2]
  · rw [h1, if_neg (by omega), h2]
def toV (P : sP) (U : sU) : sV := (fun f i r v => (i < (pC P f).length ∧ uS U f i r v) ∨ (i = 40 ∧ uB U f r v), uY U, fun f i => (i < (pC P f).length ∧ uC U f i) ∨ (i = 40 ∧ uR U f), fun _ _ => False, uRd U, uWr U, uCm U, fun _ _ => False)
theorem toV_S {P : sP} {U : sU} {f i : Nat} (hl : (pC P f).length ≤ 40) (hi : i < (pC P f).length) : vS (toV P U) f i = uS U f i := by
  funext r v
  exact propext ⟨fun z => z.elim (fun z => z.2) (fun z => by omega), fun z => Or.inl ⟨hi, z⟩⟩
theorem toV_E {P : sP} {U : sU} {f : Nat} (hl : (pC P f).length ≤ 40) : vS (toV P U) f 40 = uB U f := by
  funext r v
  exact propext ⟨fun z => z.elim (fun z => by omega) (fun z => z.2), fun z => Or.inr ⟨rfl, z⟩⟩
def foq (P : sP) (V : sV) (f i : Nat) (q : Nat × Int32 × Int32 × Int32) (k p : Nat) : Prop := q.1 = 11 ∧ k = ix q.2.2.1 ∧ p < 64 ∧ vS V f i (ix q.2.2.2) p ∧ (pR P k p).isSome
/-- what the reference holds lies within a closed value -/
def subU (P : sP) (U : sU) (Z : sV) : Prop := ((∀ f, f < 12 → ∀ i, i ≤ (pC P f).length → uC U f i → vC Z f (pos P f i)) ∧ (∀ f, f < 12 → ∀ i, i ≤ (pC P f).length → ∀ r, r < 4 → ∀ v, v < 256 → uS U f i r v → vS Z f (pos P f i) r v) ∧ (∀ f, f < 12 → uR U f → vC Z f 40) ∧ (∀ f, f < 12 → ∀ r, r < 4 → ∀ v, v < 256 → uB U f r v → vS Z f 40 r v) ∧ (∀ k, k < 24 → ∀ p, p < pS P k → ∀ v, v < 256 → uY U k p v → vY Z k p v)) ∧ (∀ k p, uRd U k p → gxs P Z (fun f i q => rdq P Z f i q k p)) ∧ (∀ k p, uFo U k p → gxs P Z (fun f i q => foq P Z f i q k p)) ∧ (∀ k, uWr U k → gxs P Z (fun f i q => wrq P Z f i q k)) ∧ (∀ k, uCm U k → gxs P Z (fun _ _ q => cmq q k))
theorem subU_eg {P : sP} (hw : wP P) {U : sU} {Z : sV} (h : subU P U Z) (hz : cls P Z) {f i : Nat} {q : Nat × Int32 × Int32 × Int32} (hf : f < 12) (hq : (pC P f)[i]? = some q) (hc : uC U f i) {g j : Nat} {X : Nat → Nat → Prop} (he : eg P (toV P U) f i q g j X) : tgt Z g j X := by
  have hv : vN q := (hw.2.2.2.1 f hf).2 q (List.mem_of_getElem? hq)
  have hl := (hw.2.2.2.1 f hf).1
  have hlt : i < (pC P f).length := (List.getElem?_eq_some_iff.mp hq).1
  have hL : q.1 = 3 → ix q.2.2.1 < 24 := by
    intro e
    obtain ⟨o, a, b, c⟩ := q
    replace e : o = 3 := e
    subst e
    obtain ⟨k', hk', x1, ek⟩ := vT_n hv.2.1
    show ix b < 24
    rw [ek]; exact hk'
  have hpos : pos P f i = i := by unfold pos; rw [if_pos hlt]
  have hcz : vC Z f i := by have := h.1.1 f hf i (by omega) hc; rw [hpos] at this; exact this
  obtain ⟨X', he', hX⟩ := eg_mono hw hv (fun r hr v hv2 z => by
    rw [toV_S hl hlt] at z
    have := h.1.2.1 f hf i (by omega) r hr v hv2 z
    rw [hpos] at this
    exact this) (fun e p hp v hv2 z => h.1.2.2.2.2 _ (hL e) p hp v hv2 z) (fun e t ht h0 v hv2 z => h.1.2.2.2.2 t ht 0 h0 v hv2 z) he
  have ht := (hz.2 f hf i q hq hcz).1 g j X' he'
  exact ⟨ht.1, fun r hr v hv2 z => ht.2 r hr v hv2 (hX r hr v hv2 z)⟩
theorem subU_add {P : sP} {U : sU} {Z : sV} (h : subU P U Z) {f : Nat} (hl : (pC P f).length ≤ 40) {x : Int32} {X : Nat → Nat → Prop} (ht : tgt Z f (place P f x) X) : subU P (uAdd U f (atU P f x) X) Z := by
  obtain ⟨⟨a1, a2, a3, a4, a5⟩, a6⟩ := h
  refine ⟨⟨fun f' hf' i hi z => ?_, fun f' hf' i hi r hr v hv z => ?_, a3, a4, a5⟩, a6⟩
  · rcases z with z | ⟨rfl, rfl⟩
    · exact a1 f' hf' i hi z
    · rw [pos_at hl]
      exact ht.1
  · rcases z with z | ⟨rfl, rfl, z⟩
    · exact a2 f' hf' i hi r hr v hv z
    · rw [pos_at hl]
      exact ht.2 r hr v hv z
/-- the edge along which a place goes on -/
theorem tkm_eg {P : sP} (hw : wP P) {U U1 : sU} {f i : Nat} {q : Nat × Int32 × Int32 × Int32} {N : Nat → Nat → Prop} {b c : Bool} (hf : f < 12) (hq : (pC P f)[i]? = some q) (h5 : ¬ q.1 = 5) (h : tkm P U f i q U1 N b c) (hb : b = true) : eg P (toV P U) f i q f (place P f (nI i + 1)) N := by
  have hv : vN q := (hw.2.2.2.1 f hf).2 q (List.mem_of_getElem? hq)
  have hl := (hw.2.2.2.1 f hf).1
  have hlt : i < (pC P f).length := (List.getElem?_eq_some_iff.mp hq).1
  have hS := toV_S (U := U) hl hlt
  have hq12 := vN_le hv
  obtain ⟨o, a, bb, cc⟩ := q
  replace hq12 : o < 12 := hq12
  unfold eg
  rw [hS]
  match o, hq12, h5, h with
  | 0, _, _, ⟨_, h2, _, _⟩ => exact ⟨rfl, rfl, h2⟩
  | 1, _, _, ⟨_, h2, _, _⟩ => exact ⟨rfl, rfl, h2⟩
  | 2, _, _, ⟨_, h2, _, _⟩ => exact ⟨rfl, rfl, h2⟩
  | 3, _, _, ⟨_, h2, h3, _⟩ => exact ⟨h3.mp hb, rfl, rfl, h2⟩
  | 4, _, _, ⟨_, h2, h3, _⟩ => exact ⟨h3.mp hb, rfl, rfl, h2⟩
  | 5, _, h5, _ => exact absurd rfl h5
  | 6, _, _, ⟨_, h2, h3⟩ => exact Or.inr ⟨h3.mp hb, rfl, rfl, h2⟩
  | 7, _, _, ⟨_, h2, _, _⟩ => exact ⟨rfl, rfl, h2⟩
  | 8, _, _, h => exact h.elim
  | 9, _, _, ⟨_, h2, _, _⟩ => exact ⟨rfl, rfl, h2⟩
  | 10, _, _, ⟨_, h2, _, _⟩ => exact ⟨rfl, rfl, h2⟩
  | 11, _, _, ⟨_, h2, h3, _⟩ => exact ⟨h3.mp hb, rfl, rfl, h2⟩
  | o + 12, hq, _, _ => omega
