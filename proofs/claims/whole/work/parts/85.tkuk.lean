/-! the reference's reach: a place taken brings its consequences -/
theorem tku_k {P : sP} (hw : wP P) {U U' : sU} {f i : Nat} {c : Bool} (hf : f < 12) (ht : tku P U f i U' c) : kU P U U' f i := by
  have hl := (hw.2.2.2.1 f hf).1
  rcases ht with ⟨hor, rfl, _⟩ | ⟨q, U1, N, b, c1, hq, h8, htm, hor⟩
  · refine ⟨fun _ => ⟨Or.inr rfl, fun r v z => Or.inr ⟨rfl, z⟩⟩, fun q hq h8 => ?_⟩
    exfalso
    rcases hor with e | ⟨q', hq', h8'⟩
    · have := (List.getElem?_eq_some_iff.mp hq).1
      omega
    · rw [hq] at hq'
      cases hq'
      exact h8 h8'
  · have hv : vN q := (hw.2.2.2.1 f hf).2 q (List.mem_of_getElem? hq)
    have hlt : i < (pC P f).length := (List.getElem?_eq_some_iff.mp hq).1
    have hS := toV_S (U := U) hl hlt
    have hle : ule U1 U' := by
      rcases hor with ⟨_, rfl, c2, _, h4⟩ | ⟨_, rfl, _⟩
      · have := atU_le (P := P) (f := f) (x := nI i + 1) hl
        exact (upc_add hf (by omega) h4).1
      · exact ule.rf
    have hgo : b = true → uC U' f (slt P f (place P f (nI i + 1))) ∧ ∀ r v, N r v → uS U' f (slt P f (place P f (nI i + 1))) r v := by
      intro hb
      rcases hor with ⟨_, rfl, _⟩ | ⟨hb', _⟩
      · rw [slt_place hl]
        exact ⟨Or.inr ⟨rfl, rfl⟩, fun r v z => Or.inr ⟨rfl, rfl, z⟩⟩
      · rw [hb] at hb'
        cases hb'
    refine ⟨fun z => ?_, fun q' hq' _ => ?_⟩
    · exfalso
      rcases z with e | ⟨q', hq', h8'⟩
      · omega
      · rw [hq] at hq'
        cases hq'
        exact h8 h8'
    rw [hq] at hq'
    cases hq'
    clear hor
    have hq12 := vN_le hv
    have noX : ∀ {o : Nat} {a b2' c' : Int32}, (¬ o = 3 ∧ ¬ o = 4 ∧ ¬ o = 10 ∧ ¬ o = 11) → (∀ k p, rdq P (toV P U) f i (o, a, b2', c') k p → uRd U' k p) ∧ (∀ k p, foq P (toV P U) f i (o, a, b2', c') k p → uFo U' k p) ∧ (∀ k, wrq P (toV P U) f i (o, a, b2', c') k → uWr U' k) ∧ (∀ k, cmq (o, a, b2', c') k → uCm U' k) := by
      rintro o a b2' c' ⟨n3, n4, n10, n11⟩
      refine ⟨fun k p z => ?_, fun k p z => absurd z.1 n11, fun k z => absurd z.1 n4, fun k z => absurd z.1 n10⟩
      rcases z with z | z | z
      · exact absurd z.1 n3
      · exact absurd z.1 n11
      · exact absurd z.1 n11
    obtain ⟨o, a, bb, cc⟩ := q
    replace hq12 : o < 12 := hq12
    match o, hq12, hv, h8, htm with
    | 0, _, _, _, ⟨_, h2, h3, _⟩ =>
      refine ⟨fun g j X he => ?_, (fun z => by cases z), (fun z => by cases z), noX (by simp)⟩
      unfold eg at he
      rw [hS] at he
      obtain ⟨e1, e2, e3⟩ := he
      rw [e1, e2, e3]
      rw [h2] at hgo
      exact hgo h3
    | 1, _, _, _, ⟨_, h2, h3, _⟩ =>
      refine ⟨fun g j X he => ?_, (fun z => by cases z), (fun z => by cases z), noX (by simp)⟩
      unfold eg at he
      rw [hS] at he
      obtain ⟨e1, e2, e3⟩ := he
      rw [e1, e2, e3]
      rw [h2] at hgo
      exact hgo h3
    | 2, _, _, _, ⟨_, h2, h3, _⟩ =>
      refine ⟨fun g j X he => ?_, (fun z => by cases z), (fun z => by cases z), noX (by simp)⟩
      unfold eg at he
      rw [hS] at he
      obtain ⟨e1, e2, e3⟩ := he
      rw [e1, e2, e3]
      rw [h2] at hgo
      exact hgo h3
    | 7, _, _, _, ⟨_, h2, h3, _⟩ =>
      refine ⟨fun g j X he => ?_, (fun z => by cases z), (fun z => by cases z), noX (by simp)⟩
      unfold eg at he
      rw [hS] at he
      obtain ⟨e1, e2, e3⟩ := he
      rw [e1, e2, e3]
      rw [h2] at hgo
      exact hgo h3
    | 9, _, _, _, ⟨_, h2, h3, _⟩ =>
      refine ⟨fun g j X he => ?_, (fun z => by cases z), (fun z => by cases z), noX (by simp)⟩
      unfold eg at he
      rw [hS] at he
      obtain ⟨e1, e2, e3⟩ := he
      rw [e1, e2, e3]
      rw [h2] at hgo
      exact hgo h3
    | 8, _, _, h8, _ => exact absurd rfl h8
    | 3, _, _, _, ⟨h1, h2, h3, _⟩ =>
      refine ⟨fun g j X he => ?_, (fun z => by cases z), (fun z => by cases z), fun k p z => ?_, fun k p z => absurd z.1 (by simp), fun k z => absurd z.1 (by simp), fun k z => absurd z.1 (by simp)⟩
      · unfold eg at he
        rw [hS] at he
        obtain ⟨e0, e1, e2, e3⟩ := he
        rw [e1, e2, e3]
        rw [h2] at hgo
        exact hgo (h3.mpr e0)
      · refine hle.2.1 k p ?_
        rw [h1]
        rcases z with ⟨_, e, z1, z2⟩ | z | z
        · rw [hS] at z2
          exact Or.inr ⟨e, by rw [e] at z1; exact z1, z2⟩
        · exact absurd z.1 (by simp)
        · exact absurd z.1 (by simp)
    | 4, _, _, _, ⟨h1, h2, h3, _⟩ =>
      refine ⟨fun g j X he => ?_, (fun z => by cases z), fun _ p hp z1 v z2 => ?_, fun k p z => ?_, fun k p z => absurd z.1 (by simp), fun k z => ?_, fun k z => absurd z.1 (by simp)⟩
      · unfold eg at he
        rw [hS] at he
        obtain ⟨e0, e1, e2, e3⟩ := he
        rw [e1, e2, e3]
        rw [h2] at hgo
        exact hgo (h3.mpr e0)
      · refine hle.1.2.1 _ _ _ ?_
        rw [h1]
        exact Or.inr ⟨rfl, ⟨hp, z1⟩, z2⟩
      · rcases z with z | z | z
        · exact absurd z.1 (by simp)
        · exact absurd z.1 (by simp)
        · exact absurd z.1 (by simp)
      · refine hle.2.2.2.1 k ?_
        rw [h1]
        obtain ⟨_, e, p, z1, z2⟩ := z
        rw [hS] at z2
        exact Or.inr ⟨e, p, by rw [e] at z1; exact z1, z2⟩
    | 5, _, hv, _, ⟨h1, h2, h3, _⟩ =>
      obtain ⟨g0, hg0, x0, eg0⟩ := vF_n hv.1
      have h12 : ix a < 12 := by rw [eg0]; exact hg0
      refine ⟨fun g j X he => ?_, fun _ hR => ?_, (fun z => by cases z), noX (by simp)⟩
      · unfold eg at he
        rw [hS] at he
        obtain ⟨e1, e2, e3⟩ := he
        have e1' : g = ix a := e1
        rw [e3, e2, e1']
        show uC U' (ix a) (slt P (ix a) (place P (ix a) 0)) ∧ ∀ r v, uS U f i r v → uS U' (ix a) (slt P (ix a) (place P (ix a) 0)) r v
        rw [slt_place (hw.2.2.2.1 _ h12).1]
        refine ⟨hle.1.2.2.1 _ _ ?_, fun r v z => hle.1.1 _ _ _ _ ?_⟩
        · rw [h1]; exact Or.inr ⟨rfl, rfl⟩
        · rw [h1]; exact Or.inr ⟨rfl, rfl, z⟩
      · rw [h2] at hgo
        exact hgo (h3.mpr hR)
    | 6, _, _, _, ⟨h1, h2, h3⟩ =>
      refine ⟨fun g j X he => ?_, (fun z => by cases z), (fun z => by cases z), noX (by simp)⟩
      unfold eg at he
      rw [hS] at he
      rcases he with ⟨e0, e1, e2, e3⟩ | ⟨e0, e1, e2, e3⟩
      · rw [e3, e2, e1, slt_place hl]
        rcases h1 with ⟨_, h1, _⟩ | ⟨hn, _⟩
        · refine ⟨hle.1.2.2.1 _ _ ?_, fun r v z => hle.1.1 _ _ _ _ ?_⟩
          · rw [h1]; exact Or.inr ⟨rfl, rfl⟩
          · rw [h1]; exact Or.inr ⟨rfl, rfl, z⟩
        · exact absurd e0 hn
      · rw [e1, e2, e3]
        rw [h2] at hgo
        exact hgo (h3.mpr e0)
    | 10, _, _, _, ⟨h1, h2, h3, _⟩ =>
      refine ⟨fun g j X he => ?_, (fun z => by cases z), (fun z => by cases z), fun k p z => ?_, fun k p z => absurd z.1 (by simp), fun k z => absurd z.1 (by simp), fun k z => ?_⟩
      · unfold eg at he
        rw [hS] at he
        obtain ⟨e1, e2, e3⟩ := he
        rw [e1, e2, e3]
        rw [h2] at hgo
        exact hgo h3
      · rcases z with z | z | z
        · exact absurd z.1 (by simp)
        · exact absurd z.1 (by simp)
        · exact absurd z.1 (by simp)
      · refine hle.2.2.2.2 k ?_
        rw [h1]
        exact Or.inr z.2
    | 11, _, _, _, ⟨h1, h2, h3, _⟩ =>
      refine ⟨fun g j X he => ?_, (fun z => by cases z), (fun z => by cases z), fun k p z => ?_, fun k p z => ?_, fun k z => absurd z.1 (by simp), fun k z => absurd z.1 (by simp)⟩
      · unfold eg at he
        rw [hS] at he
        obtain ⟨e0, e1, e2, e3⟩ := he
        rw [e1, e2, e3]
        rw [h2] at hgo
        exact hgo (h3.mpr e0)
      · refine hle.2.1 k p ?_
        rw [h1]
        rcases z with z | ⟨_, e, z1, z2, z3⟩ | ⟨_, e, p', z1, z2, z3⟩
        · exact absurd z.1 (by simp)
        · rw [hS] at z2
          exact Or.inr (Or.inl ⟨e, z1, z2, by rw [e] at z3; exact z3⟩)
        · rw [hS] at z2
          exact Or.inr (Or.inr ⟨e, p', ⟨z1, z2, Option.isSome_iff_exists.mpr ⟨_, z3⟩⟩, z3⟩)
      · refine hle.2.2.1 k p ?_
        rw [h1]
        obtain ⟨_, e, z1, z2, z3⟩ := z
        rw [hS] at z2
        exact Or.inr ⟨e, z1, z2, by rw [e] at z3; exact z3⟩
    | o + 12, hq, _, _, _ => omega
