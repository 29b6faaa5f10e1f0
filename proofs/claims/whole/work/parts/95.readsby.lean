/-! the reference's chains: whether an instruction reads an item -/
section XRB
variable (l : Launch) (G : xG)
theorem E_readsBy (P : sP) (hw : wP P) (U : sU) (M : xMe) (hP : mP P M) (hU : mU U M) (f i : Nat) (hf : f < 12) (hi : i < (pC P f).length) (q : Nat × Int32 × Int32 × Int32) (hq : (pC P f)[i]? = some q) (k c : Nat) (hk : k < 24) (hc : c < 4) (e2 : q.2.2.1 = nI k) (e3 : q.2.2.2 = nI c) (fo : Bool) : xE l G y_Mo_readsBy [.ref 50, .int (nI (41 * f + i)), .int (b2 fo)] M (fun r M' => M' = M ∧ ∃ bb, r = some (.int (b2 bb)) ∧ (bb = true ↔ ∃ p, p < pS P k ∧ uS U f i c p ∧ (fo = true → (pR P k p).isSome))) := by
  have hl := (hw.2.2.2.1 f hf).1
  have hs64 := (hw.1 k hk).1
  obtain ⟨c1, c2, c3, c4⟩ := (hP.2.2.2.1 f hf).2 i q hq
  have hcl : (nI (41 * f + i)).toNatClampNeg = f * 41 + i := by rw [nI_clamp (by omega)]; omega
  have hin : vp_in (nI (41 * f + i)) 492 := vp_in_nI (by omega) (by decide)
  have v60 : M.1 60 (nI (41 * f + i)).toNatClampNeg = nI k := by rw [hcl, c3, e2]
  have v61 : M.1 61 (nI (41 * f + i)).toNatClampNeg = nI c := by rw [hcl, c4, e3]
  have hck : (nI k).toNatClampNeg = k := nI_clamp (by omega)
  have loop : ∀ (m p : Nat), m + p = pS P k → ∀ bb : Bool, (bb = true ↔ ∃ x, x < p ∧ uS U f i c x ∧ (fo = true → (pR P k x).isSome)) → xF l G y_Mo_readsBy 5 [some (.ref 50), some (.int (nI (41 * f + i))), some (.int (b2 fo)), some (.int (b2 bb)), some (.int (nI p))] [] M (fun r M' => M' = M ∧ ∃ bb, r = some (.int (b2 bb)) ∧ (bb = true ↔ ∃ p, p < pS P k ∧ uS U f i c p ∧ (fo = true → (pR P k p).isSome))) := by
    intro m
    induction m with
    | zero =>
      intro p hp bb hbb
      obtain rfl : p = pS P k := by omega
      refine xF_go o_Mo_readsBy [5] 60 (fun K hK => ?_)
      repeat' ((conv => whnf); first | refine ⟨fun h => ?_, fun h => ?_⟩ | refine ⟨?_, ?_⟩ | refine hK _ _ _ _ ?_)
      · exact hin
      · rw [v60]; exact vp_in_nI hk (by decide)
      · show xF l G y_Mo_readsBy 89 _ [.int (b2 bb)] M _
        refine xF_zret o_Mo_readsBy rfl rfl (b2_01 _) ?_
        exact ⟨rfl, bb, rfl, hbb⟩
      all_goals
        have hlt : nI (pS P k) < M.1 51 (M.1 60 (nI (41 * f + i)).toNatClampNeg).toNatClampNeg := by assumption
        rw [v60, hck, (hP.1 k hk).1, nI_ltI (by omega) (by omega)] at hlt
        omega
    | succ m ih =>
      intro p hp bb hbb
      have hp' : p < pS P k := by omega
      have e64 : 64 * nI k + nI p = nI (64 * k + p) := by rw [nI_64, nI_add]
      have es : 16 * nI (41 * f + i) + 4 * nI c = nI (16 * (41 * f + i) + 4 * c) := by rw [show 16 * nI (41 * f + i) = nI (16 * (41 * f + i)) from pk_mul 16 _, four_n, nI_add]
      have hrf : M.1 55 (nI (64 * k + p)).toNatClampNeg = oI (pR P k p) := by
        rw [nI_clamp (by omega), show 64 * k + p = k * 64 + p by omega]
        exact hP.2.2.1 k hk p (by omega)
      have hnr := oI_none (o := pR P k p) (fun t e => by have := (hw.2.2.1 k hk p (by omega) t e).1; omega)
      have go : ∀ z : Bool, (z = true ↔ ((bb = true) ∨ (uS U f i c p ∧ (fo = true → (pR P k p).isSome)))) → xF l G y_Mo_readsBy 81 [some (.ref 50), some (.int (nI (41 * f + i))), some (.int (b2 fo)), some (.int (b2 bb)), some (.int (nI p))] [.int (b2 z)] M (fun r M' => M' = M ∧ ∃ bb, r = some (.int (b2 bb)) ∧ (bb = true ↔ ∃ p, p < pS P k ∧ uS U f i c p ∧ (fo = true → (pR P k p).isSome))) := by
        intro z hz
        refine xF_go o_Mo_readsBy [5] 60 (fun K hK => ?_)
        repeat' ((conv => whnf); first | refine ⟨fun h => ?_, fun h => ?_⟩ | refine ⟨?_, ?_⟩ | refine hK _ _ _ _ ?_)
        rw [nI_1]
        refine ih (p + 1) (by omega) z (hz.trans ?_)
        rw [hbb]
        constructor
        · rintro (⟨x, y1, y2⟩ | y)
          · exact ⟨x, by omega, y2⟩
          · exact ⟨p, by omega, y⟩
        · rintro ⟨x, y1, y2⟩
          by_cases e : x = p
          · exact Or.inr (e ▸ y2)
          · exact Or.inl ⟨x, by omega, y2⟩
      refine xF_go o_Mo_readsBy [5, 81] 60 (fun K hK => ?_)
      repeat' ((conv => whnf); first | refine ⟨fun h => ?_, fun h => ?_⟩ | refine ⟨?_, ?_⟩ | refine hK _ _ _ _ ?_)
      · exact hin
      · rw [v60]; exact vp_in_nI hk (by decide)
      · have hlt : ¬ nI p < M.1 51 (M.1 60 (nI (41 * f + i)).toNatClampNeg).toNatClampNeg := by assumption
        rw [v60, hck, (hP.1 k hk).1, nI_ltI (by omega) (by omega)] at hlt
        omega
      · have h0 : ¬ b2 bb = 0 := by assumption
        have hbt : bb = true := by
          cases bb with
          | true => rfl
          | false => exact absurd rfl h0
        exact go true ⟨fun _ => Or.inl hbt, fun _ => rfl⟩
      · exact hin
      · have h0 : b2 bb = 0 := by assumption
        have hbf : ¬ bb = true := fun z => by rw [z] at h0; exact absurd h0 (by decide)
        rw [v61, es]
        refine xF_callV o_Mo_readsBy [.ref 69, .int (nI (16 * (41 * f + i) + 4 * c)), .int (nI p)] rfl z_Mo_hasValue i_Mo_hasValue v_Mo_hasValue l_Mo_214 rfl ⟨⟨by decide, by decide⟩, rfl, rfl⟩ (Nat.le_of_ble_eq_true rfl) rfl rfl rfl (E_hasValue l G 69 (by simp) (16 * (41 * f + i) + 4 * c) p (by omega) (by show _ < 7872; omega) M) ?_
        rintro v M1 ⟨rfl, rfl⟩
        clear hK K
        have hsv := hU.1 f hf i (by omega) c hc p (by omega)
        cases hh : sHas (M1.2 69) (16 * (41 * f + i) + 4 * c) p with
        | false =>
          have hno : ¬ uS U f i c p := fun z => by rw [hsv.mpr z] at hh; cases hh
          refine xF_go o_Mo_readsBy [5, 81] 60 (fun K hK => ?_)
          repeat' ((conv => whnf); first | refine ⟨fun h => ?_, fun h => ?_⟩ | refine ⟨?_, ?_⟩ | refine hK _ _ _ _ ?_)
          all_goals first | exact absurd rfl (show ¬ b2 false = 0 from by assumption) | skip
          exact go false ⟨(fun z => by cases z), fun z => z.elim (fun z => absurd z hbf) (fun z => absurd z.1 hno)⟩
        | true =>
          have hyes := hsv.mp hh
          refine xF_go o_Mo_readsBy [5, 81] 60 (fun K hK => ?_)
          repeat' ((conv => whnf); first | refine ⟨fun h => ?_, fun h => ?_⟩ | refine ⟨?_, ?_⟩ | refine hK _ _ _ _ ?_)
          · exact absurd (show b2 true = 0 from by assumption) (by decide)
          · have h1 : b2 fo = 0 := by assumption
            have hff : ¬ fo = true := fun z => by rw [z] at h1; exact absurd h1 (by decide)
            exact go true ⟨fun _ => Or.inr ⟨hyes, fun z => absurd z hff⟩, fun _ => rfl⟩
          · exact hin
          · rw [v60, e64]; exact vp_in_nI (N := 1536) (by omega) (by decide)
          · have h1 : ¬ b2 fo = 0 := by assumption
            have hft : fo = true := by
              cases fo with
              | true => rfl
              | false => exact absurd rfl h1
            have h2 : M1.1 55 (64 * M1.1 60 (nI (41 * f + i)).toNatClampNeg + nI p).toNatClampNeg = -1 := by assumption
            rw [v60, e64, hrf, hnr] at h2
            exact go false ⟨(fun z => by cases z), fun z => z.elim (fun z => absurd z hbf) (fun z => by have := z.2 hft; rw [h2] at this; exact absurd this (by decide))⟩
          · have h2 : ¬ M1.1 55 (64 * M1.1 60 (nI (41 * f + i)).toNatClampNeg + nI p).toNatClampNeg = -1 := by assumption
            rw [v60, e64, hrf, hnr] at h2
            have hsm : (pR P k p).isSome := by
              cases e : pR P k p with
              | none => exact absurd e h2
              | some t => rfl
            exact go true ⟨fun _ => Or.inr ⟨hyes, fun _ => hsm⟩, fun _ => rfl⟩
  refine xE_of [some (.ref 50), some (.int (nI (41 * f + i))), some (.int (b2 fo)), none, none] (by decide +kernel) (Nat.le_of_ble_eq_true rfl) rfl ?_
  refine xF_go o_Mo_readsBy [5] 60 (fun K hK => ?_)
  repeat' ((conv => whnf); first | refine ⟨fun h => ?_, fun h => ?_⟩ | refine ⟨?_, ?_⟩ | refine hK _ _ _ _ ?_)
  exact loop (pS P k) 0 (by omega) false ⟨(fun z => by cases z), fun ⟨x, z, _⟩ => by omega⟩
end XRB
