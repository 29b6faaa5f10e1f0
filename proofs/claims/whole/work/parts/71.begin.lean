/-! Reach: beginning at the entries -/
def entd (P : sP) (f g i : Nat) : Prop := g < f ∧ pE P g = true ∧ i = place P g 0
section XBE
variable (l : Launch) (G : xG)
theorem L_begin2 (P : sP) (M0 : xMe) (f j : Nat) (hf : f < 12) (hj : j < 41) (hmade : ∀ v, v < 256 → (sHas (M0.2 26) 0 v = true ↔ v = 0)) (S0 : Nat → Nat → Nat → Nat → Prop) (Q : Option Value → xMe → Prop) (hQ : ∀ F x, cS21 (fun g i r v => S0 g i r v ∨ (g = f ∧ i = j ∧ v = 0)) (xsL M0 21 F) → xF l G y_Re_beginAtEntries 70 [some (.ref 16), some (.int (nI f)), some (.int (nI j)), x] [] (xsL M0 21 F) Q) : ∀ (m q : Nat), m + q = 4 → ∀ F, cS21 (fun g i r v => S0 g i r v ∨ (g = f ∧ i = j ∧ r < q ∧ v = 0)) (xsL M0 21 F) → xF l G y_Re_beginAtEntries 37 [some (.ref 16), some (.int (nI f)), some (.int (nI j)), some (.int (nI q))] [] (xsL M0 21 F) Q := by
  have t1 : xtl 21 = 7872 := rfl
  intro m
  induction m with
  | zero =>
    intro q hq F hF
    obtain rfl : q = 4 := by omega
    refine xF_go o_Re_beginAtEntries [37, 70] 60 (fun K hK => ?_)
    repeat' ((conv => whnf); first | refine ⟨fun h => ?_, fun h => ?_⟩ | refine ⟨?_, ?_⟩ | refine hK _ _ _ _ ?_)
    · refine hQ F _ (fun g hg i hi r hr v hv => (hF g hg i hi r hr v hv).trans ?_)
      exact or_congr Iff.rfl ⟨fun z => ⟨z.1, z.2.1, z.2.2.2⟩, fun z => ⟨z.1, z.2.1, hr, z.2.2⟩⟩
    all_goals exact absurd (show nI 4 < nI 4 from by assumption) (nI_nlt (by omega) (by omega))
  | succ m ih =>
    intro q hq F hF
    refine xF_go o_Re_beginAtEntries [37, 70] 60 (fun K hK => ?_)
    repeat' ((conv => whnf); first | refine ⟨fun h => ?_, fun h => ?_⟩ | refine ⟨?_, ?_⟩ | refine hK _ _ _ _ ?_)
    · exact absurd (nI_lt (b := 4) (by omega) (by omega)) h
    · refine xF_callS o_Re_beginAtEntries [.int (nI f), .int (nI j)] rfl z_Re_slotOf s_Re_slotOf l_Re_91 rfl ⟨⟨by decide, by decide⟩, rfl, rfl⟩ (Nat.le_of_ble_eq_true rfl) rfl (E_slotOf l G (nI f) (nI j) _) ?_
      rintro v M' ⟨rfl, rfl⟩
      rw [slot_n]
      clear hK K
      refine xF_go o_Re_beginAtEntries [37, 70] 60 (fun K hK => ?_)
      repeat' ((conv => whnf); first | refine ⟨fun h => ?_, fun h => ?_⟩ | refine ⟨?_, ?_⟩ | refine hK _ _ _ _ ?_)
      refine xF_callS o_Re_beginAtEntries [.int (nI (f * 41 + j)), .int (nI q)] rfl z_Re_setAt s_Re_setAt l_Re_95 rfl ⟨⟨by decide, by decide⟩, rfl, rfl⟩ (Nat.le_of_ble_eq_true rfl) rfl (E_setAt l G (nI (f * 41 + j)) (nI q) _) ?_
      rintro v M' ⟨rfl, rfl⟩
      rw [set_n]
      clear hK K
      refine xF_go o_Re_beginAtEntries [37, 70] 60 (fun K hK => ?_)
      repeat' ((conv => whnf); first | refine ⟨fun h => ?_, fun h => ?_⟩ | refine ⟨?_, ?_⟩ | refine hK _ _ _ _ ?_)
      refine xF_callS o_Re_beginAtEntries [.ref 21, .int (nI ((f * 41 + j) * 16 + q * 4)), .ref 26, .int (nI 0)] rfl z_OS_join s_OS_join l_Re_155 rfl ⟨⟨by decide, by decide⟩, rfl, rfl⟩ (Nat.le_of_ble_eq_true rfl) rfl (E_join_21_26 l G ((f * 41 + j) * 16 + q * 4) 0 (by omega) (by decide) (by omega) _) ?_
      rintro v M' ⟨rfl, rfl⟩
      clear hK K
      have c1 := S21_join hF hf hj (show q < 4 by omega) hmade
      refine xF_go o_Re_beginAtEntries [37, 70] 60 (fun K hK => ?_)
      repeat' ((conv => whnf); first | refine ⟨fun h => ?_, fun h => ?_⟩ | refine ⟨?_, ?_⟩ | refine hK _ _ _ _ ?_)
      rw [nI_1, xsL_LL]
      rw [xsL_LL] at c1
      refine ih (q + 1) (by omega) _ (fun g hg i hi r hr v hv => (c1 g hg i hi r hr v hv).trans ?_)
      constructor
      · rintro ((z | z) | z)
        · exact Or.inl z
        · exact Or.inr ⟨z.1, z.2.1, by omega, z.2.2.2⟩
        · exact Or.inr ⟨z.1, z.2.1, by omega, z.2.2.2⟩
      · rintro (z | z)
        · exact Or.inl (Or.inl z)
        · by_cases e : r = q
          · exact Or.inr ⟨z.1, z.2.1, e, z.2.2.2⟩
          · exact Or.inl (Or.inr ⟨z.1, z.2.1, by omega, z.2.2.2⟩)
theorem L_begin1 (P : sP) (hw : wP P) (M0 : xMe) (hE : cE P M0) (hk : cK P M0) (hmade : ∀ v, v < 256 → (sHas (M0.2 26) 0 v = true ↔ v = 0)) (Q : Option Value → xMe → Prop) (hQ : ∀ M, xfr [21, 23, 24] M0 M → cS21 (fun g i _ v => entd P 12 g i ∧ v = 0) M → cB 23 12 (entd P 12) M → cB 24 12 (entd P 12) M → Q none M) : ∀ (m f : Nat), m + f = 12 → ∀ M y x, xfr [21, 23, 24] M0 M → cS21 (fun g i _ v => entd P f g i ∧ v = 0) M → cB 23 12 (entd P f) M → cB 24 12 (entd P f) M → xF l G y_Re_beginAtEntries 10 [some (.ref 16), some (.int (nI f)), y, x] [] M Q := by
  intro m
  induction m with
  | zero =>
    intro f hf M y x hfr h1 h2 h3
    obtain rfl : f = 12 := by omega
    refine xF_go o_Re_beginAtEntries [10] 60 (fun K hK => ?_)
    repeat' ((conv => whnf); first | refine ⟨fun h => ?_, fun h => ?_⟩ | refine ⟨?_, ?_⟩ | refine hK _ _ _ _ ?_)
    · refine xF_vret o_Re_beginAtEntries rfl rfl ?_
      exact hQ M hfr h1 h2 h3
    all_goals exact absurd (show nI 12 < nI 12 from by assumption) (nI_nlt (by omega) (by omega))
  | succ m ih =>
    intro f hf M y x hfr h1 h2 h3
    have hf12 : f < 12 := by omega
    have hcl : (nI f).toNatClampNeg = f := nI_clamp (by omega)
    have hent : M.1 14 (nI f).toNatClampNeg = b2 (pE P f) := by rw [hcl, (hfr 14 (by decide)).1]; exact hE f hf12
    have hj := place_lt hw hf12 0
    have hjj := place_ok (P := P) (f := f) (x := 0) (hw.2.2.2.1 f hf12).1
    refine xF_go o_Re_beginAtEntries [10] 60 (fun K hK => ?_)
    repeat' ((conv => whnf); first | refine ⟨fun h => ?_, fun h => ?_⟩ | refine ⟨?_, ?_⟩ | refine hK _ _ _ _ ?_)
    · exact absurd (nI_lt (b := 12) (by omega) (by omega)) h
    · exact vp_in_nI hf12 (by decide)
    · have h0 : M.1 14 (nI f).toNatClampNeg = 0 := by assumption
      rw [hent] at h0
      have hpe : ¬ pE P f = true := fun z => by rw [z] at h0; exact absurd h0 (by decide)
      have hiff : ∀ g i, entd P f g i ↔ entd P (f + 1) g i := by
        intro g i
        constructor
        · exact fun z => ⟨by have := z.1; omega, z.2⟩
        · intro z
          refine ⟨?_, z.2⟩
          by_cases e : g = f
          · exact absurd (e ▸ z.2.1) hpe
          · have := z.1; omega
      rw [nI_1]
      exact ih (f + 1) (by omega) M _ _ hfr (fun g hg i hi r hr v hv => (h1 g hg i hi r hr v hv).trans (and_congr (hiff g i) Iff.rfl)) (cB_iff h2 hiff) (cB_iff h3 hiff)
    · have h0 : ¬ M.1 14 (nI f).toNatClampNeg = 0 := by assumption
      rw [hent] at h0
      have hpe : pE P f = true := by
        cases e : pE P f with
        | true => rfl
        | false => rw [e] at h0; exact absurd rfl h0
      refine xF_callV o_Re_beginAtEntries [.int (nI f), .int 0] rfl z_Re_placeIn i_Re_placeIn v_Re_placeIn l_Re_152 rfl ⟨⟨by decide, by decide⟩, rfl, rfl⟩ (Nat.le_of_ble_eq_true rfl) rfl rfl rfl (E_placeIn l G P M (cK_fr hfr (by decide) hk) hw f hf12 0) ?_
      rintro v M' ⟨rfl, rfl⟩
      clear hK K
      have hiff : ∀ g i, (entd P f g i ∨ (g = f ∧ i = place P f 0)) ↔ entd P (f + 1) g i := by
        intro g i
        constructor
        · rintro (z | ⟨rfl, rfl⟩)
          · exact ⟨by have := z.1; omega, z.2⟩
          · exact ⟨by omega, hpe, rfl⟩
        · intro z
          by_cases e : g = f
          · subst e; exact Or.inr ⟨rfl, z.2.2⟩
          · exact Or.inl ⟨by have := z.1; omega, z.2⟩
      generalize place P f 0 = j at *
      refine xF_go o_Re_beginAtEntries [37] 60 (fun K hK => ?_)
      repeat' ((conv => whnf); first | refine ⟨fun h => ?_, fun h => ?_⟩ | refine ⟨?_, ?_⟩ | refine hK _ _ _ _ ?_)
      clear hK K
      have e0 : M' = xsL M' 21 (M'.2 21) := (xsL_id (fun i => rfl)).symm
      have key := L_begin2 l G P M' f j hf12 hj (fun v hv => by rw [(hfr 26 (by decide)).2]; exact hmade v hv) (fun g i _ v => entd P f g i ∧ v = 0) Q ?_ 4 0 (by omega) (M'.2 21) ?_
      · rw [← e0] at key
        exact key
      · intro F x' hF
        refine xF_go o_Re_beginAtEntries [10] 60 (fun K hK => ?_)
        repeat' ((conv => whnf); first | refine ⟨fun h => ?_, fun h => ?_⟩ | refine ⟨?_, ?_⟩ | refine hK _ _ _ _ ?_)
        refine xF_callV o_Re_beginAtEntries [.int (nI f), .int (nI j)] rfl z_Re_arriveAt i_Re_arriveAt v_Re_arriveAt l_Re_159 rfl ⟨⟨by decide, by decide⟩, rfl, rfl⟩ (Nat.le_of_ble_eq_true rfl) rfl rfl rfl (E_arriveAt l G f j hf12 (by omega) _) ?_
        rintro v M2 ⟨rfl, rfl⟩
        clear hK K
        refine xF_go o_Re_beginAtEntries [10] 60 (fun K hK => ?_)
        repeat' ((conv => whnf); first | refine ⟨fun h => ?_, fun h => ?_⟩ | refine ⟨?_, ?_⟩ | refine hK _ _ _ _ ?_)
        rw [nI_1]
        refine ih (f + 1) (by omega) _ _ _ (((hfr.L (by simp)).L (by simp)).L (by simp)) (fun g hg i hi r hr v hv => ?_) (fun a ha b hb => ?_) (fun a ha b hb => ?_)
        · refine (hF g hg i hi r hr v hv).trans ?_
          show ((entd P f g i ∧ v = 0) ∨ (g = f ∧ i = j ∧ v = 0)) ↔ (entd P (f + 1) g i ∧ v = 0)
          rw [← hiff g i]
          constructor
          · rintro (z | z)
            · exact ⟨Or.inl z.1, z.2⟩
            · exact ⟨Or.inr ⟨z.1, z.2.1⟩, z.2.2⟩
          · rintro ⟨z | z, z2⟩
            · exact Or.inl ⟨z, z2⟩
            · exact Or.inr ⟨z.1, z.2, z2⟩
        · show xbit (vp_updL (M'.2 23) f (M'.2 23 f ||| (1 : Int64) <<< ((nI j).toInt64 &&& 63)) a) b = true ↔ _
          rw [bit_upd (by omega), Bool.or_eq_true, decide_eq_true_iff, h2 a ha b hb]
          exact hiff a b
        · show xbit (vp_updL (M'.2 24) f (M'.2 24 f ||| (1 : Int64) <<< ((nI j).toInt64 &&& 63)) a) b = true ↔ _
          rw [bit_upd (by omega), Bool.or_eq_true, decide_eq_true_iff, h3 a ha b hb]
          exact hiff a b
      · rw [← e0]
        intro g hg i hi r hr v hv
        refine (h1 g hg i hi r hr v hv).trans ⟨Or.inl, fun z => z.elim id (fun z => by omega)⟩
theorem E_beginAtEntries (P : sP) (hw : wP P) (M : xMe) (hE : cE P M) (hk : cK P M) (hS : cS21 (fun _ _ _ _ => False) M) (hC : cB 23 12 (fun _ _ => False) M) (hW : cB 24 12 (fun _ _ => False) M) : xE l G y_Re_beginAtEntries [.ref 16] M (fun r M' => r = none ∧ xfr [21, 23, 24, 26] M M' ∧ cS21 (fun g i _ v => entd P 12 g i ∧ v = 0) M' ∧ cB 23 12 (entd P 12) M' ∧ cB 24 12 (entd P 12) M') := by
  refine xE_of [some (.ref 16), none, none, none] (by decide +kernel) (Nat.le_of_ble_eq_true rfl) rfl ?_
  refine xF_go o_Re_beginAtEntries [10] 60 (fun K hK => ?_)
  repeat' ((conv => whnf); first | refine ⟨fun h => ?_, fun h => ?_⟩ | refine ⟨?_, ?_⟩ | refine hK _ _ _ _ ?_)
  refine xF_callS o_Re_beginAtEntries [.ref 26, .int (nI 0)] rfl z_OS_makeOnly s_OS_makeOnly l_Re_148 rfl ⟨⟨by decide, by decide⟩, rfl, rfl⟩ (Nat.le_of_ble_eq_true rfl) rfl (E_makeOnly l G 0 (by omega) M) ?_
  rintro v M1 ⟨rfl, hfr1, hX⟩
  clear hK K
  refine xF_go o_Re_beginAtEntries [10] 60 (fun K hK => ?_)
  repeat' ((conv => whnf); first | refine ⟨fun h => ?_, fun h => ?_⟩ | refine ⟨?_, ?_⟩ | refine hK _ _ _ _ ?_)
  have hno : ∀ g i, False ↔ entd P 0 g i := fun g i => ⟨False.elim, fun z => absurd z.1 (Nat.not_lt_zero _)⟩
  refine L_begin1 l G P hw M1 ?_ (cK_fr hfr1 (by decide) hk) (fun v hv => by rw [hX v hv, decide_eq_true_iff]) _ (fun M2 hfr2 a1 a2 a3 => ⟨rfl, (hfr1.mono (by simp)).tr hfr2 (by simp), a1, a2, a3⟩) 12 0 (by omega) M1 _ _ xfr.rf ?_ ?_ ?_
  · unfold cE; rw [(hfr1 14 (by decide)).1]; exact hE
  · intro g hg i hi r hr v hv
    rw [(hfr1 21 (by decide)).2]
    exact (hS g hg i hi r hr v hv).trans ⟨False.elim, fun z => (hno g i).mpr z.1⟩
  · intro a ha b hb
    rw [(hfr1 23 (by decide)).2]
    exact (hC a ha b hb).trans (hno a b)
  · intro a ha b hb
    rw [(hfr1 24 (by decide)).2]
    exact (hW a ha b hb).trans (hno a b)
end XBE
