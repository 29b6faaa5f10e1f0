/-! the law: item, entry, shrink; its loop -/
section XLX
variable (l : Launch) (G : xG)
set_option maxRecDepth 20000 in
theorem W_item (hL : gL G ≤ 3072) (M : xMe) (hJ : jJ M) (i : Nat) (hi : i + 6 ≤ gL G) (Q : Option Value → xMe → Prop) (hQ : ∀ M', jJ M' → xFl l G 833 (lvL (nI i)) [] M' Q) : xFl l G 124 (lvL (nI i)) [] M Q := by
  obtain ⟨P, X, Z, lh, hw, hc, hm⟩ := hJ
  have v1 : vp_in (nI i + 1) (gL G) := by rw [nI_1]; exact vp_in_nI (by omega) (by omega)
  have v2 : vp_in (nI i + 2) (gL G) := by rw [show nI i + 2 = nI (i + 2) from nI_add i 2]; exact vp_in_nI (by omega) (by omega)
  have v3 : vp_in (nI i + 3) (gL G) := by rw [show nI i + 3 = nI (i + 3) from nI_add i 3]; exact vp_in_nI (by omega) (by omega)
  have v4 : vp_in (nI i + 4) (gL G) := by rw [show nI i + 4 = nI (i + 4) from nI_add i 4]; exact vp_in_nI (by omega) (by omega)
  have v5 : vp_in (nI i + 5) (gL G) := by rw [show nI i + 5 = nI (i + 5) from nI_add i 5]; exact vp_in_nI (by omega) (by omega)
  unfold lvL at *
  have main : ∀ b : Bool, (b = false ↔ gx G (nI i + 5).toNatClampNeg = 0) → xFl l G 158 [some (.ref 96), some (.ref 0), some (.ref 50), some (.int (nI i))] [.int (b2 b), .int (gx G (nI i + 4).toNatClampNeg), .int (gx G (nI i + 3).toNatClampNeg), .int (gx G (nI i + 2).toNatClampNeg), .int (gx G (nI i + 1).toNatClampNeg), .ref 0] M Q := by
    intro b hb
    refine xFl_callV [.int _, .int _, .int _, .int _, .int (b2 b)] rfl z_DS_item i_DS_item v_DS_item l_Lw_13 rfl ⟨⟨by decide, by decide⟩, rfl, rfl⟩ (Nat.le_of_ble_eq_true rfl) rfl rfl rfl (E_DSitem l G P M hc.1 hw.1 _ _ _ _ b) ?_
    rintro v M1 ⟨P', r0, ac, hr, rfl, hP', hw', hf, ht, hfr⟩
    have hc1 := cJ_tell hc hP' hf ht hfr (by decide)
    have hm1 := mJ_fr hfr (by decide) hm
    have sec : xFl l G 195 [some (.ref 96), some (.ref 0), some (.ref 50), some (.int (nI i))] [.int (b2 b), .int (gx G (nI i + 4).toNatClampNeg), .int (gx G (nI i + 3).toNatClampNeg), .int (gx G (nI i + 2).toNatClampNeg), .int (gx G (nI i + 1).toNatClampNeg), .ref 50, .int r0] M1 Q := by
      refine xFl_callV [.int _, .int _, .int _, .int _, .int (b2 b)] rfl z_Mo_item i_Mo_item v_Mo_item l_Lw_17 rfl ⟨⟨by decide, by decide⟩, rfl, rfl⟩ (Nat.le_of_ble_eq_true rfl) rfl rfl rfl (E_Mitem l G P P' M1 hm1.1 hw.1 _ _ _ _ r0 b ac hr) ?_
      rintro v M2 ⟨rfl, hmP', hf2, ht2, hfr2⟩
      have hm2 := mJ_tell hm1 hmP' hf2 ht2 hfr2 (by decide)
      have hc2 := cJ_fr hfr2 (by decide) hc1
      refine xFl_cmp rfl rfl ?_
      exact hQ M2 ⟨P', X, Z, _, wJ_tell hw hw' (fun z => by subst z; exact hr.elim (fun h => h.2.1) (fun h => by simp at h)), hc2, hm2⟩
    refine xFl_go [195, 833] 60 (fun K hK => ?_)
    repeat' ((conv => whnf); first | refine ⟨fun h => ?_, fun h => ?_⟩ | refine ⟨?_, ?_⟩ | refine hK _ _ _ _ ?_)
    all_goals try assumption
    · have h0 : gx G (nI i + 5).toNatClampNeg = 0 := by assumption
      obtain rfl := hb.mpr h0
      exact sec
    · have h0 : ¬ gx G (nI i + 5).toNatClampNeg = 0 := by assumption
      have hbt : b = true := by
        cases b with
        | true => rfl
        | false => exact absurd (hb.mp rfl) h0
      subst hbt
      exact sec
  refine xFl_go [158, 833] 60 (fun K hK => ?_)
  repeat' ((conv => whnf); first | refine ⟨fun h => ?_, fun h => ?_⟩ | refine ⟨?_, ?_⟩ | refine hK _ _ _ _ ?_)
  all_goals try assumption
  · have h0 : gx G (nI i + 5).toNatClampNeg = 0 := by assumption
    exact main false ⟨fun _ => h0, fun _ => rfl⟩
  · have h0 : ¬ gx G (nI i + 5).toNatClampNeg = 0 := by assumption
    exact main true ⟨fun z => (by cases z), fun z => absurd z h0⟩
set_option maxRecDepth 20000 in
theorem W_entry (hL : gL G ≤ 3072) (M : xMe) (hJ : jJ M) (i : Nat) (hi : i + 6 ≤ gL G) (Q : Option Value → xMe → Prop) (hQ : ∀ M', jJ M' → xFl l G 833 (lvL (nI i)) [] M' Q) : xFl l G 415 (lvL (nI i)) [] M Q := by
  obtain ⟨P, X, Z, lh, hw, hc, hm⟩ := hJ
  have v1 : vp_in (nI i + 1) (gL G) := by rw [nI_1]; exact vp_in_nI (by omega) (by omega)
  have v2 : vp_in (nI i + 2) (gL G) := by rw [show nI i + 2 = nI (i + 2) from nI_add i 2]; exact vp_in_nI (by omega) (by omega)
  have v3 : vp_in (nI i + 3) (gL G) := by rw [show nI i + 3 = nI (i + 3) from nI_add i 3]; exact vp_in_nI (by omega) (by omega)
  have v4 : vp_in (nI i + 4) (gL G) := by rw [show nI i + 4 = nI (i + 4) from nI_add i 4]; exact vp_in_nI (by omega) (by omega)
  have v5 : vp_in (nI i + 5) (gL G) := by rw [show nI i + 5 = nI (i + 5) from nI_add i 5]; exact vp_in_nI (by omega) (by omega)
  unfold lvL at *
  have main : ∀ b : Bool, (b = false ↔ gx G (nI i + 2).toNatClampNeg = 0) → xFl l G 434 [some (.ref 96), some (.ref 0), some (.ref 50), some (.int (nI i))] [.int (b2 b), .int (gx G (nI i + 1).toNatClampNeg), .ref 0] M Q := by
    intro b hb
    refine xFl_callV [.int _, .int (b2 b)] rfl z_DS_entry i_DS_entry v_DS_entry l_Lw_40 rfl ⟨⟨by decide, by decide⟩, rfl, rfl⟩ (Nat.le_of_ble_eq_true rfl) rfl rfl rfl (E_DSentry l G P M hc.1 hw.1 _ b) ?_
    rintro v M1 ⟨P', r0, ac, hr, rfl, hP', hw', hf, ht, hfr⟩
    have hc1 := cJ_tell hc hP' hf ht hfr (by decide)
    have hm1 := mJ_fr hfr (by decide) hm
    have sec : xFl l G 456 [some (.ref 96), some (.ref 0), some (.ref 50), some (.int (nI i))] [.int (b2 b), .int (gx G (nI i + 1).toNatClampNeg), .ref 50, .int r0] M1 Q := by
      refine xFl_callV [.int _, .int (b2 b)] rfl z_Mo_entry i_Mo_entry v_Mo_entry l_Lw_44 rfl ⟨⟨by decide, by decide⟩, rfl, rfl⟩ (Nat.le_of_ble_eq_true rfl) rfl rfl rfl (E_Mentry l G P P' M1 hm1.1 _ r0 b ac hr) ?_
      rintro v M2 ⟨rfl, hmP', hf2, ht2, hfr2⟩
      have hm2 := mJ_tell hm1 hmP' hf2 ht2 hfr2 (by decide)
      have hc2 := cJ_fr hfr2 (by decide) hc1
      refine xFl_cmp rfl rfl ?_
      exact hQ M2 ⟨P', X, Z, _, wJ_tell hw hw' (fun z => by subst z; exact hr.elim (fun h => h.2.1) (fun h => by simp at h)), hc2, hm2⟩
    refine xFl_go [456, 833] 60 (fun K hK => ?_)
    repeat' ((conv => whnf); first | refine ⟨fun h => ?_, fun h => ?_⟩ | refine ⟨?_, ?_⟩ | refine hK _ _ _ _ ?_)
    all_goals try assumption
    · have h0 : gx G (nI i + 2).toNatClampNeg = 0 := by assumption
      obtain rfl := hb.mpr h0
      exact sec
    · have h0 : ¬ gx G (nI i + 2).toNatClampNeg = 0 := by assumption
      have hbt : b = true := by
        cases b with
        | true => rfl
        | false => exact absurd (hb.mp rfl) h0
      subst hbt
      exact sec
  refine xFl_go [434, 833] 60 (fun K hK => ?_)
  repeat' ((conv => whnf); first | refine ⟨fun h => ?_, fun h => ?_⟩ | refine ⟨?_, ?_⟩ | refine hK _ _ _ _ ?_)
  all_goals try assumption
  · have h0 : gx G (nI i + 2).toNatClampNeg = 0 := by assumption
    exact main false ⟨fun _ => h0, fun _ => rfl⟩
  · have h0 : ¬ gx G (nI i + 2).toNatClampNeg = 0 := by assumption
    exact main true ⟨fun z => (by cases z), fun z => absurd z h0⟩
set_option maxRecDepth 20000 in
theorem W_shrink (hL : gL G ≤ 3072) (M : xMe) (hJ : jJ M) (i : Nat) (hi : i + 6 ≤ gL G) (Q : Option Value → xMe → Prop) (hQ : ∀ M', jJ M' → xFl l G 833 (lvL (nI i)) [] M' Q) : xFl l G 632 (lvL (nI i)) [] M Q := by
  obtain ⟨P, X, Z, lh, hw, hc, hm⟩ := hJ
  have v1 : vp_in (nI i + 1) (gL G) := by rw [nI_1]; exact vp_in_nI (by omega) (by omega)
  have v2 : vp_in (nI i + 2) (gL G) := by rw [show nI i + 2 = nI (i + 2) from nI_add i 2]; exact vp_in_nI (by omega) (by omega)
  have v3 : vp_in (nI i + 3) (gL G) := by rw [show nI i + 3 = nI (i + 3) from nI_add i 3]; exact vp_in_nI (by omega) (by omega)
  have v4 : vp_in (nI i + 4) (gL G) := by rw [show nI i + 4 = nI (i + 4) from nI_add i 4]; exact vp_in_nI (by omega) (by omega)
  have v5 : vp_in (nI i + 5) (gL G) := by rw [show nI i + 5 = nI (i + 5) from nI_add i 5]; exact vp_in_nI (by omega) (by omega)
  unfold lvL at *
  refine xFl_go [833] 60 (fun K hK => ?_)
  repeat' ((conv => whnf); first | refine ⟨fun h => ?_, fun h => ?_⟩ | refine ⟨?_, ?_⟩ | refine hK _ _ _ _ ?_)
  refine xFl_callV [] rfl z_DS_shrink i_DS_shrink v_DS_shrink l_Lw_70 rfl ⟨⟨by decide, by decide⟩, rfl, rfl⟩ (Nat.le_of_ble_eq_true rfl) rfl rfl rfl (E_DSshrink l G P hw.1 M hc.1 hc.2.2.2.1) ?_
  rintro v M1 ⟨V, R, rfl, hfin, hR, hSh, hP1, h21, h0, hfr⟩
  clear hK K
  have hm1 := mJ_fr hfr (by decide) hm
  have hc1 : cJ P X (some (P, V, R)) true M1 := by
    refine ⟨hP1, cX_fr hfr (by decide) hc.2.1, c44_fr hfr (by decide) hc.2.2.1, h21, ⟨?_, fun P1 V1 R1 e => ?_⟩, ?_⟩
    · rw [h0]; rfl
    · cases e
      exact ⟨hw.1, hfin, hR, hSh⟩
    · rw [h0]; rfl
  refine xFl_go [833] 60 (fun K hK => ?_)
  repeat' ((conv => whnf); first | refine ⟨fun h => ?_, fun h => ?_⟩ | refine ⟨?_, ?_⟩ | refine hK _ _ _ _ ?_)
  refine xFl_callV [] rfl z_Mo_shrink i_Mo_shrink v_Mo_shrink l_Lw_73 rfl ⟨⟨by decide, by decide⟩, rfl, rfl⟩ (Nat.le_of_ble_eq_true rfl) rfl rfl rfl (E_Mshrink l G P hw.1 V hfin R hR M1 hm1.1 hm1.2.2.1) ?_
  rintro v M2 ⟨rfl, hmS, hmP, hmb, h26, h27, hv⟩
  clear hK K
  have hc2 := cJ_fr hv.1 (by decide) hc1
  have hm2 : mJ P X (some (P, V, R)) true M2 := by
    refine ⟨hmP, mX_fr hv.1 (by decide) (fun s hs => hv.2 s (by revert s; decide)) hm1.2.1, hmb, ⟨?_, fun P1 V1 R1 e => ?_⟩, ?_⟩
    · rw [h27]; rfl
    · cases e
      exact ⟨hw.1, hfin, hR, hmS⟩
    · rw [h26]; rfl
  refine xFl_cmp rfl rfl ?_
  exact hQ M2 ⟨P, X, some (P, V, R), true, ⟨hw.1, hw.2.1, fun _ => ⟨V, R, rfl⟩⟩, hc2, hm2⟩
end XLX
