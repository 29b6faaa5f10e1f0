/-! the law: runs and input -/
section XLW
variable (l : Launch) (G : xG)
set_option maxRecDepth 20000 in
theorem W_run (hL : gL G ≤ 3072) (M : xMe) (hJ : jJ M) (i : Nat) (hi : i + 6 ≤ gL G) (Q : Option Value → xMe → Prop) (hQ : ∀ M', jJ M' → xFl l G 833 (lvL (nI i)) [] M' Q) : xFl l G 540 (lvL (nI i)) [] M Q := by
  obtain ⟨P, X, Z, lh, hw, hc, hm⟩ := hJ
  have v1 : vp_in (nI i + 1) (gL G) := by rw [nI_1]; exact vp_in_nI (by omega) (by omega)
  have v2 : vp_in (nI i + 2) (gL G) := by rw [show nI i + 2 = nI (i + 2) from nI_add i 2]; exact vp_in_nI (by omega) (by omega)
  have v3 : vp_in (nI i + 3) (gL G) := by rw [show nI i + 3 = nI (i + 3) from nI_add i 3]; exact vp_in_nI (by omega) (by omega)
  have v4 : vp_in (nI i + 4) (gL G) := by rw [show nI i + 4 = nI (i + 4) from nI_add i 4]; exact vp_in_nI (by omega) (by omega)
  have v5 : vp_in (nI i + 5) (gL G) := by rw [show nI i + 5 = nI (i + 5) from nI_add i 5]; exact vp_in_nI (by omega) (by omega)
  unfold lvL at *
  refine xFl_go [833] 60 (fun K hK => ?_)
  repeat' ((conv => whnf); first | refine ⟨fun h => ?_, fun h => ?_⟩ | refine ⟨?_, ?_⟩ | refine hK _ _ _ _ ?_)
  all_goals try assumption
  refine xFl_callV [.int _] rfl z_DS_run i_DS_run v_DS_run l_Lw_54 rfl ⟨⟨by decide, by decide⟩, rfl, rfl⟩ (Nat.le_of_ble_eq_true rfl) rfl rfl rfl (E_run l G P X M hc.1 hw.1 hc.2.1 hc.2.2.1 _) ?_
  rintro v M1 ⟨X', r0, rfl, hr, hX', h44, hfr⟩
  clear hK K
  have hc1 := cJ_run hc hX' h44 hfr
  have hm1 := mJ_fr hfr (by decide) hm
  refine xFl_go [833] 60 (fun K hK => ?_)
  repeat' ((conv => whnf); first | refine ⟨fun h => ?_, fun h => ?_⟩ | refine ⟨?_, ?_⟩ | refine hK _ _ _ _ ?_)
  all_goals try assumption
  refine xFl_callV [.int _] rfl z_Mo_run i_Mo_run v_Mo_run l_Lw_57 rfl ⟨⟨by decide, by decide⟩, rfl, rfl⟩ (Nat.le_of_ble_eq_true rfl) rfl rfl rfl (E_Mrun l G P X M1 hm1.1 hw.1 hm1.2.1 _ X' r0 hr) ?_
  rintro v M2 ⟨rfl, hmX, hfr2, h50⟩
  clear hK K
  have hm2 := mJ_run hm1 hmX hfr2 h50
  have hc2 := cJ_fr hfr2 (by decide) hc1
  refine xFl_cmp rfl rfl ?_
  exact hQ M2 ⟨P, X', Z, lh, ⟨hw.1, rRun_w hw.1 hw.2.1 hr, hw.2.2⟩, hc2, hm2⟩
set_option maxRecDepth 20000 in
theorem W_runLaid (hL : gL G ≤ 3072) (M : xMe) (hJ : jJ M) (i : Nat) (hi : i + 6 ≤ gL G) (Q : Option Value → xMe → Prop) (hQ : ∀ M', jJ M' → xFl l G 833 (lvL (nI i)) [] M' Q) : xFl l G 563 (lvL (nI i)) [] M Q := by
  obtain ⟨P, X, Z, lh, hw, hc, hm⟩ := hJ
  have v1 : vp_in (nI i + 1) (gL G) := by rw [nI_1]; exact vp_in_nI (by omega) (by omega)
  have v2 : vp_in (nI i + 2) (gL G) := by rw [show nI i + 2 = nI (i + 2) from nI_add i 2]; exact vp_in_nI (by omega) (by omega)
  have v3 : vp_in (nI i + 3) (gL G) := by rw [show nI i + 3 = nI (i + 3) from nI_add i 3]; exact vp_in_nI (by omega) (by omega)
  have v4 : vp_in (nI i + 4) (gL G) := by rw [show nI i + 4 = nI (i + 4) from nI_add i 4]; exact vp_in_nI (by omega) (by omega)
  have v5 : vp_in (nI i + 5) (gL G) := by rw [show nI i + 5 = nI (i + 5) from nI_add i 5]; exact vp_in_nI (by omega) (by omega)
  unfold lvL at *
  refine xFl_go [833] 60 (fun K hK => ?_)
  repeat' ((conv => whnf); first | refine ⟨fun h => ?_, fun h => ?_⟩ | refine ⟨?_, ?_⟩ | refine hK _ _ _ _ ?_)
  all_goals try assumption
  refine xFl_callV [.int _] rfl z_DS_runLaid i_DS_runLaid v_DS_runLaid l_Lw_58 rfl ⟨⟨by decide, by decide⟩, rfl, rfl⟩ (Nat.le_of_ble_eq_true rfl) rfl rfl rfl (E_runLaid l G P X Z lh M hc.1 hw.1 hc.2.1 hc.2.2.1 hc.2.2.2.2.1 hc.2.2.2.2.2 hw.2.2 _) ?_
  rintro v M1 ⟨X', r0, rfl, hr, hX', h44, hfr⟩
  clear hK K
  have hc1 := cJ_run hc hX' h44 hfr
  have hm1 := mJ_fr hfr (by decide) hm
  refine xFl_go [833] 60 (fun K hK => ?_)
  repeat' ((conv => whnf); first | refine ⟨fun h => ?_, fun h => ?_⟩ | refine ⟨?_, ?_⟩ | refine hK _ _ _ _ ?_)
  all_goals try assumption
  refine xFl_callV [.int _] rfl z_Mo_runLaid i_Mo_runLaid v_Mo_runLaid l_Lw_61 rfl ⟨⟨by decide, by decide⟩, rfl, rfl⟩ (Nat.le_of_ble_eq_true rfl) rfl rfl rfl (E_MrunLaid l G P X Z lh M1 hm1.1 hw.1 hm1.2.1 hm1.2.2.2.1 hm1.2.2.2.2 hw.2.2 _ X' r0 hr) ?_
  rintro v M2 ⟨rfl, hmX, hfr2, h50⟩
  clear hK K
  have hm2 := mJ_run hm1 hmX hfr2 h50
  have hc2 := cJ_fr hfr2 (by decide) hc1
  refine xFl_cmp rfl rfl ?_
  exact hQ M2 ⟨P, X', Z, lh, ⟨hw.1, rRunL_w hw.1 hw.2.1 (fun V R e => (hc.2.2.2.2.1.2 P V R e).2.2.1) hr, hw.2.2⟩, hc2, hm2⟩
set_option maxRecDepth 20000 in
theorem W_input1 (hL : gL G ≤ 3072) (M : xMe) (hJ : jJ M) (i : Nat) (hi : i + 6 ≤ gL G) (Q : Option Value → xMe → Prop) (hQ : ∀ M', jJ M' → xFl l G 833 (lvL (nI i)) [] M' Q) : xFl l G 464 (lvL (nI i)) [] M Q := by
  obtain ⟨P, X, Z, lh, hw, hc, hm⟩ := hJ
  have v1 : vp_in (nI i + 1) (gL G) := by rw [nI_1]; exact vp_in_nI (by omega) (by omega)
  have v2 : vp_in (nI i + 2) (gL G) := by rw [show nI i + 2 = nI (i + 2) from nI_add i 2]; exact vp_in_nI (by omega) (by omega)
  have v3 : vp_in (nI i + 3) (gL G) := by rw [show nI i + 3 = nI (i + 3) from nI_add i 3]; exact vp_in_nI (by omega) (by omega)
  have v4 : vp_in (nI i + 4) (gL G) := by rw [show nI i + 4 = nI (i + 4) from nI_add i 4]; exact vp_in_nI (by omega) (by omega)
  have v5 : vp_in (nI i + 5) (gL G) := by rw [show nI i + 5 = nI (i + 5) from nI_add i 5]; exact vp_in_nI (by omega) (by omega)
  unfold lvL at *
  refine xFl_go [833] 60 (fun K hK => ?_)
  repeat' ((conv => whnf); first | refine ⟨fun h => ?_, fun h => ?_⟩ | refine ⟨?_, ?_⟩ | refine hK _ _ _ _ ?_)
  all_goals try assumption
  refine xFl_callV [.int _, .long _] rfl z_DS_input1 i_DS_input1 v_DS_input1 l_Lw_45 rfl ⟨⟨by decide, by decide⟩, rfl, rfl⟩ (Nat.le_of_ble_eq_true rfl) rfl rfl rfl (E_DSinput1 l G P M hc.1 hw.1 _ _) ?_
  rintro v M1 ⟨P', r0, hr, rfl, hP', hw', hfr⟩
  clear hK K
  obtain ⟨L, eL⟩ := rInput_in hr
  have hc1 := cJ_in hw hc hw' eL hP' hfr (by decide)
  have hm1 := mJ_fr hfr (by decide) hm
  refine xFl_go [833] 60 (fun K hK => ?_)
  repeat' ((conv => whnf); first | refine ⟨fun h => ?_, fun h => ?_⟩ | refine ⟨?_, ?_⟩ | refine hK _ _ _ _ ?_)
  all_goals try assumption
  refine xFl_callV [.int _, .long _] rfl z_Mo_input1 i_Mo_input1 v_Mo_input1 l_Lw_49 rfl ⟨⟨by decide, by decide⟩, rfl, rfl⟩ (Nat.le_of_ble_eq_true rfl) rfl rfl rfl (E_Minput1 l G P P' M1 hm1.1 hw.1 _ r0 _ hr) ?_
  rintro v M2 ⟨rfl, hmP', h50, hfr2⟩
  clear hK K
  have hm2 := mJ_in hw hm1 hw' eL hmP' h50 hfr2 (by decide)
  have hc2 := cJ_fr hfr2 (by decide) hc1
  refine xFl_cmp rfl rfl ?_
  exact hQ M2 ⟨P', X, _, lh, wJ_in hw hw', hc2, hm2⟩
set_option maxRecDepth 20000 in
theorem W_input2 (hL : gL G ≤ 3072) (M : xMe) (hJ : jJ M) (i : Nat) (hi : i + 6 ≤ gL G) (Q : Option Value → xMe → Prop) (hQ : ∀ M', jJ M' → xFl l G 833 (lvL (nI i)) [] M' Q) : xFl l G 527 (lvL (nI i)) [] M Q := by
  obtain ⟨P, X, Z, lh, hw, hc, hm⟩ := hJ
  have v1 : vp_in (nI i + 1) (gL G) := by rw [nI_1]; exact vp_in_nI (by omega) (by omega)
  have v2 : vp_in (nI i + 2) (gL G) := by rw [show nI i + 2 = nI (i + 2) from nI_add i 2]; exact vp_in_nI (by omega) (by omega)
  have v3 : vp_in (nI i + 3) (gL G) := by rw [show nI i + 3 = nI (i + 3) from nI_add i 3]; exact vp_in_nI (by omega) (by omega)
  have v4 : vp_in (nI i + 4) (gL G) := by rw [show nI i + 4 = nI (i + 4) from nI_add i 4]; exact vp_in_nI (by omega) (by omega)
  have v5 : vp_in (nI i + 5) (gL G) := by rw [show nI i + 5 = nI (i + 5) from nI_add i 5]; exact vp_in_nI (by omega) (by omega)
  unfold lvL at *
  refine xFl_go [833] 60 (fun K hK => ?_)
  repeat' ((conv => whnf); first | refine ⟨fun h => ?_, fun h => ?_⟩ | refine ⟨?_, ?_⟩ | refine hK _ _ _ _ ?_)
  all_goals try assumption
  refine xFl_callV [] rfl z_DS_input2 i_DS_input2 v_DS_input2 l_Lw_50 rfl ⟨⟨by decide, by decide⟩, rfl, rfl⟩ (Nat.le_of_ble_eq_true rfl) rfl rfl rfl (E_DSinput2 l G P M hc.1 hw.1) ?_
  rintro v M1 ⟨rfl, hP', hw', hfr⟩
  clear hK K
  have eL : sNoIn P = sIn P [] := rfl
  have hc1 := cJ_in hw hc hw' eL hP' hfr (by decide)
  have hm1 := mJ_fr hfr (by decide) hm
  refine xFl_go [833] 60 (fun K hK => ?_)
  repeat' ((conv => whnf); first | refine ⟨fun h => ?_, fun h => ?_⟩ | refine ⟨?_, ?_⟩ | refine hK _ _ _ _ ?_)
  all_goals try assumption
  refine xFl_callV [] rfl z_Mo_input2 i_Mo_input2 v_Mo_input2 l_Lw_53 rfl ⟨⟨by decide, by decide⟩, rfl, rfl⟩ (Nat.le_of_ble_eq_true rfl) rfl rfl rfl (E_Minput2 l G P M1 hm1.1) ?_
  rintro v M2 ⟨rfl, hmP', h50, hfr2⟩
  clear hK K
  have hm2 := mJ_in hw hm1 hw' eL hmP' h50 hfr2 (by decide)
  have hc2 := cJ_fr hfr2 (by decide) hc1
  refine xFl_cmp rfl rfl ?_
  exact hQ M2 ⟨sNoIn P, X, _, lh, wJ_in hw hw', hc2, hm2⟩
end XLW
