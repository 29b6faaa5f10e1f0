/-! the law: what is told of runs and of the latest shrink -/
section XLW
variable (l : Launch) (G : xG)
set_option maxRecDepth 20000 in
theorem W_ran (hL : gL G ≤ 3072) (M : xMe) (hJ : jJ M) (i : Nat) (hi : i + 6 ≤ gL G) (Q : Option Value → xMe → Prop) (hQ : ∀ M', jJ M' → xFl l G 833 (lvL (nI i)) [] M' Q) : xFl l G 586 (lvL (nI i)) [] M Q := by
  obtain ⟨P, X, Z, lh, hw, hc, hm⟩ := hJ
  have v1 : vp_in (nI i + 1) (gL G) := by rw [nI_1]; exact vp_in_nI (by omega) (by omega)
  have v2 : vp_in (nI i + 2) (gL G) := by rw [show nI i + 2 = nI (i + 2) from nI_add i 2]; exact vp_in_nI (by omega) (by omega)
  have v3 : vp_in (nI i + 3) (gL G) := by rw [show nI i + 3 = nI (i + 3) from nI_add i 3]; exact vp_in_nI (by omega) (by omega)
  have v4 : vp_in (nI i + 4) (gL G) := by rw [show nI i + 4 = nI (i + 4) from nI_add i 4]; exact vp_in_nI (by omega) (by omega)
  have v5 : vp_in (nI i + 5) (gL G) := by rw [show nI i + 5 = nI (i + 5) from nI_add i 5]; exact vp_in_nI (by omega) (by omega)
  unfold lvL at *
  refine xFl_go [833] 60 (fun K hK => ?_)
  repeat' ((conv => whnf); first | refine ⟨fun h => ?_, fun h => ?_⟩ | refine ⟨?_, ?_⟩ | refine hK _ _ _ _ ?_)
  all_goals try assumption
  refine xFl_callV [.int _] rfl z_DS_ran i_DS_ran v_DS_ran l_Lw_62 rfl ⟨⟨by decide, by decide⟩, rfl, rfl⟩ (Nat.le_of_ble_eq_true rfl) rfl rfl rfl (E_DSran l G X M hc.2.1 _) ?_
  rintro v M1 ⟨eM, r0, rfl, hr⟩
  obtain rfl := eM.symm
  clear hK K
  refine xFl_go [833] 60 (fun K hK => ?_)
  repeat' ((conv => whnf); first | refine ⟨fun h => ?_, fun h => ?_⟩ | refine ⟨?_, ?_⟩ | refine hK _ _ _ _ ?_)
  all_goals try assumption
  refine xFl_callV [.int _] rfl z_Mo_ran i_Mo_ran v_Mo_ran l_Lw_65 rfl ⟨⟨by decide, by decide⟩, rfl, rfl⟩ (Nat.le_of_ble_eq_true rfl) rfl rfl rfl (E_Mran l G X M hm.2.1 _ r0 hr) ?_
  rintro v M2 ⟨eM2, rfl⟩
  obtain rfl := eM2.symm
  clear hK K
  refine xFl_cmp rfl rfl ?_
  exact hQ M ⟨P, X, Z, lh, hw, hc, hm⟩
set_option maxRecDepth 20000 in
theorem W_out (hL : gL G ≤ 3072) (M : xMe) (hJ : jJ M) (i : Nat) (hi : i + 6 ≤ gL G) (Q : Option Value → xMe → Prop) (hQ : ∀ M', jJ M' → xFl l G 833 (lvL (nI i)) [] M' Q) : xFl l G 609 (lvL (nI i)) [] M Q := by
  obtain ⟨P, X, Z, lh, hw, hc, hm⟩ := hJ
  have v1 : vp_in (nI i + 1) (gL G) := by rw [nI_1]; exact vp_in_nI (by omega) (by omega)
  have v2 : vp_in (nI i + 2) (gL G) := by rw [show nI i + 2 = nI (i + 2) from nI_add i 2]; exact vp_in_nI (by omega) (by omega)
  have v3 : vp_in (nI i + 3) (gL G) := by rw [show nI i + 3 = nI (i + 3) from nI_add i 3]; exact vp_in_nI (by omega) (by omega)
  have v4 : vp_in (nI i + 4) (gL G) := by rw [show nI i + 4 = nI (i + 4) from nI_add i 4]; exact vp_in_nI (by omega) (by omega)
  have v5 : vp_in (nI i + 5) (gL G) := by rw [show nI i + 5 = nI (i + 5) from nI_add i 5]; exact vp_in_nI (by omega) (by omega)
  unfold lvL at *
  refine xFl_go [833] 60 (fun K hK => ?_)
  repeat' ((conv => whnf); first | refine ⟨fun h => ?_, fun h => ?_⟩ | refine ⟨?_, ?_⟩ | refine hK _ _ _ _ ?_)
  all_goals try assumption
  refine xFl_callV [.int _] rfl z_DS_out i_DS_out v_DS_out l_Lw_66 rfl ⟨⟨by decide, by decide⟩, rfl, rfl⟩ (Nat.le_of_ble_eq_true rfl) rfl rfl rfl (E_DSout l G X M hc.2.1 hw.2.1 _) ?_
  rintro v M1 ⟨eM, r0, rfl, hr⟩
  obtain rfl := eM.symm
  clear hK K
  refine xFl_go [833] 60 (fun K hK => ?_)
  repeat' ((conv => whnf); first | refine ⟨fun h => ?_, fun h => ?_⟩ | refine ⟨?_, ?_⟩ | refine hK _ _ _ _ ?_)
  all_goals try assumption
  refine xFl_callV [.int _] rfl z_Mo_out i_Mo_out v_Mo_out l_Lw_69 rfl ⟨⟨by decide, by decide⟩, rfl, rfl⟩ (Nat.le_of_ble_eq_true rfl) rfl rfl rfl (E_Mout l G X M hm.2.1 hw.2.1 _ r0 hr) ?_
  rintro v M2 ⟨eM2, rfl⟩
  obtain rfl := eM2.symm
  clear hK K
  refine xFl_cmp rfl rfl ?_
  exact hQ M ⟨P, X, Z, lh, hw, hc, hm⟩
set_option maxRecDepth 20000 in
theorem W_kept (hL : gL G ≤ 3072) (M : xMe) (hJ : jJ M) (i : Nat) (hi : i + 6 ≤ gL G) (Q : Option Value → xMe → Prop) (hQ : ∀ M', jJ M' → xFl l G 833 (lvL (nI i)) [] M' Q) : xFl l G 645 (lvL (nI i)) [] M Q := by
  obtain ⟨P, X, Z, lh, hw, hc, hm⟩ := hJ
  have v1 : vp_in (nI i + 1) (gL G) := by rw [nI_1]; exact vp_in_nI (by omega) (by omega)
  have v2 : vp_in (nI i + 2) (gL G) := by rw [show nI i + 2 = nI (i + 2) from nI_add i 2]; exact vp_in_nI (by omega) (by omega)
  have v3 : vp_in (nI i + 3) (gL G) := by rw [show nI i + 3 = nI (i + 3) from nI_add i 3]; exact vp_in_nI (by omega) (by omega)
  have v4 : vp_in (nI i + 4) (gL G) := by rw [show nI i + 4 = nI (i + 4) from nI_add i 4]; exact vp_in_nI (by omega) (by omega)
  have v5 : vp_in (nI i + 5) (gL G) := by rw [show nI i + 5 = nI (i + 5) from nI_add i 5]; exact vp_in_nI (by omega) (by omega)
  unfold lvL at *
  refine xFl_go [833] 60 (fun K hK => ?_)
  repeat' ((conv => whnf); first | refine ⟨fun h => ?_, fun h => ?_⟩ | refine ⟨?_, ?_⟩ | refine hK _ _ _ _ ?_)
  all_goals try assumption
  refine xFl_callV [.int _, .int _] rfl z_DS_kept i_DS_kept v_DS_kept l_Lw_74 rfl ⟨⟨by decide, by decide⟩, rfl, rfl⟩ (Nat.le_of_ble_eq_true rfl) rfl rfl rfl (E_DSkept l G Z M hc.2.2.2.2.1 _ _) ?_
  rintro v M1 ⟨eM, r0, rfl, hr⟩
  obtain rfl := eM.symm
  clear hK K
  refine xFl_go [833] 60 (fun K hK => ?_)
  repeat' ((conv => whnf); first | refine ⟨fun h => ?_, fun h => ?_⟩ | refine ⟨?_, ?_⟩ | refine hK _ _ _ _ ?_)
  all_goals try assumption
  refine xFl_callV [.int _, .int _] rfl z_Mo_kept i_Mo_kept v_Mo_kept l_Lw_78 rfl ⟨⟨by decide, by decide⟩, rfl, rfl⟩ (Nat.le_of_ble_eq_true rfl) rfl rfl rfl (E_Mkept l G Z M hm.2.2.2.1 _ _) ?_
  rintro v M2 ⟨eM2, r1, rfl, hr1⟩
  obtain rfl := eM2.symm
  obtain rfl := rKept_one hr hr1
  clear hK K
  refine xFl_cmp rfl rfl ?_
  exact hQ M ⟨P, X, Z, lh, hw, hc, hm⟩
set_option maxRecDepth 20000 in
theorem W_read (hL : gL G ≤ 3072) (M : xMe) (hJ : jJ M) (i : Nat) (hi : i + 6 ≤ gL G) (Q : Option Value → xMe → Prop) (hQ : ∀ M', jJ M' → xFl l G 833 (lvL (nI i)) [] M' Q) : xFl l G 678 (lvL (nI i)) [] M Q := by
  obtain ⟨P, X, Z, lh, hw, hc, hm⟩ := hJ
  have v1 : vp_in (nI i + 1) (gL G) := by rw [nI_1]; exact vp_in_nI (by omega) (by omega)
  have v2 : vp_in (nI i + 2) (gL G) := by rw [show nI i + 2 = nI (i + 2) from nI_add i 2]; exact vp_in_nI (by omega) (by omega)
  have v3 : vp_in (nI i + 3) (gL G) := by rw [show nI i + 3 = nI (i + 3) from nI_add i 3]; exact vp_in_nI (by omega) (by omega)
  have v4 : vp_in (nI i + 4) (gL G) := by rw [show nI i + 4 = nI (i + 4) from nI_add i 4]; exact vp_in_nI (by omega) (by omega)
  have v5 : vp_in (nI i + 5) (gL G) := by rw [show nI i + 5 = nI (i + 5) from nI_add i 5]; exact vp_in_nI (by omega) (by omega)
  unfold lvL at *
  refine xFl_go [833] 60 (fun K hK => ?_)
  repeat' ((conv => whnf); first | refine ⟨fun h => ?_, fun h => ?_⟩ | refine ⟨?_, ?_⟩ | refine hK _ _ _ _ ?_)
  all_goals try assumption
  refine xFl_callV [.int _, .int _] rfl z_DS_read i_DS_read v_DS_read l_Lw_79 rfl ⟨⟨by decide, by decide⟩, rfl, rfl⟩ (Nat.le_of_ble_eq_true rfl) rfl rfl rfl (E_DSread l G Z M hc.2.2.2.2.1 _ _) ?_
  rintro v M1 ⟨eM, r0, rfl, hr⟩
  obtain rfl := eM.symm
  clear hK K
  refine xFl_go [833] 60 (fun K hK => ?_)
  repeat' ((conv => whnf); first | refine ⟨fun h => ?_, fun h => ?_⟩ | refine ⟨?_, ?_⟩ | refine hK _ _ _ _ ?_)
  all_goals try assumption
  refine xFl_callV [.int _, .int _] rfl z_Mo_read i_Mo_read v_Mo_read l_Lw_82 rfl ⟨⟨by decide, by decide⟩, rfl, rfl⟩ (Nat.le_of_ble_eq_true rfl) rfl rfl rfl (E_Mread l G Z M hm.2.2.2.1 _ _) ?_
  rintro v M2 ⟨eM2, r1, rfl, hr1⟩
  obtain rfl := eM2.symm
  obtain rfl := rRead_one hr hr1
  clear hK K
  refine xFl_cmp rfl rfl ?_
  exact hQ M ⟨P, X, Z, lh, hw, hc, hm⟩
end XLW
