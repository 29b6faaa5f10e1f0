/-! the law: tells, on -/
section XLW
variable (l : Launch) (G : xG)
set_option maxRecDepth 20000 in
theorem W_bytes (hL : gL G ≤ 3072) (M : xMe) (hJ : jJ M) (i : Nat) (hi : i + 6 ≤ gL G) (Q : Option Value → xMe → Prop) (hQ : ∀ M', jJ M' → xFl l G 833 (lvL (nI i)) [] M' Q) : xFl l G 203 (lvL (nI i)) [] M Q := by
  obtain ⟨P, X, Z, lh, hw, hc, hm⟩ := hJ
  have v1 : vp_in (nI i + 1) (gL G) := by rw [nI_1]; exact vp_in_nI (by omega) (by omega)
  have v2 : vp_in (nI i + 2) (gL G) := by rw [show nI i + 2 = nI (i + 2) from nI_add i 2]; exact vp_in_nI (by omega) (by omega)
  have v3 : vp_in (nI i + 3) (gL G) := by rw [show nI i + 3 = nI (i + 3) from nI_add i 3]; exact vp_in_nI (by omega) (by omega)
  have v4 : vp_in (nI i + 4) (gL G) := by rw [show nI i + 4 = nI (i + 4) from nI_add i 4]; exact vp_in_nI (by omega) (by omega)
  have v5 : vp_in (nI i + 5) (gL G) := by rw [show nI i + 5 = nI (i + 5) from nI_add i 5]; exact vp_in_nI (by omega) (by omega)
  unfold lvL at *
  refine xFl_go [833] 60 (fun K hK => ?_)
  repeat' ((conv => whnf); first | refine ⟨fun h => ?_, fun h => ?_⟩ | refine ⟨?_, ?_⟩ | refine hK _ _ _ _ ?_)
  all_goals try assumption
  refine xFl_callV [.int _, .int _, .int _, .long _] rfl z_DS_bytes i_DS_bytes v_DS_bytes l_Lw_20 rfl ⟨⟨by decide, by decide⟩, rfl, rfl⟩ (Nat.le_of_ble_eq_true rfl) rfl rfl rfl (E_DSbytes l G P M hc.1 hw.1 _ _ _ _) ?_
  rintro v M1 ⟨P', r0, ac, hr, rfl, hP', hw', hf, ht, hfr⟩
  clear hK K
  have hc1 := cJ_tell hc hP' hf ht hfr (by decide)
  have hm1 := mJ_fr hfr (by decide) hm
  refine xFl_go [833] 60 (fun K hK => ?_)
  repeat' ((conv => whnf); first | refine ⟨fun h => ?_, fun h => ?_⟩ | refine ⟨?_, ?_⟩ | refine hK _ _ _ _ ?_)
  all_goals try assumption
  refine xFl_callV [.int _, .int _, .int _, .long _] rfl z_Mo_bytes i_Mo_bytes v_Mo_bytes l_Lw_24 rfl ⟨⟨by decide, by decide⟩, rfl, rfl⟩ (Nat.le_of_ble_eq_true rfl) rfl rfl rfl (E_Mbytes l G P P' M1 hm1.1 hw.1 _ _ _ r0 _ ac hr) ?_
  rintro v M2 ⟨rfl, hmP', hf2, ht2, hfr2⟩
  clear hK K
  have hm2 := mJ_tell hm1 hmP' hf2 ht2 hfr2 (by decide)
  have hc2 := cJ_fr hfr2 (by decide) hc1
  refine xFl_cmp rfl rfl ?_
  exact hQ M2 ⟨P', X, Z, _, wJ_tell hw hw' (fun z => by subst z; exact hr.elim (fun h => h.2.1) (fun h => by simp at h)), hc2, hm2⟩
set_option maxRecDepth 20000 in
theorem W_code (hL : gL G ≤ 3072) (M : xMe) (hJ : jJ M) (i : Nat) (hi : i + 6 ≤ gL G) (Q : Option Value → xMe → Prop) (hQ : ∀ M', jJ M' → xFl l G 833 (lvL (nI i)) [] M' Q) : xFl l G 329 (lvL (nI i)) [] M Q := by
  obtain ⟨P, X, Z, lh, hw, hc, hm⟩ := hJ
  have v1 : vp_in (nI i + 1) (gL G) := by rw [nI_1]; exact vp_in_nI (by omega) (by omega)
  have v2 : vp_in (nI i + 2) (gL G) := by rw [show nI i + 2 = nI (i + 2) from nI_add i 2]; exact vp_in_nI (by omega) (by omega)
  have v3 : vp_in (nI i + 3) (gL G) := by rw [show nI i + 3 = nI (i + 3) from nI_add i 3]; exact vp_in_nI (by omega) (by omega)
  have v4 : vp_in (nI i + 4) (gL G) := by rw [show nI i + 4 = nI (i + 4) from nI_add i 4]; exact vp_in_nI (by omega) (by omega)
  have v5 : vp_in (nI i + 5) (gL G) := by rw [show nI i + 5 = nI (i + 5) from nI_add i 5]; exact vp_in_nI (by omega) (by omega)
  unfold lvL at *
  refine xFl_go [833] 60 (fun K hK => ?_)
  repeat' ((conv => whnf); first | refine ⟨fun h => ?_, fun h => ?_⟩ | refine ⟨?_, ?_⟩ | refine hK _ _ _ _ ?_)
  all_goals try assumption
  refine xFl_callV [.int _, .int _, .int _, .int _, .int _] rfl z_DS_code i_DS_code v_DS_code l_Lw_30 rfl ⟨⟨by decide, by decide⟩, rfl, rfl⟩ (Nat.le_of_ble_eq_true rfl) rfl rfl rfl (E_DScode l G P M hc.1 hw.1 _ _ _ _ _) ?_
  rintro v M1 ⟨P', r0, ac, hr, rfl, hP', hw', hf, ht, hfr⟩
  clear hK K
  have hc1 := cJ_tell hc hP' hf ht hfr (by decide)
  have hm1 := mJ_fr hfr (by decide) hm
  refine xFl_go [833] 60 (fun K hK => ?_)
  repeat' ((conv => whnf); first | refine ⟨fun h => ?_, fun h => ?_⟩ | refine ⟨?_, ?_⟩ | refine hK _ _ _ _ ?_)
  all_goals try assumption
  refine xFl_callV [.int _, .int _, .int _, .int _, .int _] rfl z_Mo_code i_Mo_code v_Mo_code l_Lw_34 rfl ⟨⟨by decide, by decide⟩, rfl, rfl⟩ (Nat.le_of_ble_eq_true rfl) rfl rfl rfl (E_Mcode l G P P' M1 hm1.1 hw.1 _ _ _ _ _ r0 ac hr) ?_
  rintro v M2 ⟨rfl, hmP', hf2, ht2, hfr2⟩
  clear hK K
  have hm2 := mJ_tell hm1 hmP' hf2 ht2 hfr2 (by decide)
  have hc2 := cJ_fr hfr2 (by decide) hc1
  refine xFl_cmp rfl rfl ?_
  exact hQ M2 ⟨P', X, Z, _, wJ_tell hw hw' (fun z => by subst z; exact hr.elim (fun h => h.2.1) (fun h => by simp at h)), hc2, hm2⟩
end XLW
