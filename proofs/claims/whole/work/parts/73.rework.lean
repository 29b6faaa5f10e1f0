/-! Reach.work -/
def fin (P : sP) (V : sV) : Prop := cls P V ∧ bas P V ∧ (∀ f, f < 12 → ∀ i q, (pC P f)[i]? = some q → vC V f i → okx P V f i q) ∧ ∀ Z, cls P Z → sub P V Z
abbrev wfr : List Nat := [18, 19, 20, 21, 22, 23, 24, 25, 26, 27, 28, 29]
theorem c21_V {P : sP} {V : sV} {M : xMe} (hV : cV P V M) (hb : bas P V) : c21 M := by
  intro f hf h0 i hi r hr v hv
  cases e : sHas (M.2 21) ((f * 41 + i) * 16 + r * 4) v with
  | false => rfl
  | true =>
    have h1 := hb.2.2.1 f hf i hi r hr v hv ((hV.1 f hf i hi r hr v hv).mp e)
    have h2 := (hV.2.2.1 f hf i (by omega)).mpr h1
    rw [h0, xbit_0] at h2
    cases h2
section XRW
variable (l : Launch) (G : xG)
theorem E_reWork (P : sP) (hw : wP P) (M : xMe) (hP : cP P M) (h21 : c21 M) : xE l G y_Re_work [.ref 16] M (fun r M' => r = none ∧ ∃ V, cV P V M' ∧ fin P V ∧ (∀ f, f < 12 → M'.1 20 f = nI (pC P f).length) ∧ (∀ x, x < 36 → rD (ent P) (vLk V) x (M'.1 19 x)) ∧ c21 M' ∧ xfr wfr M M') := by
  refine xE_of [some (.ref 16), none, none] (by decide +kernel) (Nat.le_of_ble_eq_true rfl) rfl ?_
  refine xF_go o_Re_work [20] 60 (fun K hK => ?_)
  repeat' ((conv => whnf); first | refine ⟨fun h => ?_, fun h => ?_⟩ | refine ⟨?_, ?_⟩ | refine hK _ _ _ _ ?_)
  refine xF_callV o_Re_work [] rfl z_Re_forget i_Re_forget v_Re_forget l_Re_57 rfl ⟨⟨by decide, by decide⟩, rfl, rfl⟩ (Nat.le_of_ble_eq_true rfl) rfl rfl rfl (E_reForget l G P M hP.2.2.2.1 h21) ?_
  rintro v M1 ⟨rfl, hfr1, a1, a2, a3, a4, a5, a6, a7, a8, a9⟩
  clear hK K
  have hP1 := cP_fr hfr1 (by decide) hP
  refine xF_go o_Re_work [20] 60 (fun K hK => ?_)
  repeat' ((conv => whnf); first | refine ⟨fun h => ?_, fun h => ?_⟩ | refine ⟨?_, ?_⟩ | refine hK _ _ _ _ ?_)
  refine xF_callV o_Re_work [] rfl z_Re_standAsTold i_Re_standAsTold v_Re_standAsTold l_Re_60 rfl ⟨⟨by decide, by decide⟩, rfl, rfl⟩ (Nat.le_of_ble_eq_true rfl) rfl rfl rfl (E_standAsTold l G P hw M1 hP1.1 hP1.2.1) ?_
  rintro v M2 ⟨rfl, hfr2, b1⟩
  clear hK K
  have hP2 := cP_fr hfr2 (by decide) hP1
  refine xF_go o_Re_work [20] 60 (fun K hK => ?_)
  repeat' ((conv => whnf); first | refine ⟨fun h => ?_, fun h => ?_⟩ | refine ⟨?_, ?_⟩ | refine hK _ _ _ _ ?_)
  refine xF_callV o_Re_work [] rfl z_Re_findSites i_Re_findSites v_Re_findSites l_Re_63 rfl ⟨⟨by decide, by decide⟩, rfl, rfl⟩ (Nat.le_of_ble_eq_true rfl) rfl rfl rfl (E_findSites l G P hw M2 hP2.2.2.2.1 (by rw [(hfr2 20 (by decide)).1]; exact a8) (by rw [(hfr2 25 (by decide)).2]; exact a9)) ?_
  rintro v M3 ⟨rfl, hfr3, hk3⟩
  clear hK K
  have hP3 := cP_fr hfr3 (by decide) hP2
  have q21 : M3.2 21 = M1.2 21 := (hfr3 21 (by decide)).2.trans (hfr2 21 (by decide)).2
  have q23 : M3.2 23 = M1.2 23 := (hfr3 23 (by decide)).2.trans (hfr2 23 (by decide)).2
  have q24 : M3.2 24 = M1.2 24 := (hfr3 24 (by decide)).2.trans (hfr2 24 (by decide)).2
  refine xF_go o_Re_work [20] 60 (fun K hK => ?_)
  repeat' ((conv => whnf); first | refine ⟨fun h => ?_, fun h => ?_⟩ | refine ⟨?_, ?_⟩ | refine hK _ _ _ _ ?_)
  refine xF_callV o_Re_work [] rfl z_Re_beginAtEntries i_Re_beginAtEntries v_Re_beginAtEntries l_Re_66 rfl ⟨⟨by decide, by decide⟩, rfl, rfl⟩ (Nat.le_of_ble_eq_true rfl) rfl rfl rfl (E_beginAtEntries l G P hw M3 hP3.2.2.2.2.1 hk3 (by unfold cS21; rw [q21]; exact a1) (by unfold cB; rw [q23]; exact a2) (by unfold cB; rw [q24]; exact a3)) ?_
  rintro v M4 ⟨rfl, hfr4, d1, d2, d3⟩
  clear hK K
  have hP4 := cP_fr hfr4 (by decide) hP3
  have hk4 := cK_fr hfr4 (by decide) hk3
  have hV4 : cV P (vini P) M4 := by
    refine ⟨d1, ?_, d2, d3, ?_, ?_, ?_, ?_⟩
    · unfold cY22; rw [(hfr4 22 (by decide)).2, (hfr3 22 (by decide)).2]; exact b1
    · unfold cB; rw [(hfr4 27 (by decide)).2, (hfr3 27 (by decide)).2, (hfr2 27 (by decide)).2]; exact a4
    · unfold cZ; rw [(hfr4 28 (by decide)).1, (hfr3 28 (by decide)).1, (hfr2 28 (by decide)).1]; exact a5
    · unfold cZ; rw [(hfr4 29 (by decide)).1, (hfr3 29 (by decide)).1, (hfr2 29 (by decide)).1]; exact a6
    · unfold cB; rw [(hfr4 18 (by decide)).2, (hfr3 18 (by decide)).2, (hfr2 18 (by decide)).2]; exact a7
  have hfr : xfr wfr M M4 := (((hfr1.mono (by simp)).tr hfr2 (by simp)).tr hfr3 (by simp)).tr hfr4 (by simp)
  refine xF_go o_Re_work [20] 60 (fun K hK => ?_)
  repeat' ((conv => whnf); first | refine ⟨fun h => ?_, fun h => ?_⟩ | refine ⟨?_, ?_⟩ | refine hK _ _ _ _ ?_)
  refine L_rounds l G P hw M4 hP4 hk4 _ ?_ 909326 0 (vini P) M4 true hV4 (inv_ini hw) xfr.rf (fun z => by cases z) (fun _ => NN_bd _) (by omega)
  clear hK K
  intro V M5 y x hV5 hI5 hfr5 hno
  have hP5 := cP_fr hfr5 (by decide) hP4
  obtain ⟨c1, c2⟩ := inv_cls hI5 hno
  refine xF_go o_Re_work [] 60 (fun K hK => ?_)
  repeat' ((conv => whnf); first | refine ⟨fun h => ?_, fun h => ?_⟩ | refine ⟨?_, ?_⟩ | refine hK _ _ _ _ ?_)
  refine xF_callV o_Re_work [.ref 14] rfl z_Ch_measure i_Ch_measure v_Ch_measure l_Re_79 rfl ⟨⟨by decide, by decide⟩, rfl, rfl⟩ (Nat.le_of_ble_eq_true rfl) rfl rfl rfl (E_measure l G P (vLk V) M5 hP5.2.2.2.2.1 hV5.2.2.2.2.2.2.2) ?_
  rintro v M6 ⟨rfl, hfr6, hD⟩
  clear hK K
  refine xF_go o_Re_work [] 60 (fun K hK => ?_)
  repeat' ((conv => whnf); first | refine ⟨fun h => ?_, fun h => ?_⟩ | refine ⟨?_, ?_⟩ | refine hK _ _ _ _ ?_)
  refine xF_vret o_Re_work rfl rfl ?_
  have hV6 := cV_fr hfr6 (by decide) hV5
  refine ⟨rfl, V, hV6, ⟨c1, hI5.1, c2, hI5.2.2.2⟩, ?_, hD, c21_V hV6 hI5.1, (hfr.tr hfr5 (by simp)).tr hfr6 (by simp)⟩
  rw [(hfr6 20 (by decide)).1, (hfr5 20 (by decide)).1]
  exact hk4.1
end XRW
