/-! the reference's calls that tell, on -/
section XMS
variable (l : Launch) (G : xG)
theorem E_Mcode (P P' : sP) (M : xMe) (hM : mP P M) (hw : wP P) (f o a b c r0 : Int32) (ac : Bool) (hr : rCode P f o a b c P' r0 ac) : xE l G y_Mo_code [.ref 50, .int f, .int o, .int a, .int b, .int c] M (fun r M' => r = some (.int r0) ∧ mP P' M' ∧ (ac = false → M' = M) ∧ (ac = true → M'.1 50 = upd (M.1 50) 26 0) ∧ xfr [50, 57, 58, 59, 60, 61] M M') := by
  obtain ⟨h1, h2, h3, h4, h5, h6⟩ := id hM
  refine xE_of [some (.ref 50), some (.int f), some (.int o), some (.int a), some (.int b), some (.int c), none] (by decide +kernel) (Nat.le_of_ble_eq_true rfl) rfl ?_
  refine xF_go o_Mo_code [] 60 (fun K hK => ?_)
  repeat' ((conv => whnf); first | refine ⟨fun h => ?_, fun h => ?_⟩ | refine ⟨?_, ?_⟩ | refine hK _ _ _ _ ?_)
  refine xF_callS o_Mo_code [.int f, .int 0, .int 11] rfl z_Mo_in s_Mo_in l_Mo_157 rfl ⟨⟨by decide, by decide⟩, rfl, rfl⟩ (Nat.le_of_ble_eq_true rfl) rfl (E_in l G f 0 11 M) ?_
  rintro w M1 ⟨rfl, rfl⟩
  clear hK K
  by_cases hf : 0 ≤ f ∧ f ≤ 11
  · rw [if_pos hf]
    obtain ⟨f', hf', rfl⟩ := nI_of12 (x := f) (by grind)
    have hcl : (nI f').toNatClampNeg = f' := nI_clamp (by omega)
    have hlen := (h4 f' hf').1
    have hl40 := (hw.2.2.2.1 f' hf').1
    refine xF_go o_Mo_code [] 60 (fun K hK => ?_)
    repeat' ((conv => whnf); first | refine ⟨fun h => ?_, fun h => ?_⟩ | refine ⟨?_, ?_⟩ | refine hK _ _ _ _ ?_)
    · exact absurd h (by decide)
    · exact vp_in_nI hf' (by decide)
    · have h7 : M1.1 57 (nI f').toNatClampNeg = nI 40 := by assumption
      rw [hcl, hlen] at h7
      have h8 := nI_inj (by omega) (by omega) h7
      rcases hr with ⟨hn, rfl, rfl, rfl⟩ | ⟨f2, o', hf2, g40, e, -⟩
      · refine xF_iret o_Mo_code rfl rfl ?_
        exact ⟨rfl, hM, fun _ => rfl, (fun z => by cases z), xfr.rf⟩
      · have := nI_inj (by omega) (by omega) e
        subst this
        omega
    · have h7 : ¬ M1.1 57 (nI f').toNatClampNeg = nI 40 := by assumption
      rw [hcl, hlen] at h7
      have h8 : (pC P f').length < 40 := by
        have : (pC P f').length ≠ 40 := fun z => h7 (by rw [z])
        omega
      refine xF_callS o_Mo_code [.int o, .int a, .int b, .int c] rfl z_Mo_isTold s_Mo_isTold l_Mo_178 rfl ⟨⟨by decide, by decide⟩, rfl, rfl⟩ (Nat.le_of_ble_eq_true rfl) rfl (E_isTold l G o a b c M1) ?_
      rintro w M ⟨rfl, z, rfl, hz⟩
      clear hK K
      rcases hr with ⟨hn, rfl, rfl, rfl⟩ | ⟨f2, o', hf2, g40, e, rfl, hvn, rfl, rfl, rfl⟩
      · have hz0 : z = false := by
          cases z
          · rfl
          · exact absurd ⟨⟨f', hf', rfl, h8⟩, hz.mp rfl⟩ hn
        subst hz0
        refine xF_go o_Mo_code [] 60 (fun K hK => ?_)
        repeat' ((conv => whnf); first | refine ⟨fun h => ?_, fun h => ?_⟩ | refine ⟨?_, ?_⟩ | refine hK _ _ _ _ ?_)
        all_goals first | exact absurd rfl (show ¬ (b2 false) = 0 from by assumption) | skip
        refine xF_iret o_Mo_code rfl rfl ?_
        exact ⟨rfl, hM, fun _ => rfl, (fun z => by cases z), xfr.rf⟩
      · have := nI_inj (by omega) (by omega) e
        subst this
        have hz1 : z = true := by
          refine hz.mpr ?_
          unfold vN at hvn
          unfold vIns
          split at hvn
          all_goals first | exact hvn.elim | (rename_i e9; dsimp only at e9; subst e9; dsimp only at hvn; first | exact Or.inl ⟨rfl, hvn⟩ | exact Or.inr (Or.inl ⟨rfl, hvn⟩) | exact Or.inr (Or.inr (Or.inl ⟨rfl, hvn⟩)) | exact Or.inr (Or.inr (Or.inr (Or.inl ⟨rfl, hvn⟩))) | exact Or.inr (Or.inr (Or.inr (Or.inr (Or.inl ⟨rfl, hvn⟩)))) | exact Or.inr (Or.inr (Or.inr (Or.inr (Or.inr (Or.inl ⟨rfl, hvn⟩))))) | exact Or.inr (Or.inr (Or.inr (Or.inr (Or.inr (Or.inr (Or.inl ⟨rfl, hvn⟩)))))) | exact Or.inr (Or.inr (Or.inr (Or.inr (Or.inr (Or.inr (Or.inr (Or.inl ⟨rfl, hvn⟩))))))) | exact Or.inr (Or.inr (Or.inr (Or.inr (Or.inr (Or.inr (Or.inr (Or.inr (Or.inl ⟨rfl, hvn⟩)))))))) | exact Or.inr (Or.inr (Or.inr (Or.inr (Or.inr (Or.inr (Or.inr (Or.inr (Or.inr (Or.inl ⟨rfl, hvn⟩))))))))) | exact Or.inr (Or.inr (Or.inr (Or.inr (Or.inr (Or.inr (Or.inr (Or.inr (Or.inr (Or.inr (Or.inl ⟨rfl, hvn⟩)))))))))) | exact Or.inr (Or.inr (Or.inr (Or.inr (Or.inr (Or.inr (Or.inr (Or.inr (Or.inr (Or.inr (Or.inr ⟨rfl, hvn⟩)))))))))))
        subst hz1
        have hix : (41 * nI f' + M.1 57 (nI f').toNatClampNeg) = nI (41 * f' + (pC P f').length) := by rw [hcl, hlen, nI_41', nI_add]
        have hix2 : (41 * nI f' + M.1 57 (nI f').toNatClampNeg).toNatClampNeg = 41 * f' + (pC P f').length := by rw [hix, nI_clamp (by omega)]
        refine xF_go o_Mo_code [] 60 (fun K hK => ?_)
        repeat' ((conv => whnf); first | refine ⟨fun h => ?_, fun h => ?_⟩ | refine ⟨?_, ?_⟩ | refine hK _ _ _ _ ?_)
        · exact vp_in_nI hf' (by decide)
        · rw [hix]; exact vp_in_nI (N := 492) (by omega) (by decide)
        · rw [hix]; exact vp_in_nI (N := 492) (by omega) (by decide)
        · rw [hix]; exact vp_in_nI (N := 492) (by omega) (by decide)
        · rw [hix]; exact vp_in_nI (N := 492) (by omega) (by decide)
        · exact vp_in_nI hf' (by decide)
        · exact vp_in_nI hf' (by decide)
        · exact Or.inl rfl
        · exact vp_in_nI hf' (by decide)
        · refine xF_iret o_Mo_code rfl rfl ?_
          rw [hix2]
          generalize hN : xsI _ 50 _ = N
          have n57 : N.1 57 = upd (M.1 57) (nI f').toNatClampNeg (M.1 57 (nI f').toNatClampNeg + 1) := by rw [← hN]; rfl
          have n58 : N.1 58 = upd (M.1 58) (41 * f' + (pC P f').length) (nI o') := by rw [← hN]; rfl
          have n59 : N.1 59 = upd (M.1 59) (41 * f' + (pC P f').length) a := by rw [← hN]; rfl
          have n60 : N.1 60 = upd (M.1 60) (41 * f' + (pC P f').length) b := by rw [← hN]; rfl
          have n61 : N.1 61 = upd (M.1 61) (41 * f' + (pC P f').length) c := by rw [← hN]; rfl
          have n50 : N.1 50 = upd (M.1 50) 26 0 := by rw [← hN]; rfl
          have nf : xfr [50, 57, 58, 59, 60, 61] M N := by
            rw [← hN]
            exact (((((xfr.rf.I (by simp)).I (by simp)).I (by simp)).I (by simp)).I (by simp)).I (by simp)
          clear hN
          rw [hcl, hlen, nI_1] at n57
          refine ⟨?_, ⟨?_, ?_, ?_, ?_, ?_, ?_⟩, (fun z => by cases z), fun _ => n50, nf⟩
          · rw [n57, hcl, upd_s]
          · intro j hj
            rw [(nf 51 (by simp)).1, (nf 52 (by simp)).1, (nf 53 (by simp)).1, (nf 56 (by simp)).1]
            exact h1 j hj
          · intro j hj q hq
            rw [(nf 54 (by simp)).1]
            exact h2 j hj q hq
          · intro j hj q hq
            rw [(nf 55 (by simp)).1]
            exact h3 j hj q hq
          · intro g hg
            obtain ⟨g1, g2⟩ := h4 g hg
            have hgl := (hw.2.2.2.1 g hg).1
            rw [sCode_C, n57, n58, n59, n60, n61]
            by_cases e : g = f'
            · subst e
              rw [if_pos rfl, upd_s]
              refine ⟨by simp, fun i q hi => ?_⟩
              by_cases e2 : i = (pC P g).length
              · subst e2
                rw [List.getElem?_append_right (by omega)] at hi
                simp at hi
                subst hi
                rw [show g * 41 + (pC P g).length = 41 * g + (pC P g).length by omega, upd_s, upd_s, upd_s, upd_s]
                exact ⟨rfl, rfl, rfl, rfl⟩
              · have hi2 : i < (pC P g).length := by
                  have := (List.getElem?_eq_some_iff.mp hi).1
                  simp at this
                  omega
                rw [List.getElem?_append_left hi2] at hi
                rw [upd_n (by omega), upd_n (by omega), upd_n (by omega), upd_n (by omega)]
                exact g2 i q hi
            · rw [if_neg e, upd_n e]
              refine ⟨g1, fun i q hi => ?_⟩
              have hi2 : i < (pC P g).length := (List.getElem?_eq_some_iff.mp hi).1
              rw [upd_n (by omega), upd_n (by omega), upd_n (by omega), upd_n (by omega)]
              exact g2 i q hi
          · intro g hg
            rw [(nf 62 (by simp)).1]
            exact h5 g hg
          · refine ⟨?_, fun i v' hv => ?_⟩
            · rw [n50, upd_n (by decide)]
              exact h6.1
            · rw [(nf 63 (by simp)).1]
              exact h6.2 i v' hv
        · exact absurd (show b2 true = 0 from by assumption) (by decide)
  · rw [if_neg hf]
    rcases hr with ⟨hn, rfl, rfl, rfl⟩ | ⟨f2, o', hf2, g40, rfl, -⟩
    · refine xF_go o_Mo_code [] 60 (fun K hK => ?_)
      repeat' ((conv => whnf); first | refine ⟨fun h => ?_, fun h => ?_⟩ | refine ⟨?_, ?_⟩ | refine hK _ _ _ _ ?_)
      · refine xF_iret o_Mo_code rfl rfl ?_
        exact ⟨rfl, hM, fun _ => rfl, (fun z => by cases z), xfr.rf⟩
      all_goals exact absurd rfl (show ¬ (0 : Int32) = 0 from by assumption)
    · have := nI_12 hf2
      exact absurd ⟨this.1, by grind⟩ hf
end XMS
