/-! runLaid, both sides -/
noncomputable def sLay (P : sP) (V : sV) (R : List Nat) (e : Nat) : Int32 × sT := sEnd P (ad2 P (stl P V) R) 5000 (t0 (oct (aln P (stl P V)) (pS P) (pO P) 0 R (fun _ => 0)) e)
def rRunL (P : sP) (Z : sZ) (lh : Bool) (X : sX) (k : Int32) (X' : sX) (r : Int32) : Prop := (lh = true ∧ ∃ e V R, e < 12 ∧ k = nI e ∧ pE P e = true ∧ Z = some (P, V, R) ∧ r = (sLay P V R e).1 ∧ X' = xOf (sLay P V R e)) ∨ ((¬ (lh = true ∧ ∃ e, e < 12 ∧ k = nI e ∧ pE P e = true)) ∧ r = -1 ∧ X' = X)
section XRL
variable (l : Launch) (G : xG)
theorem E_runLaid (P : sP) (X : sX) (Z : sZ) (lh : Bool) (M : xMe) (hM : cP P M) (hw : wP P) (hX : cX X M) (h44 : c44 M) (hZ : cW Z M) (hl5 : M.1 0 5 = b2 lh) (hlh : lh = true → ∃ V R, Z = some (P, V, R)) (k : Int32) : xE l G y_DS_runLaid [.ref 0, .int k] M (fun v M' => ∃ X' r, v = some (.int r) ∧ rRunL P Z lh X k X' r ∧ cX X' M' ∧ c44 M' ∧ xfr [43, 44, 45, 46, 47, 48, 49] M M') := by
  refine xE_of [some (.ref 0), some (.int k)] (by decide +kernel) (Nat.le_of_ble_eq_true rfl) rfl ?_
  refine xF_go o_DS_runLaid [] 60 (fun K hK => ?_)
  repeat' ((conv => whnf); first | refine ⟨fun h => ?_, fun h => ?_⟩ | refine ⟨?_, ?_⟩ | refine hK _ _ _ _ ?_)
  · have h0 : M.1 0 5 = 0 := by assumption
    rw [hl5, b2_0] at h0
    refine xF_iret o_DS_runLaid rfl rfl ?_
    exact ⟨X, -1, rfl, Or.inr ⟨fun z => (by rw [h0] at z; cases z.1), rfl, rfl⟩, hX, h44, xfr.rf⟩
  · have h0 : ¬ M.1 0 5 = 0 := by assumption
    rw [hl5, b2_ne] at h0
    obtain ⟨V, R, eZ⟩ := hlh h0
    obtain ⟨-, hfin, hR, hSh⟩ := hZ.2 P V R eZ
    obtain ⟨hL, s21, s23, s27, s28, s29, s20, s19⟩ := hSh
    obtain ⟨l34, l36, l38, l39, l40, l11, l13, l42⟩ := hL
    refine xF_callV o_DS_runLaid [.int k] rfl z_Pr_hasEntry i_Pr_hasEntry v_Pr_hasEntry l_DS_99 rfl ⟨⟨by decide, by decide⟩, rfl, rfl⟩ (Nat.le_of_ble_eq_true rfl) rfl rfl rfl (E_hasEntry l G P M hM.2.2.2.2.1 k) ?_
    rintro w M1 ⟨eM, b, rfl, hb⟩
    obtain rfl := eM.symm
    clear hK K
    refine xF_go o_DS_runLaid [] 60 (fun K hK => ?_)
    repeat' ((conv => whnf); first | refine ⟨fun h => ?_, fun h => ?_⟩ | refine ⟨?_, ?_⟩ | refine hK _ _ _ _ ?_)
    · have h1 : ¬ b2 b = 0 := by assumption
      rw [b2_ne] at h1
      obtain ⟨e, he, rfl, hpe⟩ := hb.mp h1
      refine xF_callV o_DS_runLaid [.ref 30] rfl z_Ma_takeAsLaid i_Ma_takeAsLaid v_Ma_takeAsLaid l_DS_109 rfl ⟨⟨by decide, by decide⟩, rfl, rfl⟩ (Nat.le_of_ble_eq_true rfl) rfl rfl rfl (E_takeAsLaid l G M) ?_
      rintro w M2 ⟨rfl, g1, g2, hfr⟩
      clear hK K
      refine xF_go o_DS_runLaid [] 60 (fun K hK => ?_)
      repeat' ((conv => whnf); first | refine ⟨fun h => ?_, fun h => ?_⟩ | refine ⟨?_, ?_⟩ | refine hK _ _ _ _ ?_)
      have hH : cH P (ad2 P (stl P V) R) M2 := fun k hk => ⟨by rw [g1 k hk]; exact l40 k hk, fun a ha => ad2_wH hw hR k hk a ha⟩
      refine xF_callV o_DS_runLaid [.int (nI e)] rfl z_Ma_work i_Ma_work v_Ma_work l_DS_105 rfl ⟨⟨by decide, by decide⟩, rfl, rfl⟩ (Nat.le_of_ble_eq_true rfl) rfl rfl rfl (E_work l G P (ad2 P (stl P V) R) hw e he (oct (aln P (stl P V)) (pS P) (pO P) 0 R (fun _ => 0)) (fun a _ => oct_w hw hR a) M2 (cP_fr hfr (by decide) hM) hH (fun a ha => by rw [g2 a ha]; exact l42 a ha)) ?_
      rintro w M3 ⟨rfl, q1, q2, q3⟩
      clear hK K
      refine xF_go o_DS_runLaid [] 60 (fun K hK => ?_)
      repeat' ((conv => whnf); first | refine ⟨fun h => ?_, fun h => ?_⟩ | refine ⟨?_, ?_⟩ | refine hK _ _ _ _ ?_)
      refine xF_iret o_DS_runLaid rfl rfl ?_
      exact ⟨xOf (sLay P V R e), _, rfl, Or.inl ⟨h0, e, V, R, he, rfl, hpe, eZ, rfl, rfl⟩, q1, q2, (hfr.mono (by simp)).tr (q3.mono (by simp)) (fun _ z => z)⟩
    · have h1 : b2 b = 0 := by assumption
      refine xF_iret o_DS_runLaid rfl rfl ?_
      refine ⟨X, -1, rfl, Or.inr ⟨fun z => ?_, rfl, rfl⟩, hX, h44, xfr.rf⟩
      rw [hb.mpr z.2] at h1
      exact absurd h1 (by decide)
theorem E_MrunLaid (P : sP) (X : sX) (Z : sZ) (lh : Bool) (M : xMe) (hM : mP P M) (hw : wP P) (hX : mX X M) (hZ : mW Z M) (hl26 : M.1 50 26 = b2 lh) (hlh : lh = true → ∃ V R, Z = some (P, V, R)) (k : Int32) (X' : sX) (r : Int32) (hr : rRunL P Z lh X k X' r) : xE l G y_Mo_runLaid [.ref 50, .int k] M (fun v M' => v = some (.int r) ∧ mX X' M' ∧ xfr [50, 64, 65, 66, 67, 68] M M' ∧ ∀ s, s ∉ [20, 21, 22, 23, 24, 25] → M'.1 50 s = M.1 50 s) := by
  refine xE_cps (fun Q hQ => ?_)
  have no : ¬ (lh = true ∧ ∃ e, e < 12 ∧ k = nI e ∧ pE P e = true) → Q (some (.int (-1))) M := by
    intro hn
    rcases hr with ⟨a, e, V, R, b, c, d, _⟩ | ⟨_, rfl, rfl⟩
    · exact absurd ⟨a, e, b, c, d⟩ hn
    · exact hQ _ _ ⟨rfl, hX, xfr.rf, fun _ _ => rfl⟩
  refine xE_of [some (.ref 50), some (.int k)] (by decide +kernel) (Nat.le_of_ble_eq_true rfl) rfl ?_
  refine xF_go o_Mo_runLaid [] 60 (fun K hK => ?_)
  repeat' ((conv => whnf); first | refine ⟨fun h => ?_, fun h => ?_⟩ | refine ⟨?_, ?_⟩ | refine hK _ _ _ _ ?_)
  refine xF_callS o_Mo_runLaid [.int k, .int 0, .int 11] rfl z_Mo_in s_Mo_in l_Mo_157 rfl ⟨⟨by decide, by decide⟩, rfl, rfl⟩ (Nat.le_of_ble_eq_true rfl) rfl (E_in l G k 0 11 M) ?_
  rintro v M' ⟨eM, rfl⟩; obtain rfl := eM.symm
  clear hK K
  by_cases hf : 0 ≤ k ∧ k ≤ 11
  · rw [if_pos hf]
    obtain ⟨e, he, rfl⟩ := nI_of12 (x := k) (by grind)
    have hcl : (nI e).toNatClampNeg = e := nI_clamp (by omega)
    have v62 : M.1 62 (nI e).toNatClampNeg = b2 (pE P e) := by rw [hcl]; exact hM.2.2.2.2.1 e he
    refine xF_go o_Mo_runLaid [] 60 (fun K hK => ?_)
    repeat' ((conv => whnf); first | refine ⟨fun h => ?_, fun h => ?_⟩ | refine ⟨?_, ?_⟩ | refine hK _ _ _ _ ?_)
    · exact absurd (show (1 : Int32) = 0 from by assumption) (by decide)
    · exact vp_in_nI he (by decide)
    · have h0 : M.1 62 (nI e).toNatClampNeg = 0 := by assumption
      rw [v62, b2_0] at h0
      refine xF_iret o_Mo_runLaid rfl rfl ?_
      refine no (fun ⟨_, e', a, b, c⟩ => ?_)
      have := nI_inj (by omega) (by omega) b
      subst this
      rw [h0] at c
      cases c
    · have h0 : M.1 50 27 = 0 := by assumption
      rw [hZ.1, b2_0] at h0
      refine xF_iret o_Mo_runLaid rfl rfl ?_
      refine no (fun z => ?_)
      obtain ⟨V, R, eZ⟩ := hlh z.1
      rw [eZ] at h0
      cases h0
    · exact Or.inr rfl
    · have h0 : ¬ M.1 62 (nI e).toNatClampNeg = 0 := by assumption
      rw [v62, b2_ne] at h0
      have h1 : ¬ M.1 50 26 = 0 := by assumption
      rw [hl26, b2_ne] at h1
      rcases hr with ⟨a, e', V, R, b, c, d, eZ, rfl, rfl⟩ | ⟨hn, _⟩
      · have := nI_inj (by omega) (by omega) c
        subst this
        obtain ⟨-, hfin, hR, hSh⟩ := hZ.2 P V R eZ
        obtain ⟨⟨l86, l87, l85, l56, l57, l89⟩, s80, s83, s81, s72, s69, s74, s76, s77, s82⟩ := hSh
        have hfr : xfr [50, 64, 65, 66, 67, 68] M (xsI M 50 (upd (M.1 50) 25 1)) := xfr.rf.I (by simp)
        have hM' : mP P (xsI M 50 (upd (M.1 50) 25 1)) := mP_fr hfr (by decide) rfl hM
        have hH' : mH P (ad2 P (stl P V) R) (xsI M 50 (upd (M.1 50) 25 1)) := by
          refine ⟨ad2_wH hw hR, Or.inr ⟨by show ¬ (1 : Int32) = 0; decide, fun k hk => ⟨?_, fun a ha => l85 k hk a ha⟩⟩⟩
          show M.1 80 k = _
          rw [s80 k hk]
          congr 1
          cases ea : ad2 P (stl P V) R k with
          | none => exact tb_f.mpr (fun z => by obtain ⟨a, z2⟩ := (ad2_kept hw hR hk).mpr z; rw [ea] at z2; cases z2)
          | some a => exact tb_t.mpr ((ad2_kept hw hR hk).mp ⟨a, ea⟩)
        have hst : ∀ a, a < 1728 → mst (xsI M 50 (upd (M.1 50) 25 1)) a = nI (oct (aln P (stl P V)) (pS P) (pO P) 0 R (fun _ => 0) a) := by
          intro a ha
          unfold mst
          rw [if_neg (show ¬ (xsI M 50 (upd (M.1 50) 25 1)).1 50 25 = 0 from by show ¬ (1 : Int32) = 0; decide)]
          exact l89 a ha
        refine xF_callV o_Mo_runLaid [.int (nI e)] rfl z_Mo_goes i_Mo_goes v_Mo_goes l_Mo_201 rfl ⟨⟨by decide, by decide⟩, rfl, rfl⟩ (Nat.le_of_ble_eq_true rfl) rfl rfl rfl (E_goes l G P (ad2 P (stl P V) R) hw e he _ (fun a _ => oct_w hw hR a) _ hM' hH' hst (rInv_sSafe hw hfin (rHm_2 hw hR) (ad2_wH hw hR) 5000 _ (t0_w (fun a _ => oct_w hw hR a) he) (rInv_0 hw hfin hR he d))) ?_
        rintro w M2 ⟨rfl, q1, q2⟩
        clear hK K
        refine xF_go o_Mo_runLaid [] 60 (fun K hK => ?_)
        repeat' ((conv => whnf); first | refine ⟨fun h => ?_, fun h => ?_⟩ | refine ⟨?_, ?_⟩ | refine hK _ _ _ _ ?_)
        refine xF_iret o_Mo_runLaid rfl rfl ?_
        refine hQ _ _ ⟨rfl, q1, hfr.tr q2.1 (fun _ z => z), fun s hs => ?_⟩
        rw [q2.2 s (fun z => hs (by revert z; simp; omega)), xsI_s, upd_n (fun z => hs (by rw [z]; simp))]
      · exact absurd ⟨h1, e, he, rfl, h0⟩ hn
    · have h1 : M.1 50 26 = 0 := by assumption
      rw [hl26, b2_0] at h1
      refine xF_iret o_Mo_runLaid rfl rfl ?_
      exact no (fun z => by rw [h1] at z; cases z.1)
  · rw [if_neg hf]
    refine xF_go o_Mo_runLaid [] 60 (fun K hK => ?_)
    repeat' ((conv => whnf); first | refine ⟨fun h => ?_, fun h => ?_⟩ | refine ⟨?_, ?_⟩ | refine hK _ _ _ _ ?_)
    · refine xF_iret o_Mo_runLaid rfl rfl ?_
      refine no (fun ⟨_, e', a, b, c⟩ => ?_)
      have := nI_12 a
      rw [← b] at this
      exact absurd ⟨this.1, by grind⟩ hf
    all_goals exact absurd rfl (show ¬ (0 : Int32) = 0 from by assumption)
end XRL
