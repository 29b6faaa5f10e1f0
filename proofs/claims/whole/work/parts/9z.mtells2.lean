/-! what is told of the latest shrink: the reference, on -/
section XUU
variable (l : Launch) (G : xG)
theorem E_Mfunction (Z : sZ) (M : xMe) (hZ : mW Z M) (k w : Int32) : xE l G y_Mo_function [.ref 50, .int k, .int w] M (fun r M' => M' = M ∧ ∃ r0, r = some (.int r0) ∧ rFunc Z k w r0) := by
  refine xE_cps (fun Q hQ => ?_)
  refine xE_of [some (.ref 50), some (.int k), some (.int w), none, none] (by decide +kernel) (Nat.le_of_ble_eq_true rfl) rfl ?_
  match Z, hZ, hQ with
  | none, hZ, hQ =>
    have h4 : M.1 50 27 = 0 := hZ.1
    refine xF_go o_Mo_function [] 60 (fun K hK => ?_)
    repeat' ((conv => whnf); first | refine ⟨fun h => ?_, fun h => ?_⟩ | refine ⟨?_, ?_⟩ | refine hK _ _ _ _ ?_)
    · refine xF_iret o_Mo_function rfl rfl ?_
      exact hQ _ _ ⟨rfl, _, rfl, rfl⟩
    all_goals exact absurd h4 (by assumption)
  | some (P, V, R), hZ, hQ =>
    obtain ⟨h4, hZ2⟩ := hZ
    obtain ⟨hw, hfin, hR, hSh⟩ := hZ2 P V R rfl
    obtain ⟨⟨l86, l87, l85, l56, l57, l89⟩, s80, s83, s81, s72, s69, s74, s76, s77, s82⟩ := hSh
    refine xF_go o_Mo_function [] 60 (fun K hK => ?_)
    repeat' ((conv => whnf); first | refine ⟨fun h => ?_, fun h => ?_⟩ | refine ⟨?_, ?_⟩ | refine hK _ _ _ _ ?_)
    · have h0 : M.1 50 27 = 0 := by assumption
      rw [h4] at h0
      exact absurd h0 (show ¬ b2 true = 0 by decide)
    · refine xF_callS o_Mo_function [.int k, .int 0, .int 11] rfl z_Mo_in s_Mo_in l_Mo_157 rfl ⟨⟨by decide, by decide⟩, rfl, rfl⟩ (Nat.le_of_ble_eq_true rfl) rfl (E_in l G k 0 11 M) ?_
      rintro v M' ⟨eM, rfl⟩; obtain rfl := eM.symm
      clear hK K
      by_cases e : 0 ≤ k ∧ k ≤ 11
      · rw [if_pos e]
        obtain ⟨f, hf, rfl⟩ := nI_of12 (x := k) (by grind)
        have hl := (hw.2.2.2.1 f hf).1
        have hcl : (nI f).toNatClampNeg = f := nI_clamp (by omega)
        have v84 : M.1 84 (nI f).toNatClampNeg = nI (pC P f).length := by rw [hcl]; exact (s81 f hf).2
        have v81 : M.1 81 (nI f).toNatClampNeg = b2 (tb (∃ i, i < 64 ∧ vC V f i)) := by rw [hcl]; exact (s81 f hf).1
        have res : ∀ r0, (w = 0 → r0 = b2 (tb (∃ i, i < 64 ∧ vC V f i))) ∧ (w = 1 → r0 = nI (cnt (fun i => tb (vC V f i)) (pC P f).length)) ∧ (w = 2 → rD (ent P) (vLk V) f r0) ∧ (¬ w = 0 → ¬ w = 1 → ¬ w = 2 → r0 = -1) → Q (some (.int r0)) M := by
          intro r0 hr
          refine hQ _ _ ⟨rfl, r0, rfl, fun z => absurd ⟨f, hf, rfl⟩ z, fun f' hf' ef => ?_⟩
          have := nI_inj (by omega) (by omega) ef
          subst this
          exact hr
        have n01 : ∀ {a b : Int32} {p : Prop}, w = a → ¬ a = b → w = b → p := fun h1 h2 h3 => absurd (h1.symm.trans h3) h2
        have fin1 : ∀ x4, xF l G y_Mo_function 64 [some (.ref 50), some (.int (nI f)), some (.int w), some (.int (nI (cnt (fun i => tb (vC V f i)) (pC P f).length))), x4] [] M Q := by
          intro x4
          refine xF_go o_Mo_function [85] 60 (fun K hK => ?_)
          repeat' ((conv => whnf); first | refine ⟨fun h => ?_, fun h => ?_⟩ | refine ⟨?_, ?_⟩ | refine hK _ _ _ _ ?_)
          · have e0 : ¬ w = 0 := by assumption
            clear hK K
            refine xF_go o_Mo_function [] 60 (fun K hK => ?_)
            repeat' ((conv => whnf); first | refine ⟨fun h => ?_, fun h => ?_⟩ | refine ⟨?_, ?_⟩ | refine hK _ _ _ _ ?_)
            · have e1 : ¬ w = 1 := by assumption
              have e2 : ¬ w = 2 := by assumption
              refine xF_iret o_Mo_function rfl rfl ?_
              exact res _ ⟨fun z => absurd z e0, fun z => absurd z e1, fun z => absurd z e2, fun _ _ _ => rfl⟩
            · exact vp_in_nI (by show _ < 36; omega) (by decide)
            · have hw0 : w = 2 := by assumption
              rw [hcl]
              refine xF_iret o_Mo_function rfl rfl ?_
              exact res _ ⟨n01 hw0 (by decide), n01 hw0 (by decide), fun _ => s82 f (by omega), fun _ _ z => absurd hw0 z⟩
            · have hw0 : w = 1 := by assumption
              refine xF_iret o_Mo_function rfl rfl ?_
              exact res _ ⟨n01 hw0 (by decide), fun _ => rfl, n01 hw0 (by decide), fun _ z => absurd hw0 z⟩
          · exact vp_in_nI hf (by decide)
          · have hw0 : w = 0 := by assumption
            have h1 := (show M.1 81 (nI f).toNatClampNeg = 0 from by assumption)
            rw [v81, b2_0] at h1
            refine xF_iret o_Mo_function rfl rfl ?_
            exact res _ ⟨fun _ => (by rw [h1]; rfl), n01 hw0 (by decide), n01 hw0 (by decide), fun z => absurd hw0 z⟩
          · have hw0 : w = 0 := by assumption
            have h1 := (show ¬ M.1 81 (nI f).toNatClampNeg = 0 from by assumption)
            rw [v81, b2_ne] at h1
            refine xF_iret o_Mo_function rfl rfl ?_
            exact res _ ⟨fun _ => (by rw [h1]; rfl), n01 hw0 (by decide), n01 hw0 (by decide), fun z => absurd hw0 z⟩
        refine xF_go o_Mo_function [24] 60 (fun K hK => ?_)
        repeat' ((conv => whnf); first | refine ⟨fun h => ?_, fun h => ?_⟩ | refine ⟨?_, ?_⟩ | refine hK _ _ _ _ ?_)
        · clear hK K
          refine loopN (σ := Unit) (pC P f).length (fun _ _ => True) (fun i _ => xF l G y_Mo_function 24 [some (.ref 50), some (.int (nI f)), some (.int w), some (.int (nI (cnt (fun i => tb (vC V f i)) i))), some (.int (nI i))] [] M Q) ?_ ?_ (pC P f).length 0 rfl () trivial
          · intro i hi _ _ next
            have e41 : 41 * nI f + nI i = nI (41 * f + i) := by rw [nI_41', nI_add]
            have v72 : M.1 72 (nI (41 * f + i)).toNatClampNeg = b2 (tb (vC V f i)) := by rw [nI_clamp (by omega)]; exact s72 f hf i hi
            have hd : cnt (fun i => tb (vC V f i)) (i + 1) = cnt (fun i => tb (vC V f i)) i + (if tb (vC V f i) = true then 1 else 0) := rfl
            refine xF_go o_Mo_function [24, 64] 60 (fun K hK => ?_)
            repeat' ((conv => whnf); first | refine ⟨fun h => ?_, fun h => ?_⟩ | refine ⟨?_, ?_⟩ | refine hK _ _ _ _ ?_)
            · exact vp_in_nI hf (by decide)
            · have h0 := (show ¬ nI i < M.1 84 (nI f).toNatClampNeg from by assumption)
              rw [v84, nI_ltI (by omega) (by omega)] at h0
              omega
            · rw [e41]; exact vp_in_nI (by show _ < 492; omega) (by decide)
            · have h0 := (show M.1 72 (41 * nI f + nI i).toNatClampNeg = 0 from by assumption)
              rw [e41, v72, b2_0] at h0
              rw [nI_1, show nI (cnt (fun i => tb (vC V f i)) i) + 0 = nI (cnt (fun i => tb (vC V f i)) (i + 1)) by rw [hd, h0]; exact nI_add _ 0]
              exact next () trivial
            · have h0 := (show ¬ M.1 72 (41 * nI f + nI i).toNatClampNeg = 0 from by assumption)
              rw [e41, v72, b2_ne] at h0
              rw [nI_1, nI_1, show cnt (fun i => tb (vC V f i)) i + 1 = cnt (fun i => tb (vC V f i)) (i + 1) by rw [hd, h0]; rfl]
              exact next () trivial
          · intro _ _
            refine xF_go o_Mo_function [24, 64] 60 (fun K hK => ?_)
            repeat' ((conv => whnf); first | refine ⟨fun h => ?_, fun h => ?_⟩ | refine ⟨?_, ?_⟩ | refine hK _ _ _ _ ?_)
            · exact vp_in_nI hf (by decide)
            · exact fin1 _
            all_goals
              have h0 := (show nI (pC P f).length < M.1 84 (nI f).toNatClampNeg from by assumption)
              rw [v84, nI_ltI (by omega) (by omega)] at h0
              omega
        · exact absurd (show (1 : Int32) = 0 from by assumption) (by decide)
      · rw [if_neg e]
        refine xF_go o_Mo_function [19] 60 (fun K hK => ?_)
        repeat' ((conv => whnf); first | refine ⟨fun h => ?_, fun h => ?_⟩ | refine ⟨?_, ?_⟩ | refine hK _ _ _ _ ?_)
        · exact absurd rfl (show ¬ (0 : Int32) = 0 from by assumption)
        · refine xF_iret o_Mo_function rfl rfl ?_
          refine hQ _ _ ⟨rfl, _, rfl, fun _ => rfl, fun f hf ef => ?_⟩
          have := nI_12 hf
          rw [← ef] at this
          exact absurd ⟨this.1, by grind⟩ e
theorem E_Mvalues (Z : sZ) (M : xMe) (hZ : mW Z M) (f i q : Int32) : xE l G y_Mo_values [.ref 50, .int f, .int i, .int q] M (fun r M' => M' = M ∧ ∃ r0, r = some (.int r0) ∧ rVals Z f i q r0) := by
  refine xE_cps (fun Q hQ => ?_)
  refine xE_of [some (.ref 50), some (.int f), some (.int i), some (.int q), none, none] (by decide +kernel) (Nat.le_of_ble_eq_true rfl) rfl ?_
  match Z, hZ, hQ with
  | none, hZ, hQ =>
    have h4 : M.1 50 27 = 0 := hZ.1
    refine xF_go o_Mo_values [] 60 (fun K hK => ?_)
    repeat' ((conv => whnf); first | refine ⟨fun h => ?_, fun h => ?_⟩ | refine ⟨?_, ?_⟩ | refine hK _ _ _ _ ?_)
    · refine xF_iret o_Mo_values rfl rfl ?_
      exact hQ _ _ ⟨rfl, _, rfl, rfl⟩
    all_goals exact absurd h4 (by assumption)
  | some (P, V, R), hZ, hQ =>
    obtain ⟨h4, hZ2⟩ := hZ
    obtain ⟨hw, hfin, hR, hSh⟩ := hZ2 P V R rfl
    obtain ⟨⟨l86, l87, l85, l56, l57, l89⟩, s80, s83, s81, s72, s69, s74, s76, s77, s82⟩ := hSh
    have no : (¬ ∃ f' i' q', f' < 12 ∧ f = nI f' ∧ i' < (pC P f').length ∧ i = nI i' ∧ q' < 4 ∧ q = nI q') → Q (some (.int (-1))) M := by
      intro hn
      exact hQ _ _ ⟨rfl, _, rfl, fun f' i' q' a1 a2 a3 a4 a5 a6 => absurd ⟨f', i', q', a1, a2, a3, a4, a5, a6⟩ hn, fun _ => rfl⟩
    refine xF_go o_Mo_values [] 60 (fun K hK => ?_)
    repeat' ((conv => whnf); first | refine ⟨fun h => ?_, fun h => ?_⟩ | refine ⟨?_, ?_⟩ | refine hK _ _ _ _ ?_)
    · have h0 : M.1 50 27 = 0 := by assumption
      rw [h4] at h0
      exact absurd h0 (show ¬ b2 true = 0 by decide)
    · refine xF_callS o_Mo_values [.int f, .int 0, .int 11] rfl z_Mo_in s_Mo_in l_Mo_157 rfl ⟨⟨by decide, by decide⟩, rfl, rfl⟩ (Nat.le_of_ble_eq_true rfl) rfl (E_in l G f 0 11 M) ?_
      rintro v M' ⟨eM, rfl⟩; obtain rfl := eM.symm
      clear hK K
      by_cases e : 0 ≤ f ∧ f ≤ 11
      · rw [if_pos e]
        obtain ⟨f', hf, rfl⟩ := nI_of12 (x := f) (by grind)
        have hl := (hw.2.2.2.1 f' hf).1
        have hcl : (nI f').toNatClampNeg = f' := nI_clamp (by omega)
        refine xF_go o_Mo_values [] 60 (fun K hK => ?_)
        repeat' ((conv => whnf); first | refine ⟨fun h => ?_, fun h => ?_⟩ | refine ⟨?_, ?_⟩ | refine hK _ _ _ _ ?_)
        · exact absurd (show (1 : Int32) = 0 from by assumption) (by decide)
        · exact vp_in_nI hf (by decide)
        · rw [hcl, (s81 f' hf).2]
          refine xF_callS o_Mo_values [.int i, .int 0, .int (nI (pC P f').length - 1)] rfl z_Mo_in s_Mo_in l_Mo_157 rfl ⟨⟨by decide, by decide⟩, rfl, rfl⟩ (Nat.le_of_ble_eq_true rfl) rfl (E_in l G i 0 _ M) ?_
          rintro v M' ⟨eM, rfl⟩; obtain rfl := eM.symm
          clear hK K
          by_cases e3 : 0 ≤ i ∧ i ≤ nI (pC P f').length - 1
          · rw [if_pos e3]
            obtain ⟨i', hi, rfl⟩ := (le_of_lt (by omega)).mp e3
            refine xF_go o_Mo_values [] 60 (fun K hK => ?_)
            repeat' ((conv => whnf); first | refine ⟨fun h => ?_, fun h => ?_⟩ | refine ⟨?_, ?_⟩ | refine hK _ _ _ _ ?_)
            · exact absurd (show (1 : Int32) = 0 from by assumption) (by decide)
            · refine xF_callS o_Mo_values [.int q] rfl z_Mo_isRegister s_Mo_isRegister l_Mo_171 rfl ⟨⟨by decide, by decide⟩, rfl, rfl⟩ (Nat.le_of_ble_eq_true rfl) rfl (E_MisRegister l G q M) ?_
              rintro v M' ⟨eM, rfl⟩; obtain rfl := eM.symm
              clear hK K
              by_cases e2 : 0 ≤ q ∧ q < 4
              · rw [if_pos e2]
                obtain ⟨q', hq, rfl⟩ := nI_ofN (n := 4) (by decide) e2.1 e2.2
                refine xF_go o_Mo_values [48] 60 (fun K hK => ?_)
                repeat' ((conv => whnf); first | refine ⟨fun h => ?_, fun h => ?_⟩ | refine ⟨?_, ?_⟩ | refine hK _ _ _ _ ?_)
                · clear hK K
                  refine loopN (σ := Unit) 256 (fun _ _ => True) (fun v _ => xF l G y_Mo_values 48 [some (.ref 50), some (.int (nI f')), some (.int (nI i')), some (.int (nI q')), some (.int (nI (cnt (fun v => tb (vS V f' i' q' v)) v))), some (.int (nI v))] [] M Q) ?_ ?_ 256 0 rfl () trivial
                  · intro v hv _ _ next
                    have es : 16 * (41 * nI f' + nI i') + 4 * nI q' = nI (16 * (41 * f' + i') + 4 * q') := by
                      rw [nI_41', nI_add, show 16 * nI (41 * f' + i') = nI (16 * (41 * f' + i')) from pk_mul 16 _, show 4 * nI q' = nI (4 * q') from pk_mul 4 q', nI_add]
                    have hb := tb_b (s69 f' hf i' hi q' hq v hv)
                    have hd : cnt (fun v => tb (vS V f' i' q' v)) (v + 1) = cnt (fun v => tb (vS V f' i' q' v)) v + (if tb (vS V f' i' q' v) = true then 1 else 0) := rfl
                    refine xF_go o_Mo_values [48] 60 (fun K hK => ?_)
                    repeat' ((conv => whnf); first | refine ⟨fun h => ?_, fun h => ?_⟩ | refine ⟨?_, ?_⟩ | refine hK _ _ _ _ ?_)
                    · exact absurd (nI_lt (b := 256) hv (by decide)) h
                    · rw [es]
                      refine xF_callV o_Mo_values [.ref 69, .int (nI (16 * (41 * f' + i') + 4 * q')), .int (nI v)] rfl z_Mo_hasValue i_Mo_hasValue v_Mo_hasValue l_Mo_214 rfl ⟨⟨by decide, by decide⟩, rfl, rfl⟩ (Nat.le_of_ble_eq_true rfl) rfl rfl rfl (E_hasValue l G 69 (Or.inl rfl) (16 * (41 * f' + i') + 4 * q') v hv (by show _ < 7872; omega) M) ?_
                      rintro v M' ⟨eM, rfl⟩; obtain rfl := eM.symm
                      clear hK K
                      rw [hb]
                      by_cases ev : vS V f' i' q' v
                      · rw [tb_t.mpr ev] at hd ⊢
                        refine xF_go o_Mo_values [48] 60 (fun K hK => ?_)
                        repeat' ((conv => whnf); first | refine ⟨fun h => ?_, fun h => ?_⟩ | refine ⟨?_, ?_⟩ | refine hK _ _ _ _ ?_)
                        · exact absurd (show b2 true = 0 from by assumption) (by decide)
                        · rw [nI_1, nI_1, show cnt (fun v => tb (vS V f' i' q' v)) v + 1 = cnt (fun v => tb (vS V f' i' q' v)) (v + 1) by rw [hd]; rfl]
                          exact next () trivial
                      · rw [tb_f.mpr ev] at hd ⊢
                        refine xF_go o_Mo_values [48] 60 (fun K hK => ?_)
                        repeat' ((conv => whnf); first | refine ⟨fun h => ?_, fun h => ?_⟩ | refine ⟨?_, ?_⟩ | refine hK _ _ _ _ ?_)
                        · rw [nI_1, show nI (cnt (fun v => tb (vS V f' i' q' v)) v) + 0 = nI (cnt (fun v => tb (vS V f' i' q' v)) (v + 1)) by rw [hd]; exact nI_add _ 0]
                          exact next () trivial
                        · exact absurd rfl (show ¬ b2 false = 0 from by assumption)
                  · intro _ _
                    refine xF_go o_Mo_values [48] 60 (fun K hK => ?_)
                    repeat' ((conv => whnf); first | refine ⟨fun h => ?_, fun h => ?_⟩ | refine ⟨?_, ?_⟩ | refine hK _ _ _ _ ?_)
                    · refine xF_iret o_Mo_values rfl rfl ?_
                      refine hQ _ _ ⟨rfl, _, rfl, fun f2 i2 q2 a1 a2 a3 a4 a5 a6 => ?_, fun z => absurd ⟨f', i', q', hf, rfl, hi, rfl, hq, rfl⟩ z⟩
                      have := nI_inj (by omega) (by omega) a2
                      subst this
                      have := nI_inj (by omega) (by omega) a4
                      subst this
                      have := nI_inj (by omega) (by omega) a6
                      subst this
                      rfl
                    all_goals exact absurd (show nI 256 < nI 256 from by assumption) (nI_nlt (by omega) (by omega))
                · exact absurd (show (1 : Int32) = 0 from by assumption) (by decide)
              · rw [if_neg e2]
                refine xF_go o_Mo_values [42] 60 (fun K hK => ?_)
                repeat' ((conv => whnf); first | refine ⟨fun h => ?_, fun h => ?_⟩ | refine ⟨?_, ?_⟩ | refine hK _ _ _ _ ?_)
                · exact absurd rfl (show ¬ (0 : Int32) = 0 from by assumption)
                · refine xF_iret o_Mo_values rfl rfl ?_
                  refine no (fun ⟨f2, i2, q2, a1, a2, a3, a4, a5, a6⟩ => e2 ?_)
                  rw [a6]
                  exact ⟨nI_pos' (by omega), nI_lt (b := 4) a5 (by decide)⟩
          · rw [if_neg e3]
            refine xF_go o_Mo_values [42] 60 (fun K hK => ?_)
            repeat' ((conv => whnf); first | refine ⟨fun h => ?_, fun h => ?_⟩ | refine ⟨?_, ?_⟩ | refine hK _ _ _ _ ?_)
            · refine xF_iret o_Mo_values rfl rfl ?_
              refine no (fun ⟨f2, i2, q2, a1, a2, a3, a4, a5, a6⟩ => ?_)
              have := nI_inj (by omega) (by omega) a2
              subst this
              exact e3 ((le_of_lt (by omega)).mpr ⟨i2, a3, a4⟩)
            all_goals exact absurd rfl (show ¬ (0 : Int32) = 0 from by assumption)
      · rw [if_neg e]
        refine xF_go o_Mo_values [42] 60 (fun K hK => ?_)
        repeat' ((conv => whnf); first | refine ⟨fun h => ?_, fun h => ?_⟩ | refine ⟨?_, ?_⟩ | refine hK _ _ _ _ ?_)
        · refine xF_iret o_Mo_values rfl rfl ?_
          refine no (fun ⟨f2, i2, q2, a1, a2, a3, a4, a5, a6⟩ => ?_)
          have := nI_12 a1
          rw [← a2] at this
          exact absurd ⟨this.1, by grind⟩ e
        all_goals exact absurd rfl (show ¬ (0 : Int32) = 0 from by assumption)
theorem E_Moctet (Z : sZ) (M : xMe) (hZ : mW Z M) (i : Int32) : xE l G y_Mo_octet [.ref 50, .int i] M (fun r M' => M' = M ∧ ∃ r0, r = some (.int r0) ∧ rOct Z i r0) := by
  refine xE_cps (fun Q hQ => ?_)
  refine xE_of [some (.ref 50), some (.int i)] (by decide +kernel) (Nat.le_of_ble_eq_true rfl) rfl ?_
  match Z, hZ, hQ with
  | none, hZ, hQ =>
    have h4 : M.1 50 27 = 0 := hZ.1
    refine xF_go o_Mo_octet [] 60 (fun K hK => ?_)
    repeat' ((conv => whnf); first | refine ⟨fun h => ?_, fun h => ?_⟩ | refine ⟨?_, ?_⟩ | refine hK _ _ _ _ ?_)
    · refine xF_iret o_Mo_octet rfl rfl ?_
      exact hQ _ _ ⟨rfl, _, rfl, rfl⟩
    all_goals exact absurd h4 (by assumption)
  | some (P, V, R), hZ, hQ =>
    obtain ⟨h4, hZ2⟩ := hZ
    obtain ⟨hw, hfin, hR, hSh⟩ := hZ2 P V R rfl
    obtain ⟨⟨l86, l87, l85, l56, l57, l89⟩, s80, s83, s81, s72, s69, s74, s76, s77, s82⟩ := hSh
    have htot : totZ P V R ≤ 1704 := okR_tot (isR_ok hw hR)
    have l57' : M.1 50 57 = nI (totZ P V R) := l57
    refine xF_go o_Mo_octet [] 60 (fun K hK => ?_)
    repeat' ((conv => whnf); first | refine ⟨fun h => ?_, fun h => ?_⟩ | refine ⟨?_, ?_⟩ | refine hK _ _ _ _ ?_)
    · have h0 : M.1 50 27 = 0 := by assumption
      rw [h4] at h0
      exact absurd h0 (show ¬ b2 true = 0 by decide)
    · rw [l57']
      refine xF_callS o_Mo_octet [.int i, .int 0, .int (nI (totZ P V R) - 1)] rfl z_Mo_in s_Mo_in l_Mo_157 rfl ⟨⟨by decide, by decide⟩, rfl, rfl⟩ (Nat.le_of_ble_eq_true rfl) rfl (E_in l G i 0 _ M) ?_
      rintro v M' ⟨eM, rfl⟩; obtain rfl := eM.symm
      clear hK K
      by_cases e : 0 ≤ i ∧ i ≤ nI (totZ P V R) - 1
      · rw [if_pos e]
        obtain ⟨a, ha, rfl⟩ := (le_of_lt (by omega)).mp e
        refine xF_go o_Mo_octet [] 60 (fun K hK => ?_)
        repeat' ((conv => whnf); first | refine ⟨fun h => ?_, fun h => ?_⟩ | refine ⟨?_, ?_⟩ | refine hK _ _ _ _ ?_)
        · exact absurd (show (1 : Int32) = 0 from by assumption) (by decide)
        · exact vp_in_nI (by show _ < 3072; omega) (by decide)
        · rw [nI_clamp (by omega), l89 a (by omega)]
          refine xF_iret o_Mo_octet rfl rfl ?_
          refine hQ _ _ ⟨rfl, _, rfl, fun a' h1 h2 => ?_, fun z => absurd ⟨a, ha, rfl⟩ z⟩
          have := nI_inj (by omega) (by omega) h2
          subst this
          rfl
      · rw [if_neg e]
        refine xF_go o_Mo_octet [] 60 (fun K hK => ?_)
        repeat' ((conv => whnf); first | refine ⟨fun h => ?_, fun h => ?_⟩ | refine ⟨?_, ?_⟩ | refine hK _ _ _ _ ?_)
        · refine xF_iret o_Mo_octet rfl rfl ?_
          refine hQ _ _ ⟨rfl, _, rfl, fun a' h1 h2 => absurd ((le_of_lt (by omega)).mpr ⟨a', h1, h2⟩) e, fun _ => rfl⟩
        all_goals exact absurd rfl (show ¬ (0 : Int32) = 0 from by assumption)
theorem E_Mshrunk (Z : sZ) (M : xMe) (hZ : mW Z M) (w : Int32) : xE l G y_Mo_shrunk [.ref 50, .int w] M (fun r M' => M' = M ∧ ∃ r0, r = some (.int r0) ∧ rShr Z w r0) := by
  refine xE_cps (fun Q hQ => ?_)
  refine xE_of [some (.ref 50), some (.int w), none, none, none, none, none, none] (by decide +kernel) (Nat.le_of_ble_eq_true rfl) rfl ?_
  match Z, hZ, hQ with
  | none, hZ, hQ =>
    have h4 : M.1 50 27 = 0 := hZ.1
    refine xF_go o_Mo_shrunk [9] 60 (fun K hK => ?_)
    repeat' ((conv => whnf); first | refine ⟨fun h => ?_, fun h => ?_⟩ | refine ⟨?_, ?_⟩ | refine hK _ _ _ _ ?_)
    · exact absurd h4 (by assumption)
    · refine xF_iret o_Mo_shrunk rfl rfl ?_
      exact hQ _ _ ⟨rfl, _, rfl, rfl⟩
  | some (P, V, R), hZ, hQ =>
    obtain ⟨h4, hZ2⟩ := hZ
    obtain ⟨hw, hfin, hR, hSh⟩ := hZ2 P V R rfl
    obtain ⟨⟨l86, l87, l85, l56, l57, l89⟩, s80, s83, s81, s72, s69, s74, s76, s77, s82⟩ := hSh
    have n01 : ∀ {a b : Int32} {p : Prop}, w = a → ¬ a = b → w = b → p := fun h1 h2 h3 => absurd (h1.symm.trans h3) h2
    refine xF_go o_Mo_shrunk [9] 60 (fun K hK => ?_)
    repeat' ((conv => whnf); first | refine ⟨fun h => ?_, fun h => ?_⟩ | refine ⟨?_, ?_⟩ | refine hK _ _ _ _ ?_)
    · clear hK K
      refine xF_go o_Mo_shrunk [25] 60 (fun K hK => ?_)
      repeat' ((conv => whnf); first | refine ⟨fun h => ?_, fun h => ?_⟩ | refine ⟨?_, ?_⟩ | refine hK _ _ _ _ ?_)
      clear hK K
      refine loopN (σ := Unit) 24 (fun _ _ => True) (fun k _ => xF l G y_Mo_shrunk 25 [some (.ref 50), some (.int w), some (.int (nI (cnt (fun k => tb (kpt P V k)) k))), some (.int (nI (cnt (fun k => tb (0 < pS P k ∧ ¬ kpt P V k)) k))), some (.int (nI (dsz P V k))), some (.int (nI (cnt (fun k => (sfr P (stl P V) k).isSome) k))), some (.int (nI (cnt (fun k => (ouf P (stl P V) k).isSome) k))), some (.int (nI k))] [] M Q) ?_ ?_ 24 0 rfl () trivial
      · intro k hk _ _ next
        have hcl : (nI k).toNatClampNeg = k := nI_clamp (by omega)
        have hs64 := (hw.1 k hk).1
        have v83 : M.1 83 (nI k).toNatClampNeg = nI (pS P k) := by rw [hcl]; exact s83 k hk
        have v80 : M.1 80 (nI k).toNatClampNeg = b2 (tb (kpt P V k)) := by rw [hcl]; exact s80 k hk
        have v86 : M.1 86 (nI k).toNatClampNeg = oI (sfr P (stl P V) k) := by rw [hcl]; exact l86 k hk
        have v87 : M.1 87 (nI k).toNatClampNeg = oI (ouf P (stl P V) k) := by rw [hcl]; exact l87 k hk
        have hn6 := oI_none (o := sfr P (stl P V) k) (fun d e => by have := (sfr_some.mp e).1; omega)
        have hn7 := oI_none (o := ouf P (stl P V) k) (fun d e => by have := (ouf_some hk e).2.1; omega)
        have d1 : cnt (fun k => tb (kpt P V k)) (k + 1) = cnt (fun k => tb (kpt P V k)) k + (if tb (kpt P V k) = true then 1 else 0) := rfl
        have d2 : cnt (fun k => tb (0 < pS P k ∧ ¬ kpt P V k)) (k + 1) = cnt (fun k => tb (0 < pS P k ∧ ¬ kpt P V k)) k + (if tb (0 < pS P k ∧ ¬ kpt P V k) = true then 1 else 0) := rfl
        have d3 : dsz P V (k + 1) = dsz P V k + (if tb (0 < pS P k ∧ ¬ kpt P V k) then pS P k else 0) := rfl
        have d4 : cnt (fun k => (sfr P (stl P V) k).isSome) (k + 1) = cnt (fun k => (sfr P (stl P V) k).isSome) k + (if (sfr P (stl P V) k).isSome = true then 1 else 0) := rfl
        have d5 : cnt (fun k => (ouf P (stl P V) k).isSome) (k + 1) = cnt (fun k => (ouf P (stl P V) k).isSome) k + (if (ouf P (stl P V) k).isSome = true then 1 else 0) := rfl
        generalize cnt (fun k => tb (kpt P V k)) (k + 1) = c1 at *
        generalize cnt (fun k => tb (0 < pS P k ∧ ¬ kpt P V k)) (k + 1) = c2 at *
        generalize dsz P V (k + 1) = c3 at *
        generalize cnt (fun k => (sfr P (stl P V) k).isSome) (k + 1) = c4 at *
        generalize cnt (fun k => (ouf P (stl P V) k).isSome) (k + 1) = c5 at *
        generalize cnt (fun k => tb (kpt P V k)) k = a1 at *
        generalize cnt (fun k => tb (0 < pS P k ∧ ¬ kpt P V k)) k = a2 at *
        generalize dsz P V k = a3 at *
        generalize cnt (fun k => (sfr P (stl P V) k).isSome) k = a4 at *
        generalize cnt (fun k => (ouf P (stl P V) k).isSome) k = a5 at *
        by_cases hs : 0 < pS P k
        · -- the last ones
          have t5 : xF l G y_Mo_shrunk 125 [some (.ref 50), some (.int w), some (.int (nI c1)), some (.int (nI c2)), some (.int (nI c3)), some (.int (nI c4)), some (.int (nI a5)), some (.int (nI k))] [] M Q := by
            refine xF_go o_Mo_shrunk [25] 60 (fun K hK => ?_)
            repeat' ((conv => whnf); first | refine ⟨fun h => ?_, fun h => ?_⟩ | refine ⟨?_, ?_⟩ | refine hK _ _ _ _ ?_)
            · exact vp_in_nI hk (by decide)
            · have h0 := (show M.1 87 (nI k).toNatClampNeg = -1 from by assumption)
              rw [v87, hn7] at h0
              rw [nI_1, show nI a5 + 0 = nI c5 by rw [d5, h0]; exact nI_add _ 0]
              exact next () trivial
            · have h0 := (show ¬ M.1 87 (nI k).toNatClampNeg = -1 from by assumption)
              rw [v87, hn7] at h0
              have h1 : (ouf P (stl P V) k).isSome = true := by
                cases e : ouf P (stl P V) k with
                | none => exact absurd e h0
                | some d => rfl
              rw [nI_1, nI_1, show a5 + 1 = c5 by rw [d5, h1]; rfl]
              exact next () trivial
          have t4 : xF l G y_Mo_shrunk 104 [some (.ref 50), some (.int w), some (.int (nI c1)), some (.int (nI c2)), some (.int (nI c3)), some (.int (nI a4)), some (.int (nI a5)), some (.int (nI k))] [] M Q := by
            refine xF_go o_Mo_shrunk [125] 60 (fun K hK => ?_)
            repeat' ((conv => whnf); first | refine ⟨fun h => ?_, fun h => ?_⟩ | refine ⟨?_, ?_⟩ | refine hK _ _ _ _ ?_)
            · exact vp_in_nI hk (by decide)
            · have h0 := (show M.1 86 (nI k).toNatClampNeg = -1 from by assumption)
              rw [v86, hn6] at h0
              rw [show nI a4 + 0 = nI c4 by rw [d4, h0]; exact nI_add _ 0]
              exact t5
            · have h0 := (show ¬ M.1 86 (nI k).toNatClampNeg = -1 from by assumption)
              rw [v86, hn6] at h0
              have h1 : (sfr P (stl P V) k).isSome = true := by
                cases e : sfr P (stl P V) k with
                | none => exact absurd e h0
                | some d => rfl
              rw [nI_1, show a4 + 1 = c4 by rw [d4, h1]; rfl]
              exact t5
          have t3 : xF l G y_Mo_shrunk 78 [some (.ref 50), some (.int w), some (.int (nI c1)), some (.int (nI c2)), some (.int (nI a3)), some (.int (nI a4)), some (.int (nI a5)), some (.int (nI k))] [] M Q := by
            refine xF_go o_Mo_shrunk [104] 60 (fun K hK => ?_)
            repeat' ((conv => whnf); first | refine ⟨fun h => ?_, fun h => ?_⟩ | refine ⟨?_, ?_⟩ | refine hK _ _ _ _ ?_)
            · exact vp_in_nI hk (by decide)
            · exact vp_in_nI hk (by decide)
            · have h0 := (show M.1 80 (nI k).toNatClampNeg = 0 from by assumption)
              rw [v80, b2_0, tb_f] at h0
              rw [if_tb ⟨hs, h0⟩] at d3
              rw [v83, nI_add, ← d3]
              exact t4
            · have h0 := (show ¬ M.1 80 (nI k).toNatClampNeg = 0 from by assumption)
              rw [v80, b2_ne, tb_t] at h0
              rw [if_nt (fun z => z.2 h0)] at d3
              rw [show nI a3 + 0 = nI c3 by rw [d3]; exact nI_add _ 0]
              exact t4
          have t2 : xF l G y_Mo_shrunk 60 [some (.ref 50), some (.int w), some (.int (nI c1)), some (.int (nI a2)), some (.int (nI a3)), some (.int (nI a4)), some (.int (nI a5)), some (.int (nI k))] [] M Q := by
            refine xF_go o_Mo_shrunk [78] 60 (fun K hK => ?_)
            repeat' ((conv => whnf); first | refine ⟨fun h => ?_, fun h => ?_⟩ | refine ⟨?_, ?_⟩ | refine hK _ _ _ _ ?_)
            · exact vp_in_nI hk (by decide)
            · have h0 := (show M.1 80 (nI k).toNatClampNeg = 0 from by assumption)
              rw [v80, b2_0, tb_f] at h0
              rw [if_tb ⟨hs, h0⟩] at d2
              rw [nI_1, ← d2]
              exact t3
            · have h0 := (show ¬ M.1 80 (nI k).toNatClampNeg = 0 from by assumption)
              rw [v80, b2_ne, tb_t] at h0
              rw [if_nt (fun z => z.2 h0)] at d2
              rw [show nI a2 + 0 = nI c2 by rw [d2]; exact nI_add _ 0]
              exact t3
          refine xF_go o_Mo_shrunk [25, 60, 146, 152] 60 (fun K hK => ?_)
          repeat' ((conv => whnf); first | refine ⟨fun h => ?_, fun h => ?_⟩ | refine ⟨?_, ?_⟩ | refine hK _ _ _ _ ?_)
          · exact absurd (nI_lt (b := 24) hk (by decide)) h
          · exact vp_in_nI hk (by decide)
          · have h0 := (show ¬ 0 < M.1 83 (nI k).toNatClampNeg from by assumption)
            rw [v83, nI_0lt (by omega)] at h0
            exact absurd hs h0
          · exact vp_in_nI hk (by decide)
          · have h0 := (show M.1 80 (nI k).toNatClampNeg = 0 from by assumption)
            rw [v80, b2_0, tb_f] at h0
            rw [if_nt h0] at d1
            rw [show nI a1 + 0 = nI c1 by rw [d1]; exact nI_add _ 0]
            exact t2
          · have h0 := (show ¬ M.1 80 (nI k).toNatClampNeg = 0 from by assumption)
            rw [v80, b2_ne, tb_t] at h0
            rw [if_tb h0] at d1
            rw [nI_1, ← d1]
            exact t2
        · have hnk : ¬ kpt P V k := fun z => hs (kpt_S z)
          have hn6' : sfr P (stl P V) k = none := by
            cases e : sfr P (stl P V) k with
            | none => rfl
            | some d => exact absurd (stl_T (sfr_T e)).2 hs
          have hn7' : ouf P (stl P V) k = none := by
            cases e : ouf P (stl P V) k with
            | none => rfl
            | some d => exact absurd (stl_T (ouf_some hk e).1.1).2 hs
          rw [if_nt hnk, Nat.add_zero] at d1
          rw [if_nt (fun z => hs z.1), Nat.add_zero] at d2
          rw [if_nt (fun z => hs z.1), Nat.add_zero] at d3
          rw [hn6'] at d4
          rw [hn7'] at d5
          replace d4 : c4 = a4 := d4
          replace d5 : c5 = a5 := d5
          subst d1 d2 d3 d4 d5
          refine xF_go o_Mo_shrunk [25, 60, 146, 152] 60 (fun K hK => ?_)
          repeat' ((conv => whnf); first | refine ⟨fun h => ?_, fun h => ?_⟩ | refine ⟨?_, ?_⟩ | refine hK _ _ _ _ ?_)
          · exact absurd (nI_lt (b := 24) hk (by decide)) h
          · exact vp_in_nI hk (by decide)
          · clear hK K
            refine xF_go o_Mo_shrunk [25] 60 (fun K hK => ?_)
            repeat' ((conv => whnf); first | refine ⟨fun h => ?_, fun h => ?_⟩ | refine ⟨?_, ?_⟩ | refine hK _ _ _ _ ?_)
            rw [nI_1]
            exact next () trivial
          all_goals
            have h0 := (show 0 < M.1 83 (nI k).toNatClampNeg from by assumption)
            rw [v83, nI_0lt (by omega)] at h0
            exact absurd h0 hs
      · intro _ _
        refine xF_go o_Mo_shrunk [25, 152] 60 (fun K hK => ?_)
        repeat' ((conv => whnf); first | refine ⟨fun h => ?_, fun h => ?_⟩ | refine ⟨?_, ?_⟩ | refine hK _ _ _ _ ?_)
        · clear hK K
          refine xF_go o_Mo_shrunk [] 60 (fun K hK => ?_)
          repeat' ((conv => whnf); first | refine ⟨fun h => ?_, fun h => ?_⟩ | refine ⟨?_, ?_⟩ | refine hK _ _ _ _ ?_)
          · have hw0 : w = 0 := by assumption
            refine xF_iret o_Mo_shrunk rfl rfl ?_
            exact hQ _ _ ⟨rfl, _, rfl, fun _ => rfl, n01 hw0 (by decide), n01 hw0 (by decide), n01 hw0 (by decide), n01 hw0 (by decide), n01 hw0 (by decide), n01 hw0 (by decide), fun z => absurd hw0 z⟩
          · have hw0 : w = 1 := by assumption
            refine xF_iret o_Mo_shrunk rfl rfl ?_
            exact hQ _ _ ⟨rfl, _, rfl, n01 hw0 (by decide), fun _ => rfl, n01 hw0 (by decide), n01 hw0 (by decide), n01 hw0 (by decide), n01 hw0 (by decide), n01 hw0 (by decide), fun _ z => absurd hw0 z⟩
          · have hw0 : w = 2 := by assumption
            refine xF_iret o_Mo_shrunk rfl rfl ?_
            exact hQ _ _ ⟨rfl, _, rfl, n01 hw0 (by decide), n01 hw0 (by decide), fun _ => rfl, n01 hw0 (by decide), n01 hw0 (by decide), n01 hw0 (by decide), n01 hw0 (by decide), fun _ _ z => absurd hw0 z⟩
          · have hw0 : w = 3 := by assumption
            rw [l56]
            refine xF_iret o_Mo_shrunk rfl rfl ?_
            exact hQ _ _ ⟨rfl, _, rfl, n01 hw0 (by decide), n01 hw0 (by decide), n01 hw0 (by decide), fun _ => rfl, n01 hw0 (by decide), n01 hw0 (by decide), n01 hw0 (by decide), fun _ _ _ z => absurd hw0 z⟩
          · have hw0 : w = 4 := by assumption
            refine xF_iret o_Mo_shrunk rfl rfl ?_
            exact hQ _ _ ⟨rfl, _, rfl, n01 hw0 (by decide), n01 hw0 (by decide), n01 hw0 (by decide), n01 hw0 (by decide), fun _ => rfl, n01 hw0 (by decide), n01 hw0 (by decide), fun _ _ _ _ z => absurd hw0 z⟩
          · have hw0 : w = 5 := by assumption
            refine xF_iret o_Mo_shrunk rfl rfl ?_
            exact hQ _ _ ⟨rfl, _, rfl, n01 hw0 (by decide), n01 hw0 (by decide), n01 hw0 (by decide), n01 hw0 (by decide), n01 hw0 (by decide), fun _ => rfl, n01 hw0 (by decide), fun _ _ _ _ _ z => absurd hw0 z⟩
          · have hw0 : w = 6 := by assumption
            rw [l57]
            refine xF_iret o_Mo_shrunk rfl rfl ?_
            exact hQ _ _ ⟨rfl, _, rfl, n01 hw0 (by decide), n01 hw0 (by decide), n01 hw0 (by decide), n01 hw0 (by decide), n01 hw0 (by decide), n01 hw0 (by decide), fun _ => rfl, fun _ _ _ _ _ _ z => absurd hw0 z⟩
          · have e0 : ¬ w = 0 := by assumption
            have e1 : ¬ w = 1 := by assumption
            have e2 : ¬ w = 2 := by assumption
            have e3 : ¬ w = 3 := by assumption
            have e4 : ¬ w = 4 := by assumption
            have e5 : ¬ w = 5 := by assumption
            have e6 : ¬ w = 6 := by assumption
            refine xF_iret o_Mo_shrunk rfl rfl ?_
            exact hQ _ _ ⟨rfl, _, rfl, fun z => absurd z e0, fun z => absurd z e1, fun z => absurd z e2, fun z => absurd z e3, fun z => absurd z e4, fun z => absurd z e5, fun z => absurd z e6, fun _ _ _ _ _ _ _ => rfl⟩
        all_goals exact absurd (show nI 24 < nI 24 from by assumption) (nI_nlt (by omega) (by omega))
    · have h0 : M.1 50 27 = 0 := by assumption
      rw [h4] at h0
      exact absurd h0 (show ¬ b2 true = 0 by decide)
end XUU
