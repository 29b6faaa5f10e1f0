/-! what is told of the latest shrink: the class, on -/
theorem cnt_sum (f : Nat → Bool) : cnt f 64 + cnt (fun i => f (64 + i)) 64 + cnt (fun i => f (128 + i)) 64 + cnt (fun i => f (192 + i)) 64 = cnt f 256 := by
  have h1 := cnt_add f 64 64
  have h2 := cnt_add f 128 64
  have h3 := cnt_add f 192 64
  show _ = cnt f (192 + 64)
  rw [h3]
  show _ = cnt f (128 + 64) + _
  rw [h2]
  show _ = cnt f (64 + 64) + _ + _
  rw [h1]
section XTM
variable (l : Launch) (G : xG)
theorem E_DSread (Z : sZ) (M : xMe) (hZ : cW Z M) (k p : Int32) : xE l G y_DS_read [.ref 0, .int k, .int p] M (fun r M' => M' = M ∧ ∃ r0, r = some (.int r0) ∧ rRead Z k p r0) := by
  refine xE_cps (fun Q hQ => ?_)
  refine xE_of [some (.ref 0), some (.int k), some (.int p)] (by decide +kernel) (Nat.le_of_ble_eq_true rfl) rfl ?_
  match Z, hZ, hQ with
  | none, hZ, hQ =>
    refine xF_go o_DS_read [] 60 (fun K hK => ?_)
    repeat' ((conv => whnf); first | refine ⟨fun h => ?_, fun h => ?_⟩ | refine ⟨?_, ?_⟩ | refine hK _ _ _ _ ?_)
    refine xF_callV o_DS_read [.int k] rfl z_DS_hadItem i_DS_hadItem v_DS_hadItem l_DS_128 rfl ⟨⟨by decide, by decide⟩, rfl, rfl⟩ (Nat.le_of_ble_eq_true rfl) rfl rfl rfl (E_DShadItem l G sP0 sP0_w false M hZ.1 (fun z => by cases z) k) ?_
    rintro v M' ⟨eM, rfl⟩; obtain rfl := eM.symm
    clear hK K
    rw [tb_f.mpr (fun z => by cases z.1)]
    refine xF_go o_DS_read [] 60 (fun K hK => ?_)
    repeat' ((conv => whnf); first | refine ⟨fun h => ?_, fun h => ?_⟩ | refine ⟨?_, ?_⟩ | refine hK _ _ _ _ ?_)
    · refine xF_iret o_DS_read rfl rfl ?_
      exact hQ _ _ ⟨rfl, _, rfl, rfl⟩
    all_goals exact absurd rfl (show ¬ b2 false = 0 from by assumption)
  | some (P, V, R), hZ, hQ =>
    obtain ⟨h4, hZ2⟩ := hZ
    obtain ⟨hw, hfin, hR, hSh⟩ := hZ2 P V R rfl
    obtain ⟨hL, s21, s23, s27, s28, s29, s20, s19⟩ := hSh
    obtain ⟨l34, l36, l38, l39, l40, l11, l13, l42⟩ := hL
    refine xF_go o_DS_read [] 60 (fun K hK => ?_)
    repeat' ((conv => whnf); first | refine ⟨fun h => ?_, fun h => ?_⟩ | refine ⟨?_, ?_⟩ | refine hK _ _ _ _ ?_)
    refine xF_callV o_DS_read [.int k] rfl z_DS_hadItem i_DS_hadItem v_DS_hadItem l_DS_128 rfl ⟨⟨by decide, by decide⟩, rfl, rfl⟩ (Nat.le_of_ble_eq_true rfl) rfl rfl rfl (E_DShadItem l G P hw true M h4 (fun _ => l34) k) ?_
    rintro v M' ⟨eM, rfl⟩; obtain rfl := eM.symm
    clear hK K
    by_cases e : hadI P k
    · rw [tb_t.mpr ⟨rfl, e⟩]
      obtain ⟨j, hj, rfl, hs⟩ := e
      have hs64 := (hw.1 j hj).1
      have hcl : (nI j).toNatClampNeg = j := nI_clamp (by omega)
      refine xF_go o_DS_read [] 60 (fun K hK => ?_)
      repeat' ((conv => whnf); first | refine ⟨fun h => ?_, fun h => ?_⟩ | refine ⟨?_, ?_⟩ | refine hK _ _ _ _ ?_)
      · exact absurd (show b2 true = 0 from by assumption) (by decide)
      · exact vp_in_nI hj (by decide)
      · rw [hcl, l34 j hj]
        refine xF_callS o_DS_read [.int p, .int 0, .int (nI (pS P j) - 1)] rfl z_DS_within s_DS_within l_DS_57 rfl ⟨⟨by decide, by decide⟩, rfl, rfl⟩ (Nat.le_of_ble_eq_true rfl) rfl (E_within l G p 0 (nI (pS P j) - 1) M) ?_
        rintro v M' ⟨eM, rfl⟩; obtain rfl := eM.symm
        clear hK K
        by_cases e2 : 0 ≤ p ∧ p ≤ nI (pS P j) - 1
        · rw [if_pos e2]
          obtain ⟨q, hq, rfl⟩ := (le_of_lt (by omega)).mp e2
          have hx := xbit_test (M.2 27 j) (p := q) (by omega)
          have hb := s27 j hj q (by omega)
          refine xF_go o_DS_read [52] 60 (fun K hK => ?_)
          repeat' ((conv => whnf); first | refine ⟨fun h => ?_, fun h => ?_⟩ | refine ⟨?_, ?_⟩ | refine hK _ _ _ _ ?_)
          · exact vp_in_nI hj (by decide)
          · have h1 := (show lg_cmp ((((M.2 27 (nI j).toNatClampNeg).toUInt64 >>> ((nI q).toInt64.toUInt64 &&& Int64.toUInt64 63)).toInt64) &&& 1) 0 = 0 from by assumption)
            rw [xcmp0, hcl, hx] at h1
            clear hK K
            refine xF_go o_DS_read [] 60 (fun K hK => ?_)
            repeat' ((conv => whnf); first | refine ⟨fun h => ?_, fun h => ?_⟩ | refine ⟨?_, ?_⟩ | refine hK _ _ _ _ ?_)
            refine xF_callS o_DS_read [.int 0] rfl z_DS_asNumber s_DS_asNumber l_DS_134 rfl ⟨⟨by decide, by decide⟩, rfl, rfl⟩ (Nat.le_of_ble_eq_true rfl) rfl (E_asNumber l G 0 M) ?_
            rintro v M' ⟨eM, rfl⟩; obtain rfl := eM.symm
            clear hK K
            refine xF_go o_DS_read [] 60 (fun K hK => ?_)
            repeat' ((conv => whnf); first | refine ⟨fun h => ?_, fun h => ?_⟩ | refine ⟨?_, ?_⟩ | refine hK _ _ _ _ ?_)
            refine xF_iret o_DS_read rfl rfl ?_
            refine hQ _ _ ⟨rfl, _, rfl, fun j' q' a1 a2 a3 a4 => ?_, fun z => absurd ⟨j, q, hj, rfl, hq, rfl⟩ z⟩
            have := nI_inj (by omega) (by omega) a2
            subst this
            have := nI_inj (by omega) (by omega) a4
            subst this
            rw [tb_f.mpr (fun z => by rw [hb.mpr z] at h1; cases h1)]
            rfl
          · have h1 := (show ¬ lg_cmp ((((M.2 27 (nI j).toNatClampNeg).toUInt64 >>> ((nI q).toInt64.toUInt64 &&& Int64.toUInt64 63)).toInt64) &&& 1) 0 = 0 from by assumption)
            rw [xcmp0, hcl, hx] at h1
            clear hK K
            refine xF_go o_DS_read [] 60 (fun K hK => ?_)
            repeat' ((conv => whnf); first | refine ⟨fun h => ?_, fun h => ?_⟩ | refine ⟨?_, ?_⟩ | refine hK _ _ _ _ ?_)
            refine xF_callS o_DS_read [.int 1] rfl z_DS_asNumber s_DS_asNumber l_DS_134 rfl ⟨⟨by decide, by decide⟩, rfl, rfl⟩ (Nat.le_of_ble_eq_true rfl) rfl (E_asNumber l G 1 M) ?_
            rintro v M' ⟨eM, rfl⟩; obtain rfl := eM.symm
            clear hK K
            refine xF_go o_DS_read [] 60 (fun K hK => ?_)
            repeat' ((conv => whnf); first | refine ⟨fun h => ?_, fun h => ?_⟩ | refine ⟨?_, ?_⟩ | refine hK _ _ _ _ ?_)
            refine xF_iret o_DS_read rfl rfl ?_
            refine hQ _ _ ⟨rfl, _, rfl, fun j' q' a1 a2 a3 a4 => ?_, fun z => absurd ⟨j, q, hj, rfl, hq, rfl⟩ z⟩
            have := nI_inj (by omega) (by omega) a2
            subst this
            have := nI_inj (by omega) (by omega) a4
            subst this
            rw [tb_t.mpr (hb.mp (by cases e : xbit (M.2 27 j) q with | true => rfl | false => exact absurd e h1))]
            rfl
          · exact absurd (show (1 : Int32) = 0 from by assumption) (by decide)
        · rw [if_neg e2]
          refine xF_go o_DS_read [] 60 (fun K hK => ?_)
          repeat' ((conv => whnf); first | refine ⟨fun h => ?_, fun h => ?_⟩ | refine ⟨?_, ?_⟩ | refine hK _ _ _ _ ?_)
          · exact absurd rfl (show ¬ (0 : Int32) = 0 from by assumption)
          all_goals first
            | exact absurd rfl (show ¬ (0 : Int32) = 0 from by assumption)
            | skip
          refine xF_iret o_DS_read rfl rfl ?_
          refine hQ _ _ ⟨rfl, _, rfl, fun j' q' a1 a2 a3 a4 => ?_, fun _ => rfl⟩
          have := nI_inj (by omega) (by omega) a2
          subst this
          exact absurd ((le_of_lt (by omega)).mpr ⟨q', a3, a4⟩) e2
    · rw [tb_f.mpr (fun z => e z.2)]
      refine xF_go o_DS_read [] 60 (fun K hK => ?_)
      repeat' ((conv => whnf); first | refine ⟨fun h => ?_, fun h => ?_⟩ | refine ⟨?_, ?_⟩ | refine hK _ _ _ _ ?_)
      · refine xF_iret o_DS_read rfl rfl ?_
        refine hQ _ _ ⟨rfl, _, rfl, fun j' q' a1 a2 a3 a4 => absurd ⟨j', a1, a2, by omega⟩ e, fun _ => rfl⟩
      all_goals exact absurd rfl (show ¬ b2 false = 0 from by assumption)
theorem E_countComeTo (P : sP) (hw : wP P) (V : sV) (hb : bas P V) (f : Nat) (hf : f < 12) (M : xMe) (s23 : cB 23 12 (vC V) M) : xE l G y_Re_countComeTo [.ref 16, .int (nI f)] M (fun r M' => M' = M ∧ r = some (.int (nI (cnt (fun i => tb (vC V f i)) (pC P f).length)))) := by
  have hl := (hw.2.2.2.1 f hf).1
  have hcl : (nI f).toNatClampNeg = f := nI_clamp (by omega)
  have ek : ∀ i, i < 64 → xbit (-1099511627777 : Int64) i = decide (¬ i = 40) := by decide +kernel
  have ec : cnt (xbit (M.2 23 f &&& (-1099511627777 : Int64))) 64 = cnt (fun i => tb (vC V f i)) (pC P f).length := by
    have h1 := cnt_add (xbit (M.2 23 f &&& (-1099511627777 : Int64))) (pC P f).length (64 - (pC P f).length)
    rw [show (pC P f).length + (64 - (pC P f).length) = 64 by omega] at h1
    rw [h1, cnt_0 (f := fun i => xbit (M.2 23 f &&& (-1099511627777 : Int64)) ((pC P f).length + i)), Nat.add_zero]
    · refine cnt_c _ (fun i hi => ?_)
      rw [xbit_and, ek i (by omega), decide_eq_true (by omega), Bool.and_true]
      exact tb_b (s23 f hf i (by omega))
    · intro i hi
      show xbit _ ((pC P f).length + i) = false
      rw [xbit_and, ek _ (by omega)]
      by_cases e : (pC P f).length + i = 40
      · rw [e]; simp
      · cases e2 : xbit (M.2 23 f) ((pC P f).length + i) with
        | false => rfl
        | true =>
          have := (hb.1 f _ ((s23 f hf _ (by omega)).mp e2)).2
          omega
  refine xE_of [some (.ref 16), some (.int (nI f))] (by decide +kernel) (Nat.le_of_ble_eq_true rfl) rfl ?_
  refine xF_go o_Re_countComeTo [] 60 (fun K hK => ?_)
  repeat' ((conv => whnf); first | refine ⟨fun h => ?_, fun h => ?_⟩ | refine ⟨?_, ?_⟩ | refine hK _ _ _ _ ?_)
  · exact vp_in_nI hf (by decide)
  · rw [hcl]
    refine xF_callS o_Re_countComeTo [.long (M.2 23 f &&& (-1099511627777 : Int64))] rfl z_JL_bitCount s_JL_bitCount l_Re_85 rfl ⟨⟨by decide, by decide⟩, rfl, rfl⟩ (Nat.le_of_ble_eq_true rfl) rfl (E_bitCount l G _ M) ?_
    rintro v M' ⟨eM, rfl⟩; obtain rfl := eM.symm
    clear hK K
    rw [ec]
    refine xF_go o_Re_countComeTo [] 60 (fun K hK => ?_)
    repeat' ((conv => whnf); first | refine ⟨fun h => ?_, fun h => ?_⟩ | refine ⟨?_, ?_⟩ | refine hK _ _ _ _ ?_)
    refine xF_iret o_Re_countComeTo rfl rfl ?_
    exact ⟨rfl, rfl⟩
theorem E_DSfunction (Z : sZ) (M : xMe) (hZ : cW Z M) (k w : Int32) : xE l G y_DS_function [.ref 0, .int k, .int w] M (fun r M' => M' = M ∧ ∃ r0, r = some (.int r0) ∧ rFunc Z k w r0) := by
  refine xE_cps (fun Q hQ => ?_)
  refine xE_of [some (.ref 0), some (.int k), some (.int w)] (by decide +kernel) (Nat.le_of_ble_eq_true rfl) rfl ?_
  match Z, hZ, hQ with
  | none, hZ, hQ =>
    have h4 : M.1 0 4 = 0 := hZ.1
    refine xF_go o_DS_function [] 60 (fun K hK => ?_)
    repeat' ((conv => whnf); first | refine ⟨fun h => ?_, fun h => ?_⟩ | refine ⟨?_, ?_⟩ | refine hK _ _ _ _ ?_)
    · refine xF_iret o_DS_function rfl rfl ?_
      exact hQ _ _ ⟨rfl, _, rfl, rfl⟩
    all_goals exact absurd h4 (by assumption)
  | some (P, V, R), hZ, hQ =>
    obtain ⟨h4, hZ2⟩ := hZ
    obtain ⟨hw, hfin, hR, hSh⟩ := hZ2 P V R rfl
    obtain ⟨hL, s21, s23, s27, s28, s29, s20, s19⟩ := hSh
    refine xF_go o_DS_function [] 60 (fun K hK => ?_)
    repeat' ((conv => whnf); first | refine ⟨fun h => ?_, fun h => ?_⟩ | refine ⟨?_, ?_⟩ | refine hK _ _ _ _ ?_)
    · have h0 : M.1 0 4 = 0 := by assumption
      rw [h4] at h0
      exact absurd h0 (show ¬ b2 true = 0 by decide)
    · refine xF_callS o_DS_function [.int k] rfl z_DS_isFunction s_DS_isFunction l_DS_73 rfl ⟨⟨by decide, by decide⟩, rfl, rfl⟩ (Nat.le_of_ble_eq_true rfl) rfl (E_isFunction l G k M) ?_
      rintro v M' ⟨eM, rfl⟩; obtain rfl := eM.symm
      clear hK K
      by_cases e : 0 ≤ k ∧ k < 12
      · rw [if_pos e]
        obtain ⟨f, hf, rfl⟩ := nI_of12 e
        have hl := (hw.2.2.2.1 f hf).1
        have hcl : (nI f).toNatClampNeg = f := nI_clamp (by omega)
        have res : ∀ r0, (w = 0 → r0 = b2 (tb (∃ i, i < 64 ∧ vC V f i))) ∧ (w = 1 → r0 = nI (cnt (fun i => tb (vC V f i)) (pC P f).length)) ∧ (w = 2 → rD (ent P) (vLk V) f r0) ∧ (¬ w = 0 → ¬ w = 1 → ¬ w = 2 → r0 = -1) → Q (some (.int r0)) M := by
          intro r0 hr
          refine hQ _ _ ⟨rfl, r0, rfl, fun z => absurd ⟨f, hf, rfl⟩ z, fun f' hf' ef => ?_⟩
          have := nI_inj (by omega) (by omega) ef
          subst this
          exact hr
        have n01 : ∀ {a b : Int32} {p : Prop}, w = a → ¬ a = b → w = b → p := fun h1 h2 h3 => absurd (h1.symm.trans h3) h2
        have hx := cB_ex s23 hf
        refine xF_go o_DS_function [44, 67, 76, 89] 60 (fun K hK => ?_)
        repeat' ((conv => whnf); first | refine ⟨fun h => ?_, fun h => ?_⟩ | refine ⟨?_, ?_⟩ | refine hK _ _ _ _ ?_)
        · have hw0 : w = 0 := by assumption
          clear hK K
          refine xF_go o_DS_function [63] 60 (fun K hK => ?_)
          repeat' ((conv => whnf); first | refine ⟨fun h => ?_, fun h => ?_⟩ | refine ⟨?_, ?_⟩ | refine hK _ _ _ _ ?_)
          · exact vp_in_nI hf (by decide)
          · have h1 := (show lg_cmp (M.2 23 (nI f).toNatClampNeg) 0 = 0 from by assumption)
            rw [xcmp0, hcl, hx] at h1
            clear hK K
            refine xF_go o_DS_function [] 60 (fun K hK => ?_)
            repeat' ((conv => whnf); first | refine ⟨fun h => ?_, fun h => ?_⟩ | refine ⟨?_, ?_⟩ | refine hK _ _ _ _ ?_)
            refine xF_callS o_DS_function [.int 0] rfl z_DS_asNumber s_DS_asNumber l_DS_134 rfl ⟨⟨by decide, by decide⟩, rfl, rfl⟩ (Nat.le_of_ble_eq_true rfl) rfl (E_asNumber l G 0 M) ?_
            rintro v M' ⟨eM, rfl⟩; obtain rfl := eM.symm
            clear hK K
            refine xF_go o_DS_function [] 60 (fun K hK => ?_)
            repeat' ((conv => whnf); first | refine ⟨fun h => ?_, fun h => ?_⟩ | refine ⟨?_, ?_⟩ | refine hK _ _ _ _ ?_)
            refine xF_iret o_DS_function rfl rfl ?_
            refine res _ ⟨fun _ => ?_, n01 hw0 (by decide), n01 hw0 (by decide), fun z => absurd hw0 z⟩
            rw [tb_f.mpr h1]
            rfl
          · have h1 := (show ¬ lg_cmp (M.2 23 (nI f).toNatClampNeg) 0 = 0 from by assumption)
            rw [xcmp0, hcl, hx, Classical.not_not] at h1
            clear hK K
            refine xF_go o_DS_function [] 60 (fun K hK => ?_)
            repeat' ((conv => whnf); first | refine ⟨fun h => ?_, fun h => ?_⟩ | refine ⟨?_, ?_⟩ | refine hK _ _ _ _ ?_)
            refine xF_callS o_DS_function [.int 1] rfl z_DS_asNumber s_DS_asNumber l_DS_134 rfl ⟨⟨by decide, by decide⟩, rfl, rfl⟩ (Nat.le_of_ble_eq_true rfl) rfl (E_asNumber l G 1 M) ?_
            rintro v M' ⟨eM, rfl⟩; obtain rfl := eM.symm
            clear hK K
            refine xF_go o_DS_function [] 60 (fun K hK => ?_)
            repeat' ((conv => whnf); first | refine ⟨fun h => ?_, fun h => ?_⟩ | refine ⟨?_, ?_⟩ | refine hK _ _ _ _ ?_)
            refine xF_iret o_DS_function rfl rfl ?_
            refine res _ ⟨fun _ => ?_, n01 hw0 (by decide), n01 hw0 (by decide), fun z => absurd hw0 z⟩
            rw [tb_t.mpr h1]
            rfl
        · have hw0 : w = 1 := by assumption
          clear hK K
          refine xF_go o_DS_function [] 60 (fun K hK => ?_)
          repeat' ((conv => whnf); first | refine ⟨fun h => ?_, fun h => ?_⟩ | refine ⟨?_, ?_⟩ | refine hK _ _ _ _ ?_)
          refine xF_callV o_DS_function [.int (nI f)] rfl z_Re_countComeTo i_Re_countComeTo v_Re_countComeTo l_DS_175 rfl ⟨⟨by decide, by decide⟩, rfl, rfl⟩ (Nat.le_of_ble_eq_true rfl) rfl rfl rfl (E_countComeTo l G P hw V hfin.2.1 f hf M s23) ?_
          rintro v M' ⟨eM, rfl⟩; obtain rfl := eM.symm
          clear hK K
          refine xF_go o_DS_function [] 60 (fun K hK => ?_)
          repeat' ((conv => whnf); first | refine ⟨fun h => ?_, fun h => ?_⟩ | refine ⟨?_, ?_⟩ | refine hK _ _ _ _ ?_)
          refine xF_iret o_DS_function rfl rfl ?_
          exact res _ ⟨n01 hw0 (by decide), fun _ => rfl, n01 hw0 (by decide), fun _ z => absurd hw0 z⟩
        · have hw0 : w = 2 := by assumption
          clear hK K
          refine xF_go o_DS_function [] 60 (fun K hK => ?_)
          repeat' ((conv => whnf); first | refine ⟨fun h => ?_, fun h => ?_⟩ | refine ⟨?_, ?_⟩ | refine hK _ _ _ _ ?_)
          · exact vp_in_nI (by show _ < 36; omega) (by decide)
          · rw [hcl]
            refine xF_iret o_DS_function rfl rfl ?_
            exact res _ ⟨n01 hw0 (by decide), n01 hw0 (by decide), fun _ => s19 f (by omega), fun _ _ z => absurd hw0 z⟩
        · have e0 : ¬ w = 0 := by assumption
          have e1 : ¬ w = 1 := by assumption
          have e2 : ¬ w = 2 := by assumption
          clear hK K
          refine xF_go o_DS_function [] 60 (fun K hK => ?_)
          repeat' ((conv => whnf); first | refine ⟨fun h => ?_, fun h => ?_⟩ | refine ⟨?_, ?_⟩ | refine hK _ _ _ _ ?_)
          refine xF_iret o_DS_function rfl rfl ?_
          exact res _ ⟨fun z => absurd z e0, fun z => absurd z e1, fun z => absurd z e2, fun _ _ _ => rfl⟩
        · exact absurd (show (1 : Int32) = 0 from by assumption) (by decide)
      · rw [if_neg e]
        refine xF_go o_DS_function [16] 60 (fun K hK => ?_)
        repeat' ((conv => whnf); first | refine ⟨fun h => ?_, fun h => ?_⟩ | refine ⟨?_, ?_⟩ | refine hK _ _ _ _ ?_)
        · exact absurd rfl (show ¬ (0 : Int32) = 0 from by assumption)
        · refine xF_iret o_DS_function rfl rfl ?_
          exact hQ _ _ ⟨rfl, _, rfl, fun _ => rfl, fun f hf ef => absurd (ef ▸ nI_12 hf) e⟩
theorem E_OScount (S : Nat) (hS : S + 4 ≤ 7872) (X : Nat → Prop) (M : xMe) (h : ∀ v, v < 256 → (sHas (M.2 21) S v = true ↔ X v)) : xE l G y_OS_count [.ref 21, .int (nI S)] M (fun r M' => M' = M ∧ r = some (.int (nI (cnt (fun v => tb (X v)) 256)))) := by
  have one : ∀ w, w < 4 → cnt (xbit (M.2 21 (S + w))) 64 = cnt (fun i => tb (X (64 * w + i))) 64 := by
    intro w hw
    refine cnt_c 64 (fun i hi => ?_)
    have := h (64 * w + i) (by omega)
    unfold sHas at this
    rw [show (64 * w + i) / 64 = w by omega, show (64 * w + i) % 64 = i by omega] at this
    exact tb_b this
  have le := fun w => cnt_le (fun i => tb (X (64 * w + i))) 64
  refine xE_cps (fun Q hQ => ?_)
  refine xE_of [some (.ref 21), some (.int (nI S)), none, none] (by decide +kernel) (Nat.le_of_ble_eq_true rfl) rfl ?_
  refine xF_go o_OS_count [4] 60 (fun K hK => ?_)
  repeat' ((conv => whnf); first | refine ⟨fun h => ?_, fun h => ?_⟩ | refine ⟨?_, ?_⟩ | refine hK _ _ _ _ ?_)
  clear hK K
  refine loopN (σ := Unit) 4 (fun _ _ => True) (fun w _ => xF l G y_OS_count 4 [some (.ref 21), some (.int (nI S)), some (.int (nI (cnt (fun v => tb (X v)) (64 * w)))), some (.int (nI w))] [] M Q) ?_ ?_ 4 0 rfl () trivial
  · intro w hw _ _ next
    have e1 : nI S + nI w = nI (S + w) := nI_add _ _
    refine xF_go o_OS_count [4] 60 (fun K hK => ?_)
    repeat' ((conv => whnf); first | refine ⟨fun h => ?_, fun h => ?_⟩ | refine ⟨?_, ?_⟩ | refine hK _ _ _ _ ?_)
    · exact absurd (nI_lt (b := 4) hw (by decide)) h
    · rw [e1]; exact vp_in_nI (by show _ < 7872; omega) (by decide)
    · rw [e1, nI_clamp (by omega)]
      refine xF_callS o_OS_count [.long (M.2 21 (S + w))] rfl z_JL_bitCount s_JL_bitCount l_OS_46 rfl ⟨⟨by decide, by decide⟩, rfl, rfl⟩ (Nat.le_of_ble_eq_true rfl) rfl (E_bitCount l G _ M) ?_
      rintro v M' ⟨eM, rfl⟩; obtain rfl := eM.symm
      clear hK K
      rw [one w hw]
      refine xF_go o_OS_count [4] 60 (fun K hK => ?_)
      repeat' ((conv => whnf); first | refine ⟨fun h => ?_, fun h => ?_⟩ | refine ⟨?_, ?_⟩ | refine hK _ _ _ _ ?_)
      rw [nI_add, nI_1, ← cnt_add (fun v => tb (X v)) (64 * w) 64, show 64 * w + 64 = 64 * (w + 1) by omega]
      exact next () trivial
  · intro _ _
    refine xF_go o_OS_count [4] 60 (fun K hK => ?_)
    repeat' ((conv => whnf); first | refine ⟨fun h => ?_, fun h => ?_⟩ | refine ⟨?_, ?_⟩ | refine hK _ _ _ _ ?_)
    · refine xF_iret o_OS_count rfl rfl ?_
      exact hQ _ _ ⟨rfl, rfl⟩
    all_goals exact absurd (show nI 4 < nI 4 from by assumption) (nI_nlt (by omega) (by omega))
theorem E_countValues (V : sV) (f i q : Nat) (hf : f < 12) (hi : i < 41) (hq : q < 4) (M : xMe) (s21 : cS21 (vS V) M) : xE l G y_Re_countValues [.ref 16, .int (nI f), .int (nI i), .int (nI q)] M (fun r M' => M' = M ∧ r = some (.int (nI (cnt (fun v => tb (vS V f i q v)) 256)))) := by
  refine xE_of [some (.ref 16), some (.int (nI f)), some (.int (nI i)), some (.int (nI q))] (by decide +kernel) (Nat.le_of_ble_eq_true rfl) rfl ?_
  refine xF_go o_Re_countValues [] 60 (fun K hK => ?_)
  repeat' ((conv => whnf); first | refine ⟨fun h => ?_, fun h => ?_⟩ | refine ⟨?_, ?_⟩ | refine hK _ _ _ _ ?_)
  refine xF_callS o_Re_countValues [.int (nI f), .int (nI i)] rfl z_Re_slotOf s_Re_slotOf l_Re_91 rfl ⟨⟨by decide, by decide⟩, rfl, rfl⟩ (Nat.le_of_ble_eq_true rfl) rfl (E_slotOf l G (nI f) (nI i) M) ?_
  rintro v M' ⟨eM, rfl⟩; obtain rfl := eM.symm
  clear hK K
  rw [nI_41, nI_add]
  refine xF_go o_Re_countValues [] 60 (fun K hK => ?_)
  repeat' ((conv => whnf); first | refine ⟨fun h => ?_, fun h => ?_⟩ | refine ⟨?_, ?_⟩ | refine hK _ _ _ _ ?_)
  refine xF_callS o_Re_countValues [.int (nI (f * 41 + i)), .int (nI q)] rfl z_Re_setAt s_Re_setAt l_Re_95 rfl ⟨⟨by decide, by decide⟩, rfl, rfl⟩ (Nat.le_of_ble_eq_true rfl) rfl (E_setAt l G (nI (f * 41 + i)) (nI q) M) ?_
  rintro v M' ⟨eM, rfl⟩; obtain rfl := eM.symm
  clear hK K
  rw [set_n]
  refine xF_go o_Re_countValues [] 60 (fun K hK => ?_)
  repeat' ((conv => whnf); first | refine ⟨fun h => ?_, fun h => ?_⟩ | refine ⟨?_, ?_⟩ | refine hK _ _ _ _ ?_)
  refine xF_callS o_Re_countValues [.ref 21, .int (nI ((f * 41 + i) * 16 + q * 4))] rfl z_OS_count s_OS_count l_Re_98 rfl ⟨⟨by decide, by decide⟩, rfl, rfl⟩ (Nat.le_of_ble_eq_true rfl) rfl (E_OScount l G _ (by omega) (vS V f i q) M (fun v hv => s21 f hf i hi q hq v hv)) ?_
  rintro v M' ⟨eM, rfl⟩; obtain rfl := eM.symm
  clear hK K
  refine xF_go o_Re_countValues [] 60 (fun K hK => ?_)
  repeat' ((conv => whnf); first | refine ⟨fun h => ?_, fun h => ?_⟩ | refine ⟨?_, ?_⟩ | refine hK _ _ _ _ ?_)
  refine xF_iret o_Re_countValues rfl rfl ?_
  exact ⟨rfl, rfl⟩
theorem E_DSvalues (Z : sZ) (M : xMe) (hZ : cW Z M) (f i q : Int32) : xE l G y_DS_values [.ref 0, .int f, .int i, .int q] M (fun r M' => M' = M ∧ ∃ r0, r = some (.int r0) ∧ rVals Z f i q r0) := by
  refine xE_cps (fun Q hQ => ?_)
  refine xE_of [some (.ref 0), some (.int f), some (.int i), some (.int q)] (by decide +kernel) (Nat.le_of_ble_eq_true rfl) rfl ?_
  match Z, hZ, hQ with
  | none, hZ, hQ =>
    have h4 : M.1 0 4 = 0 := hZ.1
    refine xF_go o_DS_values [] 60 (fun K hK => ?_)
    repeat' ((conv => whnf); first | refine ⟨fun h => ?_, fun h => ?_⟩ | refine ⟨?_, ?_⟩ | refine hK _ _ _ _ ?_)
    · refine xF_iret o_DS_values rfl rfl ?_
      exact hQ _ _ ⟨rfl, _, rfl, rfl⟩
    all_goals exact absurd h4 (by assumption)
  | some (P, V, R), hZ, hQ =>
    obtain ⟨h4, hZ2⟩ := hZ
    obtain ⟨hw, hfin, hR, hSh⟩ := hZ2 P V R rfl
    obtain ⟨hL, s21, s23, s27, s28, s29, s20, s19⟩ := hSh
    have no : (¬ ∃ f' i' q', f' < 12 ∧ f = nI f' ∧ i' < (pC P f').length ∧ i = nI i' ∧ q' < 4 ∧ q = nI q') → Q (some (.int (-1))) M := by
      intro hn
      exact hQ _ _ ⟨rfl, _, rfl, fun f' i' q' a1 a2 a3 a4 a5 a6 => absurd ⟨f', i', q', a1, a2, a3, a4, a5, a6⟩ hn, fun _ => rfl⟩
    refine xF_go o_DS_values [] 60 (fun K hK => ?_)
    repeat' ((conv => whnf); first | refine ⟨fun h => ?_, fun h => ?_⟩ | refine ⟨?_, ?_⟩ | refine hK _ _ _ _ ?_)
    · have h0 : M.1 0 4 = 0 := by assumption
      rw [h4] at h0
      exact absurd h0 (show ¬ b2 true = 0 by decide)
    · refine xF_callS o_DS_values [.int f] rfl z_DS_isFunction s_DS_isFunction l_DS_73 rfl ⟨⟨by decide, by decide⟩, rfl, rfl⟩ (Nat.le_of_ble_eq_true rfl) rfl (E_isFunction l G f M) ?_
      rintro v M' ⟨eM, rfl⟩; obtain rfl := eM.symm
      clear hK K
      by_cases e : 0 ≤ f ∧ f < 12
      · rw [if_pos e]
        refine xF_go o_DS_values [] 60 (fun K hK => ?_)
        repeat' ((conv => whnf); first | refine ⟨fun h => ?_, fun h => ?_⟩ | refine ⟨?_, ?_⟩ | refine hK _ _ _ _ ?_)
        · exact absurd (show (1 : Int32) = 0 from by assumption) (by decide)
        · refine xF_callS o_DS_values [.int q] rfl z_DS_isRegister s_DS_isRegister l_DS_178 rfl ⟨⟨by decide, by decide⟩, rfl, rfl⟩ (Nat.le_of_ble_eq_true rfl) rfl (E_isRegister l G q M) ?_
          rintro v M' ⟨eM, rfl⟩; obtain rfl := eM.symm
          clear hK K
          by_cases e2 : 0 ≤ q ∧ q < 4
          · rw [if_pos e2]
            obtain ⟨f', hf, rfl⟩ := nI_of12 e
            obtain ⟨q', hq, rfl⟩ := nI_ofN (n := 4) (by decide) e2.1 e2.2
            have hl := (hw.2.2.2.1 f' hf).1
            have hcl : (nI f').toNatClampNeg = f' := nI_clamp (by omega)
            refine xF_go o_DS_values [] 60 (fun K hK => ?_)
            repeat' ((conv => whnf); first | refine ⟨fun h => ?_, fun h => ?_⟩ | refine ⟨?_, ?_⟩ | refine hK _ _ _ _ ?_)
            · exact vp_in_nI hf (by decide)
            · rw [hcl, s20 f' hf]
              refine xF_callS o_DS_values [.int i, .int 0, .int (nI (pC P f').length - 1)] rfl z_DS_within s_DS_within l_DS_57 rfl ⟨⟨by decide, by decide⟩, rfl, rfl⟩ (Nat.le_of_ble_eq_true rfl) rfl (E_within l G i 0 _ M) ?_
              rintro v M' ⟨eM, rfl⟩; obtain rfl := eM.symm
              clear hK K
              by_cases e3 : 0 ≤ i ∧ i ≤ nI (pC P f').length - 1
              · rw [if_pos e3]
                obtain ⟨i', hi, rfl⟩ := (le_of_lt (by omega)).mp e3
                refine xF_go o_DS_values [] 60 (fun K hK => ?_)
                repeat' ((conv => whnf); first | refine ⟨fun h => ?_, fun h => ?_⟩ | refine ⟨?_, ?_⟩ | refine hK _ _ _ _ ?_)
                · refine xF_callV o_DS_values [.int (nI f'), .int (nI i'), .int (nI q')] rfl z_Re_countValues i_Re_countValues v_Re_countValues l_DS_182 rfl ⟨⟨by decide, by decide⟩, rfl, rfl⟩ (Nat.le_of_ble_eq_true rfl) rfl rfl rfl (E_countValues l G V f' i' q' hf (by omega) hq M s21) ?_
                  rintro v M' ⟨eM, rfl⟩; obtain rfl := eM.symm
                  clear hK K
                  refine xF_go o_DS_values [] 60 (fun K hK => ?_)
                  repeat' ((conv => whnf); first | refine ⟨fun h => ?_, fun h => ?_⟩ | refine ⟨?_, ?_⟩ | refine hK _ _ _ _ ?_)
                  refine xF_iret o_DS_values rfl rfl ?_
                  refine hQ _ _ ⟨rfl, _, rfl, fun f2 i2 q2 a1 a2 a3 a4 a5 a6 => ?_, fun z => absurd ⟨f', i', q', hf, rfl, hi, rfl, hq, rfl⟩ z⟩
                  have := nI_inj (by omega) (by omega) a2
                  subst this
                  have := nI_inj (by omega) (by omega) a4
                  subst this
                  have := nI_inj (by omega) (by omega) a6
                  subst this
                  rfl
                · exact absurd (show (1 : Int32) = 0 from by assumption) (by decide)
              · rw [if_neg e3]
                refine xF_go o_DS_values [44] 60 (fun K hK => ?_)
                repeat' ((conv => whnf); first | refine ⟨fun h => ?_, fun h => ?_⟩ | refine ⟨?_, ?_⟩ | refine hK _ _ _ _ ?_)
                · exact absurd rfl (show ¬ (0 : Int32) = 0 from by assumption)
                · refine xF_iret o_DS_values rfl rfl ?_
                  refine no (fun ⟨f2, i2, q2, a1, a2, a3, a4, a5, a6⟩ => ?_)
                  have := nI_inj (by omega) (by omega) a2
                  subst this
                  exact e3 ((le_of_lt (by omega)).mpr ⟨i2, a3, a4⟩)
            · exact absurd (show (1 : Int32) = 0 from by assumption) (by decide)
          · rw [if_neg e2]
            refine xF_go o_DS_values [23] 60 (fun K hK => ?_)
            repeat' ((conv => whnf); first | refine ⟨fun h => ?_, fun h => ?_⟩ | refine ⟨?_, ?_⟩ | refine hK _ _ _ _ ?_)
            · exact absurd rfl (show ¬ (0 : Int32) = 0 from by assumption)
            · refine xF_iret o_DS_values rfl rfl ?_
              refine no (fun ⟨f2, i2, q2, a1, a2, a3, a4, a5, a6⟩ => e2 ?_)
              rw [a6]
              exact ⟨nI_pos' (by omega), nI_lt (b := 4) a5 (by decide)⟩
      · rw [if_neg e]
        refine xF_go o_DS_values [] 60 (fun K hK => ?_)
        repeat' ((conv => whnf); first | refine ⟨fun h => ?_, fun h => ?_⟩ | refine ⟨?_, ?_⟩ | refine hK _ _ _ _ ?_)
        · refine xF_iret o_DS_values rfl rfl ?_
          exact no (fun ⟨f2, i2, q2, a1, a2, a3, a4, a5, a6⟩ => e (a2 ▸ nI_12 a1))
        all_goals exact absurd rfl (show ¬ (0 : Int32) = 0 from by assumption)
theorem E_DSoctet (Z : sZ) (M : xMe) (hZ : cW Z M) (i : Int32) : xE l G y_DS_octet [.ref 0, .int i] M (fun r M' => M' = M ∧ ∃ r0, r = some (.int r0) ∧ rOct Z i r0) := by
  refine xE_cps (fun Q hQ => ?_)
  refine xE_of [some (.ref 0), some (.int i)] (by decide +kernel) (Nat.le_of_ble_eq_true rfl) rfl ?_
  match Z, hZ, hQ with
  | none, hZ, hQ =>
    have h4 : M.1 0 4 = 0 := hZ.1
    refine xF_go o_DS_octet [] 60 (fun K hK => ?_)
    repeat' ((conv => whnf); first | refine ⟨fun h => ?_, fun h => ?_⟩ | refine ⟨?_, ?_⟩ | refine hK _ _ _ _ ?_)
    · refine xF_iret o_DS_octet rfl rfl ?_
      exact hQ _ _ ⟨rfl, _, rfl, rfl⟩
    all_goals exact absurd h4 (by assumption)
  | some (P, V, R), hZ, hQ =>
    obtain ⟨h4, hZ2⟩ := hZ
    obtain ⟨hw, hfin, hR, hSh⟩ := hZ2 P V R rfl
    obtain ⟨hL, s21, s23, s27, s28, s29, s20, s19⟩ := hSh
    obtain ⟨l34, l36, l38, l39, l40, l11, l13, l42⟩ := hL
    have htot : totZ P V R ≤ 1704 := okR_tot (isR_ok hw hR)
    have l13' : M.1 30 13 = nI (totZ P V R) := l13
    refine xF_go o_DS_octet [] 60 (fun K hK => ?_)
    repeat' ((conv => whnf); first | refine ⟨fun h => ?_, fun h => ?_⟩ | refine ⟨?_, ?_⟩ | refine hK _ _ _ _ ?_)
    · have h0 : M.1 0 4 = 0 := by assumption
      rw [h4] at h0
      exact absurd h0 (show ¬ b2 true = 0 by decide)
    · rw [l13']
      refine xF_callS o_DS_octet [.int i, .int 0, .int (nI (totZ P V R) - 1)] rfl z_DS_within s_DS_within l_DS_57 rfl ⟨⟨by decide, by decide⟩, rfl, rfl⟩ (Nat.le_of_ble_eq_true rfl) rfl (E_within l G i 0 _ M) ?_
      rintro v M' ⟨eM, rfl⟩; obtain rfl := eM.symm
      clear hK K
      by_cases e : 0 ≤ i ∧ i ≤ nI (totZ P V R) - 1
      · rw [if_pos e]
        obtain ⟨a, ha, rfl⟩ := (le_of_lt (by omega)).mp e
        refine xF_go o_DS_octet [] 60 (fun K hK => ?_)
        repeat' ((conv => whnf); first | refine ⟨fun h => ?_, fun h => ?_⟩ | refine ⟨?_, ?_⟩ | refine hK _ _ _ _ ?_)
        · exact vp_in_nI (by show _ < 1728; omega) (by decide)
        · rw [nI_clamp (by omega), l42 a (by omega)]
          refine xF_iret o_DS_octet rfl rfl ?_
          refine hQ _ _ ⟨rfl, _, rfl, fun a' h1 h2 => ?_, fun z => absurd ⟨a, ha, rfl⟩ z⟩
          have := nI_inj (by omega) (by omega) h2
          subst this
          rfl
        · exact absurd (show (1 : Int32) = 0 from by assumption) (by decide)
      · rw [if_neg e]
        refine xF_go o_DS_octet [26] 60 (fun K hK => ?_)
        repeat' ((conv => whnf); first | refine ⟨fun h => ?_, fun h => ?_⟩ | refine ⟨?_, ?_⟩ | refine hK _ _ _ _ ?_)
        · exact absurd rfl (show ¬ (0 : Int32) = 0 from by assumption)
        · refine xF_iret o_DS_octet rfl rfl ?_
          refine hQ _ _ ⟨rfl, _, rfl, fun a' h1 h2 => absurd ((le_of_lt (by omega)).mpr ⟨a', h1, h2⟩) e, fun _ => rfl⟩
end XTM
