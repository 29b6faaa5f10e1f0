/-! the class's own calls that tell, on -/
def sClear (P : sP) (f : Nat) : sP := (pS P, pA P, pG P, pV P, pO P, pR P, fun j => if j = f then [] else pC P j, pE P, pI P)
def sEntry (P : sP) (f : Nat) (v : Bool) : sP := (pS P, pA P, pG P, pV P, pO P, pR P, pC P, fun j => if j = f then v else pE P j, pI P)
def sNoIn (P : sP) : sP := (pS P, pA P, pG P, pV P, pO P, pR P, pC P, pE P, [])
theorem sNoIn_I (P : sP) : pI (sNoIn P) = [] := rfl
theorem sClear_C (P : sP) (f j : Nat) : pC (sClear P f) j = if j = f then [] else pC P j := rfl
theorem sEntry_E (P : sP) (f : Nat) (v : Bool) (j : Nat) : pE (sEntry P f v) j = if j = f then v else pE P j := rfl
def rCode (P : sP) (f o a b c : Int32) (P' : sP) (r : Int32) (ac : Bool) : Prop := (¬ ((∃ j, j < 12 ∧ f = nI j ∧ (pC P j).length < 40) ∧ vIns o a b c) ∧ P' = P ∧ r = -1 ∧ ac = false) ∨ ∃ (f' o' : Nat), f' < 12 ∧ (pC P f').length < 40 ∧ f = nI f' ∧ o = nI o' ∧ vN (o', a, b, c) ∧ P' = sCode P f' (o', a, b, c) ∧ r = nI ((pC P f').length + 1) ∧ ac = true
def rClear (P : sP) (f : Int32) (P' : sP) (r : Int32) (ac : Bool) : Prop := (¬ (∃ j, j < 12 ∧ f = nI j) ∧ P' = P ∧ r = -1 ∧ ac = false) ∨ ∃ f', f' < 12 ∧ f = nI f' ∧ P' = sClear P f' ∧ r = nI (pC P f').length ∧ ac = true
def rEntry (P : sP) (f : Int32) (v : Bool) (P' : sP) (r : Int32) (ac : Bool) : Prop := (¬ (∃ j, j < 12 ∧ f = nI j ∧ pE P j ≠ v) ∧ P' = P ∧ r = 0 ∧ ac = false) ∨ ∃ f', f' < 12 ∧ f = nI f' ∧ pE P f' ≠ v ∧ P' = sEntry P f' v ∧ r = 1 ∧ ac = true
def rInput (P : sP) (n : Int32) (v : Int64) (P' : sP) (r : Int32) : Prop := (¬ (∃ n', 1 ≤ n' ∧ n' ≤ 8 ∧ n = nI n' ∧ (pI P).length + n' ≤ 200) ∧ P' = P ∧ r = -1) ∨ ∃ n', 1 ≤ n' ∧ n' ≤ 8 ∧ n = nI n' ∧ (pI P).length + n' ≤ 200 ∧ P' = sInput P n' v ∧ r = nI ((pI P).length + n')
theorem vIns_nat {o a b c : Int32} (h : vIns o a b c) : ∃ o', o' < 12 ∧ o = nI o' ∧ vN (o', a, b, c) := by
  unfold vIns at h
  rcases h with ⟨rfl, h⟩ | ⟨rfl, h⟩ | ⟨rfl, h⟩ | ⟨rfl, h⟩ | ⟨rfl, h⟩ | ⟨rfl, h⟩ | ⟨rfl, h⟩ | ⟨rfl, h⟩ | ⟨rfl, h⟩ | ⟨rfl, h⟩ | ⟨rfl, h⟩ | ⟨rfl, h⟩
  · exact ⟨0, by decide, rfl, h⟩
  · exact ⟨1, by decide, rfl, h⟩
  · exact ⟨2, by decide, rfl, h⟩
  · exact ⟨3, by decide, rfl, h⟩
  · exact ⟨4, by decide, rfl, h⟩
  · exact ⟨5, by decide, rfl, h⟩
  · exact ⟨6, by decide, rfl, h⟩
  · exact ⟨7, by decide, rfl, h⟩
  · exact ⟨8, by decide, rfl, h⟩
  · exact ⟨9, by decide, rfl, h⟩
  · exact ⟨10, by decide, rfl, h⟩
  · exact ⟨11, by decide, rfl, h⟩
theorem wP_code {P : sP} (hw : wP P) {f : Nat} {q : Nat × Int32 × Int32 × Int32} (hl : (pC P f).length < 40) (hq : vN q) : wP (sCode P f q) := by
  obtain ⟨h1, h2, h3, h4, h5, h6⟩ := hw
  refine ⟨h1, h2, h3, fun g hg => ?_, h5, h6⟩
  rw [sCode_C]
  by_cases e : g = f
  · subst e
    rw [if_pos rfl]
    refine ⟨by simp; omega, fun q' hq' => ?_⟩
    rcases List.mem_append.mp hq' with z | z
    · exact (h4 g hg).2 q' z
    · rw [List.mem_singleton.mp z]
      exact hq
  · rw [if_neg e]
    exact h4 g hg
theorem wP_clear {P : sP} (hw : wP P) {f : Nat} : wP (sClear P f) := by
  obtain ⟨h1, h2, h3, h4, h5, h6⟩ := hw
  refine ⟨h1, h2, h3, fun g hg => ?_, h5, h6⟩
  rw [sClear_C]
  by_cases e : g = f
  · rw [if_pos e]
    exact ⟨by simp, fun q hq => by cases hq⟩
  · rw [if_neg e]
    exact h4 g hg
theorem wP_input {P : sP} (hw : wP P) {n : Nat} {v : Int64} (h : (pI P).length + n ≤ 200) : wP (sInput P n v) := by
  obtain ⟨h1, h2, h3, h4, h5, h6⟩ := hw
  refine ⟨h1, h2, h3, h4, ?_, fun x hx => ?_⟩
  · rw [sInput_I]
    simp
    exact h
  · rw [sInput_I] at hx
    rcases List.mem_append.mp hx with z | z
    · exact h6 x z
    · obtain ⟨i, -, rfl⟩ := List.mem_map.mp z
      exact vbyte_lt _ _
theorem nI_of12 {x : Int32} (h : 0 ≤ x ∧ x < 12) : ∃ k, k < 12 ∧ x = nI k := nI_ofN (n := 12) (by decide) h.1 h.2
theorem nI_12 {j : Nat} (h : j < 12) : 0 ≤ nI j ∧ nI j < 12 := ⟨nI_pos' (by omega), nI_lt (b := 12) h (by decide)⟩
section XOQ
variable (l : Launch) (G : xG)
theorem E_DSclear (P : sP) (M : xMe) (hM : cP P M) (hw : wP P) (f : Int32) : xE l G y_DS_clear [.ref 0, .int f] M (fun r M' => ∃ P' r0 ac, rClear P f P' r0 ac ∧ r = some (.int r0) ∧ cP P' M' ∧ wP P' ∧ (ac = false → M' = M) ∧ (ac = true → M'.1 0 = upd (M.1 0) 5 0) ∧ xfr [0, 9] M M') := by
  obtain ⟨h1, h2, h3, h4, h5, h6⟩ := id hM
  refine xE_of [some (.ref 0), some (.int f), none] (by decide +kernel) (Nat.le_of_ble_eq_true rfl) rfl ?_
  refine xF_go o_DS_clear [] 60 (fun K hK => ?_)
  repeat' ((conv => whnf); first | refine ⟨fun h => ?_, fun h => ?_⟩ | refine ⟨?_, ?_⟩ | refine hK _ _ _ _ ?_)
  refine xF_callS o_DS_clear [.int f] rfl z_DS_isFunction s_DS_isFunction l_DS_73 rfl ⟨⟨by decide, by decide⟩, rfl, rfl⟩ (Nat.le_of_ble_eq_true rfl) rfl (E_isFunction l G f M) ?_
  rintro w M1 ⟨rfl, rfl⟩
  clear hK K
  by_cases hf : 0 ≤ f ∧ f < 12
  · rw [if_pos hf]
    obtain ⟨f', hf', rfl⟩ := nI_of12 hf
    refine xF_go o_DS_clear [] 60 (fun K hK => ?_)
    repeat' ((conv => whnf); first | refine ⟨fun h => ?_, fun h => ?_⟩ | refine ⟨?_, ?_⟩ | refine hK _ _ _ _ ?_)
    · exact vp_in_nI hf' (by decide)
    · exact vp_in_nI hf' (by decide)
    · exact Or.inl rfl
    · refine xF_iret o_DS_clear rfl rfl ?_
      rw [nI_clamp (by omega)]
      refine ⟨_, _, true, Or.inr ⟨f', hf', rfl, rfl, rfl, rfl⟩, by rw [(h4 f' hf').1], ⟨fun j hj => h1 j hj, fun j hj q hq => h2 j hj q hq, fun j hj q hq => h3 j hj q hq, fun g hg => ?_, fun g hg => h5 g hg, h6⟩, wP_clear hw, (fun z => by cases z), fun _ => rfl, (xfr.rf.I (by simp)).I (by simp)⟩
      have e9 : ∀ F, (xsI (xsI M1 9 (upd (M1.1 9) f' 0)) 0 F).1 9 = upd (M1.1 9) f' 0 := fun F => rfl
      rw [e9, sClear_C]
      by_cases e : g = f'
      · subst e
        rw [upd_s, if_pos rfl]
        exact ⟨rfl, fun i q hi => by simp at hi⟩
      · rw [upd_n e, if_neg e]
        exact h4 g hg
    · exact absurd h (by decide)
  · rw [if_neg hf]
    refine xF_go o_DS_clear [] 60 (fun K hK => ?_)
    repeat' ((conv => whnf); first | refine ⟨fun h => ?_, fun h => ?_⟩ | refine ⟨?_, ?_⟩ | refine hK _ _ _ _ ?_)
    · exact absurd rfl h
    · exact absurd rfl h
    · exact absurd rfl h
    · exact absurd rfl h
    · refine xF_iret o_DS_clear rfl rfl ?_
      exact ⟨P, -1, false, Or.inl ⟨fun ⟨j, hj, e⟩ => hf (e ▸ nI_12 hj), rfl, rfl, rfl⟩, rfl, hM, hw, fun _ => rfl, (fun z => by cases z), xfr.rf⟩
theorem E_DSinput2 (P : sP) (M : xMe) (hM : cP P M) (hw : wP P) : xE l G y_DS_input2 [.ref 0] M (fun r M' => r = some (.int (nI (pI P).length)) ∧ cP (sNoIn P) M' ∧ wP (sNoIn P) ∧ xfr [1] M M') := by
  obtain ⟨h1, h2, h3, h4, h5, h6⟩ := id hM
  refine xE_of [some (.ref 0), none] (by decide +kernel) (Nat.le_of_ble_eq_true rfl) rfl ?_
  refine xF_go o_DS_input2 [] 60 (fun K hK => ?_)
  repeat' ((conv => whnf); first | refine ⟨fun h => ?_, fun h => ?_⟩ | refine ⟨?_, ?_⟩ | refine hK _ _ _ _ ?_)
  refine xF_iret o_DS_input2 rfl rfl ?_
  obtain ⟨w1, w2, w3, w4, w5, w6⟩ := hw
  exact ⟨by rw [h6.1], ⟨fun j hj => h1 j hj, fun j hj q hq => h2 j hj q hq, fun j hj q hq => h3 j hj q hq, fun g hg => h4 g hg, fun g hg => h5 g hg, rfl, fun i v hv => by rw [sNoIn_I] at hv; simp at hv⟩, ⟨w1, w2, w3, w4, by rw [sNoIn_I]; simp, fun v hv => by rw [sNoIn_I] at hv; simp at hv⟩, xfr.rf.I (by simp)⟩
theorem E_DSentry (P : sP) (M : xMe) (hM : cP P M) (hw : wP P) (f : Int32) (v : Bool) : xE l G y_DS_entry [.ref 0, .int f, .int (b2 v)] M (fun r M' => ∃ P' r0 ac, rEntry P f v P' r0 ac ∧ r = some (.int r0) ∧ cP P' M' ∧ wP P' ∧ (ac = false → M' = M) ∧ (ac = true → M'.1 0 = upd (M.1 0) 5 0) ∧ xfr [0, 14] M M') := by
  obtain ⟨h1, h2, h3, h4, h5, h6⟩ := id hM
  refine xE_of [some (.ref 0), some (.int f), some (.int (b2 v))] (by decide +kernel) (Nat.le_of_ble_eq_true rfl) rfl ?_
  refine xF_go o_DS_entry [] 60 (fun K hK => ?_)
  repeat' ((conv => whnf); first | refine ⟨fun h => ?_, fun h => ?_⟩ | refine ⟨?_, ?_⟩ | refine hK _ _ _ _ ?_)
  refine xF_callS o_DS_entry [.int f] rfl z_DS_isFunction s_DS_isFunction l_DS_73 rfl ⟨⟨by decide, by decide⟩, rfl, rfl⟩ (Nat.le_of_ble_eq_true rfl) rfl (E_isFunction l G f M) ?_
  rintro w M1 ⟨rfl, rfl⟩
  clear hK K
  by_cases hf : 0 ≤ f ∧ f < 12
  · rw [if_pos hf]
    obtain ⟨f', hf', rfl⟩ := nI_of12 hf
    have hcl : (nI f').toNatClampNeg = f' := nI_clamp (by omega)
    refine xF_go o_DS_entry [] 60 (fun K hK => ?_)
    repeat' ((conv => whnf); first | refine ⟨fun h => ?_, fun h => ?_⟩ | refine ⟨?_, ?_⟩ | refine hK _ _ _ _ ?_)
    · exact absurd h (by decide)
    · exact vp_in_nI hf' (by decide)
    · exact vp_in_nI hf' (by decide)
    · exact b2_01 v
    · exact Or.inl rfl
    · rw [hcl, h5 f' hf'] at h
      have hne : pE P f' ≠ v := fun e => h (by rw [e])
      refine xF_zret o_DS_entry rfl rfl (Or.inr rfl) ?_
      rw [hcl]
      refine ⟨_, 1, true, Or.inr ⟨f', hf', rfl, hne, rfl, rfl, rfl⟩, rfl, ⟨fun j hj => h1 j hj, fun j hj q hq => h2 j hj q hq, fun j hj q hq => h3 j hj q hq, fun g hg => h4 g hg, fun g hg => ?_, h6⟩, hw, (fun z => by cases z), fun _ => rfl, (xfr.rf.I (by simp)).I (by simp)⟩
      have e14 : ∀ F, (xsI (xsI M1 14 (upd (M1.1 14) f' (b2 v))) 0 F).1 14 = upd (M1.1 14) f' (b2 v) := fun F => rfl
      rw [e14, sEntry_E]
      by_cases e : g = f'
      · subst e
        rw [upd_s, if_pos rfl]
      · rw [upd_n e, if_neg e]
        exact h5 g hg
    · rw [hcl, h5 f' hf'] at h
      have he : pE P f' = v := by
        revert h
        cases pE P f' <;> cases v <;> decide
      refine xF_zret o_DS_entry rfl rfl (Or.inl rfl) ?_
      refine ⟨P, 0, false, Or.inl ⟨fun ⟨j, hj, e, hne⟩ => ?_, rfl, rfl, rfl⟩, rfl, hM, hw, fun _ => rfl, (fun z => by cases z), xfr.rf⟩
      have := nI_inj (by omega) (by omega) e
      subst this
      exact hne he
  · rw [if_neg hf]
    refine xF_go o_DS_entry [] 60 (fun K hK => ?_)
    repeat' ((conv => whnf); first | refine ⟨fun h => ?_, fun h => ?_⟩ | refine ⟨?_, ?_⟩ | refine hK _ _ _ _ ?_)
    · refine xF_zret o_DS_entry rfl rfl (Or.inl rfl) ?_
      exact ⟨P, 0, false, Or.inl ⟨fun ⟨j, hj, e, _⟩ => hf (e ▸ nI_12 hj), rfl, rfl, rfl⟩, rfl, hM, hw, fun _ => rfl, (fun z => by cases z), xfr.rf⟩
    all_goals exact absurd rfl (show ¬ (0 : Int32) = 0 from by assumption)
theorem E_DSinput1 (P : sP) (M : xMe) (hM : cP P M) (hw : wP P) (n : Int32) (v : Int64) : xE l G y_DS_input1 [.ref 0, .int n, .long v] M (fun r M' => ∃ P' r0, rInput P n v P' r0 ∧ r = some (.int r0) ∧ cP P' M' ∧ wP P' ∧ xfr [1, 15] M M') := by
  obtain ⟨h1, h2, h3, h4, h5, h6⟩ := id hM
  have hl := hw.2.2.2.2.1
  refine xE_of [some (.ref 0), some (.int n), some (.long v), none] (by decide +kernel) (Nat.le_of_ble_eq_true rfl) rfl ?_
  refine xF_go o_DS_input1 [] 60 (fun K hK => ?_)
  repeat' ((conv => whnf); first | refine ⟨fun h => ?_, fun h => ?_⟩ | refine ⟨?_, ?_⟩ | refine hK _ _ _ _ ?_)
  refine xF_callS o_DS_input1 [.int n, .int 1, .int 8] rfl z_DS_within s_DS_within l_DS_57 rfl ⟨⟨by decide, by decide⟩, rfl, rfl⟩ (Nat.le_of_ble_eq_true rfl) rfl (E_within l G n 1 8 M) ?_
  rintro w M1 ⟨rfl, rfl⟩
  clear hK K
  have hfail : ∀ n : Int32, ¬ (1 ≤ n ∧ n ≤ 8) → ¬ ∃ n', 1 ≤ n' ∧ n' ≤ 8 ∧ n = nI n' ∧ (pI P).length + n' ≤ 200 := by
    rintro n hn ⟨n', g1, g2, rfl, -⟩
    exact hn ⟨nI_le (a := 1) g1 (by omega), nI_le (b := 8) g2 (by omega)⟩
  by_cases hn : 1 ≤ n ∧ n ≤ 8
  · rw [if_pos hn]
    obtain ⟨n', hn', rfl⟩ := nI_ofN (x := n) (n := 9) (by decide) (by grind) (by have : (nI 9 : Int32) = 9 := rfl; rw [this]; grind)
    have hn1 : 1 ≤ n' := by
      rcases Nat.eq_zero_or_pos n' with q | q
      · rw [q] at hn; exact absurd hn.1 (by decide)
      · exact q
    refine xF_go o_DS_input1 [] 60 (fun K hK => ?_)
    repeat' ((conv => whnf); first | refine ⟨fun h => ?_, fun h => ?_⟩ | refine ⟨?_, ?_⟩ | refine hK _ _ _ _ ?_)
    · exact absurd h (by decide)
    · rw [h6.1, nI_add] at h
      have hle : (pI P).length + n' ≤ 200 := by
        have h7 : ¬ nI 200 < nI ((pI P).length + n') := h
        rw [nI_ltI (by omega) (by omega)] at h7
        omega
      refine xF_callV o_DS_input1 [.int (nI n'), .long v] rfl z_Pr_addInput i_Pr_addInput v_Pr_addInput l_DS_95 rfl ⟨⟨by decide, by decide⟩, rfl, rfl⟩ (Nat.le_of_ble_eq_true rfl) rfl rfl rfl (E_addInput l G P M1 hM n' v (by omega) hle) ?_
      rintro w M2 ⟨rfl, hP2, -, hf2⟩
      clear hK K
      refine xF_go o_DS_input1 [] 60 (fun K hK => ?_)
      repeat' ((conv => whnf); first | refine ⟨fun h => ?_, fun h => ?_⟩ | refine ⟨?_, ?_⟩ | refine hK _ _ _ _ ?_)
      refine xF_iret o_DS_input1 rfl rfl ?_
      exact ⟨_, _, Or.inr ⟨n', hn1, by omega, rfl, hle, rfl, rfl⟩, rfl, hP2, wP_input hw hle, hf2⟩
    · rw [h6.1, nI_add] at h
      have hgt : 200 < (pI P).length + n' := by
        have h7 : nI 200 < nI ((pI P).length + n') := h
        rw [nI_ltI (by omega) (by omega)] at h7
        exact h7
      refine xF_iret o_DS_input1 rfl rfl ?_
      refine ⟨P, -1, Or.inl ⟨?_, rfl, rfl⟩, rfl, hM, hw, xfr.rf⟩
      rintro ⟨m, g1, g2, e, g3⟩
      have := nI_inj (by omega) (by omega) e
      omega
  · rw [if_neg hn]
    refine xF_go o_DS_input1 [] 60 (fun K hK => ?_)
    repeat' ((conv => whnf); first | refine ⟨fun h => ?_, fun h => ?_⟩ | refine ⟨?_, ?_⟩ | refine hK _ _ _ _ ?_)
    · refine xF_iret o_DS_input1 rfl rfl ?_
      exact ⟨P, -1, Or.inl ⟨hfail n hn, rfl, rfl⟩, rfl, hM, hw, xfr.rf⟩
    all_goals exact absurd rfl (by assumption)
theorem E_DSrefer (P : sP) (M : xMe) (hM : cP P M) (hw : wP P) (k p t : Int32) : xE l G y_DS_refer [.ref 0, .int k, .int p, .int t] M (fun r M' => ∃ P' r0 ac, rRefer P k p t P' r0 ac ∧ r = some (.int r0) ∧ cP P' M' ∧ wP P' ∧ (ac = false → M' = M) ∧ (ac = true → M'.1 0 = upd (M.1 0) 5 0) ∧ xfr [0, 7, 8] M M') := by
  -- from the place where all is allowed
  have fin : ∀ (M : xMe), cP P M → ∀ (k' p' : Nat) (t' : Option Nat), k' < 24 → p' < pS P k' → (∀ j, t' = some j → j < 24 ∧ 0 < pS P j) → xF l G y_DS_refer 30 [some (.ref 0), some (.int (nI k')), some (.int (nI p')), some (.int (oI t'))] [] M (fun r M' => ∃ P' r0 ac, rRefer P (nI k') (nI p') (oI t') P' r0 ac ∧ r = some (.int r0) ∧ cP P' M' ∧ wP P' ∧ (ac = false → M' = M) ∧ (ac = true → M'.1 0 = upd (M.1 0) 5 0) ∧ xfr [0, 7, 8] M M') := by
    intro M hM k' p' t' g1 g2 g3
    have hs := (hw.1 k' g1).1
    refine xF_go o_DS_refer [] 60 (fun K hK => ?_)
    repeat' ((conv => whnf); first | refine ⟨fun h => ?_, fun h => ?_⟩ | refine ⟨?_, ?_⟩ | refine hK _ _ _ _ ?_)
    refine xF_callV o_DS_refer [.int (nI k'), .int (nI p'), .int (oI t')] rfl z_Pr_tellReference i_Pr_tellReference v_Pr_tellReference l_DS_69 rfl ⟨⟨by decide, by decide⟩, rfl, rfl⟩ (Nat.le_of_ble_eq_true rfl) rfl rfl rfl (E_tellReference l G P M hM k' p' t' g1 (by omega) (fun j hj => (g3 j hj).1)) ?_
    rintro w M2 ⟨rfl, hP2, hf2⟩
    clear hK K
    refine xF_go o_DS_refer [] 60 (fun K hK => ?_)
    repeat' ((conv => whnf); first | refine ⟨fun h => ?_, fun h => ?_⟩ | refine ⟨?_, ?_⟩ | refine hK _ _ _ _ ?_)
    · exact Or.inl rfl
    · refine xF_zret o_DS_refer rfl rfl (Or.inr rfl) ?_
      refine ⟨_, 1, true, Or.inr ⟨k', p', t', g1, g2, g3, rfl, rfl, rfl, rfl, rfl, rfl⟩, rfl, hP2, wP_ref hw g2 g3, (fun z => by cases z), fun _ => ?_, (hf2.mono (by simp)).I (by simp)⟩
      rw [xsI_1, if_pos rfl, (hf2 0 (by simp)).1]
  refine xE_of [some (.ref 0), some (.int k), some (.int p), some (.int t)] (by decide +kernel) (Nat.le_of_ble_eq_true rfl) rfl ?_
  refine xF_go o_DS_refer [] 60 (fun K hK => ?_)
  repeat' ((conv => whnf); first | refine ⟨fun h => ?_, fun h => ?_⟩ | refine ⟨?_, ?_⟩ | refine hK _ _ _ _ ?_)
  refine xF_callV o_DS_refer [.int k, .int p] rfl z_Pr_hasPlace i_Pr_hasPlace v_Pr_hasPlace l_DS_53 rfl ⟨⟨by decide, by decide⟩, rfl, rfl⟩ (Nat.le_of_ble_eq_true rfl) rfl rfl rfl (E_hasPlace l G P M hM.1 hw k p) ?_
  rintro w M1 ⟨rfl, b, rfl, hb⟩
  clear hK K
  cases b with
  | false =>
    refine xF_go o_DS_refer [30] 60 (fun K hK => ?_)
    repeat' ((conv => whnf); first | refine ⟨fun h => ?_, fun h => ?_⟩ | refine ⟨?_, ?_⟩ | refine hK _ _ _ _ ?_)
    · refine xF_zret o_DS_refer rfl rfl (Or.inl rfl) ?_
      exact ⟨P, 0, false, Or.inl ⟨(fun z => by cases hb.mpr z.1), rfl, rfl, rfl⟩, rfl, hM, hw, fun _ => rfl, (fun z => by cases z), xfr.rf⟩
    all_goals exact absurd rfl (show ¬ (b2 false) = 0 from by assumption)
  | true =>
    obtain ⟨k', p', g1, rfl, g2, rfl⟩ := hb.mp rfl
    refine xF_go o_DS_refer [30] 60 (fun K hK => ?_)
    repeat' ((conv => whnf); first | refine ⟨fun h => ?_, fun h => ?_⟩ | refine ⟨?_, ?_⟩ | refine hK _ _ _ _ ?_)
    · exact absurd h (by decide)
    · have e : t = -1 := h
      subst e
      exact fin M1 hM k' p' none g1 g2 (fun j hj => by cases hj)
    · refine xF_callV o_DS_refer [.int t] rfl z_Pr_hasItem i_Pr_hasItem v_Pr_hasItem l_DS_65 rfl ⟨⟨by decide, by decide⟩, rfl, rfl⟩ (Nat.le_of_ble_eq_true rfl) rfl rfl rfl (E_hasItem l G P M1 hM.1 hw t) ?_
      rintro w M ⟨rfl, b, rfl, hb2⟩
      clear hK K
      cases b with
      | true =>
        obtain ⟨j, hj, rfl, hs⟩ := hb2.mp rfl
        refine xF_go o_DS_refer [30] 60 (fun K hK => ?_)
        repeat' ((conv => whnf); first | refine ⟨fun h => ?_, fun h => ?_⟩ | refine ⟨?_, ?_⟩ | refine hK _ _ _ _ ?_)
        · exact fin M hM k' p' (some j) g1 g2 (fun i hi => by cases hi; exact ⟨hj, hs⟩)
        · exact absurd (show b2 true = 0 from by assumption) (by decide)
      | false =>
        refine xF_go o_DS_refer [30] 60 (fun K hK => ?_)
        repeat' ((conv => whnf); first | refine ⟨fun h => ?_, fun h => ?_⟩ | refine ⟨?_, ?_⟩ | refine hK _ _ _ _ ?_)
        · exact absurd rfl (show ¬ (b2 false) = 0 from by assumption)
        · refine xF_zret o_DS_refer rfl rfl (Or.inl rfl) ?_
          refine ⟨P, 0, false, Or.inl ⟨?_, rfl, rfl, rfl⟩, rfl, hM, hw, fun _ => rfl, (fun z => by cases z), xfr.rf⟩
          rintro ⟨-, e | e⟩
          · exact absurd e (by assumption)
          · cases hb2.mpr e
theorem E_DScode (P : sP) (M : xMe) (hM : cP P M) (hw : wP P) (f o a b c : Int32) : xE l G y_DS_code [.ref 0, .int f, .int o, .int a, .int b, .int c] M (fun r M' => ∃ P' r0 ac, rCode P f o a b c P' r0 ac ∧ r = some (.int r0) ∧ cP P' M' ∧ wP P' ∧ (ac = false → M' = M) ∧ (ac = true → M'.1 0 = upd (M.1 0) 5 0) ∧ xfr [0, 9, 10, 11, 12, 13] M M') := by
  refine xE_of [some (.ref 0), some (.int f), some (.int o), some (.int a), some (.int b), some (.int c)] (by decide +kernel) (Nat.le_of_ble_eq_true rfl) rfl ?_
  refine xF_go o_DS_code [] 60 (fun K hK => ?_)
  repeat' ((conv => whnf); first | refine ⟨fun h => ?_, fun h => ?_⟩ | refine ⟨?_, ?_⟩ | refine hK _ _ _ _ ?_)
  refine xF_callS o_DS_code [.int f] rfl z_DS_isFunction s_DS_isFunction l_DS_73 rfl ⟨⟨by decide, by decide⟩, rfl, rfl⟩ (Nat.le_of_ble_eq_true rfl) rfl (E_isFunction l G f M) ?_
  rintro w M1 ⟨rfl, rfl⟩
  clear hK K
  by_cases hf : 0 ≤ f ∧ f < 12
  · rw [if_pos hf]
    obtain ⟨f', hf', rfl⟩ := nI_of12 hf
    have hcl : (nI f').toNatClampNeg = f' := nI_clamp (by omega)
    have hlen := (hM.2.2.2.1 f' hf').1
    have hl40 := (hw.2.2.2.1 f' hf').1
    refine xF_go o_DS_code [] 60 (fun K hK => ?_)
    repeat' ((conv => whnf); first | refine ⟨fun h => ?_, fun h => ?_⟩ | refine ⟨?_, ?_⟩ | refine hK _ _ _ _ ?_)
    · exact absurd h (by decide)
    · refine xF_callS o_DS_code [.int o, .int a, .int b, .int c] rfl z_Pr_isInstruction s_Pr_isInstruction l_DS_76 rfl ⟨⟨by decide, by decide⟩, rfl, rfl⟩ (Nat.le_of_ble_eq_true rfl) rfl (E_isInstruction l G o a b c M1) ?_
      rintro w M ⟨rfl, z, rfl, hz⟩
      clear hK K
      cases z with
      | false =>
        refine xF_go o_DS_code [] 60 (fun K hK => ?_)
        repeat' ((conv => whnf); first | refine ⟨fun h => ?_, fun h => ?_⟩ | refine ⟨?_, ?_⟩ | refine hK _ _ _ _ ?_)
        · exact absurd rfl (show ¬ (b2 false) = 0 from by assumption)
        · exact absurd rfl (show ¬ (b2 false) = 0 from by assumption)
        · exact absurd rfl (show ¬ (b2 false) = 0 from by assumption)
        · exact absurd rfl (show ¬ (b2 false) = 0 from by assumption)
        · refine xF_iret o_DS_code rfl rfl ?_
          exact ⟨P, -1, false, Or.inl ⟨(fun z => by cases hz.mpr z.2), rfl, rfl, rfl⟩, rfl, hM, hw, fun _ => rfl, (fun z => by cases z), xfr.rf⟩
      | true =>
        obtain ⟨o', ho', rfl, hvn⟩ := vIns_nat (hz.mp rfl)
        refine xF_go o_DS_code [] 60 (fun K hK => ?_)
        repeat' ((conv => whnf); first | refine ⟨fun h => ?_, fun h => ?_⟩ | refine ⟨?_, ?_⟩ | refine hK _ _ _ _ ?_)
        · exact vp_in_nI hf' (by decide)
        · exact Or.inl rfl
        · have h40 : (pC P f').length < 40 := by
            have h7 : M.1 9 (nI f').toNatClampNeg < nI 40 := by assumption
            rw [hcl, hlen, nI_ltI (by omega) (by omega)] at h7
            exact h7
          have hP0 : cP P (xsI M 0 (upd (M.1 0) 5 0)) := hM
          refine xF_callV o_DS_code [.int (nI f'), .int (nI o'), .int a, .int b, .int c] rfl z_Pr_addInstruction i_Pr_addInstruction v_Pr_addInstruction l_DS_83 rfl ⟨⟨by decide, by decide⟩, rfl, rfl⟩ (Nat.le_of_ble_eq_true rfl) rfl rfl rfl (E_addInstruction l G P _ hP0 hw f' o' a b c hf' h40) ?_
          rintro w M2 ⟨rfl, hP2, hf2⟩
          clear hK K
          refine xF_go o_DS_code [] 60 (fun K hK => ?_)
          repeat' ((conv => whnf); first | refine ⟨fun h => ?_, fun h => ?_⟩ | refine ⟨?_, ?_⟩ | refine hK _ _ _ _ ?_)
          refine xF_iret o_DS_code rfl rfl ?_
          refine ⟨_, _, true, Or.inr ⟨f', o', hf', h40, rfl, rfl, hvn, rfl, rfl, rfl⟩, rfl, hP2, wP_code hw h40 hvn, (fun z => by cases z), fun _ => ?_, ?_⟩
          · rw [(hf2 0 (by simp)).1, xsI_1, if_pos rfl]
          · exact (xfr.rf.I (by simp)).tr hf2 (by simp)
        · refine xF_iret o_DS_code rfl rfl ?_
          refine ⟨P, -1, false, Or.inl ⟨?_, rfl, rfl, rfl⟩, rfl, hM, hw, fun _ => rfl, (fun z => by cases z), xfr.rf⟩
          rintro ⟨⟨j, hj, e, h8⟩, -⟩
          have := nI_inj (by omega) (by omega) e
          subst this
          have h7 : ¬ M.1 9 (nI f').toNatClampNeg < nI 40 := by assumption
          rw [hcl, hlen, nI_ltI (by omega) (by omega)] at h7
          exact h7 h8
        · exact absurd (show b2 true = 0 from by assumption) (by decide)
  · rw [if_neg hf]
    refine xF_go o_DS_code [] 60 (fun K hK => ?_)
    repeat' ((conv => whnf); first | refine ⟨fun h => ?_, fun h => ?_⟩ | refine ⟨?_, ?_⟩ | refine hK _ _ _ _ ?_)
    · refine xF_iret o_DS_code rfl rfl ?_
      exact ⟨P, -1, false, Or.inl ⟨fun ⟨⟨j, hj, e, _⟩, _⟩ => hf (e ▸ nI_12 hj), rfl, rfl, rfl⟩, rfl, hM, hw, fun _ => rfl, (fun z => by cases z), xfr.rf⟩
    all_goals exact absurd rfl (show ¬ (0 : Int32) = 0 from by assumption)
end XOQ
