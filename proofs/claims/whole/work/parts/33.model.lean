/-! the reference's memory of a program: cells 50 to 63 -/
def mS (P : sP) (M : xMe) : Prop := ∀ k, k < 24 → M.1 51 k = nI (pS P k) ∧ M.1 52 k = nI (pA P k) ∧ M.1 53 k = nI (pG P k) ∧ M.1 56 k = b2 (pV P k)
def mO (P : sP) (M : xMe) : Prop := ∀ k, k < 24 → ∀ p, p < 64 → M.1 54 (k * 64 + p) = nI (pO P k p)
def mR (P : sP) (M : xMe) : Prop := ∀ k, k < 24 → ∀ p, p < 64 → M.1 55 (k * 64 + p) = oI (pR P k p)
def mC (P : sP) (M : xMe) : Prop := ∀ f, f < 12 → M.1 57 f = nI (pC P f).length ∧ ∀ i q, (pC P f)[i]? = some q → M.1 58 (f * 41 + i) = nI q.1 ∧ M.1 59 (f * 41 + i) = q.2.1 ∧ M.1 60 (f * 41 + i) = q.2.2.1 ∧ M.1 61 (f * 41 + i) = q.2.2.2
def mE (P : sP) (M : xMe) : Prop := ∀ f, f < 12 → M.1 62 f = b2 (pE P f)
def mI (P : sP) (M : xMe) : Prop := M.1 50 14 = nI (pI P).length ∧ ∀ i v, (pI P)[i]? = some v → M.1 63 i = nI v
def mP (P : sP) (M : xMe) : Prop := mS P M ∧ mO P M ∧ mR P M ∧ mC P M ∧ mE P M ∧ mI P M
section XMO
variable (l : Launch) (G : xG)
theorem E_has (P : sP) (M : xMe) (hM : mS P M) (hw : wP P) (k p : Int32) : xE l G y_Mo_has [.ref 50, .int k, .int p] M (fun r M' => M' = M ∧ ∃ b, r = some (.int (b2 b)) ∧ (b = true ↔ ∃ j q, j < 24 ∧ k = nI j ∧ q < pS P j ∧ p = nI q)) := by
  refine xE_of [some (.ref 50), some (.int k), some (.int p)] (by decide +kernel) (Nat.le_of_ble_eq_true rfl) rfl ?_
  refine xF_go o_Mo_has [] 50 (fun K hK => ?_)
  repeat' ((conv => whnf); first | refine ⟨fun h => ?_, fun h => ?_⟩ | refine ⟨?_, ?_⟩ | refine hK _ _ _ _ ?_)
  refine xF_callS o_Mo_has [.int k, .int 0, .int 23] rfl z_Mo_in s_Mo_in l_Mo_157 rfl ⟨⟨by decide, by decide⟩, rfl, rfl⟩ (Nat.le_of_ble_eq_true rfl) rfl (E_in l G k 0 23 M) ?_
  rintro v M' ⟨rfl, rfl⟩
  clear hK K
  by_cases hk : 0 ≤ k ∧ k ≤ 23
  · rw [if_pos hk]
    obtain ⟨j, hj, rfl⟩ := nI_of24 (x := k) (by grind)
    have hs := (hw.1 j hj).1
    refine xF_go o_Mo_has [] 50 (fun K hK => ?_)
    repeat' ((conv => whnf); first | refine ⟨fun h => ?_, fun h => ?_⟩ | refine ⟨?_, ?_⟩ | refine hK _ _ _ _ ?_)
    · exact absurd h (by decide)
    · exact vp_in_nI hj (by decide)
    · rw [nI_clamp (by omega), (hM j hj).1]
      refine xF_callS o_Mo_has [.int p, .int 0, .int _] rfl z_Mo_in s_Mo_in l_Mo_157 rfl ⟨⟨by decide, by decide⟩, rfl, rfl⟩ (Nat.le_of_ble_eq_true rfl) rfl (E_in l G p 0 _ M') ?_
      rintro v M ⟨rfl, rfl⟩
      clear hK K
      refine xF_go o_Mo_has [] 50 (fun K hK => ?_)
      repeat' ((conv => whnf); first | refine ⟨fun h => ?_, fun h => ?_⟩ | refine ⟨?_, ?_⟩ | refine hK _ _ _ _ ?_)
      · rename_i h
        rw [if10] at h
        refine xF_zret o_Mo_has rfl rfl (Or.inl rfl) ?_
        refine ⟨rfl, false, rfl, ?_⟩
        simp
        intro i hi e q hq e2
        have := nI_inj (by omega) (by omega) e
        subst this
        subst e2
        refine h ⟨nI_pos' (by omega), ?_⟩
        rw [show (nI (pS P j) - 1 : Int32) = nI (pS P j - 1) from pk_sub (b := 1) (by omega)]
        exact nI_le (by omega) (by omega)
      · rename_i h
        rw [if10, Classical.not_not] at h
        refine xF_zret o_Mo_has rfl rfl (Or.inr rfl) ?_
        refine ⟨rfl, true, rfl, ?_⟩
        simp
        rcases Nat.eq_zero_or_pos (pS P j) with h0 | h0
        · rw [h0] at h
          have : (nI 0 - 1 : Int32) = -1 := by decide
          rw [this] at h
          grind
        · rw [show (nI (pS P j) - 1 : Int32) = nI (pS P j - 1) from pk_sub (b := 1) (by omega)] at h
          obtain ⟨q, hq, e⟩ := nI_ofN (x := p) (n := pS P j) (by omega) h.1 (by
            have h3 : nI (pS P j - 1) < nI (pS P j) := nI_lt (by omega) (by omega)
            grind)
          exact ⟨j, hj, rfl, q, hq, e⟩
  · rw [if_neg hk]
    refine xF_go o_Mo_has [] 50 (fun K hK => ?_)
    repeat' ((conv => whnf); first | refine ⟨fun h => ?_, fun h => ?_⟩ | refine ⟨?_, ?_⟩ | refine hK _ _ _ _ ?_)
    · refine xF_zret o_Mo_has rfl rfl (Or.inl rfl) ?_
      refine ⟨rfl, false, rfl, ?_⟩
      simp
      intro j hj e
      have := nI_24 hj
      rw [← e] at this
      exact absurd ⟨this.1, by grind⟩ hk
    all_goals exact absurd rfl (show ¬ (0 : Int32) = 0 from by assumption)
theorem E_Mclear (P P' : sP) (M : xMe) (hM : mP P M) (f r0 : Int32) (ac : Bool) (hr : rClear P f P' r0 ac) : xE l G y_Mo_clear [.ref 50, .int f] M (fun r M' => r = some (.int r0) ∧ mP P' M' ∧ (ac = false → M' = M) ∧ (ac = true → M'.1 50 = upd (M.1 50) 26 0) ∧ xfr [50, 57] M M') := by
  obtain ⟨h1, h2, h3, h4, h5, h6⟩ := id hM
  refine xE_of [some (.ref 50), some (.int f), none] (by decide +kernel) (Nat.le_of_ble_eq_true rfl) rfl ?_
  refine xF_go o_Mo_clear [] 60 (fun K hK => ?_)
  repeat' ((conv => whnf); first | refine ⟨fun h => ?_, fun h => ?_⟩ | refine ⟨?_, ?_⟩ | refine hK _ _ _ _ ?_)
  refine xF_callS o_Mo_clear [.int f, .int 0, .int 11] rfl z_Mo_in s_Mo_in l_Mo_157 rfl ⟨⟨by decide, by decide⟩, rfl, rfl⟩ (Nat.le_of_ble_eq_true rfl) rfl (E_in l G f 0 11 M) ?_
  rintro w M1 ⟨rfl, rfl⟩
  clear hK K
  rcases hr with ⟨hn, rfl, rfl, rfl⟩ | ⟨f', hf', rfl, rfl, rfl, rfl⟩
  · rw [if_neg (fun z => hn (nI_of12 (by grind)))]
    refine xF_go o_Mo_clear [] 60 (fun K hK => ?_)
    repeat' ((conv => whnf); first | refine ⟨fun h => ?_, fun h => ?_⟩ | refine ⟨?_, ?_⟩ | refine hK _ _ _ _ ?_)
    · exact absurd rfl h
    · exact absurd rfl h
    · exact absurd rfl h
    · exact absurd rfl h
    · refine xF_iret o_Mo_clear rfl rfl ?_
      exact ⟨rfl, hM, fun _ => rfl, (fun z => by cases z), xfr.rf⟩
  · have g := nI_12 hf'
    rw [if_pos (by grind)]
    refine xF_go o_Mo_clear [] 60 (fun K hK => ?_)
    repeat' ((conv => whnf); first | refine ⟨fun h => ?_, fun h => ?_⟩ | refine ⟨?_, ?_⟩ | refine hK _ _ _ _ ?_)
    · exact vp_in_nI hf' (by decide)
    · exact vp_in_nI hf' (by decide)
    · exact Or.inl rfl
    · refine xF_iret o_Mo_clear rfl rfl ?_
      rw [nI_clamp (by omega)]
      refine ⟨by rw [(h4 f' hf').1], ⟨fun j hj => h1 j hj, fun j hj q hq => h2 j hj q hq, fun j hj q hq => h3 j hj q hq, fun g hg => ?_, fun g hg => h5 g hg, h6⟩, (fun z => by cases z), fun _ => rfl, (xfr.rf.I (by simp)).I (by simp)⟩
      have e9 : ∀ F, (xsI (xsI M1 57 (upd (M1.1 57) f' 0)) 50 F).1 57 = upd (M1.1 57) f' 0 := fun F => rfl
      rw [e9, sClear_C]
      by_cases e : g = f'
      · subst e
        rw [upd_s, if_pos rfl]
        exact ⟨rfl, fun i q hi => by simp at hi⟩
      · rw [upd_n e, if_neg e]
        exact h4 g hg
    · exact absurd h (by decide)
theorem E_Minput2 (P : sP) (M : xMe) (hM : mP P M) : xE l G y_Mo_input2 [.ref 50] M (fun r M' => r = some (.int (nI (pI P).length)) ∧ mP (sNoIn P) M' ∧ (∀ j, j ≠ 14 → M'.1 50 j = M.1 50 j) ∧ xfr [50] M M') := by
  obtain ⟨h1, h2, h3, h4, h5, h6⟩ := id hM
  refine xE_of [some (.ref 50), none] (by decide +kernel) (Nat.le_of_ble_eq_true rfl) rfl ?_
  refine xF_go o_Mo_input2 [] 60 (fun K hK => ?_)
  repeat' ((conv => whnf); first | refine ⟨fun h => ?_, fun h => ?_⟩ | refine ⟨?_, ?_⟩ | refine hK _ _ _ _ ?_)
  refine xF_iret o_Mo_input2 rfl rfl ?_
  refine ⟨by rw [h6.1], ⟨fun j hj => h1 j hj, fun j hj q hq => h2 j hj q hq, fun j hj q hq => h3 j hj q hq, fun g hg => h4 g hg, fun g hg => h5 g hg, rfl, fun i v hv => by rw [sNoIn_I] at hv; simp at hv⟩, fun j hj => ?_, xfr.rf.I (by simp)⟩
  rw [xsI_1, if_pos rfl, upd_n hj]
end XMO
