/-! Program: small questions -/
theorem if10 {p : Prop} [Decidable p] : ((if p then (1 : Int32) else 0) = 0) ↔ ¬ p := by
  by_cases h : p <;> simp [h]
theorem nI_in24 {x : Int32} (h : 0 ≤ x ∧ x < 24) : vp_in x 24 := by
  obtain ⟨k, hk, rfl⟩ := nI_of24 h
  exact vp_in_nI hk (by decide)
theorem nI_24 {j : Nat} (h : j < 24) : 0 ≤ nI j ∧ nI j < 24 := ⟨nI_pos' (by omega), nI_lt (b := 24) h (by decide)⟩
theorem nI_inj {a b : Nat} (ha : a < 2 ^ 31) (hb : b < 2 ^ 31) (h : nI a = nI b) : a = b := (nI_eq ha hb).mp h
section XPR
variable (l : Launch) (G : xG)
theorem E_hasItem (P : sP) (M : xMe) (hM : cS P M) (hw : wP P) (k : Int32) : xE l G y_Pr_hasItem [.ref 1, .int k] M (fun r M' => M' = M ∧ ∃ b, r = some (.int (b2 b)) ∧ (b = true ↔ ∃ j, j < 24 ∧ k = nI j ∧ 0 < pS P j)) := by
  refine xE_of [some (.ref 1), some (.int k)] (by decide +kernel) (Nat.le_of_ble_eq_true rfl) rfl ?_
  refine xF_go o_Pr_hasItem [] 50 (fun K hK => ?_)
  repeat' ((conv => whnf); first | refine ⟨fun h => ?_, fun h => ?_⟩ | refine ⟨?_, ?_⟩ | refine hK _ _ _ _ ?_)
  refine xF_callS o_Pr_hasItem [.int k] rfl z_DS_isItemNumber s_DS_isItemNumber l_Pr_56 rfl ⟨⟨by decide, by decide⟩, rfl, rfl⟩ (Nat.le_of_ble_eq_true rfl) rfl (E_isItemNumber l G k M) ?_
  rintro v M' ⟨rfl, rfl⟩
  refine xF_go o_Pr_hasItem [] 50 (fun K hK => ?_)
  repeat' ((conv => whnf); first | refine ⟨fun h => ?_, fun h => ?_⟩ | refine ⟨?_, ?_⟩ | refine hK _ _ _ _ ?_)
  · refine xF_zret o_Pr_hasItem rfl rfl (Or.inl rfl) ?_
    refine ⟨rfl, false, rfl, ?_⟩
    rw [if10] at h
    simp
    intro j hj e
    exact absurd (e ▸ nI_24 hj) h
  · rw [if10, Classical.not_not] at h
    exact nI_in24 h
  · rename_i h1
    rw [if10, Classical.not_not] at h1
    obtain ⟨j, hj, rfl⟩ := nI_of24 h1
    rw [nI_clamp (by omega), (hM j hj).1] at h
    have hs := (hw.1 j hj).1
    refine xF_zret o_Pr_hasItem rfl rfl (Or.inl rfl) ?_
    refine ⟨rfl, false, rfl, ?_⟩
    simp
    intro i hi e
    have := nI_inj (by omega) (by omega) e
    subst this
    have h2 : ¬ nI 0 < nI (pS P j) := h
    rw [nI_ltI (by omega) (by omega)] at h2
    omega
  · rename_i h1
    rw [if10, Classical.not_not] at h1
    obtain ⟨j, hj, rfl⟩ := nI_of24 h1
    rw [nI_clamp (by omega), (hM j hj).1] at h
    have hs := (hw.1 j hj).1
    refine xF_zret o_Pr_hasItem rfl rfl (Or.inr rfl) ?_
    refine ⟨rfl, true, rfl, ?_⟩
    simp
    have h2 : nI 0 < nI (pS P j) := h
    rw [nI_ltI (by omega) (by omega)] at h2
    exact ⟨j, hj, rfl, h2⟩
theorem E_hasPlace (P : sP) (M : xMe) (hM : cS P M) (hw : wP P) (k p : Int32) : xE l G y_Pr_hasPlace [.ref 1, .int k, .int p] M (fun r M' => M' = M ∧ ∃ b, r = some (.int (b2 b)) ∧ (b = true ↔ ∃ j q, j < 24 ∧ k = nI j ∧ q < pS P j ∧ p = nI q)) := by
  refine xE_of [some (.ref 1), some (.int k), some (.int p)] (by decide +kernel) (Nat.le_of_ble_eq_true rfl) rfl ?_
  refine xF_go o_Pr_hasPlace [] 50 (fun K hK => ?_)
  repeat' ((conv => whnf); first | refine ⟨fun h => ?_, fun h => ?_⟩ | refine ⟨?_, ?_⟩ | refine hK _ _ _ _ ?_)
  refine xF_callS o_Pr_hasPlace [.int k] rfl z_DS_isItemNumber s_DS_isItemNumber l_Pr_56 rfl ⟨⟨by decide, by decide⟩, rfl, rfl⟩ (Nat.le_of_ble_eq_true rfl) rfl (E_isItemNumber l G k M) ?_
  rintro v M' ⟨rfl, rfl⟩
  refine xF_go o_Pr_hasPlace [] 50 (fun K hK => ?_)
  repeat' ((conv => whnf); first | refine ⟨fun h => ?_, fun h => ?_⟩ | refine ⟨?_, ?_⟩ | refine hK _ _ _ _ ?_)
  · refine xF_zret o_Pr_hasPlace rfl rfl (Or.inl rfl) ?_
    refine ⟨rfl, false, rfl, ?_⟩
    rw [if10] at h
    simp
    intro j hj e
    exact absurd (e ▸ nI_24 hj) h
  · rw [if10, Classical.not_not] at h
    exact nI_in24 h
  · rw [if10, Classical.not_not] at h
    obtain ⟨j, hj, rfl⟩ := nI_of24 h
    refine xF_callS o_Pr_hasPlace [.int p, .int 0, .int _] rfl z_DS_within s_DS_within l_Pr_60 rfl ⟨⟨by decide, by decide⟩, rfl, rfl⟩ (Nat.le_of_ble_eq_true rfl) rfl (E_within l G p 0 _ M') ?_
    rintro v M ⟨rfl, rfl⟩
    refine xF_go o_Pr_hasPlace [] 50 (fun K hK => ?_)
    have hs := (hw.1 j hj).1
    rw [nI_clamp (by omega), (hM j hj).1]
    repeat' ((conv => whnf); first | refine ⟨fun h => ?_, fun h => ?_⟩ | refine ⟨?_, ?_⟩ | refine hK _ _ _ _ ?_)
    · rename_i h
      rw [if10] at h
      refine xF_zret o_Pr_hasPlace rfl rfl (Or.inl rfl) ?_
      refine ⟨rfl, false, rfl, ?_⟩
      simp
      intro i hi e q hq e2
      have := nI_inj (by omega) (by omega) e
      subst this
      subst e2
      refine h ⟨nI_pos' (by omega), ?_⟩
      rw [show (nI (pS P j) - 1 : Int32) = nI (pS P j - 1) from pk_sub (b := 1) (by omega)]
      exact nI_le (by omega) (by omega)
    · rename_i h
      rw [if10, Classical.not_not] at h
      refine xF_zret o_Pr_hasPlace rfl rfl (Or.inr rfl) ?_
      refine ⟨rfl, true, rfl, ?_⟩
      simp
      rcases Nat.eq_zero_or_pos (pS P j) with h0 | h0
      · rw [h0] at h
        have : (nI 0 - 1 : Int32) = -1 := by decide
        rw [this] at h
        grind
      · rw [show (nI (pS P j) - 1 : Int32) = nI (pS P j - 1) from pk_sub (b := 1) (by omega)] at h
        obtain ⟨q, hq, e⟩ := nI_ofN (x := p) (n := pS P j) (by omega) h.1 (by
          have h3 : nI (pS P j - 1) < nI (pS P j) := nI_lt (by omega) (by omega)
          grind)
        exact ⟨j, hj, rfl, q, hq, e⟩
theorem E_hasEntry (P : sP) (M : xMe) (hM : cE P M) (k : Int32) : xE l G y_Pr_hasEntry [.ref 1, .int k] M (fun r M' => M' = M ∧ ∃ b, r = some (.int (b2 b)) ∧ (b = true ↔ ∃ j, j < 12 ∧ k = nI j ∧ pE P j = true)) := by
  refine xE_of [some (.ref 1), some (.int k)] (by decide +kernel) (Nat.le_of_ble_eq_true rfl) rfl ?_
  refine xF_go o_Pr_hasEntry [] 50 (fun K hK => ?_)
  repeat' ((conv => whnf); first | refine ⟨fun h => ?_, fun h => ?_⟩ | refine ⟨?_, ?_⟩ | refine hK _ _ _ _ ?_)
  refine xF_callS o_Pr_hasEntry [.int k] rfl z_DS_isFunction s_DS_isFunction l_Pr_67 rfl ⟨⟨by decide, by decide⟩, rfl, rfl⟩ (Nat.le_of_ble_eq_true rfl) rfl (E_isFunction l G k M) ?_
  rintro v M' ⟨rfl, rfl⟩
  refine xF_go o_Pr_hasEntry [] 50 (fun K hK => ?_)
  repeat' ((conv => whnf); first | refine ⟨fun h => ?_, fun h => ?_⟩ | refine ⟨?_, ?_⟩ | refine hK _ _ _ _ ?_)
  · refine xF_zret o_Pr_hasEntry rfl rfl (Or.inl rfl) ?_
    refine ⟨rfl, false, rfl, ?_⟩
    rw [if10] at h
    simp
    intro j hj e
    exact absurd (e ▸ ⟨nI_pos' (by omega), nI_lt (b := 12) hj (by decide)⟩) h
  · rw [if10, Classical.not_not] at h
    obtain ⟨j, hj, rfl⟩ := nI_ofN (n := 12) (by decide) h.1 h.2
    exact vp_in_nI hj (by decide)
  · rename_i h1
    rw [if10, Classical.not_not] at h1
    obtain ⟨j, hj, rfl⟩ := nI_ofN (n := 12) (by decide) h1.1 h1.2
    rw [nI_clamp (by omega), hM j hj, b2_0] at h
    refine xF_zret o_Pr_hasEntry rfl rfl (Or.inl rfl) ?_
    refine ⟨rfl, false, rfl, ?_⟩
    simp
    intro i hi e
    have := nI_inj (by omega) (by omega) e
    subst this
    exact h
  · rename_i h1
    rw [if10, Classical.not_not] at h1
    obtain ⟨j, hj, rfl⟩ := nI_ofN (n := 12) (by decide) h1.1 h1.2
    rw [nI_clamp (by omega), hM j hj, b2_0] at h
    refine xF_zret o_Pr_hasEntry rfl rfl (Or.inr rfl) ?_
    refine ⟨rfl, true, rfl, ?_⟩
    simp
    exact ⟨j, hj, rfl, by simpa using h⟩
end XPR
