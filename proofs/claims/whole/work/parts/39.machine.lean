/-! Machine: its small methods, by the cells -/
section XMA
variable (l : Launch) (G : xG)
theorem E_put (r : Nat) (hr : r < 4) (x : Int32) (M : xMe) : xE l G y_Ma_put [.ref 43, .int (nI r), .int x] M (fun v M' => v = some (.int (-1)) ∧ M' = xsI (xsI M 46 (upd (M.1 46) r x)) 43 (upd (M.1 43) 10 (M.1 43 10 + 1))) := by
  refine xE_of [some (.ref 43), some (.int (nI r)), some (.int x)] (by decide +kernel) (Nat.le_of_ble_eq_true rfl) rfl ?_
  refine xF_go o_Ma_put [] 60 (fun K hK => ?_)
  repeat' ((conv => whnf); first | refine ⟨fun h => ?_, fun h => ?_⟩ | refine ⟨?_, ?_⟩ | refine hK _ _ _ _ ?_)
  · exact vp_in_nI hr (by decide)
  · refine xF_iret o_Ma_put rfl rfl ?_
    rw [nI_clamp (by omega)]
    exact ⟨rfl, rfl⟩
theorem E_skip (f n : Nat) (hf : f < 12) (t : Int32) (M : xMe) (h9 : M.1 43 9 = nI f) (hl : M.1 9 f = nI n) : xE l G y_Ma_skip [.ref 43, .int t] M (fun v M' => v = some (.int (-1)) ∧ M' = xsI M 43 (upd (M.1 43) 10 (if t < 0 then nI n else t))) := by
  refine xE_of [some (.ref 43), some (.int t)] (by decide +kernel) (Nat.le_of_ble_eq_true rfl) rfl ?_
  refine xF_go o_Ma_skip [] 60 (fun K hK => ?_)
  repeat' ((conv => whnf); first | refine ⟨fun h => ?_, fun h => ?_⟩ | refine ⟨?_, ?_⟩ | refine hK _ _ _ _ ?_)
  · refine xF_iret o_Ma_skip rfl rfl ?_
    have h0 : ¬ t < 0 := by assumption
    rw [if_neg h0]
    exact ⟨rfl, rfl⟩
  · rw [h9]
    exact vp_in_nI hf (by decide)
  · refine xF_iret o_Ma_skip rfl rfl ?_
    have h0 : t < 0 := by assumption
    rw [if_pos h0, h9, nI_clamp (by omega), hl]
    exact ⟨rfl, rfl⟩
theorem E_send (c : Nat) (hc : c < 2 ^ 30) (x : Int32) (M : xMe) (h12 : M.1 43 12 = nI c) : xE l G y_Ma_send [.ref 43, .int x] M (fun v M' => v = some (.int (-1)) ∧ M' = xsI (if c < 100 then xsI M 49 (upd (M.1 49) c x) else M) 43 (upd (upd (M.1 43) 12 (nI (c + 1))) 10 (M.1 43 10 + 1))) := by
  refine xE_of [some (.ref 43), some (.int x)] (by decide +kernel) (Nat.le_of_ble_eq_true rfl) rfl ?_
  refine xF_go o_Ma_send [] 60 (fun K hK => ?_)
  repeat' ((conv => whnf); first | refine ⟨fun h => ?_, fun h => ?_⟩ | refine ⟨?_, ?_⟩ | refine hK _ _ _ _ ?_)
  · have h0 : ¬ M.1 43 12 < nI 100 := by assumption
    rw [h12, nI_ltI (by omega) (by omega)] at h0
    refine xF_iret o_Ma_send rfl rfl ?_
    rw [if_neg h0]
    refine ⟨rfl, ?_⟩
    rw [xsI_II, xsI_1, if_pos rfl, upd_n (by decide), h12, nI_1]
  · have h0 : M.1 43 12 < nI 100 := by assumption
    rw [h12, nI_ltI (by omega) (by omega)] at h0
    rw [h12]
    exact vp_in_nI h0 (by decide)
  · have h0 : M.1 43 12 < nI 100 := by assumption
    rw [h12, nI_ltI (by omega) (by omega)] at h0
    refine xF_iret o_Ma_send rfl rfl ?_
    rw [if_pos h0]
    refine ⟨rfl, ?_⟩
    have e43 : ∀ F, (xsI M 49 F).1 43 = M.1 43 := fun F => rfl
    rw [xsI_II, xsI_1, if_pos rfl, upd_n (by decide), e43, h12, nI_1, nI_clamp (by omega)]
theorem E_takeInput (n t : Nat) (hn : n ≤ 200) (ht : t ≤ n) (M : xMe) (h11 : M.1 43 11 = nI t) (h14 : M.1 1 14 = nI n) : xE l G y_Ma_takeInput [.ref 43] M (fun v M' => v = some (.int (if t < n then M.1 15 t else 0)) ∧ M' = xsI M 43 (upd (M.1 43) 11 (nI (if t < n then t + 1 else t)))) := by
  refine xE_of [some (.ref 43)] (by decide +kernel) (Nat.le_of_ble_eq_true rfl) rfl ?_
  refine xF_go o_Ma_takeInput [] 60 (fun K hK => ?_)
  repeat' ((conv => whnf); first | refine ⟨fun h => ?_, fun h => ?_⟩ | refine ⟨?_, ?_⟩ | refine hK _ _ _ _ ?_)
  · have h0 : M.1 43 11 < M.1 1 14 := by assumption
    rw [h11, h14, nI_ltI (by omega) (by omega)] at h0
    rw [xsI_1, if_pos rfl, upd_s, h11, nI_1, show (nI (t + 1) - 1 : Int32) = nI t from nI_pred t]
    exact vp_in_nI (N := 200) (by omega) (by decide)
  · have h0 : M.1 43 11 < M.1 1 14 := by assumption
    rw [h11, h14, nI_ltI (by omega) (by omega)] at h0
    refine xF_iret o_Ma_takeInput rfl rfl ?_
    have e15 : ∀ F, (xsI M 43 F).1 15 = M.1 15 := fun F => rfl
    rw [if_pos h0, if_pos h0, e15, xsI_s, upd_s, h11, nI_1, show (nI (t + 1) - 1 : Int32) = nI t from nI_pred t, nI_clamp (by omega)]
    exact ⟨rfl, rfl⟩
  · have h0 : ¬ M.1 43 11 < M.1 1 14 := by assumption
    rw [h11, h14, nI_ltI (by omega) (by omega)] at h0
    refine xF_iret o_Ma_takeInput rfl rfl ?_
    rw [if_neg h0, if_neg h0]
    refine ⟨rfl, (xsI_id (fun i => ?_)).symm⟩
    unfold upd
    by_cases e : i = 11
    · rw [if_pos e, e, h11]
    · rw [if_neg e]
theorem E_openFunction (d : Nat) (hd : d ≤ 16) (h0 : 1 ≤ d) (f : Int32) (M : xMe) (h8 : M.1 43 8 = nI d) : xE l G y_Ma_openFunction [.ref 43, .int f] M (fun v M' => (d = 16 ∧ v = some (.int 3) ∧ M' = M) ∨ (d < 16 ∧ v = some (.int (-1)) ∧ M' = xsI (xsI (xsI M 47 (upd (M.1 47) d (M.1 43 9))) 48 (upd (M.1 48) d (M.1 43 10 + 1))) 43 (upd (upd (upd (M.1 43) 8 (nI (d + 1))) 9 f) 10 0))) := by
  refine xE_of [some (.ref 43), some (.int f)] (by decide +kernel) (Nat.le_of_ble_eq_true rfl) rfl ?_
  refine xF_go o_Ma_openFunction [] 60 (fun K hK => ?_)
  repeat' ((conv => whnf); first | refine ⟨fun h => ?_, fun h => ?_⟩ | refine ⟨?_, ?_⟩ | refine hK _ _ _ _ ?_)
  · have hq : ¬ M.1 43 8 = nI 16 := by assumption
    rw [h8] at hq
    have hlt : d < 16 := by
      have : d ≠ 16 := fun z => hq (by rw [z])
      omega
    rw [h8]
    exact vp_in_nI hlt (by decide)
  · have hq : ¬ M.1 43 8 = nI 16 := by assumption
    rw [h8] at hq
    have hlt : d < 16 := by
      have : d ≠ 16 := fun z => hq (by rw [z])
      omega
    have e43 : ∀ F, (xsI M 47 F).1 43 = M.1 43 := fun F => rfl
    rw [e43, h8]
    exact vp_in_nI hlt (by decide)
  · have hq : ¬ M.1 43 8 = nI 16 := by assumption
    rw [h8] at hq
    have hlt : d < 16 := by
      have : d ≠ 16 := fun z => hq (by rw [z])
      omega
    refine xF_iret o_Ma_openFunction rfl rfl ?_
    refine Or.inr ⟨hlt, rfl, ?_⟩
    have e43 : ∀ F F', (xsI (xsI M 47 F) 48 F').1 43 = M.1 43 := fun F F' => rfl
    have e43' : ∀ F, (xsI M 47 F).1 43 = M.1 43 := fun F => rfl
    have e48 : ∀ F, (xsI M 47 F).1 48 = M.1 48 := fun F => rfl
    simp only [xsI_II, xsI_s, e43, e43', e48, h8, nI_1]
    rw [nI_clamp (by omega)]
  · have hq : M.1 43 8 = nI 16 := by assumption
    rw [h8] at hq
    refine xF_iret o_Ma_openFunction rfl rfl ?_
    exact Or.inl ⟨nI_inj (by omega) (by omega) hq, rfl, rfl⟩
theorem E_leave (d : Nat) (hd : d ≤ 16) (h1 : 2 ≤ d) (M : xMe) (h8 : M.1 43 8 = nI d) : xE l G y_Ma_leave [.ref 43] M (fun v M' => v = none ∧ M' = xsI M 43 (upd (upd (upd (M.1 43) 8 (nI (d - 1))) 9 (M.1 47 (d - 1))) 10 (M.1 48 (d - 1)))) := by
  have e8 : (nI d - 1 : Int32) = nI (d - 1) := pk_sub (b := 1) (by omega)
  refine xE_of [some (.ref 43)] (by decide +kernel) (Nat.le_of_ble_eq_true rfl) rfl ?_
  refine xF_go o_Ma_leave [] 60 (fun K hK => ?_)
  repeat' ((conv => whnf); first | refine ⟨fun h => ?_, fun h => ?_⟩ | refine ⟨?_, ?_⟩ | refine hK _ _ _ _ ?_)
  · rw [xsI_s, upd_s, h8, e8]
    exact vp_in_nI (N := 16) (by omega) (by decide)
  · rw [xsI_s, xsI_s, upd_n (by decide), upd_s, h8, e8]
    exact vp_in_nI (N := 16) (by omega) (by decide)
  · refine xF_vret o_Ma_leave rfl rfl ?_
    refine ⟨rfl, ?_⟩
    have e47 : ∀ F, (xsI M 43 F).1 47 = M.1 47 := fun F => rfl
    have e48 : ∀ F, (xsI M 43 F).1 48 = M.1 48 := fun F => rfl
    simp only [xsI_II, xsI_s, e47, e48, h8, e8, upd_s]
    rw [upd_n (by decide), upd_s, nI_clamp (by omega)]
theorem E_standAsOne (k o : Nat) (hk : k < 24) (ho : o < 24) (M : xMe) : xE l G y_Ma_standAsOne [.ref 43, .int (nI k), .int (nI o)] M (fun v M' => M' = M ∧ ∃ b, v = some (.int (b2 b)) ∧ (b = true ↔ k = o ∨ (¬ M.1 45 k = -1 ∧ M.1 45 k = M.1 45 o))) := by
  refine xE_of [some (.ref 43), some (.int (nI k)), some (.int (nI o))] (by decide +kernel) (Nat.le_of_ble_eq_true rfl) rfl ?_
  refine xF_go o_Ma_standAsOne [] 60 (fun K hK => ?_)
  repeat' ((conv => whnf); first | refine ⟨fun h => ?_, fun h => ?_⟩ | refine ⟨?_, ?_⟩ | refine hK _ _ _ _ ?_)
  · have e : nI k = nI o := by assumption
    refine xF_zret o_Ma_standAsOne rfl rfl (Or.inr rfl) ?_
    exact ⟨rfl, true, rfl, by simp [nI_inj (by omega) (by omega) e]⟩
  · exact vp_in_nI hk (by decide)
  · have e : ¬ nI k = nI o := by assumption
    have e2 : M.1 45 (nI k).toNatClampNeg = -1 := by assumption
    rw [nI_clamp (by omega)] at e2
    have e3 : k ≠ o := fun z => e (by rw [z])
    refine xF_zret o_Ma_standAsOne rfl rfl (Or.inl rfl) ?_
    exact ⟨rfl, false, rfl, by simp [e2, e3]⟩
  · exact vp_in_nI hk (by decide)
  · exact vp_in_nI ho (by decide)
  · have e : ¬ nI k = nI o := by assumption
    have e2 : ¬ M.1 45 (nI k).toNatClampNeg = M.1 45 (nI o).toNatClampNeg := by assumption
    rw [nI_clamp (by omega), nI_clamp (by omega)] at e2
    have e3 : k ≠ o := fun z => e (by rw [z])
    refine xF_zret o_Ma_standAsOne rfl rfl (Or.inl rfl) ?_
    exact ⟨rfl, false, rfl, by simp [e2, e3]⟩
  · have e : ¬ M.1 45 (nI k).toNatClampNeg = -1 := by assumption
    have e2 : M.1 45 (nI k).toNatClampNeg = M.1 45 (nI o).toNatClampNeg := by assumption
    rw [nI_clamp (by omega)] at e e2
    rw [nI_clamp (by omega)] at e2
    refine xF_zret o_Ma_standAsOne rfl rfl (Or.inr rfl) ?_
    exact ⟨rfl, true, rfl, by simp [e, e2]; right; rw [← e2]; exact e⟩
theorem E_begin (e : Int32) (M : xMe) : xE l G y_Ma_begin [.ref 43, .int e] M (fun v M' => v = none ∧ ∃ F, M' = xsI (xsI M 46 (fun i => if i < 4 then 0 else M.1 46 i)) 43 F ∧ F 7 = 1 ∧ F 8 = 1 ∧ F 9 = e ∧ F 10 = 0 ∧ F 11 = 0 ∧ F 12 = 0 ∧ F 13 = 0) := by
  refine xE_of [some (.ref 43), some (.int e)] (by decide +kernel) (Nat.le_of_ble_eq_true rfl) rfl ?_
  refine xF_go o_Ma_begin [] 60 (fun K hK => ?_)
  repeat' ((conv => whnf); first | refine ⟨fun h => ?_, fun h => ?_⟩ | refine ⟨?_, ?_⟩ | refine hK _ _ _ _ ?_)
  refine xF_callS o_Ma_begin [.ref 46, .int 0] rfl z_JA_fill1 s_JA_fill1 l_Ma_96 rfl ⟨⟨by decide, by decide⟩, rfl, rfl⟩ (Nat.le_of_ble_eq_true rfl) rfl (E_fill1 l G 46 (by simp) 0 M) ?_
  rintro v M' ⟨rfl, rfl⟩
  clear hK K
  refine xF_go o_Ma_begin [] 60 (fun K hK => ?_)
  repeat' ((conv => whnf); first | refine ⟨fun h => ?_, fun h => ?_⟩ | refine ⟨?_, ?_⟩ | refine hK _ _ _ _ ?_)
  · exact Or.inr rfl
  · refine xF_vret o_Ma_begin rfl rfl ?_
    simp only [xsI_II, xsI_s]
    exact ⟨trivial, _, rfl, rfl, rfl, rfl, rfl, rfl, rfl, rfl⟩
end XMA
