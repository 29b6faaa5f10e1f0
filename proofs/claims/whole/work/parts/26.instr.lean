/-! which instructions may be told: both sides -/
def vIns (o a b c : Int32) : Prop := (o = 0 ∧ vR a ∧ (0 ≤ b ∧ b ≤ 255) ∧ c = 0) ∨ (o = 1 ∧ vR a ∧ (-255 ≤ b ∧ b ≤ 255) ∧ c = 0) ∨ (o = 2 ∧ vR a ∧ (0 ≤ b ∧ b ≤ 255) ∧ c = 0) ∨ (o = 3 ∧ vR a ∧ vT b ∧ vR c) ∨ (o = 4 ∧ vT a ∧ vR b ∧ vR c) ∨ (o = 5 ∧ (0 ≤ a ∧ a < 12) ∧ b = 0 ∧ c = 0) ∨ (o = 6 ∧ vR a ∧ (-40 ≤ b ∧ b ≤ 40) ∧ c = 0) ∨ (o = 7 ∧ vR a ∧ b = 0 ∧ c = 0) ∨ (o = 8 ∧ a = 0 ∧ b = 0 ∧ c = 0) ∨ (o = 9 ∧ vR a ∧ b = 0 ∧ c = 0) ∨ (o = 10 ∧ vR a ∧ vT b ∧ vT c) ∨ (o = 11 ∧ vR a ∧ vT b ∧ vR c)
section XIN
variable (l : Launch) (G : xG)
theorem E_MisRegister (n : Int32) (M : xMe) : xE l G y_Mo_isRegister [.int n] M (fun r M' => M' = M ∧ r = some (.int (if 0 ≤ n ∧ n < 4 then 1 else 0))) := by
  refine xE_of [some (.int n)] (by decide +kernel) (Nat.le_of_ble_eq_true rfl) rfl ?_
  refine xF_go o_Mo_isRegister [] 50 (fun K hK => ?_)
  repeat' ((conv => whnf); first | refine ⟨fun h => ?_, fun h => ?_⟩ | refine ⟨?_, ?_⟩ | refine hK _ _ _ _ ?_)
  refine xF_callS o_Mo_isRegister [.int n, .int 0, .int 3] rfl z_Mo_in s_Mo_in l_Mo_157 rfl ⟨⟨by decide, by decide⟩, rfl, rfl⟩ (Nat.le_of_ble_eq_true rfl) rfl (E_in l G n 0 3 M) ?_
  rintro v M1 ⟨rfl, rfl⟩
  clear hK K
  refine xF_go o_Mo_isRegister [] 50 (fun K hK => ?_)
  repeat' ((conv => whnf); first | refine ⟨fun h => ?_, fun h => ?_⟩ | refine ⟨?_, ?_⟩ | refine hK _ _ _ _ ?_)
  refine xF_zret o_Mo_isRegister rfl rfl (by grind) ⟨rfl, ?_⟩
  congr 2
  grind
theorem E_MisItem (n : Int32) (M : xMe) : xE l G y_Mo_isItem [.int n] M (fun r M' => M' = M ∧ r = some (.int (if 0 ≤ n ∧ n < 24 then 1 else 0))) := by
  refine xE_of [some (.int n)] (by decide +kernel) (Nat.le_of_ble_eq_true rfl) rfl ?_
  refine xF_go o_Mo_isItem [] 50 (fun K hK => ?_)
  repeat' ((conv => whnf); first | refine ⟨fun h => ?_, fun h => ?_⟩ | refine ⟨?_, ?_⟩ | refine hK _ _ _ _ ?_)
  refine xF_callS o_Mo_isItem [.int n, .int 0, .int 23] rfl z_Mo_in s_Mo_in l_Mo_157 rfl ⟨⟨by decide, by decide⟩, rfl, rfl⟩ (Nat.le_of_ble_eq_true rfl) rfl (E_in l G n 0 23 M) ?_
  rintro v M1 ⟨rfl, rfl⟩
  clear hK K
  refine xF_go o_Mo_isItem [] 50 (fun K hK => ?_)
  repeat' ((conv => whnf); first | refine ⟨fun h => ?_, fun h => ?_⟩ | refine ⟨?_, ?_⟩ | refine hK _ _ _ _ ?_)
  refine xF_zret o_Mo_isItem rfl rfl (by grind) ⟨rfl, ?_⟩
  congr 2
  grind
theorem L_insC_64 (o a b c : Int32) (M : xMe) : xF l G y_Pr_isInstruction 64 [some (.int o), some (.int a), some (.int b), some (.int c)] [] M (fun r M' => M' = M ∧ ∃ z, r = some (.int (b2 z)) ∧ (z = true ↔ vR a ∧ (0 ≤ b ∧ b ≤ 255) ∧ c = 0)) := by
  unfold vR
  refine xF_go o_Pr_isInstruction [] 60 (fun K hK => ?_)
  repeat' ((conv => whnf); first | refine ⟨fun h => ?_, fun h => ?_⟩ | refine ⟨?_, ?_⟩ | refine hK _ _ _ _ ?_)
  refine xF_callS o_Pr_isInstruction [.int a] rfl z_DS_isRegister s_DS_isRegister l_Pr_64 rfl ⟨⟨by decide, by decide⟩, rfl, rfl⟩ (Nat.le_of_ble_eq_true rfl) rfl (E_isRegister l G a M) ?_
  rintro v M1 ⟨rfl, rfl⟩
  clear hK K
  rename xMe => M
  refine xF_go o_Pr_isInstruction [] 60 (fun K hK => ?_)
  repeat' ((conv => whnf); first | refine ⟨fun h => ?_, fun h => ?_⟩ | refine ⟨?_, ?_⟩ | refine hK _ _ _ _ ?_)
  · first | exact xF_zret o_Pr_isInstruction rfl rfl (Or.inl rfl) ⟨rfl, false, rfl, by grind⟩ | exact xF_zret o_Pr_isInstruction rfl rfl (Or.inr rfl) ⟨rfl, true, rfl, by grind⟩
  refine xF_callS o_Pr_isInstruction [.int b, .int 0, .int 255] rfl z_DS_within s_DS_within l_Pr_60 rfl ⟨⟨by decide, by decide⟩, rfl, rfl⟩ (Nat.le_of_ble_eq_true rfl) rfl (E_within l G b 0 255 M) ?_
  rintro v M1 ⟨rfl, rfl⟩
  clear hK K
  rename xMe => M
  refine xF_go o_Pr_isInstruction [] 60 (fun K hK => ?_)
  repeat' ((conv => whnf); first | refine ⟨fun h => ?_, fun h => ?_⟩ | refine ⟨?_, ?_⟩ | refine hK _ _ _ _ ?_)
  all_goals first | exact xF_zret o_Pr_isInstruction rfl rfl (Or.inl rfl) ⟨rfl, false, rfl, by grind⟩ | exact xF_zret o_Pr_isInstruction rfl rfl (Or.inr rfl) ⟨rfl, true, rfl, by grind⟩
theorem L_insC_92 (o a b c : Int32) (M : xMe) : xF l G y_Pr_isInstruction 92 [some (.int o), some (.int a), some (.int b), some (.int c)] [] M (fun r M' => M' = M ∧ ∃ z, r = some (.int (b2 z)) ∧ (z = true ↔ vR a ∧ (-255 ≤ b ∧ b ≤ 255) ∧ c = 0)) := by
  unfold vR
  refine xF_go o_Pr_isInstruction [] 60 (fun K hK => ?_)
  repeat' ((conv => whnf); first | refine ⟨fun h => ?_, fun h => ?_⟩ | refine ⟨?_, ?_⟩ | refine hK _ _ _ _ ?_)
  refine xF_callS o_Pr_isInstruction [.int a] rfl z_DS_isRegister s_DS_isRegister l_Pr_64 rfl ⟨⟨by decide, by decide⟩, rfl, rfl⟩ (Nat.le_of_ble_eq_true rfl) rfl (E_isRegister l G a M) ?_
  rintro v M1 ⟨rfl, rfl⟩
  clear hK K
  rename xMe => M
  refine xF_go o_Pr_isInstruction [] 60 (fun K hK => ?_)
  repeat' ((conv => whnf); first | refine ⟨fun h => ?_, fun h => ?_⟩ | refine ⟨?_, ?_⟩ | refine hK _ _ _ _ ?_)
  · first | exact xF_zret o_Pr_isInstruction rfl rfl (Or.inl rfl) ⟨rfl, false, rfl, by grind⟩ | exact xF_zret o_Pr_isInstruction rfl rfl (Or.inr rfl) ⟨rfl, true, rfl, by grind⟩
  refine xF_callS o_Pr_isInstruction [.int b, .int (-255), .int 255] rfl z_DS_within s_DS_within l_Pr_60 rfl ⟨⟨by decide, by decide⟩, rfl, rfl⟩ (Nat.le_of_ble_eq_true rfl) rfl (E_within l G b (-255) 255 M) ?_
  rintro v M1 ⟨rfl, rfl⟩
  clear hK K
  rename xMe => M
  refine xF_go o_Pr_isInstruction [] 60 (fun K hK => ?_)
  repeat' ((conv => whnf); first | refine ⟨fun h => ?_, fun h => ?_⟩ | refine ⟨?_, ?_⟩ | refine hK _ _ _ _ ?_)
  all_goals first | exact xF_zret o_Pr_isInstruction rfl rfl (Or.inl rfl) ⟨rfl, false, rfl, by grind⟩ | exact xF_zret o_Pr_isInstruction rfl rfl (Or.inr rfl) ⟨rfl, true, rfl, by grind⟩
theorem L_insC_122 (o a b c : Int32) (M : xMe) : xF l G y_Pr_isInstruction 122 [some (.int o), some (.int a), some (.int b), some (.int c)] [] M (fun r M' => M' = M ∧ ∃ z, r = some (.int (b2 z)) ∧ (z = true ↔ vR a ∧ vT b ∧ vR c)) := by
  unfold vR vT
  refine xF_go o_Pr_isInstruction [] 60 (fun K hK => ?_)
  repeat' ((conv => whnf); first | refine ⟨fun h => ?_, fun h => ?_⟩ | refine ⟨?_, ?_⟩ | refine hK _ _ _ _ ?_)
  refine xF_callS o_Pr_isInstruction [.int a] rfl z_DS_isRegister s_DS_isRegister l_Pr_64 rfl ⟨⟨by decide, by decide⟩, rfl, rfl⟩ (Nat.le_of_ble_eq_true rfl) rfl (E_isRegister l G a M) ?_
  rintro v M1 ⟨rfl, rfl⟩
  clear hK K
  rename xMe => M
  refine xF_go o_Pr_isInstruction [] 60 (fun K hK => ?_)
  repeat' ((conv => whnf); first | refine ⟨fun h => ?_, fun h => ?_⟩ | refine ⟨?_, ?_⟩ | refine hK _ _ _ _ ?_)
  · first | exact xF_zret o_Pr_isInstruction rfl rfl (Or.inl rfl) ⟨rfl, false, rfl, by grind⟩ | exact xF_zret o_Pr_isInstruction rfl rfl (Or.inr rfl) ⟨rfl, true, rfl, by grind⟩
  refine xF_callS o_Pr_isInstruction [.int b] rfl z_DS_isItemNumber s_DS_isItemNumber l_Pr_56 rfl ⟨⟨by decide, by decide⟩, rfl, rfl⟩ (Nat.le_of_ble_eq_true rfl) rfl (E_isItemNumber l G b M) ?_
  rintro v M1 ⟨rfl, rfl⟩
  clear hK K
  rename xMe => M
  refine xF_go o_Pr_isInstruction [] 60 (fun K hK => ?_)
  repeat' ((conv => whnf); first | refine ⟨fun h => ?_, fun h => ?_⟩ | refine ⟨?_, ?_⟩ | refine hK _ _ _ _ ?_)
  · first | exact xF_zret o_Pr_isInstruction rfl rfl (Or.inl rfl) ⟨rfl, false, rfl, by grind⟩ | exact xF_zret o_Pr_isInstruction rfl rfl (Or.inr rfl) ⟨rfl, true, rfl, by grind⟩
  refine xF_callS o_Pr_isInstruction [.int c] rfl z_DS_isRegister s_DS_isRegister l_Pr_64 rfl ⟨⟨by decide, by decide⟩, rfl, rfl⟩ (Nat.le_of_ble_eq_true rfl) rfl (E_isRegister l G c M) ?_
  rintro v M1 ⟨rfl, rfl⟩
  clear hK K
  rename xMe => M
  refine xF_go o_Pr_isInstruction [] 60 (fun K hK => ?_)
  repeat' ((conv => whnf); first | refine ⟨fun h => ?_, fun h => ?_⟩ | refine ⟨?_, ?_⟩ | refine hK _ _ _ _ ?_)
  all_goals first | exact xF_zret o_Pr_isInstruction rfl rfl (Or.inl rfl) ⟨rfl, false, rfl, by grind⟩ | exact xF_zret o_Pr_isInstruction rfl rfl (Or.inr rfl) ⟨rfl, true, rfl, by grind⟩
theorem L_insC_149 (o a b c : Int32) (M : xMe) : xF l G y_Pr_isInstruction 149 [some (.int o), some (.int a), some (.int b), some (.int c)] [] M (fun r M' => M' = M ∧ ∃ z, r = some (.int (b2 z)) ∧ (z = true ↔ vT a ∧ vR b ∧ vR c)) := by
  unfold vR vT
  refine xF_go o_Pr_isInstruction [] 60 (fun K hK => ?_)
  repeat' ((conv => whnf); first | refine ⟨fun h => ?_, fun h => ?_⟩ | refine ⟨?_, ?_⟩ | refine hK _ _ _ _ ?_)
  refine xF_callS o_Pr_isInstruction [.int a] rfl z_DS_isItemNumber s_DS_isItemNumber l_Pr_56 rfl ⟨⟨by decide, by decide⟩, rfl, rfl⟩ (Nat.le_of_ble_eq_true rfl) rfl (E_isItemNumber l G a M) ?_
  rintro v M1 ⟨rfl, rfl⟩
  clear hK K
  rename xMe => M
  refine xF_go o_Pr_isInstruction [] 60 (fun K hK => ?_)
  repeat' ((conv => whnf); first | refine ⟨fun h => ?_, fun h => ?_⟩ | refine ⟨?_, ?_⟩ | refine hK _ _ _ _ ?_)
  · first | exact xF_zret o_Pr_isInstruction rfl rfl (Or.inl rfl) ⟨rfl, false, rfl, by grind⟩ | exact xF_zret o_Pr_isInstruction rfl rfl (Or.inr rfl) ⟨rfl, true, rfl, by grind⟩
  refine xF_callS o_Pr_isInstruction [.int b] rfl z_DS_isRegister s_DS_isRegister l_Pr_64 rfl ⟨⟨by decide, by decide⟩, rfl, rfl⟩ (Nat.le_of_ble_eq_true rfl) rfl (E_isRegister l G b M) ?_
  rintro v M1 ⟨rfl, rfl⟩
  clear hK K
  rename xMe => M
  refine xF_go o_Pr_isInstruction [] 60 (fun K hK => ?_)
  repeat' ((conv => whnf); first | refine ⟨fun h => ?_, fun h => ?_⟩ | refine ⟨?_, ?_⟩ | refine hK _ _ _ _ ?_)
  · first | exact xF_zret o_Pr_isInstruction rfl rfl (Or.inl rfl) ⟨rfl, false, rfl, by grind⟩ | exact xF_zret o_Pr_isInstruction rfl rfl (Or.inr rfl) ⟨rfl, true, rfl, by grind⟩
  refine xF_callS o_Pr_isInstruction [.int c] rfl z_DS_isRegister s_DS_isRegister l_Pr_64 rfl ⟨⟨by decide, by decide⟩, rfl, rfl⟩ (Nat.le_of_ble_eq_true rfl) rfl (E_isRegister l G c M) ?_
  rintro v M1 ⟨rfl, rfl⟩
  clear hK K
  rename xMe => M
  refine xF_go o_Pr_isInstruction [] 60 (fun K hK => ?_)
  repeat' ((conv => whnf); first | refine ⟨fun h => ?_, fun h => ?_⟩ | refine ⟨?_, ?_⟩ | refine hK _ _ _ _ ?_)
  all_goals first | exact xF_zret o_Pr_isInstruction rfl rfl (Or.inl rfl) ⟨rfl, false, rfl, by grind⟩ | exact xF_zret o_Pr_isInstruction rfl rfl (Or.inr rfl) ⟨rfl, true, rfl, by grind⟩
theorem L_insC_176 (o a b c : Int32) (M : xMe) : xF l G y_Pr_isInstruction 176 [some (.int o), some (.int a), some (.int b), some (.int c)] [] M (fun r M' => M' = M ∧ ∃ z, r = some (.int (b2 z)) ∧ (z = true ↔ (0 ≤ a ∧ a < 12) ∧ b = 0 ∧ c = 0)) := by
  skip
  refine xF_go o_Pr_isInstruction [] 60 (fun K hK => ?_)
  repeat' ((conv => whnf); first | refine ⟨fun h => ?_, fun h => ?_⟩ | refine ⟨?_, ?_⟩ | refine hK _ _ _ _ ?_)
  refine xF_callS o_Pr_isInstruction [.int a] rfl z_DS_isFunction s_DS_isFunction l_Pr_67 rfl ⟨⟨by decide, by decide⟩, rfl, rfl⟩ (Nat.le_of_ble_eq_true rfl) rfl (E_isFunction l G a M) ?_
  rintro v M1 ⟨rfl, rfl⟩
  clear hK K
  rename xMe => M
  refine xF_go o_Pr_isInstruction [] 60 (fun K hK => ?_)
  repeat' ((conv => whnf); first | refine ⟨fun h => ?_, fun h => ?_⟩ | refine ⟨?_, ?_⟩ | refine hK _ _ _ _ ?_)
  all_goals first | exact xF_zret o_Pr_isInstruction rfl rfl (Or.inl rfl) ⟨rfl, false, rfl, by grind⟩ | exact xF_zret o_Pr_isInstruction rfl rfl (Or.inr rfl) ⟨rfl, true, rfl, by grind⟩
theorem L_insC_197 (o a b c : Int32) (M : xMe) : xF l G y_Pr_isInstruction 197 [some (.int o), some (.int a), some (.int b), some (.int c)] [] M (fun r M' => M' = M ∧ ∃ z, r = some (.int (b2 z)) ∧ (z = true ↔ vR a ∧ (-40 ≤ b ∧ b ≤ 40) ∧ c = 0)) := by
  unfold vR
  refine xF_go o_Pr_isInstruction [] 60 (fun K hK => ?_)
  repeat' ((conv => whnf); first | refine ⟨fun h => ?_, fun h => ?_⟩ | refine ⟨?_, ?_⟩ | refine hK _ _ _ _ ?_)
  refine xF_callS o_Pr_isInstruction [.int a] rfl z_DS_isRegister s_DS_isRegister l_Pr_64 rfl ⟨⟨by decide, by decide⟩, rfl, rfl⟩ (Nat.le_of_ble_eq_true rfl) rfl (E_isRegister l G a M) ?_
  rintro v M1 ⟨rfl, rfl⟩
  clear hK K
  rename xMe => M
  refine xF_go o_Pr_isInstruction [] 60 (fun K hK => ?_)
  repeat' ((conv => whnf); first | refine ⟨fun h => ?_, fun h => ?_⟩ | refine ⟨?_, ?_⟩ | refine hK _ _ _ _ ?_)
  · first | exact xF_zret o_Pr_isInstruction rfl rfl (Or.inl rfl) ⟨rfl, false, rfl, by grind⟩ | exact xF_zret o_Pr_isInstruction rfl rfl (Or.inr rfl) ⟨rfl, true, rfl, by grind⟩
  refine xF_callS o_Pr_isInstruction [.int b, .int (-40), .int 40] rfl z_DS_within s_DS_within l_Pr_60 rfl ⟨⟨by decide, by decide⟩, rfl, rfl⟩ (Nat.le_of_ble_eq_true rfl) rfl (E_within l G b (-40) 40 M) ?_
  rintro v M1 ⟨rfl, rfl⟩
  clear hK K
  rename xMe => M
  refine xF_go o_Pr_isInstruction [] 60 (fun K hK => ?_)
  repeat' ((conv => whnf); first | refine ⟨fun h => ?_, fun h => ?_⟩ | refine ⟨?_, ?_⟩ | refine hK _ _ _ _ ?_)
  all_goals first | exact xF_zret o_Pr_isInstruction rfl rfl (Or.inl rfl) ⟨rfl, false, rfl, by grind⟩ | exact xF_zret o_Pr_isInstruction rfl rfl (Or.inr rfl) ⟨rfl, true, rfl, by grind⟩
theorem L_insC_225 (o a b c : Int32) (M : xMe) : xF l G y_Pr_isInstruction 225 [some (.int o), some (.int a), some (.int b), some (.int c)] [] M (fun r M' => M' = M ∧ ∃ z, r = some (.int (b2 z)) ∧ (z = true ↔ vR a ∧ b = 0 ∧ c = 0)) := by
  unfold vR
  refine xF_go o_Pr_isInstruction [] 60 (fun K hK => ?_)
  repeat' ((conv => whnf); first | refine ⟨fun h => ?_, fun h => ?_⟩ | refine ⟨?_, ?_⟩ | refine hK _ _ _ _ ?_)
  refine xF_callS o_Pr_isInstruction [.int a] rfl z_DS_isRegister s_DS_isRegister l_Pr_64 rfl ⟨⟨by decide, by decide⟩, rfl, rfl⟩ (Nat.le_of_ble_eq_true rfl) rfl (E_isRegister l G a M) ?_
  rintro v M1 ⟨rfl, rfl⟩
  clear hK K
  rename xMe => M
  refine xF_go o_Pr_isInstruction [] 60 (fun K hK => ?_)
  repeat' ((conv => whnf); first | refine ⟨fun h => ?_, fun h => ?_⟩ | refine ⟨?_, ?_⟩ | refine hK _ _ _ _ ?_)
  all_goals first | exact xF_zret o_Pr_isInstruction rfl rfl (Or.inl rfl) ⟨rfl, false, rfl, by grind⟩ | exact xF_zret o_Pr_isInstruction rfl rfl (Or.inr rfl) ⟨rfl, true, rfl, by grind⟩
theorem L_insC_246 (o a b c : Int32) (M : xMe) : xF l G y_Pr_isInstruction 246 [some (.int o), some (.int a), some (.int b), some (.int c)] [] M (fun r M' => M' = M ∧ ∃ z, r = some (.int (b2 z)) ∧ (z = true ↔ a = 0 ∧ b = 0 ∧ c = 0)) := by
  skip
  refine xF_go o_Pr_isInstruction [] 60 (fun K hK => ?_)
  repeat' ((conv => whnf); first | refine ⟨fun h => ?_, fun h => ?_⟩ | refine ⟨?_, ?_⟩ | refine hK _ _ _ _ ?_)
  all_goals first | exact xF_zret o_Pr_isInstruction rfl rfl (Or.inl rfl) ⟨rfl, false, rfl, by grind⟩ | exact xF_zret o_Pr_isInstruction rfl rfl (Or.inr rfl) ⟨rfl, true, rfl, by grind⟩
theorem L_insC_264 (o a b c : Int32) (M : xMe) : xF l G y_Pr_isInstruction 264 [some (.int o), some (.int a), some (.int b), some (.int c)] [] M (fun r M' => M' = M ∧ ∃ z, r = some (.int (b2 z)) ∧ (z = true ↔ vR a ∧ vT b ∧ vT c)) := by
  unfold vR vT
  refine xF_go o_Pr_isInstruction [] 60 (fun K hK => ?_)
  repeat' ((conv => whnf); first | refine ⟨fun h => ?_, fun h => ?_⟩ | refine ⟨?_, ?_⟩ | refine hK _ _ _ _ ?_)
  refine xF_callS o_Pr_isInstruction [.int a] rfl z_DS_isRegister s_DS_isRegister l_Pr_64 rfl ⟨⟨by decide, by decide⟩, rfl, rfl⟩ (Nat.le_of_ble_eq_true rfl) rfl (E_isRegister l G a M) ?_
  rintro v M1 ⟨rfl, rfl⟩
  clear hK K
  rename xMe => M
  refine xF_go o_Pr_isInstruction [] 60 (fun K hK => ?_)
  repeat' ((conv => whnf); first | refine ⟨fun h => ?_, fun h => ?_⟩ | refine ⟨?_, ?_⟩ | refine hK _ _ _ _ ?_)
  · first | exact xF_zret o_Pr_isInstruction rfl rfl (Or.inl rfl) ⟨rfl, false, rfl, by grind⟩ | exact xF_zret o_Pr_isInstruction rfl rfl (Or.inr rfl) ⟨rfl, true, rfl, by grind⟩
  refine xF_callS o_Pr_isInstruction [.int b] rfl z_DS_isItemNumber s_DS_isItemNumber l_Pr_56 rfl ⟨⟨by decide, by decide⟩, rfl, rfl⟩ (Nat.le_of_ble_eq_true rfl) rfl (E_isItemNumber l G b M) ?_
  rintro v M1 ⟨rfl, rfl⟩
  clear hK K
  rename xMe => M
  refine xF_go o_Pr_isInstruction [] 60 (fun K hK => ?_)
  repeat' ((conv => whnf); first | refine ⟨fun h => ?_, fun h => ?_⟩ | refine ⟨?_, ?_⟩ | refine hK _ _ _ _ ?_)
  · first | exact xF_zret o_Pr_isInstruction rfl rfl (Or.inl rfl) ⟨rfl, false, rfl, by grind⟩ | exact xF_zret o_Pr_isInstruction rfl rfl (Or.inr rfl) ⟨rfl, true, rfl, by grind⟩
  refine xF_callS o_Pr_isInstruction [.int c] rfl z_DS_isItemNumber s_DS_isItemNumber l_Pr_56 rfl ⟨⟨by decide, by decide⟩, rfl, rfl⟩ (Nat.le_of_ble_eq_true rfl) rfl (E_isItemNumber l G c M) ?_
  rintro v M1 ⟨rfl, rfl⟩
  clear hK K
  rename xMe => M
  refine xF_go o_Pr_isInstruction [] 60 (fun K hK => ?_)
  repeat' ((conv => whnf); first | refine ⟨fun h => ?_, fun h => ?_⟩ | refine ⟨?_, ?_⟩ | refine hK _ _ _ _ ?_)
  all_goals first | exact xF_zret o_Pr_isInstruction rfl rfl (Or.inl rfl) ⟨rfl, false, rfl, by grind⟩ | exact xF_zret o_Pr_isInstruction rfl rfl (Or.inr rfl) ⟨rfl, true, rfl, by grind⟩
theorem E_isInstruction (o a b c : Int32) (M : xMe) : xE l G y_Pr_isInstruction [.int o, .int a, .int b, .int c] M (fun r M' => M' = M ∧ ∃ z, r = some (.int (b2 z)) ∧ (z = true ↔ vIns o a b c)) := by
  refine xE_of [some (.int o), some (.int a), some (.int b), some (.int c)] (by decide +kernel) (Nat.le_of_ble_eq_true rfl) rfl ?_
  refine xF_go o_Pr_isInstruction [64, 92, 122, 149, 176, 197, 225, 246, 264, 291] 60 (fun K hK => ?_)
  repeat' ((conv => whnf); first | refine ⟨fun h => ?_, fun h => ?_⟩ | refine ⟨?_, ?_⟩ | refine hK _ _ _ _ ?_)
  · refine xF_post ?_ (L_insC_64 l G o a b c M)
    rintro v M' ⟨rfl, z, rfl, hz⟩
    have h0 : o = 0 := by first | exact h | assumption
    subst h0
    exact ⟨rfl, z, rfl, hz.trans (by unfold vIns; grind)⟩
  · refine xF_post ?_ (L_insC_92 l G o a b c M)
    rintro v M' ⟨rfl, z, rfl, hz⟩
    have h0 : o = 1 := by first | exact h | assumption
    subst h0
    exact ⟨rfl, z, rfl, hz.trans (by unfold vIns; grind)⟩
  · refine xF_post ?_ (L_insC_64 l G o a b c M)
    rintro v M' ⟨rfl, z, rfl, hz⟩
    have h0 : o = 2 := by first | exact h | assumption
    subst h0
    exact ⟨rfl, z, rfl, hz.trans (by unfold vIns; grind)⟩
  · refine xF_post ?_ (L_insC_122 l G o a b c M)
    rintro v M' ⟨rfl, z, rfl, hz⟩
    have h0 : o = 3 := by first | exact h | assumption
    subst h0
    exact ⟨rfl, z, rfl, hz.trans (by unfold vIns; grind)⟩
  · refine xF_post ?_ (L_insC_149 l G o a b c M)
    rintro v M' ⟨rfl, z, rfl, hz⟩
    have h0 : o = 4 := by first | exact h | assumption
    subst h0
    exact ⟨rfl, z, rfl, hz.trans (by unfold vIns; grind)⟩
  · refine xF_post ?_ (L_insC_176 l G o a b c M)
    rintro v M' ⟨rfl, z, rfl, hz⟩
    have h0 : o = 5 := by first | exact h | assumption
    subst h0
    exact ⟨rfl, z, rfl, hz.trans (by unfold vIns; grind)⟩
  · refine xF_post ?_ (L_insC_197 l G o a b c M)
    rintro v M' ⟨rfl, z, rfl, hz⟩
    have h0 : o = 6 := by first | exact h | assumption
    subst h0
    exact ⟨rfl, z, rfl, hz.trans (by unfold vIns; grind)⟩
  · refine xF_post ?_ (L_insC_225 l G o a b c M)
    rintro v M' ⟨rfl, z, rfl, hz⟩
    have h0 : o = 7 := by first | exact h | assumption
    subst h0
    exact ⟨rfl, z, rfl, hz.trans (by unfold vIns; grind)⟩
  · refine xF_post ?_ (L_insC_246 l G o a b c M)
    rintro v M' ⟨rfl, z, rfl, hz⟩
    have h0 : o = 8 := by first | exact h | assumption
    subst h0
    exact ⟨rfl, z, rfl, hz.trans (by unfold vIns; grind)⟩
  · refine xF_post ?_ (L_insC_225 l G o a b c M)
    rintro v M' ⟨rfl, z, rfl, hz⟩
    have h0 : o = 9 := by first | exact h | assumption
    subst h0
    exact ⟨rfl, z, rfl, hz.trans (by unfold vIns; grind)⟩
  · refine xF_post ?_ (L_insC_264 l G o a b c M)
    rintro v M' ⟨rfl, z, rfl, hz⟩
    have h0 : o = 10 := by first | exact h | assumption
    subst h0
    exact ⟨rfl, z, rfl, hz.trans (by unfold vIns; grind)⟩
  · refine xF_post ?_ (L_insC_122 l G o a b c M)
    rintro v M' ⟨rfl, z, rfl, hz⟩
    have h0 : o = 11 := by first | exact h | assumption
    subst h0
    exact ⟨rfl, z, rfl, hz.trans (by unfold vIns; grind)⟩
  · refine xF_go o_Pr_isInstruction [] 60 (fun K hK => ?_)
    repeat' ((conv => whnf); first | refine ⟨fun h => ?_, fun h => ?_⟩ | refine ⟨?_, ?_⟩ | refine hK _ _ _ _ ?_)
    exact xF_zret o_Pr_isInstruction rfl rfl (Or.inl rfl) ⟨rfl, false, rfl, by unfold vIns; grind⟩
theorem L_insM_64 (o a b c : Int32) (M : xMe) : xF l G y_Mo_isTold 64 [some (.int o), some (.int a), some (.int b), some (.int c)] [] M (fun r M' => M' = M ∧ ∃ z, r = some (.int (b2 z)) ∧ (z = true ↔ vR a ∧ (0 ≤ b ∧ b ≤ 255) ∧ c = 0)) := by
  unfold vR
  refine xF_go o_Mo_isTold [] 60 (fun K hK => ?_)
  repeat' ((conv => whnf); first | refine ⟨fun h => ?_, fun h => ?_⟩ | refine ⟨?_, ?_⟩ | refine hK _ _ _ _ ?_)
  refine xF_callS o_Mo_isTold [.int a] rfl z_Mo_isRegister s_Mo_isRegister l_Mo_171 rfl ⟨⟨by decide, by decide⟩, rfl, rfl⟩ (Nat.le_of_ble_eq_true rfl) rfl (E_MisRegister l G a M) ?_
  rintro v M1 ⟨rfl, rfl⟩
  clear hK K
  rename xMe => M
  refine xF_go o_Mo_isTold [] 60 (fun K hK => ?_)
  repeat' ((conv => whnf); first | refine ⟨fun h => ?_, fun h => ?_⟩ | refine ⟨?_, ?_⟩ | refine hK _ _ _ _ ?_)
  · first | exact xF_zret o_Mo_isTold rfl rfl (Or.inl rfl) ⟨rfl, false, rfl, by grind⟩ | exact xF_zret o_Mo_isTold rfl rfl (Or.inr rfl) ⟨rfl, true, rfl, by grind⟩
  refine xF_callS o_Mo_isTold [.int b, .int 0, .int 255] rfl z_Mo_in s_Mo_in l_Mo_157 rfl ⟨⟨by decide, by decide⟩, rfl, rfl⟩ (Nat.le_of_ble_eq_true rfl) rfl (E_in l G b 0 255 M) ?_
  rintro v M1 ⟨rfl, rfl⟩
  clear hK K
  rename xMe => M
  refine xF_go o_Mo_isTold [] 60 (fun K hK => ?_)
  repeat' ((conv => whnf); first | refine ⟨fun h => ?_, fun h => ?_⟩ | refine ⟨?_, ?_⟩ | refine hK _ _ _ _ ?_)
  all_goals first | exact xF_zret o_Mo_isTold rfl rfl (Or.inl rfl) ⟨rfl, false, rfl, by grind⟩ | exact xF_zret o_Mo_isTold rfl rfl (Or.inr rfl) ⟨rfl, true, rfl, by grind⟩
theorem L_insM_92 (o a b c : Int32) (M : xMe) : xF l G y_Mo_isTold 92 [some (.int o), some (.int a), some (.int b), some (.int c)] [] M (fun r M' => M' = M ∧ ∃ z, r = some (.int (b2 z)) ∧ (z = true ↔ vR a ∧ (-255 ≤ b ∧ b ≤ 255) ∧ c = 0)) := by
  unfold vR
  refine xF_go o_Mo_isTold [] 60 (fun K hK => ?_)
  repeat' ((conv => whnf); first | refine ⟨fun h => ?_, fun h => ?_⟩ | refine ⟨?_, ?_⟩ | refine hK _ _ _ _ ?_)
  refine xF_callS o_Mo_isTold [.int a] rfl z_Mo_isRegister s_Mo_isRegister l_Mo_171 rfl ⟨⟨by decide, by decide⟩, rfl, rfl⟩ (Nat.le_of_ble_eq_true rfl) rfl (E_MisRegister l G a M) ?_
  rintro v M1 ⟨rfl, rfl⟩
  clear hK K
  rename xMe => M
  refine xF_go o_Mo_isTold [] 60 (fun K hK => ?_)
  repeat' ((conv => whnf); first | refine ⟨fun h => ?_, fun h => ?_⟩ | refine ⟨?_, ?_⟩ | refine hK _ _ _ _ ?_)
  · first | exact xF_zret o_Mo_isTold rfl rfl (Or.inl rfl) ⟨rfl, false, rfl, by grind⟩ | exact xF_zret o_Mo_isTold rfl rfl (Or.inr rfl) ⟨rfl, true, rfl, by grind⟩
  refine xF_callS o_Mo_isTold [.int b, .int (-255), .int 255] rfl z_Mo_in s_Mo_in l_Mo_157 rfl ⟨⟨by decide, by decide⟩, rfl, rfl⟩ (Nat.le_of_ble_eq_true rfl) rfl (E_in l G b (-255) 255 M) ?_
  rintro v M1 ⟨rfl, rfl⟩
  clear hK K
  rename xMe => M
  refine xF_go o_Mo_isTold [] 60 (fun K hK => ?_)
  repeat' ((conv => whnf); first | refine ⟨fun h => ?_, fun h => ?_⟩ | refine ⟨?_, ?_⟩ | refine hK _ _ _ _ ?_)
  all_goals first | exact xF_zret o_Mo_isTold rfl rfl (Or.inl rfl) ⟨rfl, false, rfl, by grind⟩ | exact xF_zret o_Mo_isTold rfl rfl (Or.inr rfl) ⟨rfl, true, rfl, by grind⟩
theorem L_insM_122 (o a b c : Int32) (M : xMe) : xF l G y_Mo_isTold 122 [some (.int o), some (.int a), some (.int b), some (.int c)] [] M (fun r M' => M' = M ∧ ∃ z, r = some (.int (b2 z)) ∧ (z = true ↔ vR a ∧ vT b ∧ vR c)) := by
  unfold vR vT
  refine xF_go o_Mo_isTold [] 60 (fun K hK => ?_)
  repeat' ((conv => whnf); first | refine ⟨fun h => ?_, fun h => ?_⟩ | refine ⟨?_, ?_⟩ | refine hK _ _ _ _ ?_)
  refine xF_callS o_Mo_isTold [.int a] rfl z_Mo_isRegister s_Mo_isRegister l_Mo_171 rfl ⟨⟨by decide, by decide⟩, rfl, rfl⟩ (Nat.le_of_ble_eq_true rfl) rfl (E_MisRegister l G a M) ?_
  rintro v M1 ⟨rfl, rfl⟩
  clear hK K
  rename xMe => M
  refine xF_go o_Mo_isTold [] 60 (fun K hK => ?_)
  repeat' ((conv => whnf); first | refine ⟨fun h => ?_, fun h => ?_⟩ | refine ⟨?_, ?_⟩ | refine hK _ _ _ _ ?_)
  · first | exact xF_zret o_Mo_isTold rfl rfl (Or.inl rfl) ⟨rfl, false, rfl, by grind⟩ | exact xF_zret o_Mo_isTold rfl rfl (Or.inr rfl) ⟨rfl, true, rfl, by grind⟩
  refine xF_callS o_Mo_isTold [.int b] rfl z_Mo_isItem s_Mo_isItem l_Mo_175 rfl ⟨⟨by decide, by decide⟩, rfl, rfl⟩ (Nat.le_of_ble_eq_true rfl) rfl (E_MisItem l G b M) ?_
  rintro v M1 ⟨rfl, rfl⟩
  clear hK K
  rename xMe => M
  refine xF_go o_Mo_isTold [] 60 (fun K hK => ?_)
  repeat' ((conv => whnf); first | refine ⟨fun h => ?_, fun h => ?_⟩ | refine ⟨?_, ?_⟩ | refine hK _ _ _ _ ?_)
  · first | exact xF_zret o_Mo_isTold rfl rfl (Or.inl rfl) ⟨rfl, false, rfl, by grind⟩ | exact xF_zret o_Mo_isTold rfl rfl (Or.inr rfl) ⟨rfl, true, rfl, by grind⟩
  refine xF_callS o_Mo_isTold [.int c] rfl z_Mo_isRegister s_Mo_isRegister l_Mo_171 rfl ⟨⟨by decide, by decide⟩, rfl, rfl⟩ (Nat.le_of_ble_eq_true rfl) rfl (E_MisRegister l G c M) ?_
  rintro v M1 ⟨rfl, rfl⟩
  clear hK K
  rename xMe => M
  refine xF_go o_Mo_isTold [] 60 (fun K hK => ?_)
  repeat' ((conv => whnf); first | refine ⟨fun h => ?_, fun h => ?_⟩ | refine ⟨?_, ?_⟩ | refine hK _ _ _ _ ?_)
  all_goals first | exact xF_zret o_Mo_isTold rfl rfl (Or.inl rfl) ⟨rfl, false, rfl, by grind⟩ | exact xF_zret o_Mo_isTold rfl rfl (Or.inr rfl) ⟨rfl, true, rfl, by grind⟩
theorem L_insM_149 (o a b c : Int32) (M : xMe) : xF l G y_Mo_isTold 149 [some (.int o), some (.int a), some (.int b), some (.int c)] [] M (fun r M' => M' = M ∧ ∃ z, r = some (.int (b2 z)) ∧ (z = true ↔ vT a ∧ vR b ∧ vR c)) := by
  unfold vR vT
  refine xF_go o_Mo_isTold [] 60 (fun K hK => ?_)
  repeat' ((conv => whnf); first | refine ⟨fun h => ?_, fun h => ?_⟩ | refine ⟨?_, ?_⟩ | refine hK _ _ _ _ ?_)
  refine xF_callS o_Mo_isTold [.int a] rfl z_Mo_isItem s_Mo_isItem l_Mo_175 rfl ⟨⟨by decide, by decide⟩, rfl, rfl⟩ (Nat.le_of_ble_eq_true rfl) rfl (E_MisItem l G a M) ?_
  rintro v M1 ⟨rfl, rfl⟩
  clear hK K
  rename xMe => M
  refine xF_go o_Mo_isTold [] 60 (fun K hK => ?_)
  repeat' ((conv => whnf); first | refine ⟨fun h => ?_, fun h => ?_⟩ | refine ⟨?_, ?_⟩ | refine hK _ _ _ _ ?_)
  · first | exact xF_zret o_Mo_isTold rfl rfl (Or.inl rfl) ⟨rfl, false, rfl, by grind⟩ | exact xF_zret o_Mo_isTold rfl rfl (Or.inr rfl) ⟨rfl, true, rfl, by grind⟩
  refine xF_callS o_Mo_isTold [.int b] rfl z_Mo_isRegister s_Mo_isRegister l_Mo_171 rfl ⟨⟨by decide, by decide⟩, rfl, rfl⟩ (Nat.le_of_ble_eq_true rfl) rfl (E_MisRegister l G b M) ?_
  rintro v M1 ⟨rfl, rfl⟩
  clear hK K
  rename xMe => M
  refine xF_go o_Mo_isTold [] 60 (fun K hK => ?_)
  repeat' ((conv => whnf); first | refine ⟨fun h => ?_, fun h => ?_⟩ | refine ⟨?_, ?_⟩ | refine hK _ _ _ _ ?_)
  · first | exact xF_zret o_Mo_isTold rfl rfl (Or.inl rfl) ⟨rfl, false, rfl, by grind⟩ | exact xF_zret o_Mo_isTold rfl rfl (Or.inr rfl) ⟨rfl, true, rfl, by grind⟩
  refine xF_callS o_Mo_isTold [.int c] rfl z_Mo_isRegister s_Mo_isRegister l_Mo_171 rfl ⟨⟨by decide, by decide⟩, rfl, rfl⟩ (Nat.le_of_ble_eq_true rfl) rfl (E_MisRegister l G c M) ?_
  rintro v M1 ⟨rfl, rfl⟩
  clear hK K
  rename xMe => M
  refine xF_go o_Mo_isTold [] 60 (fun K hK => ?_)
  repeat' ((conv => whnf); first | refine ⟨fun h => ?_, fun h => ?_⟩ | refine ⟨?_, ?_⟩ | refine hK _ _ _ _ ?_)
  all_goals first | exact xF_zret o_Mo_isTold rfl rfl (Or.inl rfl) ⟨rfl, false, rfl, by grind⟩ | exact xF_zret o_Mo_isTold rfl rfl (Or.inr rfl) ⟨rfl, true, rfl, by grind⟩
theorem L_insM_176 (o a b c : Int32) (M : xMe) : xF l G y_Mo_isTold 176 [some (.int o), some (.int a), some (.int b), some (.int c)] [] M (fun r M' => M' = M ∧ ∃ z, r = some (.int (b2 z)) ∧ (z = true ↔ (0 ≤ a ∧ a < 12) ∧ b = 0 ∧ c = 0)) := by
  skip
  refine xF_go o_Mo_isTold [] 60 (fun K hK => ?_)
  repeat' ((conv => whnf); first | refine ⟨fun h => ?_, fun h => ?_⟩ | refine ⟨?_, ?_⟩ | refine hK _ _ _ _ ?_)
  refine xF_callS o_Mo_isTold [.int a, .int 0, .int 11] rfl z_Mo_in s_Mo_in l_Mo_157 rfl ⟨⟨by decide, by decide⟩, rfl, rfl⟩ (Nat.le_of_ble_eq_true rfl) rfl (E_in l G a 0 11 M) ?_
  rintro v M1 ⟨rfl, rfl⟩
  clear hK K
  rename xMe => M
  refine xF_go o_Mo_isTold [] 60 (fun K hK => ?_)
  repeat' ((conv => whnf); first | refine ⟨fun h => ?_, fun h => ?_⟩ | refine ⟨?_, ?_⟩ | refine hK _ _ _ _ ?_)
  all_goals first | exact xF_zret o_Mo_isTold rfl rfl (Or.inl rfl) ⟨rfl, false, rfl, by grind⟩ | exact xF_zret o_Mo_isTold rfl rfl (Or.inr rfl) ⟨rfl, true, rfl, by grind⟩
theorem L_insM_200 (o a b c : Int32) (M : xMe) : xF l G y_Mo_isTold 200 [some (.int o), some (.int a), some (.int b), some (.int c)] [] M (fun r M' => M' = M ∧ ∃ z, r = some (.int (b2 z)) ∧ (z = true ↔ vR a ∧ (-40 ≤ b ∧ b ≤ 40) ∧ c = 0)) := by
  unfold vR
  refine xF_go o_Mo_isTold [] 60 (fun K hK => ?_)
  repeat' ((conv => whnf); first | refine ⟨fun h => ?_, fun h => ?_⟩ | refine ⟨?_, ?_⟩ | refine hK _ _ _ _ ?_)
  refine xF_callS o_Mo_isTold [.int a] rfl z_Mo_isRegister s_Mo_isRegister l_Mo_171 rfl ⟨⟨by decide, by decide⟩, rfl, rfl⟩ (Nat.le_of_ble_eq_true rfl) rfl (E_MisRegister l G a M) ?_
  rintro v M1 ⟨rfl, rfl⟩
  clear hK K
  rename xMe => M
  refine xF_go o_Mo_isTold [] 60 (fun K hK => ?_)
  repeat' ((conv => whnf); first | refine ⟨fun h => ?_, fun h => ?_⟩ | refine ⟨?_, ?_⟩ | refine hK _ _ _ _ ?_)
  · first | exact xF_zret o_Mo_isTold rfl rfl (Or.inl rfl) ⟨rfl, false, rfl, by grind⟩ | exact xF_zret o_Mo_isTold rfl rfl (Or.inr rfl) ⟨rfl, true, rfl, by grind⟩
  refine xF_callS o_Mo_isTold [.int b, .int (-40), .int 40] rfl z_Mo_in s_Mo_in l_Mo_157 rfl ⟨⟨by decide, by decide⟩, rfl, rfl⟩ (Nat.le_of_ble_eq_true rfl) rfl (E_in l G b (-40) 40 M) ?_
  rintro v M1 ⟨rfl, rfl⟩
  clear hK K
  rename xMe => M
  refine xF_go o_Mo_isTold [] 60 (fun K hK => ?_)
  repeat' ((conv => whnf); first | refine ⟨fun h => ?_, fun h => ?_⟩ | refine ⟨?_, ?_⟩ | refine hK _ _ _ _ ?_)
  all_goals first | exact xF_zret o_Mo_isTold rfl rfl (Or.inl rfl) ⟨rfl, false, rfl, by grind⟩ | exact xF_zret o_Mo_isTold rfl rfl (Or.inr rfl) ⟨rfl, true, rfl, by grind⟩
theorem L_insM_228 (o a b c : Int32) (M : xMe) : xF l G y_Mo_isTold 228 [some (.int o), some (.int a), some (.int b), some (.int c)] [] M (fun r M' => M' = M ∧ ∃ z, r = some (.int (b2 z)) ∧ (z = true ↔ vR a ∧ b = 0 ∧ c = 0)) := by
  unfold vR
  refine xF_go o_Mo_isTold [] 60 (fun K hK => ?_)
  repeat' ((conv => whnf); first | refine ⟨fun h => ?_, fun h => ?_⟩ | refine ⟨?_, ?_⟩ | refine hK _ _ _ _ ?_)
  refine xF_callS o_Mo_isTold [.int a] rfl z_Mo_isRegister s_Mo_isRegister l_Mo_171 rfl ⟨⟨by decide, by decide⟩, rfl, rfl⟩ (Nat.le_of_ble_eq_true rfl) rfl (E_MisRegister l G a M) ?_
  rintro v M1 ⟨rfl, rfl⟩
  clear hK K
  rename xMe => M
  refine xF_go o_Mo_isTold [] 60 (fun K hK => ?_)
  repeat' ((conv => whnf); first | refine ⟨fun h => ?_, fun h => ?_⟩ | refine ⟨?_, ?_⟩ | refine hK _ _ _ _ ?_)
  all_goals first | exact xF_zret o_Mo_isTold rfl rfl (Or.inl rfl) ⟨rfl, false, rfl, by grind⟩ | exact xF_zret o_Mo_isTold rfl rfl (Or.inr rfl) ⟨rfl, true, rfl, by grind⟩
theorem L_insM_249 (o a b c : Int32) (M : xMe) : xF l G y_Mo_isTold 249 [some (.int o), some (.int a), some (.int b), some (.int c)] [] M (fun r M' => M' = M ∧ ∃ z, r = some (.int (b2 z)) ∧ (z = true ↔ a = 0 ∧ b = 0 ∧ c = 0)) := by
  skip
  refine xF_go o_Mo_isTold [] 60 (fun K hK => ?_)
  repeat' ((conv => whnf); first | refine ⟨fun h => ?_, fun h => ?_⟩ | refine ⟨?_, ?_⟩ | refine hK _ _ _ _ ?_)
  all_goals first | exact xF_zret o_Mo_isTold rfl rfl (Or.inl rfl) ⟨rfl, false, rfl, by grind⟩ | exact xF_zret o_Mo_isTold rfl rfl (Or.inr rfl) ⟨rfl, true, rfl, by grind⟩
theorem L_insM_267 (o a b c : Int32) (M : xMe) : xF l G y_Mo_isTold 267 [some (.int o), some (.int a), some (.int b), some (.int c)] [] M (fun r M' => M' = M ∧ ∃ z, r = some (.int (b2 z)) ∧ (z = true ↔ vR a ∧ vT b ∧ vT c)) := by
  unfold vR vT
  refine xF_go o_Mo_isTold [] 60 (fun K hK => ?_)
  repeat' ((conv => whnf); first | refine ⟨fun h => ?_, fun h => ?_⟩ | refine ⟨?_, ?_⟩ | refine hK _ _ _ _ ?_)
  refine xF_callS o_Mo_isTold [.int a] rfl z_Mo_isRegister s_Mo_isRegister l_Mo_171 rfl ⟨⟨by decide, by decide⟩, rfl, rfl⟩ (Nat.le_of_ble_eq_true rfl) rfl (E_MisRegister l G a M) ?_
  rintro v M1 ⟨rfl, rfl⟩
  clear hK K
  rename xMe => M
  refine xF_go o_Mo_isTold [] 60 (fun K hK => ?_)
  repeat' ((conv => whnf); first | refine ⟨fun h => ?_, fun h => ?_⟩ | refine ⟨?_, ?_⟩ | refine hK _ _ _ _ ?_)
  · first | exact xF_zret o_Mo_isTold rfl rfl (Or.inl rfl) ⟨rfl, false, rfl, by grind⟩ | exact xF_zret o_Mo_isTold rfl rfl (Or.inr rfl) ⟨rfl, true, rfl, by grind⟩
  refine xF_callS o_Mo_isTold [.int b] rfl z_Mo_isItem s_Mo_isItem l_Mo_175 rfl ⟨⟨by decide, by decide⟩, rfl, rfl⟩ (Nat.le_of_ble_eq_true rfl) rfl (E_MisItem l G b M) ?_
  rintro v M1 ⟨rfl, rfl⟩
  clear hK K
  rename xMe => M
  refine xF_go o_Mo_isTold [] 60 (fun K hK => ?_)
  repeat' ((conv => whnf); first | refine ⟨fun h => ?_, fun h => ?_⟩ | refine ⟨?_, ?_⟩ | refine hK _ _ _ _ ?_)
  · first | exact xF_zret o_Mo_isTold rfl rfl (Or.inl rfl) ⟨rfl, false, rfl, by grind⟩ | exact xF_zret o_Mo_isTold rfl rfl (Or.inr rfl) ⟨rfl, true, rfl, by grind⟩
  refine xF_callS o_Mo_isTold [.int c] rfl z_Mo_isItem s_Mo_isItem l_Mo_175 rfl ⟨⟨by decide, by decide⟩, rfl, rfl⟩ (Nat.le_of_ble_eq_true rfl) rfl (E_MisItem l G c M) ?_
  rintro v M1 ⟨rfl, rfl⟩
  clear hK K
  rename xMe => M
  refine xF_go o_Mo_isTold [] 60 (fun K hK => ?_)
  repeat' ((conv => whnf); first | refine ⟨fun h => ?_, fun h => ?_⟩ | refine ⟨?_, ?_⟩ | refine hK _ _ _ _ ?_)
  all_goals first | exact xF_zret o_Mo_isTold rfl rfl (Or.inl rfl) ⟨rfl, false, rfl, by grind⟩ | exact xF_zret o_Mo_isTold rfl rfl (Or.inr rfl) ⟨rfl, true, rfl, by grind⟩
theorem E_isTold (o a b c : Int32) (M : xMe) : xE l G y_Mo_isTold [.int o, .int a, .int b, .int c] M (fun r M' => M' = M ∧ ∃ z, r = some (.int (b2 z)) ∧ (z = true ↔ vIns o a b c)) := by
  refine xE_of [some (.int o), some (.int a), some (.int b), some (.int c)] (by decide +kernel) (Nat.le_of_ble_eq_true rfl) rfl ?_
  refine xF_go o_Mo_isTold [64, 92, 122, 149, 176, 200, 228, 249, 267, 294] 60 (fun K hK => ?_)
  repeat' ((conv => whnf); first | refine ⟨fun h => ?_, fun h => ?_⟩ | refine ⟨?_, ?_⟩ | refine hK _ _ _ _ ?_)
  · refine xF_post ?_ (L_insM_64 l G o a b c M)
    rintro v M' ⟨rfl, z, rfl, hz⟩
    have h0 : o = 0 := by first | exact h | assumption
    subst h0
    exact ⟨rfl, z, rfl, hz.trans (by unfold vIns; grind)⟩
  · refine xF_post ?_ (L_insM_92 l G o a b c M)
    rintro v M' ⟨rfl, z, rfl, hz⟩
    have h0 : o = 1 := by first | exact h | assumption
    subst h0
    exact ⟨rfl, z, rfl, hz.trans (by unfold vIns; grind)⟩
  · refine xF_post ?_ (L_insM_64 l G o a b c M)
    rintro v M' ⟨rfl, z, rfl, hz⟩
    have h0 : o = 2 := by first | exact h | assumption
    subst h0
    exact ⟨rfl, z, rfl, hz.trans (by unfold vIns; grind)⟩
  · refine xF_post ?_ (L_insM_122 l G o a b c M)
    rintro v M' ⟨rfl, z, rfl, hz⟩
    have h0 : o = 3 := by first | exact h | assumption
    subst h0
    exact ⟨rfl, z, rfl, hz.trans (by unfold vIns; grind)⟩
  · refine xF_post ?_ (L_insM_149 l G o a b c M)
    rintro v M' ⟨rfl, z, rfl, hz⟩
    have h0 : o = 4 := by first | exact h | assumption
    subst h0
    exact ⟨rfl, z, rfl, hz.trans (by unfold vIns; grind)⟩
  · refine xF_post ?_ (L_insM_176 l G o a b c M)
    rintro v M' ⟨rfl, z, rfl, hz⟩
    have h0 : o = 5 := by first | exact h | assumption
    subst h0
    exact ⟨rfl, z, rfl, hz.trans (by unfold vIns; grind)⟩
  · refine xF_post ?_ (L_insM_200 l G o a b c M)
    rintro v M' ⟨rfl, z, rfl, hz⟩
    have h0 : o = 6 := by first | exact h | assumption
    subst h0
    exact ⟨rfl, z, rfl, hz.trans (by unfold vIns; grind)⟩
  · refine xF_post ?_ (L_insM_228 l G o a b c M)
    rintro v M' ⟨rfl, z, rfl, hz⟩
    have h0 : o = 7 := by first | exact h | assumption
    subst h0
    exact ⟨rfl, z, rfl, hz.trans (by unfold vIns; grind)⟩
  · refine xF_post ?_ (L_insM_249 l G o a b c M)
    rintro v M' ⟨rfl, z, rfl, hz⟩
    have h0 : o = 8 := by first | exact h | assumption
    subst h0
    exact ⟨rfl, z, rfl, hz.trans (by unfold vIns; grind)⟩
  · refine xF_post ?_ (L_insM_228 l G o a b c M)
    rintro v M' ⟨rfl, z, rfl, hz⟩
    have h0 : o = 9 := by first | exact h | assumption
    subst h0
    exact ⟨rfl, z, rfl, hz.trans (by unfold vIns; grind)⟩
  · refine xF_post ?_ (L_insM_267 l G o a b c M)
    rintro v M' ⟨rfl, z, rfl, hz⟩
    have h0 : o = 10 := by first | exact h | assumption
    subst h0
    exact ⟨rfl, z, rfl, hz.trans (by unfold vIns; grind)⟩
  · refine xF_post ?_ (L_insM_122 l G o a b c M)
    rintro v M' ⟨rfl, z, rfl, hz⟩
    have h0 : o = 11 := by first | exact h | assumption
    subst h0
    exact ⟨rfl, z, rfl, hz.trans (by unfold vIns; grind)⟩
  · refine xF_go o_Mo_isTold [] 60 (fun K hK => ?_)
    repeat' ((conv => whnf); first | refine ⟨fun h => ?_, fun h => ?_⟩ | refine ⟨?_, ?_⟩ | refine hK _ _ _ _ ?_)
    exact xF_zret o_Mo_isTold rfl rfl (Or.inl rfl) ⟨rfl, false, rfl, by unfold vIns; grind⟩
end XIN
