/-! first methods -/
theorem E_within (l : Launch) (G : xG) (n a b : Int32) (M : xMe) : xE l G y_DS_within [.int n, .int a, .int b] M (fun r M' => M' = M ∧ r = some (.int (if a ≤ n ∧ n ≤ b then 1 else 0))) := by
  refine xE_of (by decide +kernel) (Nat.le_of_ble_eq_true rfl) ?_
  refine xF_go o_DS_within [] 50 (fun K hK => ?_)
  repeat' ((conv => whnf); first | refine ⟨fun h => ?_, fun h => ?_⟩ | refine ⟨?_, ?_⟩ | refine hK _ _ _ _ ?_)
  · refine xF_zret o_DS_within rfl rfl (Or.inl rfl) ⟨rfl, ?_⟩
    grind
  · refine xF_zret o_DS_within rfl rfl (Or.inl rfl) ⟨rfl, ?_⟩
    grind
  · refine xF_zret o_DS_within rfl rfl (Or.inr rfl) ⟨rfl, ?_⟩
    grind
theorem E_gap (l : Launch) (G : xG) (a b : Int32) (M : xMe) : xE l G y_BO_gap [.int a, .int b] M (fun r M' => M' = M ∧ r = some (.int ((-a) &&& (b - 1)))) := by
  refine xE_of (by decide +kernel) (Nat.le_of_ble_eq_true rfl) ?_
  refine xF_go o_BO_gap [] 50 (fun K hK => ?_)
  repeat' ((conv => whnf); first | refine ⟨fun h => ?_, fun h => ?_⟩ | refine ⟨?_, ?_⟩ | refine hK _ _ _ _ ?_)
  exact xF_iret o_BO_gap rfl rfl ⟨rfl, rfl⟩
theorem tst (x y : Int32) (h : 0 ≤ x) (h2 : x < 24) (h3 : 0 ≤ y) (h4 : y < 64) : 0 ≤ x * 64 + y ∧ x * 64 + y < 1536 := by grind
theorem tst2 (x y : Int32) (h : 0 ≤ x) (h2 : x < 24) (h3 : 0 ≤ y) (h4 : y < 64) : (x * 64 + y).toInt = x.toInt * 64 + y.toInt := by grind
theorem tst3 (x : Int32) (h : 0 ≤ x) (h2 : x < 24)  : x.toNatClampNeg < 24 := by grind
