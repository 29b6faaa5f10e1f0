/-! the memory's own rules -/
theorem xsI_id {M : xMe} {c : Nat} {f : Nat → Int32} (h : ∀ i, f i = M.1 c i) : xsI M c f = M := by
  obtain ⟨A, B⟩ := M
  have e : f = A c := funext h
  subst e
  show (_, _) = _
  congr 1
  funext a
  by_cases ha : a = c
  · subst ha; simp
  · simp [ha]
theorem xsL_id {M : xMe} {c : Nat} {f : Nat → Int64} (h : ∀ i, f i = M.2 c i) : xsL M c f = M := by
  obtain ⟨A, B⟩ := M
  have e : f = B c := funext h
  subst e
  show (_, _) = _
  congr 1
  funext a
  by_cases ha : a = c
  · subst ha; simp
  · simp [ha]
theorem xsI_II {M : xMe} {c : Nat} {f g : Nat → Int32} : xsI (xsI M c f) c g = xsI M c g := by
  unfold xsI
  congr 1
  funext a
  by_cases ha : a = c <;> simp [ha]
theorem xsL_LL {M : xMe} {c : Nat} {f g : Nat → Int64} : xsL (xsL M c f) c g = xsL M c g := by
  unfold xsL
  congr 1
  funext a
  by_cases ha : a = c <;> simp [ha]
theorem xsI_c {M : xMe} {c : Nat} {f g : Nat → Int32} (h : ∀ i, f i = g i) : xsI M c f = xsI M c g := by rw [funext h]
theorem xsL_c {M : xMe} {c : Nat} {f g : Nat → Int64} (h : ∀ i, f i = g i) : xsL M c f = xsL M c g := by rw [funext h]
theorem xsI_1 (M : xMe) (c d : Nat) (f : Nat → Int32) : (xsI M c f).1 d = if d = c then f else M.1 d := rfl
theorem xsI_2 (M : xMe) (c : Nat) (f : Nat → Int32) : (xsI M c f).2 = M.2 := rfl
theorem xsL_1 (M : xMe) (c : Nat) (f : Nat → Int64) : (xsL M c f).1 = M.1 := rfl
theorem xsL_2 (M : xMe) (c d : Nat) (f : Nat → Int64) : (xsL M c f).2 d = if d = c then f else M.2 d := rfl
/-! the smallest methods -/
theorem E_within (l : Launch) (G : xG) (n a b : Int32) (M : xMe) : xE l G y_DS_within [.int n, .int a, .int b] M (fun r M' => M' = M ∧ r = some (.int (if a ≤ n ∧ n ≤ b then 1 else 0))) := by
  refine xE_of [some (.int n), some (.int a), some (.int b)] (by decide +kernel) (Nat.le_of_ble_eq_true rfl) rfl ?_
  refine xF_go o_DS_within [] 60 (fun K hK => ?_)
  repeat' ((conv => whnf); first | refine ⟨fun h => ?_, fun h => ?_⟩ | refine ⟨?_, ?_⟩ | refine hK _ _ _ _ ?_)
  · exact xF_zret o_DS_within rfl rfl (Or.inl rfl) ⟨rfl, by grind⟩
  · exact xF_zret o_DS_within rfl rfl (Or.inl rfl) ⟨rfl, by grind⟩
  · exact xF_zret o_DS_within rfl rfl (Or.inr rfl) ⟨rfl, by grind⟩
theorem E_in (l : Launch) (G : xG) (n a b : Int32) (M : xMe) : xE l G y_Mo_in [.int n, .int a, .int b] M (fun r M' => M' = M ∧ r = some (.int (if a ≤ n ∧ n ≤ b then 1 else 0))) := by
  refine xE_of [some (.int n), some (.int a), some (.int b)] (by decide +kernel) (Nat.le_of_ble_eq_true rfl) rfl ?_
  refine xF_go o_Mo_in [] 60 (fun K hK => ?_)
  repeat' ((conv => whnf); first | refine ⟨fun h => ?_, fun h => ?_⟩ | refine ⟨?_, ?_⟩ | refine hK _ _ _ _ ?_)
  · exact xF_zret o_Mo_in rfl rfl (Or.inl rfl) ⟨rfl, by grind⟩
  · exact xF_zret o_Mo_in rfl rfl (Or.inl rfl) ⟨rfl, by grind⟩
  · exact xF_zret o_Mo_in rfl rfl (Or.inr rfl) ⟨rfl, by grind⟩
theorem E_isItemNumber (l : Launch) (G : xG) (n : Int32) (M : xMe) : xE l G y_DS_isItemNumber [.int n] M (fun r M' => M' = M ∧ r = some (.int (if 0 ≤ n ∧ n < 24 then 1 else 0))) := by
  refine xE_of [some (.int n)] (by decide +kernel) (Nat.le_of_ble_eq_true rfl) rfl ?_
  refine xF_go o_DS_isItemNumber [] 60 (fun K hK => ?_)
  repeat' ((conv => whnf); first | refine ⟨fun h => ?_, fun h => ?_⟩ | refine ⟨?_, ?_⟩ | refine hK _ _ _ _ ?_)
  · exact xF_zret o_DS_isItemNumber rfl rfl (Or.inl rfl) ⟨rfl, by grind⟩
  · exact xF_zret o_DS_isItemNumber rfl rfl (Or.inl rfl) ⟨rfl, by grind⟩
  · exact xF_zret o_DS_isItemNumber rfl rfl (Or.inr rfl) ⟨rfl, by grind⟩
theorem E_isFunction (l : Launch) (G : xG) (n : Int32) (M : xMe) : xE l G y_DS_isFunction [.int n] M (fun r M' => M' = M ∧ r = some (.int (if 0 ≤ n ∧ n < 12 then 1 else 0))) := by
  refine xE_of [some (.int n)] (by decide +kernel) (Nat.le_of_ble_eq_true rfl) rfl ?_
  refine xF_go o_DS_isFunction [] 60 (fun K hK => ?_)
  repeat' ((conv => whnf); first | refine ⟨fun h => ?_, fun h => ?_⟩ | refine ⟨?_, ?_⟩ | refine hK _ _ _ _ ?_)
  · exact xF_zret o_DS_isFunction rfl rfl (Or.inl rfl) ⟨rfl, by grind⟩
  · exact xF_zret o_DS_isFunction rfl rfl (Or.inl rfl) ⟨rfl, by grind⟩
  · exact xF_zret o_DS_isFunction rfl rfl (Or.inr rfl) ⟨rfl, by grind⟩
theorem E_isRegister (l : Launch) (G : xG) (n : Int32) (M : xMe) : xE l G y_DS_isRegister [.int n] M (fun r M' => M' = M ∧ r = some (.int (if 0 ≤ n ∧ n < 4 then 1 else 0))) := by
  refine xE_of [some (.int n)] (by decide +kernel) (Nat.le_of_ble_eq_true rfl) rfl ?_
  refine xF_go o_DS_isRegister [] 60 (fun K hK => ?_)
  repeat' ((conv => whnf); first | refine ⟨fun h => ?_, fun h => ?_⟩ | refine ⟨?_, ?_⟩ | refine hK _ _ _ _ ?_)
  · exact xF_zret o_DS_isRegister rfl rfl (Or.inl rfl) ⟨rfl, by grind⟩
  · exact xF_zret o_DS_isRegister rfl rfl (Or.inl rfl) ⟨rfl, by grind⟩
  · exact xF_zret o_DS_isRegister rfl rfl (Or.inr rfl) ⟨rfl, by grind⟩
theorem E_asNumber (l : Launch) (G : xG) (n : Int32) (M : xMe) : xE l G y_DS_asNumber [.int n] M (fun r M' => M' = M ∧ r = some (.int (if n = 0 then 0 else 1))) := by
  refine xE_of [some (.int n)] (by decide +kernel) (Nat.le_of_ble_eq_true rfl) rfl ?_
  refine xF_go o_DS_asNumber [] 60 (fun K hK => ?_)
  repeat' ((conv => whnf); first | refine ⟨fun h => ?_, fun h => ?_⟩ | refine ⟨?_, ?_⟩ | refine hK _ _ _ _ ?_)
  · exact xF_iret o_DS_asNumber rfl rfl ⟨rfl, by grind⟩
  · exact xF_iret o_DS_asNumber rfl rfl ⟨rfl, by grind⟩
theorem E_gap (l : Launch) (G : xG) (a b : Int32) (M : xMe) : xE l G y_BO_gap [.int a, .int b] M (fun r M' => M' = M ∧ r = some (.int ((-a) &&& (b - 1)))) := by
  refine xE_of [some (.int a), some (.int b)] (by decide +kernel) (Nat.le_of_ble_eq_true rfl) rfl ?_
  refine xF_go o_BO_gap [] 60 (fun K hK => ?_)
  repeat' ((conv => whnf); first | refine ⟨fun h => ?_, fun h => ?_⟩ | refine ⟨?_, ?_⟩ | refine hK _ _ _ _ ?_)
  · exact xF_iret o_BO_gap rfl rfl ⟨rfl, rfl⟩
theorem E_slotOf (l : Launch) (G : xG) (a b : Int32) (M : xMe) : xE l G y_Re_slotOf [.int a, .int b] M (fun r M' => M' = M ∧ r = some (.int (a * 41 + b))) := by
  refine xE_of [some (.int a), some (.int b)] (by decide +kernel) (Nat.le_of_ble_eq_true rfl) rfl ?_
  refine xF_go o_Re_slotOf [] 60 (fun K hK => ?_)
  repeat' ((conv => whnf); first | refine ⟨fun h => ?_, fun h => ?_⟩ | refine ⟨?_, ?_⟩ | refine hK _ _ _ _ ?_)
  · exact xF_iret o_Re_slotOf rfl rfl ⟨rfl, rfl⟩
theorem E_setAt (l : Launch) (G : xG) (a b : Int32) (M : xMe) : xE l G y_Re_setAt [.int a, .int b] M (fun r M' => M' = M ∧ r = some (.int (a * 16 + b * 4))) := by
  refine xE_of [some (.int a), some (.int b)] (by decide +kernel) (Nat.le_of_ble_eq_true rfl) rfl ?_
  refine xF_go o_Re_setAt [] 60 (fun K hK => ?_)
  repeat' ((conv => whnf); first | refine ⟨fun h => ?_, fun h => ?_⟩ | refine ⟨?_, ?_⟩ | refine hK _ _ _ _ ?_)
  · exact xF_iret o_Re_setAt rfl rfl ⟨rfl, rfl⟩
theorem E_standAt (l : Launch) (G : xG) (a b : Int32) (M : xMe) : xE l G y_Re_standAt [.int a, .int b] M (fun r M' => M' = M ∧ r = some (.int ((a * 64 + b) * 4))) := by
  refine xE_of [some (.int a), some (.int b)] (by decide +kernel) (Nat.le_of_ble_eq_true rfl) rfl ?_
  refine xF_go o_Re_standAt [] 60 (fun K hK => ?_)
  repeat' ((conv => whnf); first | refine ⟨fun h => ?_, fun h => ?_⟩ | refine ⟨?_, ?_⟩ | refine hK _ _ _ _ ?_)
  · exact xF_iret o_Re_standAt rfl rfl ⟨rfl, rfl⟩
theorem E_octetOf (l : Launch) (G : xG) (v : Int64) (i : Int32) (M : xMe) : xE l G y_DS_octetOf [.long v, .int i] M (fun r M' => M' = M ∧ r = some (.int ((v.toUInt64 >>> ((8 * (7 - i)).toInt64.toUInt64 &&& Int64.toUInt64 63)).toInt64.toInt32 &&& 255))) := by
  refine xE_of [some (.long v), none, some (.int i)] (by decide +kernel) (Nat.le_of_ble_eq_true rfl) rfl ?_
  refine xF_go o_DS_octetOf [] 60 (fun K hK => ?_)
  repeat' ((conv => whnf); first | refine ⟨fun h => ?_, fun h => ?_⟩ | refine ⟨?_, ?_⟩ | refine hK _ _ _ _ ?_)
  · exact xF_iret o_DS_octetOf rfl rfl ⟨rfl, rfl⟩
theorem E_min (l : Launch) (G : xG) (a b : Int32) (M : xMe) : xE l G y_JM_min [.int a, .int b] M (fun r M' => M' = M ∧ r = some (.int (if a ≤ b then a else b))) := by
  refine xE_of [some (.int a), some (.int b)] (by decide +kernel) (Nat.le_of_ble_eq_true rfl) rfl ?_
  refine xF_go o_JM_min [] 60 (fun K hK => ?_)
  repeat' ((conv => whnf); first | refine ⟨fun h => ?_, fun h => ?_⟩ | refine ⟨?_, ?_⟩ | refine hK _ _ _ _ ?_)
  · exact xF_iret o_JM_min rfl rfl ⟨rfl, by grind⟩
  · exact xF_iret o_JM_min rfl rfl ⟨rfl, by grind⟩
theorem E_max (l : Launch) (G : xG) (a b : Int32) (M : xMe) : xE l G y_JM_max [.int a, .int b] M (fun r M' => M' = M ∧ r = some (.int (if a ≤ b then b else a))) := by
  refine xE_of [some (.int a), some (.int b)] (by decide +kernel) (Nat.le_of_ble_eq_true rfl) rfl ?_
  refine xF_go o_JM_max [] 60 (fun K hK => ?_)
  repeat' ((conv => whnf); first | refine ⟨fun h => ?_, fun h => ?_⟩ | refine ⟨?_, ?_⟩ | refine hK _ _ _ _ ?_)
  · exact xF_iret o_JM_max rfl rfl ⟨rfl, by grind⟩
  · exact xF_iret o_JM_max rfl rfl ⟨rfl, by grind⟩
theorem L_fill1 (l : Launch) (G : xG) (c : Nat) (hc : c = 19 ∨ c = 38 ∨ c = 39 ∨ c = 40 ∨ c = 42 ∨ c = 46) (v : Int32) (Q : Option Value → xMe → Prop) : ∀ (n j : Nat) (M : xMe), n + j = xtl c → Q none (xsI M c (fun i => if j ≤ i ∧ i < xtl c then v else M.1 c i)) → xF l G y_JA_fill1 5 [some (.ref c), some (.int v), some (.int (nI j)), some (.int (nI (xtl c)))] [] M Q := by
  have hlt : xtl c < 2 ^ 31 := by rcases hc with rfl | rfl | rfl | rfl | rfl | rfl <;> decide
  intro n
  induction n with
  | zero =>
    intro j M hj hQ
    refine xF_go o_JA_fill1 [5] 50 (fun K hK => ?_)
    conv => whnf
    refine ⟨fun h => ?_, fun h => absurd h (nI_nlt (by omega) (by omega))⟩
    conv => whnf
    refine hK _ _ _ _ (xF_vret o_JA_fill1 rfl rfl ?_)
    rw [xsI_id (fun i => by rw [if_neg (by omega)])] at hQ
    exact hQ
  | succ n ih =>
    intro j M hj hQ
    refine xF_go o_JA_fill1 [5] 50 (fun K hK => ?_)
    conv => whnf
    refine ⟨fun h => absurd (nI_lt (by omega) (by omega)) h, fun h => ?_⟩
    have key : vp_in (nI j) (xtl c) ∧ K 5 [some (.ref c), some (.int v), some (.int (nI j + 1)), some (.int (nI (xtl c)))] [] (xsI M c (upd (M.1 c) (nI j).toNatClampNeg v)) := by
      refine ⟨vp_in_nI (by omega) hlt, ?_⟩
      rw [nI_1, nI_clamp (by omega)]
      refine hK _ _ _ _ (ih (j + 1) _ (by omega) ?_)
      rw [xsI_II, xsI_s]
      rw [xsI_c (g := fun i => if j ≤ i ∧ i < xtl c then v else M.1 c i)]
      · exact hQ
      · intro i
        unfold upd
        grind
    rcases hc with rfl | rfl | rfl | rfl | rfl | rfl <;> exact key
theorem E_fill1 (l : Launch) (G : xG) (c : Nat) (hc : c = 19 ∨ c = 38 ∨ c = 39 ∨ c = 40 ∨ c = 42 ∨ c = 46) (v : Int32) (M : xMe) : xE l G y_JA_fill1 [.ref c, .int v] M (fun r M' => r = none ∧ M' = xsI M c (fun i => if i < xtl c then v else M.1 c i)) := by
  refine xE_of [some (.ref c), some (.int v), none, none] (by decide +kernel) (Nat.le_of_ble_eq_true rfl) rfl ?_
  refine xF_go o_JA_fill1 [5] 50 (fun K hK => ?_)
  have key : K 5 [some (.ref c), some (.int v), some (.int (nI 0)), some (.int (nI (xtl c)))] [] M := by
    refine hK _ _ _ _ (L_fill1 l G c hc v _ (xtl c) 0 M (by omega) ⟨rfl, ?_⟩)
    exact xsI_c (fun i => by simp)
  rcases hc with rfl | rfl | rfl | rfl | rfl | rfl <;> exact key
theorem L_fill2 (l : Launch) (G : xG) (c : Nat) (hc : c = 18 ∨ c = 23 ∨ c = 24 ∨ c = 25 ∨ c = 26 ∨ c = 27) (v : Int64) (Q : Option Value → xMe → Prop) : ∀ (n j : Nat) (M : xMe), n + j = xtl c → Q none (xsL M c (fun i => if j ≤ i ∧ i < xtl c then v else M.2 c i)) → xF l G y_JA_fill2 6 [some (.ref c), some (.long v), none, some (.int (nI j)), some (.int (nI (xtl c)))] [] M Q := by
  have hlt : xtl c < 2 ^ 31 := by rcases hc with rfl | rfl | rfl | rfl | rfl | rfl <;> decide
  intro n
  induction n with
  | zero =>
    intro j M hj hQ
    refine xF_go o_JA_fill2 [6] 50 (fun K hK => ?_)
    conv => whnf
    refine ⟨fun h => ?_, fun h => absurd h (nI_nlt (by omega) (by omega))⟩
    conv => whnf
    refine hK _ _ _ _ (xF_vret o_JA_fill2 rfl rfl ?_)
    rw [xsL_id (fun i => by rw [if_neg (by omega)])] at hQ
    exact hQ
  | succ n ih =>
    intro j M hj hQ
    refine xF_go o_JA_fill2 [6] 50 (fun K hK => ?_)
    conv => whnf
    refine ⟨fun h => absurd (nI_lt (by omega) (by omega)) h, fun h => ?_⟩
    have key : vp_in (nI j) (xtl c) ∧ K 6 [some (.ref c), some (.long v), none, some (.int (nI j + 1)), some (.int (nI (xtl c)))] [] (xsL M c (vp_updL (M.2 c) (nI j).toNatClampNeg v)) := by
      refine ⟨vp_in_nI (by omega) hlt, ?_⟩
      rw [nI_1, nI_clamp (by omega)]
      refine hK _ _ _ _ (ih (j + 1) _ (by omega) ?_)
      rw [xsL_LL, xsL_s]
      rw [xsL_c (g := fun i => if j ≤ i ∧ i < xtl c then v else M.2 c i)]
      · exact hQ
      · intro i
        unfold vp_updL
        grind
    rcases hc with rfl | rfl | rfl | rfl | rfl | rfl <;> exact key
theorem E_fill2 (l : Launch) (G : xG) (c : Nat) (hc : c = 18 ∨ c = 23 ∨ c = 24 ∨ c = 25 ∨ c = 26 ∨ c = 27) (v : Int64) (M : xMe) : xE l G y_JA_fill2 [.ref c, .long v] M (fun r M' => r = none ∧ M' = xsL M c (fun i => if i < xtl c then v else M.2 c i)) := by
  refine xE_of [some (.ref c), some (.long v), none, none, none] (by decide +kernel) (Nat.le_of_ble_eq_true rfl) rfl ?_
  refine xF_go o_JA_fill2 [6] 50 (fun K hK => ?_)
  have key : K 6 [some (.ref c), some (.long v), none, some (.int (nI 0)), some (.int (nI (xtl c)))] [] M := by
    refine hK _ _ _ _ (L_fill2 l G c hc v _ (xtl c) 0 M (by omega) ⟨rfl, ?_⟩)
    exact xsL_c (fun i => by simp)
  rcases hc with rfl | rfl | rfl | rfl | rfl | rfl <;> exact key
