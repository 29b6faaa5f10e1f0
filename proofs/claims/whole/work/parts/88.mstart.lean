/-! the reference's reach: how it starts -/
section XMS8
variable (l : Launch) (G : xG)
theorem L_z69 (M0 : xMe) (y : Option Value) (Q : Option Value → xMe → Prop) (hQ : ∀ x, xF l G y_Mo_reach 24 [some (.ref 50), x, y] [] (xsL M0 69 (fun i => if i < 7872 then 0 else M0.2 69 i)) Q) : ∀ (m k : Nat), m + k = 7872 → xF l G y_Mo_reach 2 [some (.ref 50), some (.int (nI k)), y] [] (xsL M0 69 (fun i => if i < k then 0 else M0.2 69 i)) Q := by
  intro m
  induction m with
  | zero =>
    intro k hk
    obtain rfl : k = 7872 := by omega
    refine xF_go o_Mo_reach [2, 24] 60 (fun K hK => ?_)
    repeat' ((conv => whnf); first | refine ⟨fun h => ?_, fun h => ?_⟩ | refine ⟨?_, ?_⟩ | refine hK _ _ _ _ ?_)
    · exact hQ _
    all_goals exact absurd (show nI 7872 < nI 7872 from by assumption) (nI_nlt (by omega) (by omega))
  | succ m ih =>
    intro k hk
    have hih := ih (k + 1) (by omega)
    refine xF_go o_Mo_reach [2, 24] 60 (fun K hK => ?_)
    repeat' ((conv => whnf); first | refine ⟨fun h => ?_, fun h => ?_⟩ | refine ⟨?_, ?_⟩ | refine hK _ _ _ _ ?_)
    · exact absurd (nI_lt (b := 7872) (by omega) (by omega)) h
    · exact vp_in_nI (N := 7872) (by omega) (by decide)
    · rw [nI_1, nI_clamp (by omega), xsL_LL]
      rw [xsL_c (g := vp_updL (fun i => if i < k then 0 else M0.2 69 i) k 0) (fun i => (updL_lt (h := fun _ => 0)).symm)] at hih
      exact hih
theorem L_z71 (M0 : xMe) (y : Option Value) (Q : Option Value → xMe → Prop) (hQ : ∀ x, xF l G y_Mo_reach 46 [some (.ref 50), x, y] [] (xsL M0 71 (fun i => if i < 192 then 0 else M0.2 71 i)) Q) : ∀ (m k : Nat), m + k = 192 → xF l G y_Mo_reach 26 [some (.ref 50), some (.int (nI k)), y] [] (xsL M0 71 (fun i => if i < k then 0 else M0.2 71 i)) Q := by
  intro m
  induction m with
  | zero =>
    intro k hk
    obtain rfl : k = 192 := by omega
    refine xF_go o_Mo_reach [26, 46] 60 (fun K hK => ?_)
    repeat' ((conv => whnf); first | refine ⟨fun h => ?_, fun h => ?_⟩ | refine ⟨?_, ?_⟩ | refine hK _ _ _ _ ?_)
    · exact hQ _
    all_goals exact absurd (show nI 192 < nI 192 from by assumption) (nI_nlt (by omega) (by omega))
  | succ m ih =>
    intro k hk
    have hih := ih (k + 1) (by omega)
    refine xF_go o_Mo_reach [26, 46] 60 (fun K hK => ?_)
    repeat' ((conv => whnf); first | refine ⟨fun h => ?_, fun h => ?_⟩ | refine ⟨?_, ?_⟩ | refine hK _ _ _ _ ?_)
    · exact absurd (nI_lt (b := 192) (by omega) (by omega)) h
    · exact vp_in_nI (N := 192) (by omega) (by decide)
    · rw [nI_1, nI_clamp (by omega), xsL_LL]
      rw [xsL_c (g := vp_updL (fun i => if i < k then 0 else M0.2 71 i) k 0) (fun i => (updL_lt (h := fun _ => 0)).symm)] at hih
      exact hih
theorem L_z72 (M0 : xMe) (y : Option Value) (Q : Option Value → xMe → Prop) (hQ : ∀ x, xF l G y_Mo_reach 68 [some (.ref 50), x, y] [] (xsI M0 72 (fun i => if i < 492 then 0 else M0.1 72 i)) Q) : ∀ (m k : Nat), m + k = 492 → xF l G y_Mo_reach 48 [some (.ref 50), some (.int (nI k)), y] [] (xsI M0 72 (fun i => if i < k then 0 else M0.1 72 i)) Q := by
  intro m
  induction m with
  | zero =>
    intro k hk
    obtain rfl : k = 492 := by omega
    refine xF_go o_Mo_reach [48, 68] 60 (fun K hK => ?_)
    repeat' ((conv => whnf); first | refine ⟨fun h => ?_, fun h => ?_⟩ | refine ⟨?_, ?_⟩ | refine hK _ _ _ _ ?_)
    · exact hQ _
    all_goals exact absurd (show nI 492 < nI 492 from by assumption) (nI_nlt (by omega) (by omega))
  | succ m ih =>
    intro k hk
    have hih := ih (k + 1) (by omega)
    refine xF_go o_Mo_reach [48, 68] 60 (fun K hK => ?_)
    repeat' ((conv => whnf); first | refine ⟨fun h => ?_, fun h => ?_⟩ | refine ⟨?_, ?_⟩ | refine hK _ _ _ _ ?_)
    · exact absurd (nI_lt (b := 492) (by omega) (by omega)) h
    · exact vp_in_nI (N := 492) (by omega) (by decide)
    · exact Or.inl rfl
    · rw [nI_1, nI_clamp (by omega), xsI_II]
      rw [xsI_c (g := upd (fun i => if i < k then 0 else M0.1 72 i) k 0) (fun i => upd_lt.symm)] at hih
      exact hih
theorem L_now (f : Int32) (M0 : xMe) (Q : Option Value → xMe → Prop) (hQ : ∀ x, xF l G y_Mo_reach 231 [some (.ref 50), some (.int f), x] [] (xsL M0 78 (fun i => if i < 16 then (if i % 4 = 0 then 1 else 0) else M0.2 78 i)) Q) : ∀ (m w : Nat), m + w = 16 → xF l G y_Mo_reach 202 [some (.ref 50), some (.int f), some (.int (nI w))] [] (xsL M0 78 (fun i => if i < w then (if i % 4 = 0 then 1 else 0) else M0.2 78 i)) Q := by
  have e4 : ∀ w, w < 16 → ((nI w - nI w / 4 * 4 : Int32) = 0 ↔ w % 4 = 0) := by decide +kernel
  intro m
  induction m with
  | zero =>
    intro w hw
    obtain rfl : w = 16 := by omega
    refine xF_go o_Mo_reach [202, 231] 60 (fun K hK => ?_)
    repeat' ((conv => whnf); first | refine ⟨fun h => ?_, fun h => ?_⟩ | refine ⟨?_, ?_⟩ | refine hK _ _ _ _ ?_)
    · exact hQ _
    all_goals exact absurd (show nI 16 < nI 16 from by assumption) (nI_nlt (by omega) (by omega))
  | succ m ih =>
    intro w hw
    have hih := ih (w + 1) (by omega)
    have fin : ∀ x : Int64, x = (if w % 4 = 0 then 1 else 0) → xF l G y_Mo_reach 202 [some (.ref 50), some (.int f), some (.int (nI w + 1))] [] (xsL (xsL M0 78 (fun i => if i < w then (if i % 4 = 0 then 1 else 0) else M0.2 78 i)) 78 (vp_updL (fun i => if i < w then (if i % 4 = 0 then 1 else 0) else M0.2 78 i) w x)) Q := by
      rintro x rfl
      rw [nI_1, xsL_LL]
      rw [xsL_c (g := vp_updL (fun i => if i < w then (if i % 4 = 0 then 1 else 0) else M0.2 78 i) w (if w % 4 = 0 then 1 else 0)) (fun i => (updL_lt (h := fun i => if i % 4 = 0 then 1 else 0)).symm)] at hih
      exact hih
    refine xF_go o_Mo_reach [202, 231] 60 (fun K hK => ?_)
    repeat' ((conv => whnf); first | refine ⟨fun h => ?_, fun h => ?_⟩ | refine ⟨?_, ?_⟩ | refine hK _ _ _ _ ?_)
    · exact absurd (nI_lt (b := 16) (by omega) (by omega)) h
    · exact (by decide : ¬ (4 : Int32) = 0)
    · exact vp_in_nI (N := 16) (by omega) (by decide)
    · have h0 : ¬ nI w - nI w / 4 * 4 = 0 := by assumption
      rw [e4 w (by omega)] at h0
      rw [nI_clamp (by omega)]
      exact fin 0 (by rw [if_neg h0])
    · exact vp_in_nI (N := 16) (by omega) (by decide)
    · have h0 : nI w - nI w / 4 * 4 = 0 := by assumption
      rw [e4 w (by omega)] at h0
      rw [nI_clamp (by omega)]
      exact fin 1 (by rw [if_pos h0])
theorem L_z24 (M0 : xMe) (y : Option Value) (Q : Option Value → xMe → Prop) (hQ : ∀ M x, xfr [76, 77] M0 M → (∀ k, k < 24 → M.1 76 k = 0 ∧ M.1 77 k = 0) → xF l G y_Mo_reach 176 [some (.ref 50), x, y] [] M Q) : ∀ (m k : Nat), m + k = 24 → ∀ M, xfr [76, 77] M0 M → (∀ j, j < k → M.1 76 j = 0 ∧ M.1 77 j = 0) → xF l G y_Mo_reach 150 [some (.ref 50), some (.int (nI k)), y] [] M Q := by
  intro m
  induction m with
  | zero =>
    intro k hk M hfr hz
    obtain rfl : k = 24 := by omega
    refine xF_go o_Mo_reach [150, 176] 60 (fun K hK => ?_)
    repeat' ((conv => whnf); first | refine ⟨fun h => ?_, fun h => ?_⟩ | refine ⟨?_, ?_⟩ | refine hK _ _ _ _ ?_)
    · exact hQ M _ hfr hz
    all_goals exact absurd (show nI 24 < nI 24 from by assumption) (nI_nlt (by omega) (by omega))
  | succ m ih =>
    intro k hk M hfr hz
    refine xF_go o_Mo_reach [150, 176] 60 (fun K hK => ?_)
    repeat' ((conv => whnf); first | refine ⟨fun h => ?_, fun h => ?_⟩ | refine ⟨?_, ?_⟩ | refine hK _ _ _ _ ?_)
    · exact absurd (nI_lt (b := 24) (by omega) (by omega)) h
    · exact vp_in_nI (by show _ < 24; omega) (by decide)
    · exact Or.inl rfl
    · exact vp_in_nI (by show _ < 24; omega) (by decide)
    · exact Or.inl rfl
    · rw [nI_1, nI_clamp (by omega)]
      refine ih (k + 1) (by omega) _ ((hfr.I (by simp)).I (by simp)) (fun j hj => ?_)
      show upd (M.1 76) k 0 j = 0 ∧ upd (M.1 77) k 0 j = 0
      by_cases e : j = k
      · subst e
        rw [upd_s, upd_s]
        exact ⟨rfl, rfl⟩
      · rw [upd_n e, upd_n e]
        exact hz j (by omega)
end XMS8
