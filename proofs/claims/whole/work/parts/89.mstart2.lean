/-! the reference's reach: how it starts, on -/
def oneW (o w : Nat) : Int64 := if o / 64 = w then (1 : Int64) <<< ((nI (o % 64)).toInt64 &&& 63) else 0
theorem oneW_has {o v : Nat} (ho : o < 256) (hv : v < 256) : xbit (oneW o (v / 64)) (v % 64) = decide (v = o) := by
  unfold oneW
  by_cases e : o / 64 = v / 64
  · rw [if_pos e, xbit_1 (by omega)]
    by_cases e2 : v = o
    · subst e2; simp
    · simp [e2]; omega
  · rw [if_neg e, xbit_0]
    have : v ≠ o := fun z => e (by rw [z])
    simp [this]
section XMS9
variable (l : Launch) (G : xG)
theorem L_may2 (k o : Nat) (hk : k < 1536) (ho : o < 256) (M0 : xMe) (h54 : M0.1 54 k = nI o) (Q : Option Value → xMe → Prop) (hQ : ∀ x, xF l G y_Mo_reach 142 [some (.ref 50), some (.int (nI k)), x] [] (xsL M0 70 (rowIn (M0.2 70) (4 * k) 4 (oneW o))) Q) : ∀ (m w : Nat), m + w = 4 → xF l G y_Mo_reach 93 [some (.ref 50), some (.int (nI k)), some (.int (nI w))] [] (xsL M0 70 (rowIn (M0.2 70) (4 * k) w (oneW o))) Q := by
  intro m
  induction m with
  | zero =>
    intro w hw
    obtain rfl : w = 4 := by omega
    refine xF_go o_Mo_reach [93, 142] 60 (fun K hK => ?_)
    repeat' ((conv => whnf); first | refine ⟨fun h => ?_, fun h => ?_⟩ | refine ⟨?_, ?_⟩ | refine hK _ _ _ _ ?_)
    · exact hQ _
    all_goals exact absurd (show nI 4 < nI 4 from by assumption) (nI_nlt (by omega) (by omega))
  | succ m ih =>
    intro w hw
    have hih := ih (w + 1) (by omega)
    rw [rowIn_s] at hih
    have e4 : 4 * nI k + nI w = nI (4 * k + w) := by rw [four_n, nI_add]
    have i4 : vp_in (4 * nI k + nI w) 6144 := by rw [e4]; exact vp_in_nI (by omega) (by decide)
    have ik : vp_in (nI k) 1536 := vp_in_nI hk (by decide)
    have hv : M0.1 54 (nI k).toNatClampNeg = nI o := by rw [nI_clamp (by omega)]; exact h54
    refine xF_go o_Mo_reach [93, 142] 60 (fun K hK => ?_)
    repeat' ((conv => whnf); first | refine ⟨fun h => ?_, fun h => ?_⟩ | refine ⟨?_, ?_⟩ | refine hK _ _ _ _ ?_)
    · exact absurd (nI_lt (b := 4) (by omega) (by omega)) h
    · exact ik
    · exact i4
    · have h0 : ¬ M0.1 54 (nI k).toNatClampNeg >>> (6 &&& 31) = nI w := by assumption
      rw [hv, s64 o ho] at h0
      have h1 : ¬ o / 64 = w := fun z => h0 (by rw [z])
      rw [e4, nI_1, nI_clamp (by omega), xsL_LL]
      rw [show oneW o w = 0 from if_neg h1] at hih
      exact hih
    · exact ik
    · exact i4
    · have h0 : M0.1 54 (nI k).toNatClampNeg >>> (6 &&& 31) = nI w := by assumption
      rw [hv, s64 o ho] at h0
      have h1 : o / 64 = w := nI_inj (by omega) (by omega) h0
      show xF l G y_Mo_reach 93 _ [] (xsL (xsL M0 70 (rowIn (M0.2 70) (4 * k) w (oneW o))) 70 (vp_updL (rowIn (M0.2 70) (4 * k) w (oneW o)) (4 * nI k + nI w).toNatClampNeg ((1 : Int64) <<< ((M0.1 54 (nI k).toNatClampNeg &&& 63).toInt64 &&& 63)))) Q
      rw [hv, a63 o ho, e4, nI_1, nI_clamp (by omega), xsL_LL]
      rw [show oneW o w = (1 : Int64) <<< ((nI (o % 64)).toInt64 &&& 63) from if_pos h1] at hih
      exact hih
theorem L_may1 (P : sP) (hw : wP P) (M0 : xMe) (hO : mO P M0) (y0 : Option Value) (Q : Option Value → xMe → Prop) (hQ : ∀ M x y, xfr [70, 74, 75] M0 M → (∀ k, k < 1536 → M.1 74 k = 0 ∧ M.1 75 k = 0 ∧ ∀ v, v < 256 → sHas (M.2 70) (4 * k) v = decide (v = pO P (k / 64) (k % 64))) → xF l G y_Mo_reach 148 [some (.ref 50), x, y] [] M Q) : ∀ (m k : Nat), m + k = 1536 → ∀ M y, xfr [70, 74, 75] M0 M → (∀ j, j < k → M.1 74 j = 0 ∧ M.1 75 j = 0 ∧ ∀ v, v < 256 → sHas (M.2 70) (4 * j) v = decide (v = pO P (j / 64) (j % 64))) → xF l G y_Mo_reach 70 [some (.ref 50), some (.int (nI k)), y] [] M Q := by
  intro m
  induction m with
  | zero =>
    intro k hk M y hfr hz
    obtain rfl : k = 1536 := by omega
    refine xF_go o_Mo_reach [93, 148] 60 (fun K hK => ?_)
    repeat' ((conv => whnf); first | refine ⟨fun h => ?_, fun h => ?_⟩ | refine ⟨?_, ?_⟩ | refine hK _ _ _ _ ?_)
    · exact hQ M _ _ hfr hz
    all_goals exact absurd (show nI 1536 < nI 1536 from by assumption) (nI_nlt (by omega) (by omega))
  | succ m ih =>
    intro k hk M y hfr hz
    have ho := hw.2.1 (k / 64) (by omega) (k % 64) (by omega)
    have h54 : M.1 54 k = nI (pO P (k / 64) (k % 64)) := by
      rw [(hfr 54 (by decide)).1]
      have := hO (k / 64) (by omega) (k % 64) (by omega)
      rw [show k / 64 * 64 + k % 64 = k by omega] at this
      exact this
    have ik : vp_in (nI k) 1536 := vp_in_nI (by omega) (by decide)
    refine xF_go o_Mo_reach [93, 148] 60 (fun K hK => ?_)
    repeat' ((conv => whnf); first | refine ⟨fun h => ?_, fun h => ?_⟩ | refine ⟨?_, ?_⟩ | refine hK _ _ _ _ ?_)
    · exact absurd (nI_lt (b := 1536) (by omega) (by omega)) h
    · exact ik
    · exact Or.inl rfl
    · exact ik
    · exact Or.inl rfl
    · rw [nI_clamp (by omega)]
      clear hK K
      have e0 : xsI (xsI M 74 (upd (M.1 74) k 0)) 75 (upd (M.1 75) k 0) = xsL (xsI (xsI M 74 (upd (M.1 74) k 0)) 75 (upd (M.1 75) k 0)) 70 (rowIn (M.2 70) (4 * k) 0 (oneW (pO P (k / 64) (k % 64)))) := by
        rw [rowIn_0]
        exact (xsL_id (fun i => rfl)).symm
      have key := L_may2 l G k _ (by omega) ho (xsI (xsI M 74 (upd (M.1 74) k 0)) 75 (upd (M.1 75) k 0)) h54 Q ?_ 4 0 (by omega)
      · have key2 : xF l G y_Mo_reach 93 [some (.ref 50), some (.int (nI k)), some (.int (nI 0))] [] (xsL (xsI (xsI M 74 (upd (M.1 74) k 0)) 75 (upd (M.1 75) k 0)) 70 (rowIn (M.2 70) (4 * k) 0 (oneW (pO P (k / 64) (k % 64))))) Q := key
        rw [← e0] at key2
        exact key2
      · intro x
        refine xF_go o_Mo_reach [70] 60 (fun K hK => ?_)
        repeat' ((conv => whnf); first | refine ⟨fun h => ?_, fun h => ?_⟩ | refine ⟨?_, ?_⟩ | refine hK _ _ _ _ ?_)
        rw [nI_1]
        refine ih (k + 1) (by omega) _ _ (((hfr.I (by simp)).I (by simp)).L (by simp)) (fun j hj => ⟨?_, ?_, fun v hv => ?_⟩)
        · show upd (M.1 74) k 0 j = 0
          by_cases e : j = k
          · subst e; rw [upd_s]
          · rw [upd_n e]; exact (hz j (by omega)).1
        · show upd (M.1 75) k 0 j = 0
          by_cases e : j = k
          · subst e; rw [upd_s]
          · rw [upd_n e]; exact (hz j (by omega)).2.1
        · show sHas (rowIn (M.2 70) (4 * k) 4 (oneW (pO P (k / 64) (k % 64)))) (4 * j) v = _
          by_cases e : j = k
          · subst e
            unfold sHas rowIn
            rw [if_pos (by omega), show 4 * j + v / 64 - 4 * j = v / 64 by omega]
            exact oneW_has ho hv
          · rw [← (hz j (by omega)).2.2 v hv]
            unfold sHas rowIn
            rw [if_neg (by omega)]
end XMS9
