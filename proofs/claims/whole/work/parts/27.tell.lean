/-! Program: what is told -/
section XTL
variable (l : Launch) (G : xG)
/-- bits behind the clearing of references to an item, up to place (k, p) -/
def fgI (M0 : xMe) (s : Nat → Nat) (gone : Int32) (k p : Nat) (f : Nat → Int64) : Prop := ∀ j, j < 24 → ∀ q, q < 64 → xbit (f j) q = (xbit (M0.2 8 j) q && !(decide ((j < k ∨ (j = k ∧ q < p)) ∧ q < s j ∧ M0.1 7 (j * 64 + q) = gone)))
theorem fgI_same {M0 : xMe} {s : Nat → Nat} {gone : Int32} {k p : Nat} {f : Nat → Int64} (h : fgI M0 s gone k p f) (hn : ¬ M0.1 7 (k * 64 + p) = gone) : fgI M0 s gone k (p + 1) f := by
  intro j hj q hq
  rw [h j hj q hq]
  congr 2
  apply decide_eq_decide.mpr
  constructor
  · rintro ⟨h1, h2⟩
    exact ⟨by omega, h2⟩
  · rintro ⟨h1, h2, h3⟩
    refine ⟨?_, h2, h3⟩
    rcases h1 with h1 | ⟨rfl, h1⟩
    · exact Or.inl h1
    · refine Or.inr ⟨rfl, ?_⟩
      have : q ≠ p := fun e => hn (e ▸ h3)
      omega
theorem fgI_set {M0 : xMe} {s : Nat → Nat} {gone : Int32} {k p : Nat} {f : Nat → Int64} (hp : p < 64) (hs : p < s k) (h : fgI M0 s gone k p f) (hn : M0.1 7 (k * 64 + p) = gone) : fgI M0 s gone k (p + 1) (vp_updL f k (f k &&& ((1 : Int64) <<< ((nI p).toInt64 &&& 63) ^^^ -1))) := by
  intro j hj q hq
  unfold vp_updL
  by_cases hjk : j = k
  · subst hjk
    rw [if_pos rfl, xbit_and, xbit_not _ hq, xbit_1 hp, h j hj q hq]
    by_cases hqp : q = p
    · subst hqp
      simp [hs, hn]
    · have e : decide ((j < j ∨ j = j ∧ q < p) ∧ q < s j ∧ M0.1 7 (j * 64 + q) = gone) = decide ((j < j ∨ j = j ∧ q < p + 1) ∧ q < s j ∧ M0.1 7 (j * 64 + q) = gone) := by
        apply decide_eq_decide.mpr
        constructor
        · rintro ⟨h1, h2⟩; exact ⟨by omega, h2⟩
        · rintro ⟨h1, h2⟩; exact ⟨by omega, h2⟩
      rw [e]
      simp [hqp]
  · rw [if_neg hjk, h j hj q hq]
    congr 2
    apply decide_eq_decide.mpr
    constructor
    · rintro ⟨h1, h2⟩; exact ⟨by omega, h2⟩
    · rintro ⟨h1, h2⟩; exact ⟨by omega, h2⟩
theorem L_forgetIn (M0 : xMe) (s : Nat → Nat) (hs : ∀ j, j < 24 → M0.1 2 j = nI (s j) ∧ s j ≤ 64) (gone : Int32) (Q : Option Value → xMe → Prop) (k : Nat) (hk : k < 24) (hnext : ∀ f, fgI M0 s gone k (s k) f → xF l G y_Pr_forgetReferencesTo 57 [some (.ref 1), some (.int gone), some (.int (nI k)), some (.int (nI (s k)))] [] (xsL M0 8 f) Q) : ∀ (n p : Nat) (f : Nat → Int64), n + p = s k → fgI M0 s gone k p f → xF l G y_Pr_forgetReferencesTo 10 [some (.ref 1), some (.int gone), some (.int (nI k)), some (.int (nI p))] [] (xsL M0 8 f) Q := by
  have hsk := hs k hk
  intro n
  induction n with
  | zero =>
    intro p f hp hf
    refine xF_go o_Pr_forgetReferencesTo [10, 57] 60 (fun K hK => ?_)
    repeat' ((conv => whnf); first | refine ⟨fun h => ?_, fun h => ?_⟩ | refine ⟨?_, ?_⟩ | refine hK _ _ _ _ ?_)
    · exact vp_in_nI hk (by decide)
    · have e : p = s k := by omega
      subst e
      exact hnext f hf
    · rw [nI_clamp (by omega), xsL_1, hsk.1] at h
      exact absurd h (nI_nlt (by omega) (by omega))
    all_goals (rw [nI_clamp (by omega), xsL_1, hsk.1] at *; exact absurd (by assumption) (nI_nlt (a := p) (b := s k) (by omega) (by omega)))
  | succ n ih =>
    intro p f hp hf
    have hp64 : p < 64 := by omega
    refine xF_go o_Pr_forgetReferencesTo [10, 57] 60 (fun K hK => ?_)
    have hix : (nI k * 64 + nI p).toNatClampNeg = k * 64 + p := by rw [nI_16, nI_add, nI_clamp (by omega)]
    repeat' ((conv => whnf); first | refine ⟨fun h => ?_, fun h => ?_⟩ | refine ⟨?_, ?_⟩ | refine hK _ _ _ _ ?_)
    · exact vp_in_nI hk (by decide)
    · rw [nI_clamp (by omega), xsL_1, hsk.1] at h
      exact absurd (nI_lt (by omega) (by omega)) h
    · rw [nI_16, nI_add]
      exact vp_in_nI (N := 1536) (by omega) (by decide)
    · rename_i h
      rw [hix, xsL_1] at h
      rw [nI_1]
      exact ih (p + 1) f (by omega) (fgI_same hf h)
    · exact vp_in_nI hk (by decide)
    · exact vp_in_nI hk (by decide)
    · rename_i h
      rw [hix, xsL_1] at h
      rw [nI_1, nI_clamp (by omega), xsL_LL, xsL_s]
      exact ih (p + 1) _ (by omega) (fgI_set hp64 (by omega) hf h)
theorem L_forgetOut (M0 : xMe) (s : Nat → Nat) (hs : ∀ j, j < 24 → M0.1 2 j = nI (s j) ∧ s j ≤ 64) (gone : Int32) (Q : Option Value → xMe → Prop) (hnext : ∀ f, fgI M0 s gone 24 0 f → Q none (xsL M0 8 f)) : ∀ (n k : Nat) (f : Nat → Int64) (z : Option Value), n + k = 24 → fgI M0 s gone k 0 f → xF l G y_Pr_forgetReferencesTo 2 [some (.ref 1), some (.int gone), some (.int (nI k)), z] [] (xsL M0 8 f) Q := by
  intro n
  induction n with
  | zero =>
    intro k f z hk hf
    refine xF_go o_Pr_forgetReferencesTo [10, 57] 60 (fun K hK => ?_)
    repeat' ((conv => whnf); first | refine ⟨fun h => ?_, fun h => ?_⟩ | refine ⟨?_, ?_⟩ | refine hK _ _ _ _ ?_)
    · refine xF_vret o_Pr_forgetReferencesTo rfl rfl ?_
      have e : k = 24 := by omega
      subst e
      exact hnext f hf
    · exact absurd h (nI_nlt (b := 24) (by omega) (by omega))
  | succ n ih =>
    intro k f z hk hf
    refine xF_go o_Pr_forgetReferencesTo [10, 57] 60 (fun K hK => ?_)
    repeat' ((conv => whnf); first | refine ⟨fun h => ?_, fun h => ?_⟩ | refine ⟨?_, ?_⟩ | refine hK _ _ _ _ ?_)
    · exact absurd (nI_lt (b := 24) (by omega) (by omega)) h
    · refine L_forgetIn l G M0 s hs gone Q k (by omega) ?_ (s k) 0 f (by omega) hf
      intro f' hf'
      clear hK K
      refine xF_go o_Pr_forgetReferencesTo [2, 10] 60 (fun K hK => ?_)
      repeat' ((conv => whnf); first | refine ⟨fun h => ?_, fun h => ?_⟩ | refine ⟨?_, ?_⟩ | refine hK _ _ _ _ ?_)
      rw [nI_1]
      refine ih (k + 1) f' _ (by omega) ?_
      intro j hj q hq
      rw [hf' j hj q hq]
      congr 2
      apply decide_eq_decide.mpr
      constructor
      · rintro ⟨h1, h2, h3⟩
        exact ⟨by omega, h2, h3⟩
      · rintro ⟨h1, h2, h3⟩
        refine ⟨?_, h2, h3⟩
        rcases h1 with h1 | h1
        · by_cases e : j = k
          · subst e
            exact Or.inr ⟨rfl, h2⟩
          · exact Or.inl (by omega)
        · omega
theorem E_forget (M : xMe) (s : Nat → Nat) (hs : ∀ j, j < 24 → M.1 2 j = nI (s j) ∧ s j ≤ 64) (gone : Int32) : xE l G y_Pr_forgetReferencesTo [.ref 1, .int gone] M (fun r M' => r = none ∧ ∃ f, M' = xsL M 8 f ∧ ∀ j, j < 24 → ∀ q, q < 64 → xbit (f j) q = (xbit (M.2 8 j) q && !(decide (q < s j ∧ M.1 7 (j * 64 + q) = gone)))) := by
  refine xE_of [some (.ref 1), some (.int gone), none, none] (by decide +kernel) (Nat.le_of_ble_eq_true rfl) rfl ?_
  refine xF_go o_Pr_forgetReferencesTo [2] 60 (fun K hK => ?_)
  repeat' ((conv => whnf); first | refine ⟨fun h => ?_, fun h => ?_⟩ | refine ⟨?_, ?_⟩ | refine hK _ _ _ _ ?_)
  have e : M = xsL M 8 (M.2 8) := (xsL_id (fun _ => rfl)).symm
  have h0 := L_forgetOut l G M s hs gone (fun r M' => r = none ∧ ∃ f, M' = xsL M 8 f ∧ ∀ j, j < 24 → ∀ q, q < 64 → xbit (f j) q = (xbit (M.2 8 j) q && !(decide (q < s j ∧ M.1 7 (j * 64 + q) = gone)))) (fun f hf => ⟨rfl, f, rfl, fun j hj q hq => by
    rw [hf j hj q hq]
    congr 2
    apply decide_eq_decide.mpr
    exact ⟨fun h => h.2, fun h => ⟨Or.inl hj, h⟩⟩⟩) 24 0 (M.2 8) none (by omega) (fun j hj q hq => by simp)
  rw [← e] at h0
  exact h0
end XTL
