/-! the reference's chains, whole -/
def dIni (P : sP) : Nat → Option Nat := fun x => if x < 12 ∧ pE P x = true then some 1 else none
theorem dIni_i {P : sP} {L : Nat → Nat → Prop} : iD (ent P) L (dIni P) := by
  refine ⟨fun x d h => ?_, fun x _ he => if_pos he⟩
  unfold dIni at h
  by_cases e : x < 12 ∧ pE P x = true
  · rw [if_pos e] at h
    cases h
    refine ⟨by omega, Nat.le_refl _, e, ?_⟩
    have := sm_lt (n := 36) (a := fun _ => 0) (b := fun y => ind (∃ d, dIni P y = some d ∧ d ≤ 1)) (fun _ _ => Nat.zero_le _) (show x < 36 by omega) (by show 0 < ind _; rw [ind_t ⟨1, if_pos e, Nat.le_refl _⟩]; omega)
    show 1 ≤ sm 36 (fun y => ind (∃ d, dIni P y = some d ∧ d ≤ 1))
    omega
  · rw [if_neg e] at h
    cases h
section XCX
variable (l : Launch) (G : xG)
theorem L_why (P : sP) (M0 : xMe) (hE : mE P M0) (Q : Option Value → xMe → Prop) (hQ : ∀ x, xF l G y_Mo_chains 40 [some (.ref 50), x, none, none] [] (xsI M0 82 (fun i => if i < 36 then oI (dIni P i) else M0.1 82 i)) Q) : ∀ (m k : Nat), m + k = 36 → xF l G y_Mo_chains 2 [some (.ref 50), some (.int (nI k)), none, none] [] (xsI M0 82 (fun i => if i < k then oI (dIni P i) else M0.1 82 i)) Q := by
  intro m
  induction m with
  | zero =>
    intro k hk
    obtain rfl : k = 36 := by omega
    refine xF_go o_Mo_chains [2, 40] 60 (fun K hK => ?_)
    repeat' ((conv => whnf); first | refine ⟨fun h => ?_, fun h => ?_⟩ | refine ⟨?_, ?_⟩ | refine hK _ _ _ _ ?_)
    · exact hQ _
    all_goals exact absurd (show nI 36 < nI 36 from by assumption) (nI_nlt (by omega) (by omega))
  | succ m ih =>
    intro k hk
    have hih := ih (k + 1) (by omega)
    have ik : vp_in (nI k) 36 := vp_in_nI (by omega) (by decide)
    have fin : ∀ z : Int32, z = oI (dIni P k) → xF l G y_Mo_chains 2 [some (.ref 50), some (.int (nI k + 1)), none, none] [] (xsI (xsI M0 82 (fun i => if i < k then oI (dIni P i) else M0.1 82 i)) 82 (upd (fun i => if i < k then oI (dIni P i) else M0.1 82 i) (nI k).toNatClampNeg z)) Q := by
      rintro z rfl
      rw [nI_1, nI_clamp (by omega), xsI_II]
      rw [xsI_c (g := upd (fun i => if i < k then oI (dIni P i) else M0.1 82 i) k (oI (dIni P k)))] at hih
      · exact hih
      · intro i
        by_cases e : i = k
        · subst e
          rw [upd_s, if_pos (by omega)]
        · rw [upd_n e]
          by_cases e2 : i < k
          · rw [if_pos e2, if_pos (by omega)]
          · rw [if_neg e2, if_neg (by omega)]
    refine xF_go o_Mo_chains [2, 40] 60 (fun K hK => ?_)
    repeat' ((conv => whnf); first | refine ⟨fun h => ?_, fun h => ?_⟩ | refine ⟨?_, ?_⟩ | refine hK _ _ _ _ ?_)
    · exact absurd (nI_lt (b := 36) (by omega) (by omega)) h
    · exact ik
    · have h0 : ¬ nI k < nI 12 := by assumption
      rw [nI_ltI (by omega) (by omega)] at h0
      exact fin (-1) (by unfold dIni; rw [if_neg (fun z => h0 z.1)]; rfl)
    · have h0 : nI k < nI 12 := by assumption
      rw [nI_ltI (by omega) (by omega)] at h0
      exact vp_in_nI (N := 12) h0 (by decide)
    · exact ik
    · have h0 : nI k < nI 12 := by assumption
      rw [nI_ltI (by omega) (by omega)] at h0
      have h1 : M0.1 62 (nI k).toNatClampNeg = 0 := by assumption
      rw [nI_clamp (by omega), hE k h0] at h1
      have hpe : ¬ pE P k = true := fun z => by rw [z] at h1; exact absurd h1 (by decide)
      exact fin (-1) (by unfold dIni; rw [if_neg (fun z => hpe z.2)]; rfl)
    · exact ik
    · have h0 : nI k < nI 12 := by assumption
      rw [nI_ltI (by omega) (by omega)] at h0
      have h1 : ¬ M0.1 62 (nI k).toNatClampNeg = 0 := by assumption
      rw [nI_clamp (by omega), hE k h0] at h1
      have hpe : pE P k = true := by
        cases e : pE P k with
        | true => rfl
        | false => rw [e] at h1; exact absurd rfl h1
      exact fin 1 (by unfold dIni; rw [if_pos ⟨h0, hpe⟩]; rfl)
end XCX
