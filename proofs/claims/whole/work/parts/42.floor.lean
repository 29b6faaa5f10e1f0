/-! Math.floorMod; small ones of the reference -/
def fmz (x y : Int32) : Int32 := if x ^^^ y < 0 ∧ ¬ (x - x / y * y) = 0 then x - x / y * y + y else x - x / y * y
theorem fmz_256 : ∀ n, n < 766 → fmz (nI n - 255) 256 = nI ((n + 1) % 256) := by decide +kernel
theorem and_255 : ∀ n, n < 766 → ((nI n - 255 + 256) &&& 255 : Int32) = nI ((n + 1) % 256) := by decide +kernel
section XFL
variable (l : Launch) (G : xG)
theorem E_floorMod (x y : Int32) (hy : ¬ y = 0) (M : xMe) : xE l G y_JM_floorMod [.int x, .int y] M (fun r M' => M' = M ∧ r = some (.int (fmz x y))) := by
  refine xE_of [some (.int x), some (.int y), none] (by decide +kernel) (Nat.le_of_ble_eq_true rfl) rfl ?_
  refine xF_go o_JM_floorMod [] 60 (fun K hK => ?_)
  repeat' ((conv => whnf); first | refine ⟨fun h => ?_, fun h => ?_⟩ | refine ⟨?_, ?_⟩ | refine hK _ _ _ _ ?_)
  · exact hy
  · refine xF_iret o_JM_floorMod rfl rfl ?_
    have h1 : ¬ x ^^^ y < 0 := by assumption
    unfold fmz
    rw [if_neg (fun z => h1 z.1)]
    exact ⟨rfl, rfl⟩
  · refine xF_iret o_JM_floorMod rfl rfl ?_
    have h1 : x - x / y * y = 0 := by assumption
    unfold fmz
    rw [if_neg (fun z => z.2 h1)]
    exact ⟨rfl, rfl⟩
  · refine xF_iret o_JM_floorMod rfl rfl ?_
    have h1 : x ^^^ y < 0 := by assumption
    have h2 : ¬ x - x / y * y = 0 := by assumption
    unfold fmz
    rw [if_pos ⟨h1, h2⟩]
    exact ⟨rfl, rfl⟩
theorem E_place (k : Nat) (hk : k < 24) (p : Int32) (M : xMe) : xE l G y_Mo_place [.ref 50, .int (nI k), .int p] M (fun r M' => M' = M ∧ r = some (.int (if M.1 50 25 = 0 then 64 * nI k + p else M.1 85 k + p))) := by
  refine xE_of [some (.ref 50), some (.int (nI k)), some (.int p)] (by decide +kernel) (Nat.le_of_ble_eq_true rfl) rfl ?_
  refine xF_go o_Mo_place [] 60 (fun K hK => ?_)
  repeat' ((conv => whnf); first | refine ⟨fun h => ?_, fun h => ?_⟩ | refine ⟨?_, ?_⟩ | refine hK _ _ _ _ ?_)
  · refine xF_iret o_Mo_place rfl rfl ?_
    have h1 : M.1 50 25 = 0 := by assumption
    rw [if_pos h1]
    exact ⟨rfl, rfl⟩
  · exact vp_in_nI hk (by decide)
  · refine xF_iret o_Mo_place rfl rfl ?_
    have h1 : ¬ M.1 50 25 = 0 := by assumption
    rw [if_neg h1, nI_clamp (by omega)]
    exact ⟨rfl, rfl⟩
end XFL
