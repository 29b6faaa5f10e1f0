/-! Program: what may be told -/
theorem xF_post {l : Launch} {G : xG} {Y : xMD} {pc : Nat} {lv : xLv} {st : List Value} {M : xMe} {Q Q' : Option Value → xMe → Prop} (hQ : ∀ v M, Q' v M → Q v M) (h : xF l G Y pc lv st M Q') : xF l G Y pc lv st M Q := xc_post (fun _ _ _ z => ⟨z.1, hQ _ _ z.2⟩) h
def vItem (k n a g : Int32) : Prop := (0 ≤ k ∧ k < 24) ∧ (0 ≤ n ∧ n ≤ 64) ∧ (a = 1 ∨ a = 2 ∨ a = 4 ∨ a = 8) ∧ (0 ≤ g ∧ g ≤ 3)
section XPS
variable (l : Launch) (G : xG)
theorem L_isItem (k n a g z : Int32) (M : xMe) : xF l G y_Pr_isItem 28 [some (.int k), some (.int n), some (.int a), some (.int g), some (.int z)] [] M (fun r M' => M' = M ∧ ∃ b, r = some (.int (b2 b)) ∧ (b = true ↔ (0 ≤ k ∧ k < 24) ∧ (0 ≤ n ∧ n ≤ 64) ∧ ¬ z = 0 ∧ (0 ≤ g ∧ g ≤ 3))) := by
  refine xF_go o_Pr_isItem [] 50 (fun K hK => ?_)
  repeat' ((conv => whnf); first | refine ⟨fun h => ?_, fun h => ?_⟩ | refine ⟨?_, ?_⟩ | refine hK _ _ _ _ ?_)
  refine xF_callS o_Pr_isItem [.int k] rfl z_DS_isItemNumber s_DS_isItemNumber l_Pr_56 rfl ⟨⟨by decide, by decide⟩, rfl, rfl⟩ (Nat.le_of_ble_eq_true rfl) rfl (E_isItemNumber l G k M) ?_
  rintro v M1 ⟨rfl, rfl⟩
  clear hK K
  refine xF_go o_Pr_isItem [] 50 (fun K hK => ?_)
  repeat' ((conv => whnf); first | refine ⟨fun h => ?_, fun h => ?_⟩ | refine ⟨?_, ?_⟩ | refine hK _ _ _ _ ?_)
  · refine xF_zret o_Pr_isItem rfl rfl (Or.inl rfl) ?_
    exact ⟨rfl, false, rfl, by grind⟩
  refine xF_callS o_Pr_isItem [.int n, .int 0, .int 64] rfl z_DS_within s_DS_within l_Pr_60 rfl ⟨⟨by decide, by decide⟩, rfl, rfl⟩ (Nat.le_of_ble_eq_true rfl) rfl (E_within l G n 0 64 M1) ?_
  rintro v M ⟨rfl, rfl⟩
  clear hK K
  refine xF_go o_Pr_isItem [] 50 (fun K hK => ?_)
  repeat' ((conv => whnf); first | refine ⟨fun h => ?_, fun h => ?_⟩ | refine ⟨?_, ?_⟩ | refine hK _ _ _ _ ?_)
  · refine xF_zret o_Pr_isItem rfl rfl (Or.inl rfl) ?_
    exact ⟨rfl, false, rfl, by grind⟩
  · refine xF_zret o_Pr_isItem rfl rfl (Or.inl rfl) ?_
    exact ⟨rfl, false, rfl, by grind⟩
  refine xF_callS o_Pr_isItem [.int g, .int 0, .int 3] rfl z_DS_within s_DS_within l_Pr_60 rfl ⟨⟨by decide, by decide⟩, rfl, rfl⟩ (Nat.le_of_ble_eq_true rfl) rfl (E_within l G g 0 3 M) ?_
  rintro v M1 ⟨rfl, rfl⟩
  clear hK K
  refine xF_go o_Pr_isItem [] 50 (fun K hK => ?_)
  repeat' ((conv => whnf); first | refine ⟨fun h => ?_, fun h => ?_⟩ | refine ⟨?_, ?_⟩ | refine hK _ _ _ _ ?_)
  · refine xF_zret o_Pr_isItem rfl rfl (Or.inl rfl) ?_
    exact ⟨rfl, false, rfl, by grind⟩
  · refine xF_zret o_Pr_isItem rfl rfl (Or.inr rfl) ?_
    exact ⟨rfl, true, rfl, by grind⟩
theorem E_isItem (k n a g : Int32) (M : xMe) : xE l G y_Pr_isItem [.int k, .int n, .int a, .int g] M (fun r M' => M' = M ∧ ∃ b, r = some (.int (b2 b)) ∧ (b = true ↔ vItem k n a g)) := by
  refine xE_of [some (.int k), some (.int n), some (.int a), some (.int g), none] (by decide +kernel) (Nat.le_of_ble_eq_true rfl) rfl ?_
  refine xF_go o_Pr_isItem [28] 50 (fun K hK => ?_)
  repeat' ((conv => whnf); first | refine ⟨fun h => ?_, fun h => ?_⟩ | refine ⟨?_, ?_⟩ | refine hK _ _ _ _ ?_)
  all_goals refine xF_post ?_ (L_isItem l G k n a g _ M)
  all_goals rintro v M' ⟨rfl, b, rfl, hb⟩
  all_goals refine ⟨rfl, b, rfl, hb.trans ?_⟩
  all_goals unfold vItem
  all_goals grind
theorem E_hasReference (P : sP) (M : xMe) (hM : cR P M) (k p : Nat) (hk : k < 24) (hp : p < 64) : xE l G y_Pr_hasReference [.ref 1, .int (nI k), .int (nI p)] M (fun r M' => M' = M ∧ r = some (.int (b2 (pR P k p).isSome))) := by
  refine xE_of [some (.ref 1), some (.int (nI k)), some (.int (nI p))] (by decide +kernel) (Nat.le_of_ble_eq_true rfl) rfl ?_
  refine xF_go o_Pr_hasReference [] 50 (fun K hK => ?_)
  repeat' ((conv => whnf); first | refine ⟨fun h => ?_, fun h => ?_⟩ | refine ⟨?_, ?_⟩ | refine hK _ _ _ _ ?_)
  · exact vp_in_nI hk (by decide)
  · rw [nI_clamp (by omega), xcmp0, xbit_test _ hp, (hM k hk p hp).1] at h
    refine xF_zret o_Pr_hasReference rfl rfl (Or.inl rfl) ?_
    exact ⟨rfl, by rw [h]; rfl⟩
  · rw [nI_clamp (by omega), xcmp0, xbit_test _ hp, (hM k hk p hp).1] at h
    refine xF_zret o_Pr_hasReference rfl rfl (Or.inr rfl) ?_
    have h2 : (pR P k p).isSome = true := by
      cases hh : (pR P k p).isSome with
      | true => rfl
      | false => exact absurd hh h
    exact ⟨rfl, by rw [h2]; rfl⟩
/-- the bits of the places of an item -/
theorem E_placesOf (P : sP) (M : xMe) (hM : cS P M) (hw : wP P) (k : Nat) (hk : k < 24) : xE l G y_Pr_placesOf [.ref 1, .int (nI k)] M (fun r M' => M' = M ∧ ∃ w, r = some (.long w) ∧ ∀ q, q < 64 → xbit w q = decide (q < pS P k)) := by
  have hs := (hw.1 k hk).1
  refine xE_of [some (.ref 1), some (.int (nI k))] (by decide +kernel) (Nat.le_of_ble_eq_true rfl) rfl ?_
  refine xF_go o_Pr_placesOf [] 50 (fun K hK => ?_)
  repeat' ((conv => whnf); first | refine ⟨fun h => ?_, fun h => ?_⟩ | refine ⟨?_, ?_⟩ | refine hK _ _ _ _ ?_)
  · exact vp_in_nI hk (by decide)
  · exact vp_in_nI hk (by decide)
  · rw [nI_clamp (by omega), (hM k hk).1] at h
    have h0 : 0 < pS P k := by
      rcases Nat.eq_zero_or_pos (pS P k) with q | q
      · rw [q] at h; exact absurd rfl h
      · exact q
    refine xF_lret o_Pr_placesOf rfl rfl ?_
    refine ⟨rfl, _, rfl, fun q hq => ?_⟩
    rw [nI_clamp (by omega), (hM k hk).1, show (64 - nI (pS P k) : Int32) = nI (64 - pS P k) from pk_sub (a := 64) hs, xbit_shr _ (by omega), xbit_m1]
    congr 1
    apply propext
    omega
  · rw [nI_clamp (by omega), (hM k hk).1] at h
    have h0 : pS P k = 0 := nI_inj (b := 0) (by omega) (by omega) h
    refine xF_lret o_Pr_placesOf rfl rfl ?_
    exact ⟨rfl, 0, rfl, fun q _ => by rw [xbit_0, h0]; simp⟩
end XPS
