/-! Reach: how it starts -/
def vini (P : sP) : sV := (fun f i _ v => (f < 12 ∧ pE P f = true ∧ i = place P f 0) ∧ v = 0, fun k p v => v = pO P k p, fun f i => f < 12 ∧ pE P f = true ∧ i = place P f 0, fun f i => f < 12 ∧ pE P f = true ∧ i = place P f 0, fun _ _ => False, fun _ => False, fun _ => False, fun _ _ => False)
theorem inv_ini {P : sP} (hw : wP P) : Inv P (vini P) := by
  refine ⟨⟨fun f i z => ⟨z.1, ?_⟩, fun _ _ z => z, fun f hf i hi r hr v hv z => z.1, fun f i z r hr => ⟨0, by omega, z, rfl⟩, fun k hk p hp => ⟨_, hw.2.1 k hk p (by have := (hw.1 k hk).1; omega), rfl⟩⟩, ⟨fun f hf he => ⟨⟨hf, he, rfl⟩, fun r hr v hv z => ⟨⟨hf, he, rfl⟩, z⟩⟩, fun k hk p hp => rfl⟩, fun f hf i q hq hc hn => absurd hc hn, fun Z hz => ⟨fun f i z => ?_, fun f hf i hi r hr v hv z => ?_, fun k hk p hp v hv z => ?_, fun _ _ z => z.elim, fun _ z => z.elim, fun _ z => z.elim, fun _ _ z => z.elim⟩⟩
  · rw [z.2.2]
    exact place_ok (hw.2.2.2.1 f z.1).1
  · rw [z.2.2]
    exact (hz.1.1 f z.1 z.2.1).1
  · rw [z.1.2.2]
    exact (hz.1.1 f z.1.1 z.1.2.1).2 r hr v hv z.2
  · have z' : v = pO P k p := z
    rw [z']
    exact hz.1.2 k hk p hp
/-- functions that were never come to hold no states -/
def c21 (M : xMe) : Prop := ∀ f, f < 12 → M.2 23 f = 0 → ∀ i, i < 41 → ∀ r, r < 4 → ∀ v, v < 256 → sHas (M.2 21) ((f * 41 + i) * 16 + r * 4) v = false
theorem upd_lt {g : Nat → Int32} {x : Int32} {k i : Nat} : upd (fun j => if j < k then x else g j) k x i = if i < k + 1 then x else g i := by
  by_cases e : i = k
  · subst e
    rw [upd_s, if_pos (by omega)]
  · rw [upd_n e]
    by_cases e2 : i < k
    · rw [if_pos e2, if_pos (by omega)]
    · rw [if_neg e2, if_neg (by omega)]
section XSR
variable (l : Launch) (G : xG)
theorem L_forgetStates (M0 : xMe) (h0 : c21 M0) (Q : Option Value → xMe → Prop) (hQ : ∀ F, (∀ g, g < 12 → ∀ i, i < 41 → ∀ r, r < 4 → ∀ v, v < 256 → sHas F ((g * 41 + i) * 16 + r * 4) v = false) → Q none (xsL M0 21 F)) : ∀ (m f : Nat), m + f = 12 → ∀ F, (∀ g, g < f → ∀ i, i < 41 → ∀ r, r < 4 → ∀ v, v < 256 → sHas F ((g * 41 + i) * 16 + r * 4) v = false) → (∀ j, f * 656 ≤ j → F j = M0.2 21 j) → xF l G y_Re_forgetStates 2 [some (.ref 16), some (.int (nI f))] [] (xsL M0 21 F) Q := by
  have t1 : xtl 21 = 7872 := rfl
  intro m
  induction m with
  | zero =>
    intro f hf F hF _
    obtain rfl : f = 12 := by omega
    refine xF_go o_Re_forgetStates [2] 60 (fun K hK => ?_)
    repeat' ((conv => whnf); first | refine ⟨fun h => ?_, fun h => ?_⟩ | refine ⟨?_, ?_⟩ | refine hK _ _ _ _ ?_)
    · refine xF_vret o_Re_forgetStates rfl rfl ?_
      exact hQ F hF
    all_goals exact absurd (show nI 12 < nI 12 from by assumption) (nI_nlt (by omega) (by omega))
  | succ m ih =>
    intro f hf F hF hF2
    have hcl : (nI f).toNatClampNeg = f := nI_clamp (by omega)
    refine xF_go o_Re_forgetStates [2] 60 (fun K hK => ?_)
    repeat' ((conv => whnf); first | refine ⟨fun h => ?_, fun h => ?_⟩ | refine ⟨?_, ?_⟩ | refine hK _ _ _ _ ?_)
    · exact absurd (nI_lt (b := 12) (by omega) (by omega)) h
    · exact vp_in_nI (by show _ < 12; omega) (by decide)
    · have hz : lg_cmp (M0.2 23 (nI f).toNatClampNeg) 0 = 0 := by assumption
      rw [hcl, xcmp0] at hz
      rw [nI_1]
      refine ih (f + 1) (by omega) F (fun g hg i hi r hr v hv => ?_) (fun j hj => hF2 j (Nat.le_trans (Nat.mul_le_mul_right 656 (Nat.le_succ f)) hj))
      by_cases e : g = f
      · subst e
        have := h0 g (by omega) hz i hi r hr v hv
        unfold sHas at this ⊢
        rw [hF2 _ (by omega)]
        exact this
      · exact hF g (by omega) i hi r hr v hv
    · have e41 : nI f * 41 = nI (f * 41) := nI_41 f
      rw [e41]
      refine xF_callS o_Re_forgetStates [.int (nI (f * 41)), .int (nI 0)] rfl z_Re_setAt s_Re_setAt l_Re_95 rfl ⟨⟨by decide, by decide⟩, rfl, rfl⟩ (Nat.le_of_ble_eq_true rfl) rfl (E_setAt l G (nI (f * 41)) (nI 0) _) ?_
      rintro v M' ⟨rfl, rfl⟩
      rw [set_n]
      clear hK K
      refine xF_go o_Re_forgetStates [2] 60 (fun K hK => ?_)
      repeat' ((conv => whnf); first | refine ⟨fun h => ?_, fun h => ?_⟩ | refine ⟨?_, ?_⟩ | refine hK _ _ _ _ ?_)
      rw [nI_1, show nI (f + 1) * 41 = nI ((f + 1) * 41) from nI_41 _]
      refine xF_callS o_Re_forgetStates [.int (nI ((f + 1) * 41)), .int (nI 0)] rfl z_Re_setAt s_Re_setAt l_Re_95 rfl ⟨⟨by decide, by decide⟩, rfl, rfl⟩ (Nat.le_of_ble_eq_true rfl) rfl (E_setAt l G (nI ((f + 1) * 41)) (nI 0) _) ?_
      rintro v M' ⟨rfl, rfl⟩
      rw [set_n]
      clear hK K
      refine xF_go o_Re_forgetStates [2] 60 (fun K hK => ?_)
      repeat' ((conv => whnf); first | refine ⟨fun h => ?_, fun h => ?_⟩ | refine ⟨?_, ?_⟩ | refine hK _ _ _ _ ?_)
      refine xF_callS o_Re_forgetStates [.ref 21, .int (nI (f * 41 * 16 + 0 * 4)), .int (nI ((f + 1) * 41 * 16 + 0 * 4)), .long 0] rfl z_JA_fill3 s_JA_fill3 l_Re_119 rfl ⟨⟨by decide, by decide⟩, rfl, rfl⟩ (Nat.le_of_ble_eq_true rfl) rfl (E_fill3_21 l G 0 (f * 41 * 16 + 0 * 4) ((f + 1) * 41 * 16 + 0 * 4) (by omega) (by omega) _) ?_
      rintro v M' ⟨rfl, rfl⟩
      clear hK K
      refine xF_go o_Re_forgetStates [2] 60 (fun K hK => ?_)
      repeat' ((conv => whnf); first | refine ⟨fun h => ?_, fun h => ?_⟩ | refine ⟨?_, ?_⟩ | refine hK _ _ _ _ ?_)
      rw [nI_1, xsL_LL]
      refine ih (f + 1) (by omega) _ (fun g hg i hi r hr v hv => ?_) (fun j hj => ?_)
      · unfold sHas
        show xbit (if f * 41 * 16 + 0 * 4 ≤ (g * 41 + i) * 16 + r * 4 + v / 64 ∧ (g * 41 + i) * 16 + r * 4 + v / 64 < (f + 1) * 41 * 16 + 0 * 4 then (0 : Int64) else F ((g * 41 + i) * 16 + r * 4 + v / 64)) (v % 64) = false
        by_cases e : g = f
        · subst e
          rw [if_pos (by omega), xbit_0]
        · rw [if_neg (by omega)]
          exact hF g (by omega) i hi r hr v hv
      · show (if f * 41 * 16 + 0 * 4 ≤ j ∧ j < (f + 1) * 41 * 16 + 0 * 4 then (0 : Int64) else F j) = _
        have hj' : (f + 1) * 656 ≤ j := hj
        rw [if_neg (by omega)]
        exact hF2 j (Nat.le_trans (Nat.mul_le_mul_right 656 (Nat.le_succ f)) hj)
theorem E_forgetStates (M : xMe) (h0 : c21 M) : xE l G y_Re_forgetStates [.ref 16] M (fun r M' => r = none ∧ ∃ F, M' = xsL M 21 F ∧ ∀ g, g < 12 → ∀ i, i < 41 → ∀ r, r < 4 → ∀ v, v < 256 → sHas F ((g * 41 + i) * 16 + r * 4) v = false) := by
  refine xE_of [some (.ref 16), none] (by decide +kernel) (Nat.le_of_ble_eq_true rfl) rfl ?_
  refine xF_go o_Re_forgetStates [2] 60 (fun K hK => ?_)
  repeat' ((conv => whnf); first | refine ⟨fun h => ?_, fun h => ?_⟩ | refine ⟨?_, ?_⟩ | refine hK _ _ _ _ ?_)
  have e0 : M = xsL M 21 (M.2 21) := (xsL_id (fun i => rfl)).symm
  have key := L_forgetStates l G M h0 (fun r M' => r = none ∧ ∃ F, M' = xsL M 21 F ∧ ∀ g, g < 12 → ∀ i, i < 41 → ∀ r, r < 4 → ∀ v, v < 256 → sHas F ((g * 41 + i) * 16 + r * 4) v = false) (fun F hF => ⟨rfl, F, rfl, hF⟩) 12 0 (by omega) (M.2 21) (fun g hg => by omega) (fun _ _ => rfl)
  rw [← e0] at key
  exact key
theorem L_forget (M0 : xMe) (Q : Option Value → xMe → Prop) (hQ : xF l G y_Re_forget 71 [some (.ref 16), some (.int (nI 24))] [] (xsI (xsI M0 28 (fun i => if i < 24 then 0 else M0.1 28 i)) 29 (fun i => if i < 24 then 0 else M0.1 29 i)) Q) : ∀ (m k : Nat), m + k = 24 → xF l G y_Re_forget 45 [some (.ref 16), some (.int (nI k))] [] (xsI (xsI M0 28 (fun i => if i < k then 0 else M0.1 28 i)) 29 (fun i => if i < k then 0 else M0.1 29 i)) Q := by
  intro m
  induction m with
  | zero =>
    intro k hk
    obtain rfl : k = 24 := by omega
    refine xF_go o_Re_forget [45, 71] 60 (fun K hK => ?_)
    repeat' ((conv => whnf); first | refine ⟨fun h => ?_, fun h => ?_⟩ | refine ⟨?_, ?_⟩ | refine hK _ _ _ _ ?_)
    · exact hQ
    all_goals exact absurd (show nI 24 < nI 24 from by assumption) (nI_nlt (by omega) (by omega))
  | succ m ih =>
    intro k hk
    have hih := ih (k + 1) (by omega)
    refine xF_go o_Re_forget [45, 71] 60 (fun K hK => ?_)
    repeat' ((conv => whnf); first | refine ⟨fun h => ?_, fun h => ?_⟩ | refine ⟨?_, ?_⟩ | refine hK _ _ _ _ ?_)
    · exact absurd (nI_lt (b := 24) (by omega) (by omega)) h
    · exact vp_in_nI (by show _ < 24; omega) (by decide)
    · exact Or.inl rfl
    · exact vp_in_nI (by show _ < 24; omega) (by decide)
    · exact Or.inl rfl
    · rw [nI_1, nI_clamp (by omega)]
      have e1 : xsI (xsI (xsI (xsI M0 28 (fun i => if i < k then 0 else M0.1 28 i)) 29 (fun i => if i < k then 0 else M0.1 29 i)) 28 (upd ((xsI (xsI M0 28 (fun i => if i < k then 0 else M0.1 28 i)) 29 (fun i => if i < k then 0 else M0.1 29 i)).1 28) k 0)) 29 (upd ((xsI (xsI (xsI M0 28 (fun i => if i < k then 0 else M0.1 28 i)) 29 (fun i => if i < k then 0 else M0.1 29 i)) 28 (upd ((xsI (xsI M0 28 (fun i => if i < k then 0 else M0.1 28 i)) 29 (fun i => if i < k then 0 else M0.1 29 i)).1 28) k 0)).1 29) k 0) = xsI (xsI M0 28 (fun i => if i < k + 1 then 0 else M0.1 28 i)) 29 (fun i => if i < k + 1 then 0 else M0.1 29 i) := by
        refine Prod.ext ?_ rfl
        funext c i
        show (if c = 29 then upd (fun i => if i < k then 0 else M0.1 29 i) k 0 else if c = 28 then upd (fun i => if i < k then 0 else M0.1 28 i) k 0 else if c = 29 then _ else if c = 28 then _ else M0.1 c) i = (if c = 29 then _ else if c = 28 then _ else M0.1 c) i
        by_cases c1 : c = 29
        · rw [if_pos c1, if_pos c1]
          exact upd_lt
        · rw [if_neg c1]
          by_cases c2 : c = 28
          · rw [if_pos c2, if_neg c1, if_pos c2]
            exact upd_lt
          · rw [if_neg c2, if_neg c1, if_neg c2, if_neg c1, if_neg c2]
      rw [← e1] at hih
      exact hih
set_option maxRecDepth 20000 in
theorem ac_Re2 : xAC y_Re_forget.1.cls 113 := ⟨xtbm (List.mem_of_getElem? (i := 627) rfl) rfl, xtbm (List.mem_of_getElem? (i := 500) rfl) rfl, xtbm (List.mem_of_getElem? (i := 499) rfl) rfl, xtbm (List.mem_of_getElem? (i := 93) rfl) rfl⟩
theorem E_reForget (P : sP) (M : xMe) (hC : cC P M) (h0 : c21 M) : xE l G y_Re_forget [.ref 16] M (fun r M' => r = none ∧ xfr [18, 20, 21, 23, 24, 25, 27, 28, 29] M M' ∧ cS21 (fun _ _ _ _ => False) M' ∧ cB 23 12 (fun _ _ => False) M' ∧ cB 24 12 (fun _ _ => False) M' ∧ cB 27 24 (fun _ _ => False) M' ∧ cZ 28 (fun _ => False) M' ∧ cZ 29 (fun _ => False) M' ∧ cB 18 36 (fun _ _ => False) M' ∧ (∀ f, f < 12 → M'.1 20 f = nI (pC P f).length) ∧ (∀ j, j < 444 → M'.2 25 j = 0)) := by
  refine xE_of [some (.ref 16), none] (by decide +kernel) (Nat.le_of_ble_eq_true rfl) rfl ?_
  refine xF_go o_Re_forget [45] 60 (fun K hK => ?_)
  repeat' ((conv => whnf); first | refine ⟨fun h => ?_, fun h => ?_⟩ | refine ⟨?_, ?_⟩ | refine hK _ _ _ _ ?_)
  refine xF_callV o_Re_forget [] rfl z_Ch_forget i_Ch_forget v_Ch_forget l_Re_102 rfl ⟨⟨by decide, by decide⟩, rfl, rfl⟩ (Nat.le_of_ble_eq_true rfl) rfl rfl rfl (E_chForget l G M) ?_
  rintro v M1 ⟨rfl, rfl⟩
  clear hK K
  refine xF_go o_Re_forget [45] 60 (fun K hK => ?_)
  repeat' ((conv => whnf); first | refine ⟨fun h => ?_, fun h => ?_⟩ | refine ⟨?_, ?_⟩ | refine hK _ _ _ _ ?_)
  refine xF_callV o_Re_forget [] rfl z_Re_forgetStates i_Re_forgetStates v_Re_forgetStates l_Re_103 rfl ⟨⟨by decide, by decide⟩, rfl, rfl⟩ (Nat.le_of_ble_eq_true rfl) rfl rfl rfl (E_forgetStates l G _ (show c21 (xsL M 18 _) from h0)) ?_
  rintro v M1 ⟨rfl, F, rfl, hF⟩
  clear hK K
  refine xF_go o_Re_forget [45] 60 (fun K hK => ?_)
  repeat' ((conv => whnf); first | refine ⟨fun h => ?_, fun h => ?_⟩ | refine ⟨?_, ?_⟩ | refine hK _ _ _ _ ?_)
  refine xF_callS o_Re_forget [.ref 23, .long 0] rfl z_JA_fill2 s_JA_fill2 l_Re_106 rfl ⟨⟨by decide, by decide⟩, rfl, rfl⟩ (Nat.le_of_ble_eq_true rfl) rfl (E_fill2 l G 23 (by simp) 0 _) ?_
  rintro v M1 ⟨rfl, rfl⟩
  clear hK K
  refine xF_go o_Re_forget [45] 60 (fun K hK => ?_)
  repeat' ((conv => whnf); first | refine ⟨fun h => ?_, fun h => ?_⟩ | refine ⟨?_, ?_⟩ | refine hK _ _ _ _ ?_)
  refine xF_callS o_Re_forget [.ref 24, .long 0] rfl z_JA_fill2 s_JA_fill2 l_Re_106 rfl ⟨⟨by decide, by decide⟩, rfl, rfl⟩ (Nat.le_of_ble_eq_true rfl) rfl (E_fill2 l G 24 (by simp) 0 _) ?_
  rintro v M1 ⟨rfl, rfl⟩
  clear hK K
  refine xF_go o_Re_forget [45] 60 (fun K hK => ?_)
  repeat' ((conv => whnf); first | refine ⟨fun h => ?_, fun h => ?_⟩ | refine ⟨?_, ?_⟩ | refine hK _ _ _ _ ?_)
  refine xF_callS o_Re_forget [.ref 25, .long 0] rfl z_JA_fill2 s_JA_fill2 l_Re_106 rfl ⟨⟨by decide, by decide⟩, rfl, rfl⟩ (Nat.le_of_ble_eq_true rfl) rfl (E_fill2 l G 25 (by simp) 0 _) ?_
  rintro v M1 ⟨rfl, rfl⟩
  clear hK K
  refine xF_go o_Re_forget [45] 60 (fun K hK => ?_)
  repeat' ((conv => whnf); first | refine ⟨fun h => ?_, fun h => ?_⟩ | refine ⟨?_, ?_⟩ | refine hK _ _ _ _ ?_)
  refine xF_callS o_Re_forget [.ref 27, .long 0] rfl z_JA_fill2 s_JA_fill2 l_Re_106 rfl ⟨⟨by decide, by decide⟩, rfl, rfl⟩ (Nat.le_of_ble_eq_true rfl) rfl (E_fill2 l G 27 (by simp) 0 _) ?_
  rintro v M1 ⟨rfl, hM1⟩
  clear hK K
  have g21 : M1.2 21 = F := by rw [hM1]; rfl
  have g23 : ∀ f, f < 12 → M1.2 23 f = 0 := fun f hf => by rw [hM1]; exact if_pos hf
  have g24 : ∀ f, f < 12 → M1.2 24 f = 0 := fun f hf => by rw [hM1]; exact if_pos hf
  have g25 : ∀ f, f < 444 → M1.2 25 f = 0 := fun f hf => by rw [hM1]; exact if_pos hf
  have g27 : ∀ f, f < 24 → M1.2 27 f = 0 := fun f hf => by rw [hM1]; exact if_pos hf
  have g18 : ∀ f, f < 36 → M1.2 18 f = 0 := fun f hf => by rw [hM1]; exact if_pos hf
  have g9 : M1.1 9 = M.1 9 := by rw [hM1]; rfl
  have hfr : xfr [18, 20, 21, 23, 24, 25, 27, 28, 29] M M1 := by
    rw [hM1]
    exact (((((xfr.rf.L (by simp)).L (by simp)).L (by simp)).L (by simp)).L (by simp)).L (by simp)
  clear hM1
  refine xF_go o_Re_forget [45] 60 (fun K hK => ?_)
  repeat' ((conv => whnf); first | refine ⟨fun h => ?_, fun h => ?_⟩ | refine ⟨?_, ?_⟩ | refine hK _ _ _ _ ?_)
  have e0 : M1 = xsI (xsI M1 28 (fun i => if i < 0 then 0 else M1.1 28 i)) 29 (fun i => if i < 0 then 0 else M1.1 29 i) := by
    have e1 : xsI M1 28 (fun i => if i < 0 then 0 else M1.1 28 i) = M1 := xsI_id (fun i => by rw [if_neg (by omega)])
    rw [e1]
    exact (xsI_id (fun i => by rw [if_neg (by omega)])).symm
  have key := L_forget l G M1 (fun r M' => r = none ∧ xfr [18, 20, 21, 23, 24, 25, 27, 28, 29] M M' ∧ cS21 (fun _ _ _ _ => False) M' ∧ cB 23 12 (fun _ _ => False) M' ∧ cB 24 12 (fun _ _ => False) M' ∧ cB 27 24 (fun _ _ => False) M' ∧ cZ 28 (fun _ => False) M' ∧ cZ 29 (fun _ => False) M' ∧ cB 18 36 (fun _ _ => False) M' ∧ (∀ f, f < 12 → M'.1 20 f = nI (pC P f).length) ∧ (∀ j, j < 444 → M'.2 25 j = 0)) ?_ 24 0 (by omega)
  · rw [← e0] at key
    exact key
  · clear hK K
    refine xF_go o_Re_forget [] 60 (fun K hK => ?_)
    repeat' ((conv => whnf); first | refine ⟨fun h => ?_, fun h => ?_⟩ | refine ⟨?_, ?_⟩ | refine hK _ _ _ _ ?_)
    refine xF_copyi o_Re_forget rfl ac_Re2 rfl rfl (by decide) (by decide) 0 0 12 rfl rfl rfl (by decide) (by decide) (by decide) (Nat.le_of_ble_eq_true rfl) (by decide) ?_
    clear hK K
    refine xF_go o_Re_forget [] 60 (fun K hK => ?_)
    repeat' ((conv => whnf); first | refine ⟨fun h => ?_, fun h => ?_⟩ | refine ⟨?_, ?_⟩ | refine hK _ _ _ _ ?_)
    refine xF_vret o_Re_forget rfl rfl ?_
    refine ⟨rfl, ((hfr.I (by simp)).I (by simp)).I (by simp), ?_, ?_, ?_, ?_, ?_, ?_, ?_, ?_, ?_⟩
    · intro f hf i hi r hr v hv
      show sHas (M1.2 21) _ v = true ↔ False
      rw [g21, hF f hf i hi r hr v hv]
      simp
    · intro a ha b hb
      show xbit (M1.2 23 a) b = true ↔ False
      rw [g23 a ha, xbit_0]
      simp
    · intro a ha b hb
      show xbit (M1.2 24 a) b = true ↔ False
      rw [g24 a ha, xbit_0]
      simp
    · intro a ha b hb
      show xbit (M1.2 27 a) b = true ↔ False
      rw [g27 a ha, xbit_0]
      simp
    · intro k hk
      exact ⟨false, if_pos hk, by simp⟩
    · intro k hk
      exact ⟨false, if_pos hk, by simp⟩
    · intro a ha b hb
      show xbit (M1.2 18 a) b = true ↔ False
      rw [g18 a ha, xbit_0]
      simp
    · intro f hf
      show va_cpy (M1.1 9) (M1.1 20) 0 0 12 f = _
      unfold va_cpy
      rw [if_pos (by omega), show 0 + (f - 0) = f by omega, g9]
      exact (hC f hf).1
    · intro j hj
      exact g25 j hj
end XSR
