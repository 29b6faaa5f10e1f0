/-! Program: items, bytes, references, code, input as told -/
def sItem (P : sP) (k n a g : Nat) (v : Bool) : sP := (fun j => if j = k then n else pS P j, fun j => if j = k then a else pA P j, fun j => if j = k then g else pG P j, fun j => if j = k then v else pV P j, fun j p => if j = k then 0 else pO P j p, fun j p => if j = k then none else if n = 0 ∧ pR P j p = some k then none else pR P j p, pC P, pE P, pI P)
theorem sItem_S (P : sP) (k n a g : Nat) (v : Bool) (j : Nat) : pS (sItem P k n a g v) j = if j = k then n else pS P j := rfl
theorem sItem_A (P : sP) (k n a g : Nat) (v : Bool) (j : Nat) : pA (sItem P k n a g v) j = if j = k then a else pA P j := rfl
theorem sItem_G (P : sP) (k n a g : Nat) (v : Bool) (j : Nat) : pG (sItem P k n a g v) j = if j = k then g else pG P j := rfl
theorem sItem_V (P : sP) (k n a g : Nat) (v : Bool) (j : Nat) : pV (sItem P k n a g v) j = if j = k then v else pV P j := rfl
theorem sItem_O (P : sP) (k n a g : Nat) (v : Bool) (j p : Nat) : pO (sItem P k n a g v) j p = if j = k then 0 else pO P j p := rfl
theorem sItem_R (P : sP) (k n a g : Nat) (v : Bool) (j p : Nat) : pR (sItem P k n a g v) j p = if j = k then none else if n = 0 ∧ pR P j p = some k then none else pR P j p := rfl
def sRef (P : sP) (k p : Nat) (t : Option Nat) : sP := (pS P, pA P, pG P, pV P, pO P, fun j q => if j = k ∧ q = p then t else pR P j q, pC P, pE P, pI P)
def sCode (P : sP) (f : Nat) (q : Nat × Int32 × Int32 × Int32) : sP := (pS P, pA P, pG P, pV P, pO P, pR P, fun j => if j = f then pC P j ++ [q] else pC P j, pE P, pI P)
theorem upd_s {f : Nat → Int32} {k : Nat} {x : Int32} : upd f k x k = x := by simp [upd]
theorem upd_n {f : Nat → Int32} {k j : Nat} {x : Int32} (h : j ≠ k) : upd f k x j = f j := by simp [upd, h]
theorem updL_s {f : Nat → Int64} {k : Nat} {x : Int64} : vp_updL f k x k = x := by simp [vp_updL]
theorem updL_n {f : Nat → Int64} {k j : Nat} {x : Int64} (h : j ≠ k) : vp_updL f k x j = f j := by simp [vp_updL, h]
section XTM
variable (l : Launch) (G : xG)
/-- the loop that empties an item's bytes -/
theorem L_tellItem (k : Nat) (hk : k < 24) (n a g z : Int32) (Q : Option Value → xMe → Prop) (M0 : xMe) (hnext : xF l G y_Pr_tellItem 66 [some (.ref 1), some (.int (nI k)), some (.int n), some (.int a), some (.int g), some (.int z), some (.int (nI 64))] [] (xsI M0 6 (fun i => if k * 64 ≤ i ∧ i < k * 64 + 64 then 0 else M0.1 6 i)) Q) : ∀ (m p : Nat), m + p = 64 → xF l G y_Pr_tellItem 40 [some (.ref 1), some (.int (nI k)), some (.int n), some (.int a), some (.int g), some (.int z), some (.int (nI p))] [] (xsI M0 6 (fun i => if k * 64 ≤ i ∧ i < k * 64 + p then 0 else M0.1 6 i)) Q := by
  intro m
  induction m with
  | zero =>
    intro p hp
    refine xF_go o_Pr_tellItem [40, 66] 60 (fun K hK => ?_)
    repeat' ((conv => whnf); first | refine ⟨fun h => ?_, fun h => ?_⟩ | refine ⟨?_, ?_⟩ | refine hK _ _ _ _ ?_)
    · have e : p = 64 := by omega
      subst e
      exact hnext
    · exact absurd h (nI_nlt (b := 64) (by omega) (by omega))
    · exact absurd h (nI_nlt (b := 64) (by omega) (by omega))
  | succ m ih =>
    intro p hp
    refine xF_go o_Pr_tellItem [40, 66] 60 (fun K hK => ?_)
    repeat' ((conv => whnf); first | refine ⟨fun h => ?_, fun h => ?_⟩ | refine ⟨?_, ?_⟩ | refine hK _ _ _ _ ?_)
    · exact absurd (nI_lt (b := 64) (by omega) (by omega)) h
    · rw [nI_16, nI_add]
      exact vp_in_nI (N := 1536) (by omega) (by decide)
    · rw [nI_1, nI_16, nI_add, nI_clamp (by omega), xsI_II, xsI_s]
      have e := ih (p + 1) (by omega)
      rw [xsI_c (g := upd (fun i => if k * 64 ≤ i ∧ i < k * 64 + p then 0 else M0.1 6 i) (k * 64 + p) 0)] at e
      · exact e
      · intro i
        unfold upd
        grind
theorem cP_item {P : sP} {M N : xMe} (hM : cP P M) (hw : wP P) {k n a g : Nat} {v : Bool} (hk : k < 24) (n2 : N.1 2 = upd (M.1 2) k (nI n)) (n3 : N.1 3 = upd (M.1 3) k (nI a)) (n4 : N.1 4 = upd (M.1 4) k (nI g)) (n5 : N.1 5 = upd (M.1 5) k (b2 v)) (n6 : ∀ i, N.1 6 i = if k * 64 ≤ i ∧ i < k * 64 + 64 then 0 else M.1 6 i) (n8 : ∀ j, j < 24 → ∀ q, q < 64 → xbit (N.2 8 j) q = (xbit (vp_updL (M.2 8) k 0 j) q && !(decide (n = 0 ∧ q < pS (sItem P k n a g v) j ∧ M.1 7 (j * 64 + q) = nI k)))) (nf : xfr [2, 3, 4, 5, 6, 8] M N) : cP (sItem P k n a g v) N := by
  obtain ⟨h1, h2, h3, h4, h5, h6⟩ := hM
  refine ⟨?_, ?_, ?_, ?_, ?_, ?_⟩
  · intro j hj
    rw [n2, n3, n4, n5]
    have hj1 := h1 j hj
    rw [sItem_S, sItem_A, sItem_G, sItem_V]
    unfold upd
    by_cases e : j = k
    · simp [e]
    · simp [e, hj1]
  · intro j hj p hp
    rw [n6]
    by_cases e : j = k
    · subst e
      rw [if_pos (by omega), sItem_O, if_pos rfl]
      rfl
    · rw [if_neg (by omega), sItem_O, if_neg e]
      exact h2 j hj p hp
  · intro j hj p hp
    rw [n8 j hj p hp, (nf 7 (by simp)).1]
    obtain ⟨h3a, h3b⟩ := h3 j hj p hp
    by_cases e : j = k
    · subst e
      rw [updL_s, xbit_0]
      rw [sItem_R, if_pos rfl]
      refine ⟨by simp, fun t ht => ?_⟩
      simp at ht
    · rw [updL_n e, h3a]
      have es : pS (sItem P k n a g v) j = pS P j := by rw [sItem_S, if_neg e]
      rw [es]
      have er : pR (sItem P k n a g v) j p = if n = 0 ∧ pR P j p = some k then none else pR P j p := by rw [sItem_R, if_neg e]
      rw [er]
      cases hr : pR P j p with
      | none =>
        refine ⟨by simp, fun t ht => ?_⟩
        simp at ht
      | some t =>
        have hw3 := hw.2.2.1 j hj p hp t hr
        have ht7 := h3b t hr
        rw [ht7]
        have hiff : (nI t = nI k) ↔ t = k := nI_eq (by omega) (by omega)
        by_cases e2 : n = 0 ∧ t = k
        · obtain ⟨e3, e4⟩ := e2
          subst e4
          simp [e3, hw3.2.1]
        · have e5 : ¬ (n = 0 ∧ some t = some k) := fun z => e2 ⟨z.1, Option.some.inj z.2⟩
          rw [if_neg e5]
          refine ⟨?_, fun t' ht' => ?_⟩
          · have : ¬ (n = 0 ∧ p < pS P j ∧ nI t = nI k) := fun z => e2 ⟨z.1, hiff.mp z.2.2⟩
            simp [this]
          · cases ht'
            rfl
  · intro f' hf'
    rw [(nf 9 (by simp)).1, (nf 10 (by simp)).1, (nf 11 (by simp)).1, (nf 12 (by simp)).1, (nf 13 (by simp)).1]
    exact h4 f' hf'
  · intro f' hf'
    rw [(nf 14 (by simp)).1]
    exact h5 f' hf'
  · refine ⟨?_, fun i v' hv => ?_⟩
    · rw [(nf 1 (by simp)).1]
      exact h6.1
    · rw [(nf 15 (by simp)).1]
      exact h6.2 i v' hv
theorem E_tellItem (P : sP) (M : xMe) (hM : cP P M) (hw : wP P) (k n a g : Nat) (v : Bool) (hk : k < 24) (hn : n ≤ 64) (ha : a < 9) (hg : g ≤ 3) : xE l G y_Pr_tellItem [.ref 1, .int (nI k), .int (nI n), .int (nI a), .int (nI g), .int (b2 v)] M (fun r M' => r = none ∧ cP (sItem P k n a g v) M' ∧ xfr [2, 3, 4, 5, 6, 8] M M') := by
  refine xE_of [some (.ref 1), some (.int (nI k)), some (.int (nI n)), some (.int (nI a)), some (.int (nI g)), some (.int (b2 v)), none] (by decide +kernel) (Nat.le_of_ble_eq_true rfl) rfl ?_
  refine xF_go o_Pr_tellItem [40] 60 (fun K hK => ?_)
  repeat' ((conv => whnf); first | refine ⟨fun h => ?_, fun h => ?_⟩ | refine ⟨?_, ?_⟩ | refine hK _ _ _ _ ?_)
  · exact vp_in_nI hk (by decide)
  · exact vp_in_nI hk (by decide)
  · exact vp_in_nI hk (by decide)
  · exact vp_in_nI hk (by decide)
  · exact b2_01 v
  · exact vp_in_nI hk (by decide)
  rw [nI_clamp (by omega)]
  generalize hM1 : xsL _ 8 _ = M1
  have q2 : M1.1 2 = upd (M.1 2) k (nI n) := by rw [← hM1]; rfl
  have q3 : M1.1 3 = upd (M.1 3) k (nI a) := by rw [← hM1]; rfl
  have q4 : M1.1 4 = upd (M.1 4) k (nI g) := by rw [← hM1]; rfl
  have q5 : M1.1 5 = upd (M.1 5) k (b2 v) := by rw [← hM1]; rfl
  have q6 : M1.1 6 = M.1 6 := by rw [← hM1]; rfl
  have q7 : M1.1 7 = M.1 7 := by rw [← hM1]; rfl
  have q8 : M1.2 8 = vp_updL (M.2 8) k 0 := by rw [← hM1]; rfl
  have qf : xfr [2, 3, 4, 5, 6, 8] M M1 := by
    rw [← hM1]
    exact ((((xfr.rf.I (by simp)).I (by simp)).I (by simp)).I (by simp)).L (by simp)
  clear hM1
  have hsz : ∀ j, j < 24 → M1.1 2 j = nI (pS (sItem P k n a g v) j) ∧ pS (sItem P k n a g v) j ≤ 64 := by
    intro j hj
    rw [q2]
    have h1 := hM.1 j hj
    have h2 := hw.1 j hj
    rw [sItem_S]
    unfold upd
    by_cases e : j = k
    · simp [e, hn]
    · simp [e, h1.1, h2.1]
  have e0 : M1 = xsI M1 6 (fun i => if k * 64 ≤ i ∧ i < k * 64 + 0 then 0 else M1.1 6 i) := (xsI_id (fun i => by rw [if_neg (by omega)])).symm
  rw [e0]
  refine L_tellItem l G k hk _ _ _ _ _ M1 ?_ 64 0 (by omega)
  clear hK K
  refine xF_go o_Pr_tellItem [] 60 (fun K hK => ?_)
  repeat' ((conv => whnf); first | refine ⟨fun h => ?_, fun h => ?_⟩ | refine ⟨?_, ?_⟩ | refine hK _ _ _ _ ?_)
  · refine xF_vret o_Pr_tellItem rfl rfl ?_
    have hn0 : n ≠ 0 := fun e => h (by rw [e]; rfl)
    refine ⟨rfl, cP_item hM hw hk q2 q3 q4 q5 (fun i => by rw [← q6]; rfl) (fun j hj q hq => ?_) (qf.I (by simp)), qf.I (by simp)⟩
    rw [xsI_2, q8]
    simp [hn0]
  · have hn0 : n = 0 := nI_inj (b := 0) (by omega) (by omega) h
    refine xF_callV o_Pr_tellItem [.int (nI k)] rfl z_Pr_forgetReferencesTo i_Pr_forgetReferencesTo v_Pr_forgetReferencesTo l_Pr_72 rfl ⟨⟨by decide, by decide⟩, rfl, rfl⟩ (Nat.le_of_ble_eq_true rfl) rfl rfl rfl (E_forget l G (xsI M1 6 (fun i => if k * 64 ≤ i ∧ i < k * 64 + 64 then 0 else M1.1 6 i)) (pS (sItem P k n a g v)) hsz (nI k)) ?_
    rintro v' M' ⟨rfl, f, rfl, hf⟩
    clear hK K
    refine xF_go o_Pr_tellItem [] 60 (fun K hK => ?_)
    repeat' ((conv => whnf); first | refine ⟨fun h => ?_, fun h => ?_⟩ | refine ⟨?_, ?_⟩ | refine hK _ _ _ _ ?_)
    refine xF_vret o_Pr_tellItem rfl rfl ?_
    refine ⟨rfl, cP_item hM hw hk q2 q3 q4 q5 (fun i => by rw [← q6]; rfl) (fun j hj q hq => ?_) ((qf.I (by simp)).L (by simp)), (qf.I (by simp)).L (by simp)⟩
    rw [xsL_2, if_pos rfl, hf j hj q hq, xsI_2, q8]
    have e7 : ∀ F, (xsI M1 6 F).1 7 = M.1 7 := fun F => q7
    rw [e7]
    simp [hn0]
end XTM
