/-! Machine: loads, stores, follows; memory taken -/
/-- where the items stand -/
def cH (P : sP) (hm : Nat → Option Nat) (M : xMe) : Prop := ∀ k, k < 24 → M.1 45 k = oI (hm k) ∧ ∀ a, hm k = some a → a + pS P k ≤ 1728 ∧ a < 1728
theorem oI_no {hm : Option Nat} (h : ∀ a, hm = some a → a < 1728) : oI hm = -1 ↔ hm = none := by
  cases hm with
  | none => exact ⟨fun _ => rfl, fun _ => rfl⟩
  | some j =>
    refine ⟨fun e => ?_, fun e => by cases e⟩
    have h1 := h j rfl
    have h2 : nI j = -1 := e
    exact absurd (h2 ▸ nI_pos' (n := j) (by omega)) (by decide)
section XMB
variable (l : Launch) (G : xG)
def mPut (M : xMe) (r : Nat) (x : Int32) : xMe := xsI (xsI M 46 (upd (M.1 46) r x)) 43 (upd (M.1 43) 10 (M.1 43 10 + 1))
theorem E_load (P : sP) (hm : Nat → Option Nat) (M : xMe) (hM : cS P M) (hw : wP P) (hH : cH P hm M) (r k w : Nat) (hr : r < 4) (hk : k < 24) (hw2 : w < 2 ^ 20) : xE l G y_Ma_load [.ref 43, .int (nI r), .int (nI k), .int (nI w)] M (fun v M' => (¬ (w < pS P k ∧ (hm k).isSome) ∧ v = some (.int 1) ∧ M' = M) ∨ (w < pS P k ∧ ∃ a, hm k = some a ∧ v = some (.int (-1)) ∧ M' = mPut M r (M.1 44 (a + w)))) := by
  obtain ⟨hh, hh2⟩ := hH k hk
  have hcl : (nI k).toNatClampNeg = k := nI_clamp (by omega)
  refine xE_of [some (.ref 43), some (.int (nI r)), some (.int (nI k)), some (.int (nI w))] (by decide +kernel) (Nat.le_of_ble_eq_true rfl) rfl ?_
  refine xF_go o_Ma_load [] 60 (fun K hK => ?_)
  repeat' ((conv => whnf); first | refine ⟨fun h => ?_, fun h => ?_⟩ | refine ⟨?_, ?_⟩ | refine hK _ _ _ _ ?_)
  refine xF_callV o_Ma_load [.int (nI k), .int (nI w)] rfl z_Pr_hasPlace i_Pr_hasPlace v_Pr_hasPlace l_Ma_154 rfl ⟨⟨by decide, by decide⟩, rfl, rfl⟩ (Nat.le_of_ble_eq_true rfl) rfl rfl rfl (E_hasPlace l G P M hM hw (nI k) (nI w)) ?_
  rintro v M1 ⟨rfl, b, rfl, hb⟩
  clear hK K
  have hb' : b = true ↔ w < pS P k := by
    rw [hb]
    constructor
    · rintro ⟨j, q, c1, c2, c3, c4⟩
      have e1 := nI_inj (by omega) (by omega) c2
      subst e1
      have hs := (hw.1 k hk).1
      have e2 := nI_inj (by omega) (by omega) c4
      omega
    · intro h
      exact ⟨k, w, hk, rfl, h, rfl⟩
  cases b with
  | false =>
    have hnot : ¬ w < pS P k := fun z => by cases hb'.mpr z
    refine xF_go o_Ma_load [] 60 (fun K hK => ?_)
    repeat' ((conv => whnf); first | refine ⟨fun h => ?_, fun h => ?_⟩ | refine ⟨?_, ?_⟩ | refine hK _ _ _ _ ?_)
    · refine xF_iret o_Ma_load rfl rfl ?_
      exact Or.inl ⟨fun z => hnot z.1, rfl, rfl⟩
    all_goals exact absurd rfl (show ¬ (b2 false) = 0 from by assumption)
  | true =>
    have hlt := hb'.mp rfl
    refine xF_go o_Ma_load [] 60 (fun K hK => ?_)
    repeat' ((conv => whnf); first | refine ⟨fun h => ?_, fun h => ?_⟩ | refine ⟨?_, ?_⟩ | refine hK _ _ _ _ ?_)
    · exact absurd h (by decide)
    · exact vp_in_nI hk (by decide)
    · exact vp_in_nI hk (by decide)
    · have hq : ¬ M1.1 45 (nI k).toNatClampNeg = -1 := by assumption
      rw [hcl, hh, oI_no (fun a ha => (hh2 a ha).2)] at hq
      rw [hcl, hh]
      cases hs : hm k with
      | none => exact absurd hs hq
      | some a =>
        have := (hh2 a hs).1
        show vp_in (nI a + nI w) 1728
        rw [nI_add]
        exact vp_in_nI (by omega) (by decide)
    · have hq : ¬ M1.1 45 (nI k).toNatClampNeg = -1 := by assumption
      rw [hcl, hh, oI_no (fun a ha => (hh2 a ha).2)] at hq
      rw [hcl, hh]
      cases hs : hm k with
      | none => exact absurd hs hq
      | some a =>
        have h1728 := (hh2 a hs).1
        have ea : (oI (some a) + nI w).toNatClampNeg = a + w := by
          show (nI a + nI w).toNatClampNeg = _
          rw [nI_add, nI_clamp (by omega)]
        rw [ea]
        refine xF_callV o_Ma_load [.int (nI r), .int (M1.1 44 (a + w))] rfl z_Ma_put i_Ma_put v_Ma_put l_Ma_117 rfl ⟨⟨by decide, by decide⟩, rfl, rfl⟩ (Nat.le_of_ble_eq_true rfl) rfl rfl rfl (E_put l G r hr (M1.1 44 (a + w)) M1) ?_
        rintro v M2 ⟨rfl, rfl⟩
        clear hK K
        refine xF_go o_Ma_load [] 60 (fun K hK => ?_)
        repeat' ((conv => whnf); first | refine ⟨fun h => ?_, fun h => ?_⟩ | refine ⟨?_, ?_⟩ | refine hK _ _ _ _ ?_)
        refine xF_iret o_Ma_load rfl rfl ?_
        exact Or.inr ⟨hlt, a, rfl, rfl, rfl⟩
    · have hq : M1.1 45 (nI k).toNatClampNeg = -1 := by assumption
      rw [hcl, hh, oI_no (fun a ha => (hh2 a ha).2)] at hq
      refine xF_iret o_Ma_load rfl rfl ?_
      exact Or.inl ⟨fun z => by rw [hq] at z; simp at z, rfl, rfl⟩
theorem E_store (P : sP) (hm : Nat → Option Nat) (M : xMe) (hM : cS P M) (hw : wP P) (hH : cH P hm M) (k w : Nat) (x : Int32) (hk : k < 24) (hw2 : w < 2 ^ 20) : xE l G y_Ma_store [.ref 43, .int (nI k), .int (nI w), .int x] M (fun v M' => (¬ w < pS P k ∧ v = some (.int 1) ∧ M' = M) ∨ (w < pS P k ∧ v = some (.int (-1)) ∧ M' = xsI (match hm k with | some a => xsI M 44 (upd (M.1 44) (a + w) x) | none => M) 43 (upd (M.1 43) 10 (M.1 43 10 + 1)))) := by
  obtain ⟨hh, hh2⟩ := hH k hk
  have hcl : (nI k).toNatClampNeg = k := nI_clamp (by omega)
  refine xE_of [some (.ref 43), some (.int (nI k)), some (.int (nI w)), some (.int x)] (by decide +kernel) (Nat.le_of_ble_eq_true rfl) rfl ?_
  refine xF_go o_Ma_store [] 60 (fun K hK => ?_)
  repeat' ((conv => whnf); first | refine ⟨fun h => ?_, fun h => ?_⟩ | refine ⟨?_, ?_⟩ | refine hK _ _ _ _ ?_)
  refine xF_callV o_Ma_store [.int (nI k), .int (nI w)] rfl z_Pr_hasPlace i_Pr_hasPlace v_Pr_hasPlace l_Ma_154 rfl ⟨⟨by decide, by decide⟩, rfl, rfl⟩ (Nat.le_of_ble_eq_true rfl) rfl rfl rfl (E_hasPlace l G P M hM hw (nI k) (nI w)) ?_
  rintro v M1 ⟨rfl, b, rfl, hb⟩
  clear hK K
  have hb' : b = true ↔ w < pS P k := by
    rw [hb]
    constructor
    · rintro ⟨j, q, c1, c2, c3, c4⟩
      have e1 := nI_inj (by omega) (by omega) c2
      subst e1
      have hs := (hw.1 k hk).1
      have e2 := nI_inj (by omega) (by omega) c4
      omega
    · intro h
      exact ⟨k, w, hk, rfl, h, rfl⟩
  cases b with
  | false =>
    have hnot : ¬ w < pS P k := fun z => by cases hb'.mpr z
    refine xF_go o_Ma_store [] 60 (fun K hK => ?_)
    repeat' ((conv => whnf); first | refine ⟨fun h => ?_, fun h => ?_⟩ | refine ⟨?_, ?_⟩ | refine hK _ _ _ _ ?_)
    all_goals first | exact absurd rfl (show ¬ (b2 false) = 0 from by assumption) | skip
    refine xF_iret o_Ma_store rfl rfl ?_
    exact Or.inl ⟨hnot, rfl, rfl⟩
  | true =>
    have hlt := hb'.mp rfl
    refine xF_go o_Ma_store [] 60 (fun K hK => ?_)
    repeat' ((conv => whnf); first | refine ⟨fun h => ?_, fun h => ?_⟩ | refine ⟨?_, ?_⟩ | refine hK _ _ _ _ ?_)
    · exact vp_in_nI hk (by decide)
    · have hq : M1.1 45 (nI k).toNatClampNeg = -1 := by assumption
      rw [hcl, hh, oI_no (fun a ha => (hh2 a ha).2)] at hq
      refine xF_iret o_Ma_store rfl rfl ?_
      rw [hq]
      exact Or.inr ⟨hlt, rfl, rfl⟩
    · exact vp_in_nI hk (by decide)
    · have hq : ¬ M1.1 45 (nI k).toNatClampNeg = -1 := by assumption
      rw [hcl, hh, oI_no (fun a ha => (hh2 a ha).2)] at hq
      rw [hcl, hh]
      cases hs : hm k with
      | none => exact absurd hs hq
      | some a =>
        have := (hh2 a hs).1
        show vp_in (nI a + nI w) 1728
        rw [nI_add]
        exact vp_in_nI (by omega) (by decide)
    · have hq : ¬ M1.1 45 (nI k).toNatClampNeg = -1 := by assumption
      rw [hcl, hh, oI_no (fun a ha => (hh2 a ha).2)] at hq
      rw [hcl, hh]
      cases hs : hm k with
      | none => exact absurd hs hq
      | some a =>
        have h1728 := (hh2 a hs).1
        have ea : (oI (some a) + nI w).toNatClampNeg = a + w := by
          show (nI a + nI w).toNatClampNeg = _
          rw [nI_add, nI_clamp (by omega)]
        rw [ea]
        refine xF_iret o_Ma_store rfl rfl ?_
        exact Or.inr ⟨hlt, rfl, rfl⟩
    · exact absurd (show b2 true = 0 from by assumption) (by decide)
end XMB
