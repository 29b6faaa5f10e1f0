/-! Machine: follows; memory taken as told and as laid -/
theorem xF_copyi {l : Launch} {G : xG} {Y : xMD} {k : xK} {all : List xRw} {pc : Nat} {lv : xLv} {r : List Value} {M : xMe} {Q : Option Value → xMe → Prop} {i k0 k1 : Nat} {sp dp n : Int32} (ok : xOK Y k all) (hi : xat all pc = some (.invokestatic i)) (ha : xAC Y.1.cls i) (hk0 : xkd k0 = 0) (hk1 : xkd k1 = 0) (h0 : k0 < 96) (h1 : k1 < 96) (a b c : Nat) (hsp : sp = nI a) (hdp : dp = nI b) (hn : n = nI c) (hs : a + c ≤ xtl k0) (hdd : b + c ≤ xtl k1) (hz : a < 2 ^ 31 ∧ b < 2 ^ 31 ∧ c < 2 ^ 31) (hr : (r.map fun v => v.category).sum ≤ 8) (hrm : 1 ≤ (yR Y).frames ∧ 26 ≤ (yR Y).locals) (h : xF l G Y (pc + 3) lv r (xsI M k1 (va_cpy (M.1 k0) (M.1 k1) a b c)) Q) : xF l G Y pc lv (.int n :: .int dp :: .ref k1 :: .int sp :: .ref k0 :: r) M Q := by
  subst hsp; subst hdp; subst hn
  refine xc_copyi (g := none) ha hk0 hk1 h0 h1 h0 h1 (nI_pos hz.1) (nI_pos hz.2.1) (nI_pos hz.2.2) ?_ ?_ hr hrm (xat_dec ok hi rfl) ?_
  · rw [nI_clamp hz.1, nI_clamp hz.2.2]; exact hs
  · rw [nI_clamp hz.2.1, nI_clamp hz.2.2]; exact hdd
  · rw [nI_clamp hz.1, nI_clamp hz.2.1, nI_clamp hz.2.2]; exact h
set_option maxRecDepth 20000 in
theorem ac_Ma : xAC y_Ma_takeAsTold.1.cls 39 := ⟨xtbm (List.mem_of_getElem? (i := 498) rfl) rfl, xtbm (List.mem_of_getElem? (i := 500) rfl) rfl, xtbm (List.mem_of_getElem? (i := 499) rfl) rfl, xtbm (List.mem_of_getElem? (i := 93) rfl) rfl⟩
section XMC
variable (l : Launch) (G : xG)
theorem L_takeAsTold (M0 : xMe) (Q : Option Value → xMe → Prop) (hnext : xF l G y_Ma_takeAsTold 24 [some (.ref 43), some (.int (nI 24))] [] (xsI M0 45 (fun i => if i < 24 then nI (i * 64) else M0.1 45 i)) Q) : ∀ (m k : Nat), m + k = 24 → xF l G y_Ma_takeAsTold 2 [some (.ref 43), some (.int (nI k))] [] (xsI M0 45 (fun i => if i < k then nI (i * 64) else M0.1 45 i)) Q := by
  intro m
  induction m with
  | zero =>
    intro k hk
    refine xF_go o_Ma_takeAsTold [2, 24] 60 (fun K hK => ?_)
    repeat' ((conv => whnf); first | refine ⟨fun h => ?_, fun h => ?_⟩ | refine ⟨?_, ?_⟩ | refine hK _ _ _ _ ?_)
    · have e : k = 24 := by omega
      subst e
      exact hnext
    all_goals exact absurd (show nI k < nI 24 from by assumption) (nI_nlt (by omega) (by omega))
  | succ m ih =>
    intro k hk
    refine xF_go o_Ma_takeAsTold [2, 24] 60 (fun K hK => ?_)
    repeat' ((conv => whnf); first | refine ⟨fun h => ?_, fun h => ?_⟩ | refine ⟨?_, ?_⟩ | refine hK _ _ _ _ ?_)
    · exact absurd (nI_lt (b := 24) (by omega) (by omega)) h
    · exact vp_in_nI (N := 24) (by omega) (by decide)
    · rw [nI_1, nI_clamp (by omega), nI_16, xsI_II, xsI_s]
      have e := ih (k + 1) (by omega)
      rw [xsI_c (g := upd (fun i => if i < k then nI (i * 64) else M0.1 45 i) k (nI (k * 64)))] at e
      · exact e
      · intro i
        unfold upd
        grind
theorem E_takeAsTold (M : xMe) : xE l G y_Ma_takeAsTold [.ref 43] M (fun v M' => v = none ∧ (∀ k, k < 24 → M'.1 45 k = nI (k * 64)) ∧ (∀ i, i < 1536 → M'.1 44 i = M.1 6 i) ∧ (∀ i, 1536 ≤ i → M'.1 44 i = M.1 44 i) ∧ xfr [44, 45] M M') := by
  refine xE_of [some (.ref 43), none] (by decide +kernel) (Nat.le_of_ble_eq_true rfl) rfl ?_
  refine xF_go o_Ma_takeAsTold [2] 60 (fun K hK => ?_)
  repeat' ((conv => whnf); first | refine ⟨fun h => ?_, fun h => ?_⟩ | refine ⟨?_, ?_⟩ | refine hK _ _ _ _ ?_)
  have e0 : M = xsI M 45 (fun i => if i < 0 then nI (i * 64) else M.1 45 i) := (xsI_id (fun i => by rw [if_neg (by omega)])).symm
  have key := L_takeAsTold l G M (fun v M' => v = none ∧ (∀ k, k < 24 → M'.1 45 k = nI (k * 64)) ∧ (∀ i, i < 1536 → M'.1 44 i = M.1 6 i) ∧ (∀ i, 1536 ≤ i → M'.1 44 i = M.1 44 i) ∧ xfr [44, 45] M M') ?_ 24 0 (by omega)
  · rw [← e0] at key
    exact key
  · clear hK K
    refine xF_go o_Ma_takeAsTold [] 60 (fun K hK => ?_)
    repeat' ((conv => whnf); first | refine ⟨fun h => ?_, fun h => ?_⟩ | refine ⟨?_, ?_⟩ | refine hK _ _ _ _ ?_)
    refine xF_copyi o_Ma_takeAsTold rfl ac_Ma rfl rfl (by decide) (by decide) 0 0 1536 rfl rfl rfl (by decide) (by decide) (by decide) (Nat.le_of_ble_eq_true rfl) (by decide) ?_
    clear hK K
    refine xF_go o_Ma_takeAsTold [] 60 (fun K hK => ?_)
    repeat' ((conv => whnf); first | refine ⟨fun h => ?_, fun h => ?_⟩ | refine ⟨?_, ?_⟩ | refine hK _ _ _ _ ?_)
    refine xF_vret o_Ma_takeAsTold rfl rfl ?_
    refine ⟨rfl, fun k hk => ?_, fun i hi => ?_, fun i hi => ?_, (xfr.rf.I (by simp)).I (by simp)⟩
    · show (if k < 24 then nI (k * 64) else M.1 45 k) = _
      rw [if_pos hk]
    · rw [xsI_s]
      unfold va_cpy
      rw [if_pos (by omega)]
      show M.1 6 (0 + (i - 0)) = _
      rw [show 0 + (i - 0) = i by omega]
    · rw [xsI_s]
      unfold va_cpy
      rw [if_neg (by omega)]
      rfl
theorem E_takeAsLaid (M : xMe) : xE l G y_Ma_takeAsLaid [.ref 43, .ref 30] M (fun v M' => v = none ∧ (∀ k, k < 24 → M'.1 45 k = M.1 40 k) ∧ (∀ i, i < 1728 → M'.1 44 i = M.1 42 i) ∧ xfr [44, 45] M M') := by
  refine xE_of [some (.ref 43), some (.ref 30)] (by decide +kernel) (Nat.le_of_ble_eq_true rfl) rfl ?_
  refine xF_go o_Ma_takeAsLaid [] 60 (fun K hK => ?_)
  repeat' ((conv => whnf); first | refine ⟨fun h => ?_, fun h => ?_⟩ | refine ⟨?_, ?_⟩ | refine hK _ _ _ _ ?_)
  refine xF_copyi o_Ma_takeAsLaid rfl ac_Ma rfl rfl (by decide) (by decide) 0 0 24 rfl rfl rfl (by decide) (by decide) (by decide) (Nat.le_of_ble_eq_true rfl) (by decide) ?_
  clear hK K
  refine xF_go o_Ma_takeAsLaid [] 60 (fun K hK => ?_)
  repeat' ((conv => whnf); first | refine ⟨fun h => ?_, fun h => ?_⟩ | refine ⟨?_, ?_⟩ | refine hK _ _ _ _ ?_)
  refine xF_copyi o_Ma_takeAsLaid rfl ac_Ma rfl rfl (by decide) (by decide) 0 0 1728 rfl rfl rfl (by decide) (by decide) (by decide) (Nat.le_of_ble_eq_true rfl) (by decide) ?_
  clear hK K
  refine xF_go o_Ma_takeAsLaid [] 60 (fun K hK => ?_)
  repeat' ((conv => whnf); first | refine ⟨fun h => ?_, fun h => ?_⟩ | refine ⟨?_, ?_⟩ | refine hK _ _ _ _ ?_)
  refine xF_vret o_Ma_takeAsLaid rfl rfl ?_
  refine ⟨rfl, fun k hk => ?_, fun i hi => ?_, (xfr.rf.I (by simp)).I (by simp)⟩
  · show va_cpy (M.1 40) (M.1 45) 0 0 24 k = _
    unfold va_cpy
    rw [if_pos (by omega), show 0 + (k - 0) = k by omega]
  · rw [xsI_s]
    unfold va_cpy
    rw [if_pos (by omega)]
    show M.1 42 (0 + (i - 0)) = _
    rw [show 0 + (i - 0) = i by omega]
theorem E_follow (P : sP) (hm : Nat → Option Nat) (M : xMe) (hM : cP P M) (hw : wP P) (hH : cH P hm M) (r k w : Nat) (hr : r < 4) (hk : k < 24) (hw2 : w < 2 ^ 20) : xE l G y_Ma_follow [.ref 43, .int (nI r), .int (nI k), .int (nI w)] M (fun v M' => ((∀ t, w < pS P k → pR P k w = some t → hm t = none) ∧ v = some (.int 1) ∧ M' = M) ∨ (w < pS P k ∧ ∃ t a, pR P k w = some t ∧ hm t = some a ∧ v = some (.int (-1)) ∧ M' = mPut M r (M.1 44 (a + 0)))) := by
  have hs := (hw.1 k hk).1
  refine xE_of [some (.ref 43), some (.int (nI r)), some (.int (nI k)), some (.int (nI w))] (by decide +kernel) (Nat.le_of_ble_eq_true rfl) rfl ?_
  refine xF_go o_Ma_follow [] 60 (fun K hK => ?_)
  repeat' ((conv => whnf); first | refine ⟨fun h => ?_, fun h => ?_⟩ | refine ⟨?_, ?_⟩ | refine hK _ _ _ _ ?_)
  refine xF_callV o_Ma_follow [.int (nI k), .int (nI w)] rfl z_Pr_hasPlace i_Pr_hasPlace v_Pr_hasPlace l_Ma_154 rfl ⟨⟨by decide, by decide⟩, rfl, rfl⟩ (Nat.le_of_ble_eq_true rfl) rfl rfl rfl (E_hasPlace l G P M hM.1 hw (nI k) (nI w)) ?_
  rintro v M1 ⟨rfl, b, rfl, hb⟩
  clear hK K
  have hb' : b = true ↔ w < pS P k := by
    rw [hb]
    constructor
    · rintro ⟨j, q, c1, c2, c3, c4⟩
      have e1 := nI_inj (by omega) (by omega) c2
      subst e1
      have e2 := nI_inj (by omega) (by omega) c4
      omega
    · intro h
      exact ⟨k, w, hk, rfl, h, rfl⟩
  cases b with
  | false =>
    have hnot : ¬ w < pS P k := fun z => by cases hb'.mpr z
    refine xF_go o_Ma_follow [] 60 (fun K hK => ?_)
    repeat' ((conv => whnf); first | refine ⟨fun h => ?_, fun h => ?_⟩ | refine ⟨?_, ?_⟩ | refine hK _ _ _ _ ?_)
    · refine xF_iret o_Ma_follow rfl rfl ?_
      exact Or.inl ⟨fun t z => absurd z hnot, rfl, rfl⟩
    all_goals exact absurd rfl (show ¬ (b2 false) = 0 from by assumption)
  | true =>
    have hlt := hb'.mp rfl
    refine xF_go o_Ma_follow [] 60 (fun K hK => ?_)
    repeat' ((conv => whnf); first | refine ⟨fun h => ?_, fun h => ?_⟩ | refine ⟨?_, ?_⟩ | refine hK _ _ _ _ ?_)
    · exact absurd h (by decide)
    · refine xF_callV o_Ma_follow [.int (nI k), .int (nI w)] rfl z_Pr_hasReference i_Pr_hasReference v_Pr_hasReference l_Ma_163 rfl ⟨⟨by decide, by decide⟩, rfl, rfl⟩ (Nat.le_of_ble_eq_true rfl) rfl rfl rfl (E_hasReference l G P M1 hM.2.2.1 k w hk (by omega)) ?_
      rintro v M ⟨rfl, rfl⟩
      clear hK K
      cases hr0 : pR P k w with
      | none =>
        refine xF_go o_Ma_follow [] 60 (fun K hK => ?_)
        repeat' ((conv => whnf); first | refine ⟨fun h => ?_, fun h => ?_⟩ | refine ⟨?_, ?_⟩ | refine hK _ _ _ _ ?_)
        all_goals first | exact absurd rfl (show ¬ (b2 (none : Option Nat).isSome) = 0 from by assumption) | skip
        refine xF_iret o_Ma_follow rfl rfl ?_
        exact Or.inl ⟨(fun t _ z => by cases z), rfl, rfl⟩
      | some t =>
        have ht := hw.2.2.1 k hk w (by omega) t hr0
        have ht7 := (hM.2.2.1 k hk w (by omega)).2 t hr0
        refine xF_go o_Ma_follow [] 60 (fun K hK => ?_)
        repeat' ((conv => whnf); first | refine ⟨fun h => ?_, fun h => ?_⟩ | refine ⟨?_, ?_⟩ | refine hK _ _ _ _ ?_)
        · rw [nI_16, nI_add]
          exact vp_in_nI (N := 1536) (by omega) (by decide)
        · rw [nI_16, nI_add, nI_clamp (by omega), ht7]
          refine xF_callV o_Ma_follow [.int (nI r), .int (nI t), .int 0] rfl z_Ma_load i_Ma_load v_Ma_load l_Ma_123 rfl ⟨⟨by decide, by decide⟩, rfl, rfl⟩ (Nat.le_of_ble_eq_true rfl) rfl rfl rfl (E_load l G P hm M hM.1 hw hH r t 0 hr ht.1 (by decide)) ?_
          rintro v M2 (⟨c1, rfl, rfl⟩ | ⟨c1, a, c2, rfl, rfl⟩)
          · clear hK K
            refine xF_go o_Ma_follow [] 60 (fun K hK => ?_)
            repeat' ((conv => whnf); first | refine ⟨fun h => ?_, fun h => ?_⟩ | refine ⟨?_, ?_⟩ | refine hK _ _ _ _ ?_)
            refine xF_iret o_Ma_follow rfl rfl ?_
            refine Or.inl ⟨fun t' _ z => ?_, rfl, rfl⟩
            cases z
            cases ha : hm t with
            | none => rfl
            | some a => exact absurd ⟨ht.2.2, by rw [ha]; rfl⟩ c1
          · clear hK K
            refine xF_go o_Ma_follow [] 60 (fun K hK => ?_)
            repeat' ((conv => whnf); first | refine ⟨fun h => ?_, fun h => ?_⟩ | refine ⟨?_, ?_⟩ | refine hK _ _ _ _ ?_)
            refine xF_iret o_Ma_follow rfl rfl ?_
            exact Or.inr ⟨hlt, t, a, rfl, c2, rfl, rfl⟩
        · exact absurd (show b2 true = 0 from (by assumption : b2 (some t).isSome = 0)) (by decide)
end XMC
