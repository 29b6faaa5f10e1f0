/-! what is told of the latest shrink: shrunk, the class -/
section XTN
variable (l : Launch) (G : xG)
theorem E_LcountKept (X : Nat → Prop) (M : xMe) (h36 : c36 36 X M) : xE l G y_La_countKept [.ref 30] M (fun r M' => M' = M ∧ r = some (.int (nI (cnt (fun k => tb (X k)) 24)))) := by
  refine xE_cps (fun Q hQ => ?_)
  refine xE_of [some (.ref 30), none, none] (by decide +kernel) (Nat.le_of_ble_eq_true rfl) rfl ?_
  refine xF_go o_La_countKept [4] 60 (fun K hK => ?_)
  repeat' ((conv => whnf); first | refine ⟨fun h => ?_, fun h => ?_⟩ | refine ⟨?_, ?_⟩ | refine hK _ _ _ _ ?_)
  clear hK K
  refine loopN (σ := Unit) 24 (fun _ _ => True) (fun k _ => xF l G y_La_countKept 4 [some (.ref 30), some (.int (nI (cnt (fun j => tb (X j)) k))), some (.int (nI k))] [] M Q) ?_ ?_ 24 0 rfl () trivial
  · intro k hk _ _ next
    have hcl : (nI k).toNatClampNeg = k := nI_clamp (by omega)
    refine xF_go o_La_countKept [4] 60 (fun K hK => ?_)
    repeat' ((conv => whnf); first | refine ⟨fun h => ?_, fun h => ?_⟩ | refine ⟨?_, ?_⟩ | refine hK _ _ _ _ ?_)
    · exact absurd (nI_lt (b := 24) hk (by decide)) h
    · exact vp_in_nI hk (by decide)
    · rw [hcl, h36 k hk]
      refine xF_callS o_La_countKept [.int (b2 (tb (X k)))] rfl z_DS_asNumber s_DS_asNumber l_La_85 rfl ⟨⟨by decide, by decide⟩, rfl, rfl⟩ (Nat.le_of_ble_eq_true rfl) rfl (E_asNumber l G _ M) ?_
      rintro v M' ⟨eM, rfl⟩; obtain rfl := eM.symm
      clear hK K
      rw [b2_if, show b2 (tb (X k)) = nI (if tb (X k) = true then 1 else 0) by cases tb (X k) <;> rfl]
      refine xF_go o_La_countKept [4] 60 (fun K hK => ?_)
      repeat' ((conv => whnf); first | refine ⟨fun h => ?_, fun h => ?_⟩ | refine ⟨?_, ?_⟩ | refine hK _ _ _ _ ?_)
      rw [nI_add, nI_1]
      exact next () trivial
  · intro _ _
    refine xF_go o_La_countKept [4] 60 (fun K hK => ?_)
    repeat' ((conv => whnf); first | refine ⟨fun h => ?_, fun h => ?_⟩ | refine ⟨?_, ?_⟩ | refine hK _ _ _ _ ?_)
    · refine xF_iret o_La_countKept rfl rfl ?_
      exact hQ _ _ ⟨rfl, rfl⟩
    all_goals exact absurd (show nI 24 < nI 24 from by assumption) (nI_nlt (by omega) (by omega))
theorem E_LisDropped (P : sP) (hw : wP P) (V : sV) (k : Nat) (hk : k < 24) (M : xMe) (h34 : c34 P M) (h36 : c36 36 (kpt P V) M) : xE l G y_La_isDropped [.ref 30, .int (nI k)] M (fun r M' => M' = M ∧ r = some (.int (b2 (tb (0 < pS P k ∧ ¬ kpt P V k))))) := by
  have hcl : (nI k).toNatClampNeg = k := nI_clamp (by omega)
  have hs64 := (hw.1 k hk).1
  have v34 : M.1 34 (nI k).toNatClampNeg = nI (pS P k) := by rw [hcl]; exact h34 k hk
  have v36 : M.1 36 (nI k).toNatClampNeg = b2 (tb (kpt P V k)) := by rw [hcl]; exact h36 k hk
  refine xE_of [some (.ref 30), some (.int (nI k))] (by decide +kernel) (Nat.le_of_ble_eq_true rfl) rfl ?_
  refine xF_go o_La_isDropped [] 60 (fun K hK => ?_)
  repeat' ((conv => whnf); first | refine ⟨fun h => ?_, fun h => ?_⟩ | refine ⟨?_, ?_⟩ | refine hK _ _ _ _ ?_)
  · exact vp_in_nI hk (by decide)
  · have h0 : ¬ 0 < M.1 34 (nI k).toNatClampNeg := by assumption
    rw [v34, nI_0lt (by omega)] at h0
    refine xF_zret o_La_isDropped rfl rfl (Or.inl rfl) ?_
    refine ⟨rfl, ?_⟩
    rw [tb_f.mpr (fun z => h0 z.1)]
    rfl
  · exact vp_in_nI hk (by decide)
  · have h0 : ¬ M.1 36 (nI k).toNatClampNeg = 0 := by assumption
    rw [v36, b2_ne, tb_t] at h0
    refine xF_zret o_La_isDropped rfl rfl (Or.inl rfl) ?_
    refine ⟨rfl, ?_⟩
    rw [tb_f.mpr (fun z => z.2 h0)]
    rfl
  · have h0 : 0 < M.1 34 (nI k).toNatClampNeg := by assumption
    rw [v34, nI_0lt (by omega)] at h0
    have h1 : M.1 36 (nI k).toNatClampNeg = 0 := by assumption
    rw [v36, b2_0, tb_f] at h1
    refine xF_zret o_La_isDropped rfl rfl (Or.inr rfl) ?_
    refine ⟨rfl, ?_⟩
    rw [tb_t.mpr ⟨h0, h1⟩]
    rfl
theorem E_LcountDropped (P : sP) (hw : wP P) (V : sV) (M : xMe) (h34 : c34 P M) (h36 : c36 36 (kpt P V) M) : xE l G y_La_countDropped [.ref 30] M (fun r M' => M' = M ∧ r = some (.int (nI (cnt (fun k => tb (0 < pS P k ∧ ¬ kpt P V k)) 24)))) := by
  refine xE_cps (fun Q hQ => ?_)
  refine xE_of [some (.ref 30), none, none] (by decide +kernel) (Nat.le_of_ble_eq_true rfl) rfl ?_
  refine xF_go o_La_countDropped [4] 60 (fun K hK => ?_)
  repeat' ((conv => whnf); first | refine ⟨fun h => ?_, fun h => ?_⟩ | refine ⟨?_, ?_⟩ | refine hK _ _ _ _ ?_)
  clear hK K
  refine loopN (σ := Unit) 24 (fun _ _ => True) (fun k _ => xF l G y_La_countDropped 4 [some (.ref 30), some (.int (nI (cnt (fun j => tb (0 < pS P j ∧ ¬ kpt P V j)) k))), some (.int (nI k))] [] M Q) ?_ ?_ 24 0 rfl () trivial
  · intro k hk _ _ next
    refine xF_go o_La_countDropped [4] 60 (fun K hK => ?_)
    repeat' ((conv => whnf); first | refine ⟨fun h => ?_, fun h => ?_⟩ | refine ⟨?_, ?_⟩ | refine hK _ _ _ _ ?_)
    · exact absurd (nI_lt (b := 24) hk (by decide)) h
    · refine xF_callV o_La_countDropped [.int (nI k)] rfl z_La_isDropped i_La_isDropped v_La_isDropped l_La_89 rfl ⟨⟨by decide, by decide⟩, rfl, rfl⟩ (Nat.le_of_ble_eq_true rfl) rfl rfl rfl (E_LisDropped l G P hw V k hk M h34 h36) ?_
      rintro v M' ⟨eM, rfl⟩; obtain rfl := eM.symm
      clear hK K
      refine xF_go o_La_countDropped [4] 60 (fun K hK => ?_)
      repeat' ((conv => whnf); first | refine ⟨fun h => ?_, fun h => ?_⟩ | refine ⟨?_, ?_⟩ | refine hK _ _ _ _ ?_)
      refine xF_callS o_La_countDropped [.int (b2 (tb (0 < pS P k ∧ ¬ kpt P V k)))] rfl z_DS_asNumber s_DS_asNumber l_La_85 rfl ⟨⟨by decide, by decide⟩, rfl, rfl⟩ (Nat.le_of_ble_eq_true rfl) rfl (E_asNumber l G _ M) ?_
      rintro v M' ⟨eM, rfl⟩; obtain rfl := eM.symm
      clear hK K
      rw [b2_if, show b2 (tb (0 < pS P k ∧ ¬ kpt P V k)) = nI (if tb (0 < pS P k ∧ ¬ kpt P V k) = true then 1 else 0) by cases tb (0 < pS P k ∧ ¬ kpt P V k) <;> rfl]
      refine xF_go o_La_countDropped [4] 60 (fun K hK => ?_)
      repeat' ((conv => whnf); first | refine ⟨fun h => ?_, fun h => ?_⟩ | refine ⟨?_, ?_⟩ | refine hK _ _ _ _ ?_)
      rw [nI_add, nI_1]
      exact next () trivial
  · intro _ _
    refine xF_go o_La_countDropped [4] 60 (fun K hK => ?_)
    repeat' ((conv => whnf); first | refine ⟨fun h => ?_, fun h => ?_⟩ | refine ⟨?_, ?_⟩ | refine hK _ _ _ _ ?_)
    · refine xF_iret o_La_countDropped rfl rfl ?_
      exact hQ _ _ ⟨rfl, rfl⟩
    all_goals exact absurd (show nI 24 < nI 24 from by assumption) (nI_nlt (by omega) (by omega))
theorem E_LcountDroppedOctets (P : sP) (hw : wP P) (V : sV) (M : xMe) (h34 : c34 P M) (h36 : c36 36 (kpt P V) M) : xE l G y_La_countDroppedOctets [.ref 30] M (fun r M' => M' = M ∧ r = some (.int (nI (dsz P V 24)))) := by
  refine xE_cps (fun Q hQ => ?_)
  refine xE_of [some (.ref 30), none, none] (by decide +kernel) (Nat.le_of_ble_eq_true rfl) rfl ?_
  refine xF_go o_La_countDroppedOctets [4] 60 (fun K hK => ?_)
  repeat' ((conv => whnf); first | refine ⟨fun h => ?_, fun h => ?_⟩ | refine ⟨?_, ?_⟩ | refine hK _ _ _ _ ?_)
  clear hK K
  refine loopN (σ := Unit) 24 (fun _ _ => True) (fun k _ => xF l G y_La_countDroppedOctets 4 [some (.ref 30), some (.int (nI (dsz P V k))), some (.int (nI k))] [] M Q) ?_ ?_ 24 0 rfl () trivial
  · intro k hk _ _ next
    have hcl : (nI k).toNatClampNeg = k := nI_clamp (by omega)
    have hd : dsz P V (k + 1) = dsz P V k + (if tb (0 < pS P k ∧ ¬ kpt P V k) then pS P k else 0) := rfl
    refine xF_go o_La_countDroppedOctets [4] 60 (fun K hK => ?_)
    repeat' ((conv => whnf); first | refine ⟨fun h => ?_, fun h => ?_⟩ | refine ⟨?_, ?_⟩ | refine hK _ _ _ _ ?_)
    · exact absurd (nI_lt (b := 24) hk (by decide)) h
    · refine xF_callV o_La_countDroppedOctets [.int (nI k)] rfl z_La_isDropped i_La_isDropped v_La_isDropped l_La_89 rfl ⟨⟨by decide, by decide⟩, rfl, rfl⟩ (Nat.le_of_ble_eq_true rfl) rfl rfl rfl (E_LisDropped l G P hw V k hk M h34 h36) ?_
      rintro v M' ⟨eM, rfl⟩; obtain rfl := eM.symm
      clear hK K
      by_cases e : 0 < pS P k ∧ ¬ kpt P V k
      · rw [if_tb e] at hd
        rw [tb_t.mpr e]
        refine xF_go o_La_countDroppedOctets [4] 60 (fun K hK => ?_)
        repeat' ((conv => whnf); first | refine ⟨fun h => ?_, fun h => ?_⟩ | refine ⟨?_, ?_⟩ | refine hK _ _ _ _ ?_)
        · exact absurd (show b2 true = 0 from by assumption) (by decide)
        · exact vp_in_nI hk (by decide)
        · rw [hcl, h34 k hk, nI_add, nI_1, ← hd]
          exact next () trivial
      · rw [if_nt e] at hd
        rw [tb_f.mpr e]
        refine xF_go o_La_countDroppedOctets [4] 60 (fun K hK => ?_)
        repeat' ((conv => whnf); first | refine ⟨fun h => ?_, fun h => ?_⟩ | refine ⟨?_, ?_⟩ | refine hK _ _ _ _ ?_)
        · rw [nI_1, show nI (dsz P V k) + 0 = nI (dsz P V (k + 1)) by rw [hd]; exact nI_add _ 0]
          exact next () trivial
        all_goals exact absurd rfl (show ¬ b2 false = 0 from by assumption)
  · intro _ _
    refine xF_go o_La_countDroppedOctets [4] 60 (fun K hK => ?_)
    repeat' ((conv => whnf); first | refine ⟨fun h => ?_, fun h => ?_⟩ | refine ⟨?_, ?_⟩ | refine hK _ _ _ _ ?_)
    · refine xF_iret o_La_countDroppedOctets rfl rfl ?_
      exact hQ _ _ ⟨rfl, rfl⟩
    all_goals exact absurd (show nI 24 < nI 24 from by assumption) (nI_nlt (by omega) (by omega))
theorem E_countOthers38 (o : Nat → Option Nat) (ho : ∀ k, k < 24 → ∀ d, o k = some d → d < 24) (M : xMe) (h38 : c38 38 o M) : xE l G y_DS_countOthers [.ref 38] M (fun r M' => M' = M ∧ r = some (.int (nI (cnt (fun k => (o k).isSome) 24)))) := by
  refine xE_cps (fun Q hQ => ?_)
  refine xE_of [some (.ref 38), none, none] (by decide +kernel) (Nat.le_of_ble_eq_true rfl) rfl ?_
  refine xF_go o_DS_countOthers [4] 60 (fun K hK => ?_)
  repeat' ((conv => whnf); first | refine ⟨fun h => ?_, fun h => ?_⟩ | refine ⟨?_, ?_⟩ | refine hK _ _ _ _ ?_)
  clear hK K
  refine loopN (σ := Unit) 24 (fun _ _ => True) (fun k _ => xF l G y_DS_countOthers 4 [some (.ref 38), some (.int (nI (cnt (fun j => (o j).isSome) k))), some (.int (nI k))] [] M Q) ?_ ?_ 24 0 rfl () trivial
  · intro k hk _ _ next
    have hcl : (nI k).toNatClampNeg = k := nI_clamp (by omega)
    have v : M.1 38 (nI k).toNatClampNeg = oI (o k) := by rw [hcl]; exact h38 k hk
    have hno := oI_none (o := o k) (fun d e => by have := ho k hk d e; omega)
    have hd : cnt (fun j => (o j).isSome) (k + 1) = cnt (fun j => (o j).isSome) k + (if (o k).isSome = true then 1 else 0) := rfl
    refine xF_go o_DS_countOthers [4, 23] 60 (fun K hK => ?_)
    repeat' ((conv => whnf); first | refine ⟨fun h => ?_, fun h => ?_⟩ | refine ⟨?_, ?_⟩ | refine hK _ _ _ _ ?_)
    · exact absurd (nI_lt (b := 24) hk (by decide)) h
    · exact vp_in_nI hk (by decide)
    · have h0 := (show M.1 38 (nI k).toNatClampNeg = -1 from by assumption)
      rw [v, hno] at h0
      clear hK K
      refine xF_go o_DS_countOthers [4] 60 (fun K hK => ?_)
      repeat' ((conv => whnf); first | refine ⟨fun h => ?_, fun h => ?_⟩ | refine ⟨?_, ?_⟩ | refine hK _ _ _ _ ?_)
      refine xF_callS o_DS_countOthers [.int 0] rfl z_DS_asNumber s_DS_asNumber l_DS_134 rfl ⟨⟨by decide, by decide⟩, rfl, rfl⟩ (Nat.le_of_ble_eq_true rfl) rfl (E_asNumber l G 0 M) ?_
      rintro v M' ⟨eM, rfl⟩; obtain rfl := eM.symm
      clear hK K
      rw [if_pos rfl]
      refine xF_go o_DS_countOthers [4] 60 (fun K hK => ?_)
      repeat' ((conv => whnf); first | refine ⟨fun h => ?_, fun h => ?_⟩ | refine ⟨?_, ?_⟩ | refine hK _ _ _ _ ?_)
      rw [nI_1, show nI (cnt (fun j => (o j).isSome) k) + 0 = nI (cnt (fun j => (o j).isSome) (k + 1)) by rw [hd, h0]; exact nI_add _ 0]
      exact next () trivial
    · have h0 := (show ¬ M.1 38 (nI k).toNatClampNeg = -1 from by assumption)
      rw [v, hno] at h0
      have h1 : (o k).isSome = true := by
        cases e : o k with
        | none => exact absurd e h0
        | some d => rfl
      clear hK K
      refine xF_go o_DS_countOthers [4] 60 (fun K hK => ?_)
      repeat' ((conv => whnf); first | refine ⟨fun h => ?_, fun h => ?_⟩ | refine ⟨?_, ?_⟩ | refine hK _ _ _ _ ?_)
      refine xF_callS o_DS_countOthers [.int 1] rfl z_DS_asNumber s_DS_asNumber l_DS_134 rfl ⟨⟨by decide, by decide⟩, rfl, rfl⟩ (Nat.le_of_ble_eq_true rfl) rfl (E_asNumber l G 1 M) ?_
      rintro v M' ⟨eM, rfl⟩; obtain rfl := eM.symm
      clear hK K
      rw [if_neg (by decide)]
      refine xF_go o_DS_countOthers [4] 60 (fun K hK => ?_)
      repeat' ((conv => whnf); first | refine ⟨fun h => ?_, fun h => ?_⟩ | refine ⟨?_, ?_⟩ | refine hK _ _ _ _ ?_)
      rw [nI_1, nI_1, show cnt (fun j => (o j).isSome) k + 1 = cnt (fun j => (o j).isSome) (k + 1) by rw [hd, h1]; rfl]
      exact next () trivial
  · intro _ _
    refine xF_go o_DS_countOthers [4, 23] 60 (fun K hK => ?_)
    repeat' ((conv => whnf); first | refine ⟨fun h => ?_, fun h => ?_⟩ | refine ⟨?_, ?_⟩ | refine hK _ _ _ _ ?_)
    · refine xF_iret o_DS_countOthers rfl rfl ?_
      exact hQ _ _ ⟨rfl, rfl⟩
    all_goals exact absurd (show nI 24 < nI 24 from by assumption) (nI_nlt (by omega) (by omega))
theorem E_countOthers39 (o : Nat → Option Nat) (ho : ∀ k, k < 24 → ∀ d, o k = some d → d < 24) (M : xMe) (h38 : c38 39 o M) : xE l G y_DS_countOthers [.ref 39] M (fun r M' => M' = M ∧ r = some (.int (nI (cnt (fun k => (o k).isSome) 24)))) := by
  refine xE_cps (fun Q hQ => ?_)
  refine xE_of [some (.ref 39), none, none] (by decide +kernel) (Nat.le_of_ble_eq_true rfl) rfl ?_
  refine xF_go o_DS_countOthers [4] 60 (fun K hK => ?_)
  repeat' ((conv => whnf); first | refine ⟨fun h => ?_, fun h => ?_⟩ | refine ⟨?_, ?_⟩ | refine hK _ _ _ _ ?_)
  clear hK K
  refine loopN (σ := Unit) 24 (fun _ _ => True) (fun k _ => xF l G y_DS_countOthers 4 [some (.ref 39), some (.int (nI (cnt (fun j => (o j).isSome) k))), some (.int (nI k))] [] M Q) ?_ ?_ 24 0 rfl () trivial
  · intro k hk _ _ next
    have hcl : (nI k).toNatClampNeg = k := nI_clamp (by omega)
    have v : M.1 39 (nI k).toNatClampNeg = oI (o k) := by rw [hcl]; exact h38 k hk
    have hno := oI_none (o := o k) (fun d e => by have := ho k hk d e; omega)
    have hd : cnt (fun j => (o j).isSome) (k + 1) = cnt (fun j => (o j).isSome) k + (if (o k).isSome = true then 1 else 0) := rfl
    refine xF_go o_DS_countOthers [4, 23] 60 (fun K hK => ?_)
    repeat' ((conv => whnf); first | refine ⟨fun h => ?_, fun h => ?_⟩ | refine ⟨?_, ?_⟩ | refine hK _ _ _ _ ?_)
    · exact absurd (nI_lt (b := 24) hk (by decide)) h
    · exact vp_in_nI hk (by decide)
    · have h0 := (show M.1 39 (nI k).toNatClampNeg = -1 from by assumption)
      rw [v, hno] at h0
      clear hK K
      refine xF_go o_DS_countOthers [4] 60 (fun K hK => ?_)
      repeat' ((conv => whnf); first | refine ⟨fun h => ?_, fun h => ?_⟩ | refine ⟨?_, ?_⟩ | refine hK _ _ _ _ ?_)
      refine xF_callS o_DS_countOthers [.int 0] rfl z_DS_asNumber s_DS_asNumber l_DS_134 rfl ⟨⟨by decide, by decide⟩, rfl, rfl⟩ (Nat.le_of_ble_eq_true rfl) rfl (E_asNumber l G 0 M) ?_
      rintro v M' ⟨eM, rfl⟩; obtain rfl := eM.symm
      clear hK K
      rw [if_pos rfl]
      refine xF_go o_DS_countOthers [4] 60 (fun K hK => ?_)
      repeat' ((conv => whnf); first | refine ⟨fun h => ?_, fun h => ?_⟩ | refine ⟨?_, ?_⟩ | refine hK _ _ _ _ ?_)
      rw [nI_1, show nI (cnt (fun j => (o j).isSome) k) + 0 = nI (cnt (fun j => (o j).isSome) (k + 1)) by rw [hd, h0]; exact nI_add _ 0]
      exact next () trivial
    · have h0 := (show ¬ M.1 39 (nI k).toNatClampNeg = -1 from by assumption)
      rw [v, hno] at h0
      have h1 : (o k).isSome = true := by
        cases e : o k with
        | none => exact absurd e h0
        | some d => rfl
      clear hK K
      refine xF_go o_DS_countOthers [4] 60 (fun K hK => ?_)
      repeat' ((conv => whnf); first | refine ⟨fun h => ?_, fun h => ?_⟩ | refine ⟨?_, ?_⟩ | refine hK _ _ _ _ ?_)
      refine xF_callS o_DS_countOthers [.int 1] rfl z_DS_asNumber s_DS_asNumber l_DS_134 rfl ⟨⟨by decide, by decide⟩, rfl, rfl⟩ (Nat.le_of_ble_eq_true rfl) rfl (E_asNumber l G 1 M) ?_
      rintro v M' ⟨eM, rfl⟩; obtain rfl := eM.symm
      clear hK K
      rw [if_neg (by decide)]
      refine xF_go o_DS_countOthers [4] 60 (fun K hK => ?_)
      repeat' ((conv => whnf); first | refine ⟨fun h => ?_, fun h => ?_⟩ | refine ⟨?_, ?_⟩ | refine hK _ _ _ _ ?_)
      rw [nI_1, nI_1, show cnt (fun j => (o j).isSome) k + 1 = cnt (fun j => (o j).isSome) (k + 1) by rw [hd, h1]; rfl]
      exact next () trivial
  · intro _ _
    refine xF_go o_DS_countOthers [4, 23] 60 (fun K hK => ?_)
    repeat' ((conv => whnf); first | refine ⟨fun h => ?_, fun h => ?_⟩ | refine ⟨?_, ?_⟩ | refine hK _ _ _ _ ?_)
    · refine xF_iret o_DS_countOthers rfl rfl ?_
      exact hQ _ _ ⟨rfl, rfl⟩
    all_goals exact absurd (show nI 24 < nI 24 from by assumption) (nI_nlt (by omega) (by omega))
theorem E_DSshrunk (Z : sZ) (M : xMe) (hZ : cW Z M) (w : Int32) : xE l G y_DS_shrunk [.ref 0, .int w] M (fun r M' => M' = M ∧ ∃ r0, r = some (.int r0) ∧ rShr Z w r0) := by
  refine xE_cps (fun Q hQ => ?_)
  refine xE_of [some (.ref 0), some (.int w)] (by decide +kernel) (Nat.le_of_ble_eq_true rfl) rfl ?_
  match Z, hZ, hQ with
  | none, hZ, hQ =>
    have h4 : M.1 0 4 = 0 := hZ.1
    refine xF_go o_DS_shrunk [9] 60 (fun K hK => ?_)
    repeat' ((conv => whnf); first | refine ⟨fun h => ?_, fun h => ?_⟩ | refine ⟨?_, ?_⟩ | refine hK _ _ _ _ ?_)
    · exact absurd h4 (by assumption)
    · refine xF_iret o_DS_shrunk rfl rfl ?_
      exact hQ _ _ ⟨rfl, _, rfl, rfl⟩
  | some (P, V, R), hZ, hQ =>
    obtain ⟨h4, hZ2⟩ := hZ
    obtain ⟨hw, hfin, hR, hSh⟩ := hZ2 P V R rfl
    obtain ⟨hL, s21, s23, s27, s28, s29, s20, s19⟩ := hSh
    obtain ⟨l34, l36, l38, l39, l40, l11, l13, l42⟩ := hL
    have n01 : ∀ {a b : Int32} {p : Prop}, w = a → ¬ a = b → w = b → p := fun h1 h2 h3 => absurd (h1.symm.trans h3) h2
    refine xF_go o_DS_shrunk [9] 60 (fun K hK => ?_)
    repeat' ((conv => whnf); first | refine ⟨fun h => ?_, fun h => ?_⟩ | refine ⟨?_, ?_⟩ | refine hK _ _ _ _ ?_)
    · clear hK K
      refine xF_go o_DS_shrunk [52, 60, 68, 76, 84, 95, 106, 114] 60 (fun K hK => ?_)
      repeat' ((conv => whnf); first | refine ⟨fun h => ?_, fun h => ?_⟩ | refine ⟨?_, ?_⟩ | refine hK _ _ _ _ ?_)
      · have hw0 : w = 0 := by assumption
        clear hK K
        refine xF_go o_DS_shrunk [] 60 (fun K hK => ?_)
        repeat' ((conv => whnf); first | refine ⟨fun h => ?_, fun h => ?_⟩ | refine ⟨?_, ?_⟩ | refine hK _ _ _ _ ?_)
        refine xF_callV o_DS_shrunk [] rfl z_La_countKept i_La_countKept v_La_countKept l_DS_189 rfl ⟨⟨by decide, by decide⟩, rfl, rfl⟩ (Nat.le_of_ble_eq_true rfl) rfl rfl rfl (E_LcountKept l G (kpt P V) M l36) ?_
        rintro v M' ⟨eM, rfl⟩; obtain rfl := eM.symm
        clear hK K
        refine xF_go o_DS_shrunk [] 60 (fun K hK => ?_)
        repeat' ((conv => whnf); first | refine ⟨fun h => ?_, fun h => ?_⟩ | refine ⟨?_, ?_⟩ | refine hK _ _ _ _ ?_)
        refine xF_iret o_DS_shrunk rfl rfl ?_
        exact hQ _ _ ⟨rfl, _, rfl, fun _ => rfl, n01 hw0 (by decide), n01 hw0 (by decide), n01 hw0 (by decide), n01 hw0 (by decide), n01 hw0 (by decide), n01 hw0 (by decide), fun z => absurd hw0 z⟩
      · have hw0 : w = 1 := by assumption
        clear hK K
        refine xF_go o_DS_shrunk [] 60 (fun K hK => ?_)
        repeat' ((conv => whnf); first | refine ⟨fun h => ?_, fun h => ?_⟩ | refine ⟨?_, ?_⟩ | refine hK _ _ _ _ ?_)
        refine xF_callV o_DS_shrunk [] rfl z_La_countDropped i_La_countDropped v_La_countDropped l_DS_193 rfl ⟨⟨by decide, by decide⟩, rfl, rfl⟩ (Nat.le_of_ble_eq_true rfl) rfl rfl rfl (E_LcountDropped l G P hw V M l34 l36) ?_
        rintro v M' ⟨eM, rfl⟩; obtain rfl := eM.symm
        clear hK K
        refine xF_go o_DS_shrunk [] 60 (fun K hK => ?_)
        repeat' ((conv => whnf); first | refine ⟨fun h => ?_, fun h => ?_⟩ | refine ⟨?_, ?_⟩ | refine hK _ _ _ _ ?_)
        refine xF_iret o_DS_shrunk rfl rfl ?_
        exact hQ _ _ ⟨rfl, _, rfl, n01 hw0 (by decide), fun _ => rfl, n01 hw0 (by decide), n01 hw0 (by decide), n01 hw0 (by decide), n01 hw0 (by decide), n01 hw0 (by decide), fun _ z => absurd hw0 z⟩
      · have hw0 : w = 2 := by assumption
        clear hK K
        refine xF_go o_DS_shrunk [] 60 (fun K hK => ?_)
        repeat' ((conv => whnf); first | refine ⟨fun h => ?_, fun h => ?_⟩ | refine ⟨?_, ?_⟩ | refine hK _ _ _ _ ?_)
        refine xF_callV o_DS_shrunk [] rfl z_La_countDroppedOctets i_La_countDroppedOctets v_La_countDroppedOctets l_DS_196 rfl ⟨⟨by decide, by decide⟩, rfl, rfl⟩ (Nat.le_of_ble_eq_true rfl) rfl rfl rfl (E_LcountDroppedOctets l G P hw V M l34 l36) ?_
        rintro v M' ⟨eM, rfl⟩; obtain rfl := eM.symm
        clear hK K
        refine xF_go o_DS_shrunk [] 60 (fun K hK => ?_)
        repeat' ((conv => whnf); first | refine ⟨fun h => ?_, fun h => ?_⟩ | refine ⟨?_, ?_⟩ | refine hK _ _ _ _ ?_)
        refine xF_iret o_DS_shrunk rfl rfl ?_
        exact hQ _ _ ⟨rfl, _, rfl, n01 hw0 (by decide), n01 hw0 (by decide), fun _ => rfl, n01 hw0 (by decide), n01 hw0 (by decide), n01 hw0 (by decide), n01 hw0 (by decide), fun _ _ z => absurd hw0 z⟩
      · have hw0 : w = 3 := by assumption
        clear hK K
        refine xF_go o_DS_shrunk [] 60 (fun K hK => ?_)
        repeat' ((conv => whnf); first | refine ⟨fun h => ?_, fun h => ?_⟩ | refine ⟨?_, ?_⟩ | refine hK _ _ _ _ ?_)
        rw [l11]
        refine xF_iret o_DS_shrunk rfl rfl ?_
        exact hQ _ _ ⟨rfl, _, rfl, n01 hw0 (by decide), n01 hw0 (by decide), n01 hw0 (by decide), fun _ => rfl, n01 hw0 (by decide), n01 hw0 (by decide), n01 hw0 (by decide), fun _ _ _ z => absurd hw0 z⟩
      · have hw0 : w = 4 := by assumption
        clear hK K
        refine xF_go o_DS_shrunk [] 60 (fun K hK => ?_)
        repeat' ((conv => whnf); first | refine ⟨fun h => ?_, fun h => ?_⟩ | refine ⟨?_, ?_⟩ | refine hK _ _ _ _ ?_)
        refine xF_callS o_DS_shrunk [.ref 38] rfl z_DS_countOthers s_DS_countOthers l_DS_205 rfl ⟨⟨by decide, by decide⟩, rfl, rfl⟩ (Nat.le_of_ble_eq_true rfl) rfl (E_countOthers38 l G (sfr P (stl P V)) (fun k hk d e => by have := (sfr_some.mp e).1; omega) M l38) ?_
        rintro v M' ⟨eM, rfl⟩; obtain rfl := eM.symm
        clear hK K
        refine xF_go o_DS_shrunk [] 60 (fun K hK => ?_)
        repeat' ((conv => whnf); first | refine ⟨fun h => ?_, fun h => ?_⟩ | refine ⟨?_, ?_⟩ | refine hK _ _ _ _ ?_)
        refine xF_iret o_DS_shrunk rfl rfl ?_
        exact hQ _ _ ⟨rfl, _, rfl, n01 hw0 (by decide), n01 hw0 (by decide), n01 hw0 (by decide), n01 hw0 (by decide), fun _ => rfl, n01 hw0 (by decide), n01 hw0 (by decide), fun _ _ _ _ z => absurd hw0 z⟩
      · have hw0 : w = 5 := by assumption
        clear hK K
        refine xF_go o_DS_shrunk [] 60 (fun K hK => ?_)
        repeat' ((conv => whnf); first | refine ⟨fun h => ?_, fun h => ?_⟩ | refine ⟨?_, ?_⟩ | refine hK _ _ _ _ ?_)
        refine xF_callS o_DS_shrunk [.ref 39] rfl z_DS_countOthers s_DS_countOthers l_DS_205 rfl ⟨⟨by decide, by decide⟩, rfl, rfl⟩ (Nat.le_of_ble_eq_true rfl) rfl (E_countOthers39 l G (ouf P (stl P V)) (fun k hk d e => (ouf_some hk e).2.1) M l39) ?_
        rintro v M' ⟨eM, rfl⟩; obtain rfl := eM.symm
        clear hK K
        refine xF_go o_DS_shrunk [] 60 (fun K hK => ?_)
        repeat' ((conv => whnf); first | refine ⟨fun h => ?_, fun h => ?_⟩ | refine ⟨?_, ?_⟩ | refine hK _ _ _ _ ?_)
        refine xF_iret o_DS_shrunk rfl rfl ?_
        exact hQ _ _ ⟨rfl, _, rfl, n01 hw0 (by decide), n01 hw0 (by decide), n01 hw0 (by decide), n01 hw0 (by decide), n01 hw0 (by decide), fun _ => rfl, n01 hw0 (by decide), fun _ _ _ _ _ z => absurd hw0 z⟩
      · have hw0 : w = 6 := by assumption
        clear hK K
        refine xF_go o_DS_shrunk [] 60 (fun K hK => ?_)
        repeat' ((conv => whnf); first | refine ⟨fun h => ?_, fun h => ?_⟩ | refine ⟨?_, ?_⟩ | refine hK _ _ _ _ ?_)
        rw [l13]
        refine xF_iret o_DS_shrunk rfl rfl ?_
        exact hQ _ _ ⟨rfl, _, rfl, n01 hw0 (by decide), n01 hw0 (by decide), n01 hw0 (by decide), n01 hw0 (by decide), n01 hw0 (by decide), n01 hw0 (by decide), fun _ => rfl, fun _ _ _ _ _ _ z => absurd hw0 z⟩
      · have e0 : ¬ w = 0 := by assumption
        have e1 : ¬ w = 1 := by assumption
        have e2 : ¬ w = 2 := by assumption
        have e3 : ¬ w = 3 := by assumption
        have e4 : ¬ w = 4 := by assumption
        have e5 : ¬ w = 5 := by assumption
        have e6 : ¬ w = 6 := by assumption
        clear hK K
        refine xF_go o_DS_shrunk [] 60 (fun K hK => ?_)
        repeat' ((conv => whnf); first | refine ⟨fun h => ?_, fun h => ?_⟩ | refine ⟨?_, ?_⟩ | refine hK _ _ _ _ ?_)
        refine xF_iret o_DS_shrunk rfl rfl ?_
        exact hQ _ _ ⟨rfl, _, rfl, fun z => absurd z e0, fun z => absurd z e1, fun z => absurd z e2, fun z => absurd z e3, fun z => absurd z e4, fun z => absurd z e5, fun z => absurd z e6, fun _ _ _ _ _ _ _ => rfl⟩
    · have h0 : M.1 0 4 = 0 := by assumption
      rw [h4] at h0
      exact absurd h0 (show ¬ b2 true = 0 by decide)
end XTN
