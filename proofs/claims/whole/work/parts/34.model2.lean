/-! the reference's calls that tell -/
theorem octm_sh : ∀ j, j < 8 → (56 - 8 * nI j : Int32) = nI (8 * (7 - j)) := by decide +kernel
theorem xsar_all : ∀ p, p < 64 → (((nI p).toInt64 &&& 63).toBitVec.smod 64#64).toNat = p := by decide +kernel
theorem oct_m (v : Int64) {j : Nat} (hj : j < 8) : ((v >>> ((56 - 8 * nI j).toInt64 &&& 63)) &&& 255).toInt32 = nI (vbyte v j) := by
  rw [octm_sh j hj]
  have hs : 8 * (7 - j) ≤ 56 := by omega
  unfold vbyte
  generalize 8 * (7 - j) = s at hs ⊢
  have e1 : (v >>> ((nI s).toInt64 &&& 63)).toBitVec = v.toBitVec.sshiftRight s := by
    rw [Int64.toBitVec_shiftRight]
    show v.toBitVec.sshiftRight (((nI s).toInt64 &&& 63).toBitVec.smod 64#64).toNat = _
    rw [xsar_all s (by omega)]
  have e2 : ((v >>> ((nI s).toInt64 &&& 63)) &&& 255).toBitVec = (v.toBitVec >>> s) &&& 255#64 := by
    rw [Int64.toBitVec_and, e1]
    apply BitVec.eq_of_getLsbD_eq
    intro i hi
    have e3 : (255 : Int64).toBitVec = 255#64 := rfl
    rw [e3, BitVec.getLsbD_and, BitVec.getLsbD_and, BitVec.getLsbD_ushiftRight, BitVec.getLsbD_sshiftRight]
    by_cases h8 : i < 8
    · simp [show ¬ 64 ≤ i by omega, show s + i < 64 by omega]
    · have e4 : (255#64).getLsbD i = false := by
        have : ∀ i, i < 64 → ¬ i < 8 → (255#64).getLsbD i = false := by decide +kernel
        exact this i hi h8
      rw [e4]
      simp
  generalize hy : ((v >>> ((nI s).toInt64 &&& 63)) &&& 255) = y at e2 ⊢
  have e5 : y.toBitVec.toNat = v.toBitVec.toNat / 2 ^ s % 256 := by
    rw [e2, BitVec.toNat_and, BitVec.toNat_ushiftRight, Nat.shiftRight_eq_div_pow]
    have := Nat.and_two_pow_sub_one_eq_mod (v.toBitVec.toNat / 2 ^ s) 8
    simpa using this
  apply Int32.toBitVec_inj.mp
  apply BitVec.eq_of_toNat_eq
  rw [Int64.toBitVec_toInt32, BitVec.signExtend_eq_setWidth_of_le _ (by decide), BitVec.toNat_setWidth, e5]
  rw [pk_tn (by have := Nat.mod_lt (v.toBitVec.toNat / 2 ^ s) (show 256 > 0 by decide); omega)]
  have := Nat.mod_lt (v.toBitVec.toNat / 2 ^ s) (show 256 > 0 by decide)
  omega
theorem nI_64 (n : Nat) : 64 * nI n = nI (64 * n) := pk_mul 64 n
theorem nI_41' (n : Nat) : 41 * nI n = nI (41 * n) := pk_mul 41 n
theorem oI_m1 {t : Option Nat} (h : ∀ j, t = some j → j < 24) : oI t = -1 ↔ t = none := by
  cases t with
  | none => exact ⟨fun _ => rfl, fun _ => rfl⟩
  | some j =>
    refine ⟨fun e => ?_, fun e => by cases e⟩
    have h1 := h j rfl
    have h2 : nI j = -1 := e
    exact absurd (h2 ▸ nI_pos' (n := j) (by omega)) (by decide)
section XMQ
variable (l : Launch) (G : xG)
theorem E_Mentry (P P' : sP) (M : xMe) (hM : mP P M) (f r0 : Int32) (v ac : Bool) (hr : rEntry P f v P' r0 ac) : xE l G y_Mo_entry [.ref 50, .int f, .int (b2 v)] M (fun r M' => r = some (.int r0) ∧ mP P' M' ∧ (ac = false → M' = M) ∧ (ac = true → M'.1 50 = upd (M.1 50) 26 0) ∧ xfr [50, 62] M M') := by
  obtain ⟨h1, h2, h3, h4, h5, h6⟩ := id hM
  refine xE_of [some (.ref 50), some (.int f), some (.int (b2 v))] (by decide +kernel) (Nat.le_of_ble_eq_true rfl) rfl ?_
  refine xF_go o_Mo_entry [] 60 (fun K hK => ?_)
  repeat' ((conv => whnf); first | refine ⟨fun h => ?_, fun h => ?_⟩ | refine ⟨?_, ?_⟩ | refine hK _ _ _ _ ?_)
  refine xF_callS o_Mo_entry [.int f, .int 0, .int 11] rfl z_Mo_in s_Mo_in l_Mo_157 rfl ⟨⟨by decide, by decide⟩, rfl, rfl⟩ (Nat.le_of_ble_eq_true rfl) rfl (E_in l G f 0 11 M) ?_
  rintro w M1 ⟨rfl, rfl⟩
  clear hK K
  by_cases hf : 0 ≤ f ∧ f ≤ 11
  · rw [if_pos hf]
    obtain ⟨f', hf', rfl⟩ := nI_of12 (x := f) (by grind)
    have hcl : (nI f').toNatClampNeg = f' := nI_clamp (by omega)
    refine xF_go o_Mo_entry [] 60 (fun K hK => ?_)
    repeat' ((conv => whnf); first | refine ⟨fun h => ?_, fun h => ?_⟩ | refine ⟨?_, ?_⟩ | refine hK _ _ _ _ ?_)
    · exact absurd h (by decide)
    · exact vp_in_nI hf' (by decide)
    · exact vp_in_nI hf' (by decide)
    · exact b2_01 v
    · exact Or.inl rfl
    · rw [hcl, h5 f' hf'] at h
      have hne : pE P f' ≠ v := fun e => h (by rw [e])
      rcases hr with ⟨hn, -⟩ | ⟨f2, hf2, e, -, rfl, rfl, rfl⟩
      · exact absurd ⟨f', hf', rfl, hne⟩ hn
      · have := nI_inj (by omega) (by omega) e
        subst this
        refine xF_zret o_Mo_entry rfl rfl (Or.inr rfl) ?_
        rw [hcl]
        refine ⟨rfl, ⟨fun j hj => h1 j hj, fun j hj q hq => h2 j hj q hq, fun j hj q hq => h3 j hj q hq, fun g hg => h4 g hg, fun g hg => ?_, h6⟩, (fun z => by cases z), fun _ => rfl, (xfr.rf.I (by simp)).I (by simp)⟩
        have e14 : ∀ F, (xsI (xsI M1 62 (upd (M1.1 62) f' (b2 v))) 50 F).1 62 = upd (M1.1 62) f' (b2 v) := fun F => rfl
        rw [e14, sEntry_E]
        by_cases e : g = f'
        · subst e
          rw [upd_s, if_pos rfl]
        · rw [upd_n e, if_neg e]
          exact h5 g hg
    · rw [hcl, h5 f' hf'] at h
      have he : pE P f' = v := by
        revert h
        cases pE P f' <;> cases v <;> decide
      rcases hr with ⟨hn, rfl, rfl, rfl⟩ | ⟨f2, hf2, e, hne, -⟩
      · refine xF_zret o_Mo_entry rfl rfl (Or.inl rfl) ?_
        exact ⟨rfl, hM, fun _ => rfl, (fun z => by cases z), xfr.rf⟩
      · have := nI_inj (by omega) (by omega) e
        subst this
        exact absurd he hne
  · rw [if_neg hf]
    rcases hr with ⟨hn, rfl, rfl, rfl⟩ | ⟨f2, hf2, rfl, -⟩
    · refine xF_go o_Mo_entry [] 60 (fun K hK => ?_)
      repeat' ((conv => whnf); first | refine ⟨fun h => ?_, fun h => ?_⟩ | refine ⟨?_, ?_⟩ | refine hK _ _ _ _ ?_)
      · refine xF_zret o_Mo_entry rfl rfl (Or.inl rfl) ?_
        exact ⟨rfl, hM, fun _ => rfl, (fun z => by cases z), xfr.rf⟩
      all_goals exact absurd rfl (show ¬ (0 : Int32) = 0 from by assumption)
    · have := nI_12 hf2
      exact absurd ⟨this.1, by grind⟩ hf
theorem E_Mrefer (P P' : sP) (M : xMe) (hM : mP P M) (hw : wP P) (k p t r0 : Int32) (ac : Bool) (hr : rRefer P k p t P' r0 ac) : xE l G y_Mo_refer [.ref 50, .int k, .int p, .int t] M (fun r M' => r = some (.int r0) ∧ mP P' M' ∧ (ac = false → M' = M) ∧ (ac = true → M'.1 50 = upd (M.1 50) 26 0) ∧ xfr [50, 55] M M') := by
  obtain ⟨h1, h2, h3, h4, h5, h6⟩ := id hM
  have fin : ∀ (M : xMe), mP P M → ∀ (k' p' : Nat) (t' : Option Nat), k' < 24 → p' < pS P k' → (∀ j, t' = some j → j < 24 ∧ 0 < pS P j) → xF l G y_Mo_refer 25 [some (.ref 50), some (.int (nI k')), some (.int (nI p')), some (.int (oI t'))] [] M (fun r M' => r = some (.int 1) ∧ mP (sRef P k' p' t') M' ∧ (M'.1 50 = upd (M.1 50) 26 0) ∧ xfr [50, 55] M M') := by
    intro M hM k' p' t' g1 g2 g3
    obtain ⟨h1, h2, h3, h4, h5, h6⟩ := id hM
    have hs := (hw.1 k' g1).1
    refine xF_go o_Mo_refer [] 60 (fun K hK => ?_)
    repeat' ((conv => whnf); first | refine ⟨fun h => ?_, fun h => ?_⟩ | refine ⟨?_, ?_⟩ | refine hK _ _ _ _ ?_)
    · rw [nI_64, nI_add]
      exact vp_in_nI (N := 1536) (by omega) (by decide)
    · exact Or.inl rfl
    · refine xF_zret o_Mo_refer rfl rfl (Or.inr rfl) ?_
      rw [nI_64, nI_add, nI_clamp (by omega)]
      refine ⟨rfl, ⟨fun j hj => h1 j hj, fun j hj q hq => h2 j hj q hq, fun j hj q hq => ?_, fun g hg => h4 g hg, fun g hg => h5 g hg, h6⟩, rfl, (xfr.rf.I (by simp)).I (by simp)⟩
      have e55 : ∀ F, (xsI (xsI M 55 (upd (M.1 55) (64 * k' + p') (oI t'))) 50 F).1 55 = upd (M.1 55) (64 * k' + p') (oI t') := fun F => rfl
      rw [e55, sRef_R]
      by_cases e : j = k' ∧ q = p'
      · rw [if_pos e]
        obtain ⟨rfl, rfl⟩ := e
        rw [show j * 64 + q = 64 * j + q by omega, upd_s]
      · rw [if_neg e, upd_n (by omega)]
        exact h3 j hj q hq
  refine xE_of [some (.ref 50), some (.int k), some (.int p), some (.int t)] (by decide +kernel) (Nat.le_of_ble_eq_true rfl) rfl ?_
  refine xF_go o_Mo_refer [] 60 (fun K hK => ?_)
  repeat' ((conv => whnf); first | refine ⟨fun h => ?_, fun h => ?_⟩ | refine ⟨?_, ?_⟩ | refine hK _ _ _ _ ?_)
  refine xF_callV o_Mo_refer [.int k, .int p] rfl z_Mo_has i_Mo_has v_Mo_has l_Mo_165 rfl ⟨⟨by decide, by decide⟩, rfl, rfl⟩ (Nat.le_of_ble_eq_true rfl) rfl rfl rfl (E_has l G P M hM.1 hw k p) ?_
  rintro w M1 ⟨rfl, b, rfl, hb⟩
  clear hK K
  rcases hr with ⟨hn, rfl, rfl, rfl⟩ | ⟨k', p', t', g1, g2, g3, rfl, rfl, rfl, rfl, rfl, rfl⟩
  · cases b with
    | false =>
      refine xF_go o_Mo_refer [25] 60 (fun K hK => ?_)
      repeat' ((conv => whnf); first | refine ⟨fun h => ?_, fun h => ?_⟩ | refine ⟨?_, ?_⟩ | refine hK _ _ _ _ ?_)
      · refine xF_zret o_Mo_refer rfl rfl (Or.inl rfl) ?_
        exact ⟨rfl, hM, fun _ => rfl, (fun z => by cases z), xfr.rf⟩
      all_goals exact absurd rfl (show ¬ (b2 false) = 0 from by assumption)
    | true =>
      refine xF_go o_Mo_refer [25] 60 (fun K hK => ?_)
      repeat' ((conv => whnf); first | refine ⟨fun h => ?_, fun h => ?_⟩ | refine ⟨?_, ?_⟩ | refine hK _ _ _ _ ?_)
      · exact absurd h (by decide)
      · exact absurd ⟨hb.mp rfl, Or.inl h⟩ hn
      · refine xF_callV o_Mo_refer [.int t, .int 0] rfl z_Mo_has i_Mo_has v_Mo_has l_Mo_165 rfl ⟨⟨by decide, by decide⟩, rfl, rfl⟩ (Nat.le_of_ble_eq_true rfl) rfl rfl rfl (E_has l G P' M1 hM.1 hw t 0) ?_
        rintro w M ⟨rfl, b, rfl, hb2⟩
        clear hK K
        cases b with
        | true =>
          obtain ⟨j, q, g1, e1, g2, e2⟩ := hb2.mp rfl
          exact absurd ⟨hb.mp rfl, Or.inr ⟨j, g1, e1, by omega⟩⟩ hn
        | false =>
          refine xF_go o_Mo_refer [25] 60 (fun K hK => ?_)
          repeat' ((conv => whnf); first | refine ⟨fun h => ?_, fun h => ?_⟩ | refine ⟨?_, ?_⟩ | refine hK _ _ _ _ ?_)
          · exact absurd rfl (show ¬ (b2 false) = 0 from by assumption)
          · refine xF_zret o_Mo_refer rfl rfl (Or.inl rfl) ?_
            exact ⟨rfl, hM, fun _ => rfl, (fun z => by cases z), xfr.rf⟩
  · have hb1 : b = true := hb.mpr ⟨k', p', g1, rfl, g2, rfl⟩
    subst hb1
    refine xF_go o_Mo_refer [25] 60 (fun K hK => ?_)
    repeat' ((conv => whnf); first | refine ⟨fun h => ?_, fun h => ?_⟩ | refine ⟨?_, ?_⟩ | refine hK _ _ _ _ ?_)
    · exact absurd h (by decide)
    · refine xF_post ?_ (fin M1 hM k' p' t' g1 g2 g3)
      rintro v M' ⟨q1, q2, q3, q4⟩
      exact ⟨q1, q2, (fun z => by cases z), fun _ => q3, q4⟩
    · refine xF_callV o_Mo_refer [.int (oI t'), .int 0] rfl z_Mo_has i_Mo_has v_Mo_has l_Mo_165 rfl ⟨⟨by decide, by decide⟩, rfl, rfl⟩ (Nat.le_of_ble_eq_true rfl) rfl rfl rfl (E_has l G P M1 hM.1 hw (oI t') 0) ?_
      rintro w M ⟨rfl, b, rfl, hb2⟩
      clear hK K
      have hb3 : b = true := by
        cases t' with
        | none => exact absurd rfl (show ¬ oI none = -1 from by assumption)
        | some j => exact hb2.mpr ⟨j, 0, (g3 j rfl).1, rfl, (g3 j rfl).2, rfl⟩
      subst hb3
      refine xF_go o_Mo_refer [25] 60 (fun K hK => ?_)
      repeat' ((conv => whnf); first | refine ⟨fun h => ?_, fun h => ?_⟩ | refine ⟨?_, ?_⟩ | refine hK _ _ _ _ ?_)
      · refine xF_post ?_ (fin M hM k' p' t' g1 g2 g3)
        rintro v M' ⟨q1, q2, q3, q4⟩
        exact ⟨q1, q2, (fun z => by cases z), fun _ => q3, q4⟩
      · exact absurd (show b2 true = 0 from by assumption) (by decide)
end XMQ
