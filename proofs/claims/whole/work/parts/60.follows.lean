/-! Reach: follows -/
section XFW
variable (l : Launch) (G : xG)
theorem L_takeFollow (P : sP) (Y : Nat → Nat → Nat → Prop) (R0 L0 : Nat → Nat → Prop) (hw : wP P) (f slot q : Int32) (k : Nat) (hk : k < 24) (w : Int64) (hpr : ∀ p, p < 64 → xbit w p = true → ∃ t, pR P k p = some t) (M0 : xMe) (hP : cP P M0) (hY : cY22 P Y M0) (Q : Option Value → xMe → Prop) (hQ : ∀ M, xfr [18, 26, 27] M0 M → cB 27 24 (fun k' x => R0 k' x ∨ (x = 0 ∧ ∃ p', p' < 64 ∧ xbit w p' = true ∧ pR P k p' = some k')) M → cB 18 36 (fun a b => L0 a b ∨ (a = 12 + k ∧ ∃ p', p' < 64 ∧ xbit w p' = true ∧ ∃ t, pR P k p' = some t ∧ b = 12 + t)) M → (∀ v, v < 256 → (sHas (M.2 26) 0 v = true ↔ ∃ p, p < 64 ∧ xbit w p = true ∧ ∃ t, pR P k p = some t ∧ Y t 0 v)) → Q (some (.int 1)) M) : ∀ (m p : Nat), m + p = pS P k → ∀ M x, xfr [18, 26, 27] M0 M → cB 27 24 (fun k' x => R0 k' x ∨ (x = 0 ∧ ∃ p', p' < p ∧ xbit w p' = true ∧ pR P k p' = some k')) M → cB 18 36 (fun a b => L0 a b ∨ (a = 12 + k ∧ ∃ p', p' < p ∧ xbit w p' = true ∧ ∃ t, pR P k p' = some t ∧ b = 12 + t)) M → (∀ v, v < 256 → (sHas (M.2 26) 0 v = true ↔ ∃ p', p' < p ∧ xbit w p' = true ∧ ∃ t, pR P k p' = some t ∧ Y t 0 v)) → xF l G y_Re_takeFollow 39 [some (.ref 16), some (.int f), some (.int slot), some (.int (nI k)), some (.int q), some (.long w), none, some (.int (nI p)), x] [] M Q := by
  have t2 : xtl 22 = 6144 := rfl
  have hs64 := (hw.1 k hk).1
  have hcl : (nI k).toNatClampNeg = k := nI_clamp (by omega)
  intro m
  induction m with
  | zero =>
    intro p hp M x hfr hR hL hX
    obtain rfl : p = pS P k := by omega
    have hsz : M.1 2 (nI k).toNatClampNeg = nI (pS P k) := by rw [hcl, (hfr 2 (by decide)).1]; exact (hP.1 k hk).1
    have hlt64 : ∀ p', p' < 64 → xbit w p' = true → p' < pS P k := fun p' h1 h2 => by
      obtain ⟨t, ht⟩ := hpr p' h1 h2
      exact (hw.2.2.1 k hk p' h1 t ht).2.1
    refine xF_go o_Re_takeFollow [39] 60 (fun K hK => ?_)
    repeat' ((conv => whnf); first | refine ⟨fun h => ?_, fun h => ?_⟩ | refine ⟨?_, ?_⟩ | refine hK _ _ _ _ ?_)
    · exact vp_in_nI hk (by decide)
    · refine xF_zret o_Re_takeFollow rfl rfl (Or.inr rfl) ?_
      refine hQ M hfr (cB_iff hR (fun a b => ?_)) (cB_iff hL (fun a b => ?_)) (fun v hv => (hX v hv).trans ?_)
      · refine or_congr Iff.rfl (and_congr Iff.rfl ⟨fun ⟨p', z1, z2⟩ => ⟨p', by omega, z2⟩, fun ⟨p', z1, z2⟩ => ⟨p', hlt64 p' z1 z2.1, z2⟩⟩)
      · refine or_congr Iff.rfl (and_congr Iff.rfl ⟨fun ⟨p', z1, z2⟩ => ⟨p', by omega, z2⟩, fun ⟨p', z1, z2⟩ => ⟨p', hlt64 p' z1 z2.1, z2⟩⟩)
      · exact ⟨fun ⟨p', z1, z2⟩ => ⟨p', by omega, z2⟩, fun ⟨p', z1, z2⟩ => ⟨p', hlt64 p' z1 z2.1, z2⟩⟩
    all_goals
      have hlt : nI (pS P k) < M.1 2 (nI k).toNatClampNeg := by assumption
      rw [hsz, nI_ltI (by omega) (by omega)] at hlt
      omega
  | succ m ih =>
    intro p hp M x hfr hR hL hX
    have hsz : M.1 2 (nI k).toNatClampNeg = nI (pS P k) := by rw [hcl, (hfr 2 (by decide)).1]; exact (hP.1 k hk).1
    have hp' : p < pS P k := by omega
    have e64 : nI k * 64 + nI p = nI (k * 64 + p) := by rw [nI_16, nI_add]
    refine xF_go o_Re_takeFollow [39, 82] 60 (fun K hK => ?_)
    repeat' ((conv => whnf); first | refine ⟨fun h => ?_, fun h => ?_⟩ | refine ⟨?_, ?_⟩ | refine hK _ _ _ _ ?_)
    · exact vp_in_nI hk (by decide)
    · have hlt : ¬ nI p < M.1 2 (nI k).toNatClampNeg := by assumption
      rw [hsz, nI_ltI (by omega) (by omega)] at hlt
      exact absurd hp' hlt
    · have h0 : lg_cmp ((w.toUInt64 >>> ((nI p).toInt64.toUInt64 &&& Int64.toUInt64 63)).toInt64 &&& 1) 0 = 0 := by assumption
      rw [xcmp0, xbit_test w (by omega)] at h0
      rw [nI_1]
      have hno : ∀ (A : Nat → Prop), (∃ p', p' < p ∧ xbit w p' = true ∧ A p') ↔ (∃ p', p' < p + 1 ∧ xbit w p' = true ∧ A p') := by
        intro A
        constructor
        · rintro ⟨p', z1, z2⟩
          exact ⟨p', by omega, z2⟩
        · rintro ⟨p', z1, z2, z3⟩
          by_cases e : p' = p
          · rw [e, h0] at z2; cases z2
          · exact ⟨p', by omega, z2, z3⟩
      exact ih (p + 1) (by omega) M _ hfr (cB_iff hR (fun a b => or_congr Iff.rfl (and_congr Iff.rfl (hno _)))) (cB_iff hL (fun a b => or_congr Iff.rfl (and_congr Iff.rfl (hno _)))) (fun v hv => (hX v hv).trans (hno _))
    · rw [e64]; exact vp_in_nI (N := 1536) (by omega) (by decide)
    · have h0 : ¬ lg_cmp ((w.toUInt64 >>> ((nI p).toInt64.toUInt64 &&& Int64.toUInt64 63)).toInt64 &&& 1) 0 = 0 := by assumption
      rw [xcmp0, xbit_test w (by omega)] at h0
      have h1 : xbit w p = true := by
        cases e : xbit w p with
        | true => rfl
        | false => exact absurd e h0
      obtain ⟨t, ht⟩ := hpr p (by omega) h1
      have ht2 := hw.2.2.1 k hk p (by omega) t ht
      have hto : M.1 7 (nI k * 64 + nI p).toNatClampNeg = nI t := by
        rw [e64, nI_clamp (by omega), (hfr 7 (by decide)).1]
        exact (hP.2.2.1 k hk p (by omega)).2 t ht
      rw [hto]
      clear hK K
      refine xF_go o_Re_takeFollow [39] 60 (fun K hK => ?_)
      repeat' ((conv => whnf); first | refine ⟨fun h => ?_, fun h => ?_⟩ | refine ⟨?_, ?_⟩ | refine hK _ _ _ _ ?_)
      · exact vp_in_nI ht2.1 (by decide)
      · exact vp_in_nI ht2.1 (by decide)
      · rw [nI_clamp (n := t) (by omega), show (12 : Int32) + nI k = nI (12 + k) from nI_add 12 k, show (12 : Int32) + nI t = nI (12 + t) from nI_add 12 t]
        refine xF_callV o_Re_takeFollow [.int (nI (12 + k)), .int (nI (12 + t))] rfl z_Ch_link i_Ch_link v_Ch_link l_Re_220 rfl ⟨⟨by decide, by decide⟩, rfl, rfl⟩ (Nat.le_of_ble_eq_true rfl) rfl rfl rfl (E_link l G (12 + k) (12 + t) (by omega) (by omega) _) ?_
        rintro v M1 ⟨rfl, rfl⟩
        clear hK K
        refine xF_go o_Re_takeFollow [39] 60 (fun K hK => ?_)
        repeat' ((conv => whnf); first | refine ⟨fun h => ?_, fun h => ?_⟩ | refine ⟨?_, ?_⟩ | refine hK _ _ _ _ ?_)
        refine xF_callS o_Re_takeFollow [.int (nI t), .int (nI 0)] rfl z_Re_standAt s_Re_standAt l_Re_122 rfl ⟨⟨by decide, by decide⟩, rfl, rfl⟩ (Nat.le_of_ble_eq_true rfl) rfl (E_standAt l G (nI t) (nI 0) _) ?_
        rintro v M' ⟨rfl, rfl⟩
        rw [stand_n]
        clear hK K
        refine xF_go o_Re_takeFollow [39] 60 (fun K hK => ?_)
        repeat' ((conv => whnf); first | refine ⟨fun h => ?_, fun h => ?_⟩ | refine ⟨?_, ?_⟩ | refine hK _ _ _ _ ?_)
        refine xF_callS o_Re_takeFollow [.ref 26, .int (nI 0), .ref 22, .int (nI ((t * 64 + 0) * 4))] rfl z_OS_join s_OS_join l_Re_155 rfl ⟨⟨by decide, by decide⟩, rfl, rfl⟩ (Nat.le_of_ble_eq_true rfl) rfl (E_join_26_22 l G 0 ((t * 64 + 0) * 4) (by decide) (by omega) (by omega) _) ?_
        rintro v M' ⟨rfl, rfl⟩
        clear hK K
        refine xF_go o_Re_takeFollow [39] 60 (fun K hK => ?_)
        repeat' ((conv => whnf); first | refine ⟨fun h => ?_, fun h => ?_⟩ | refine ⟨?_, ?_⟩ | refine hK _ _ _ _ ?_)
        rw [nI_1]
        have hyes : ∀ (A : Nat → Prop), (∃ p', p' < p + 1 ∧ xbit w p' = true ∧ A p') ↔ ((∃ p', p' < p ∧ xbit w p' = true ∧ A p') ∨ A p) := by
          intro A
          constructor
          · rintro ⟨p', z1, z2, z3⟩
            by_cases e : p' = p
            · exact Or.inr (e ▸ z3)
            · exact Or.inl ⟨p', by omega, z2, z3⟩
          · rintro (⟨p', z1, z2⟩ | z)
            · exact ⟨p', by omega, z2⟩
            · exact ⟨p, by omega, h1, z⟩
        refine ih (p + 1) (by omega) _ _ (((hfr.L (by simp)).L (by simp)).L (by simp)) ?_ ?_ ?_
        · intro k' hk' x' hx'
          show xbit (vp_updL (M.2 27) t (M.2 27 t ||| 1) k') x' = true ↔ (R0 k' x' ∨ (x' = 0 ∧ ∃ p', p' < p + 1 ∧ xbit w p' = true ∧ pR P k p' = some k'))
          rw [bit_upd', Bool.or_eq_true, Bool.and_eq_true, decide_eq_true_iff, hR k' hk' x' hx', xbit_one, decide_eq_true_iff, hyes, ht]
          constructor
          · rintro ((z | z) | z)
            · exact Or.inl z
            · exact Or.inr ⟨z.1, Or.inl z.2⟩
            · exact Or.inr ⟨z.2, Or.inr (by rw [z.1])⟩
          · rintro (z | ⟨z1, z | z⟩)
            · exact Or.inl (Or.inl z)
            · exact Or.inl (Or.inr ⟨z1, z⟩)
            · exact Or.inr ⟨(Option.some.inj z).symm, z1⟩
        · intro a ha b hb
          show xbit (vp_updL (M.2 18) (12 + k) (M.2 18 (12 + k) ||| (1 : Int64) <<< ((nI (12 + t)).toInt64 &&& 63)) a) b = true ↔ (L0 a b ∨ (a = 12 + k ∧ ∃ p', p' < p + 1 ∧ xbit w p' = true ∧ ∃ t, pR P k p' = some t ∧ b = 12 + t))
          rw [bit_upd (by omega), Bool.or_eq_true, decide_eq_true_iff, hL a ha b hb, hyes, ht]
          constructor
          · rintro ((z | z) | z)
            · exact Or.inl z
            · exact Or.inr ⟨z.1, Or.inl z.2⟩
            · exact Or.inr ⟨z.1, Or.inr ⟨t, rfl, z.2⟩⟩
          · rintro (z | ⟨z1, z | ⟨t', z2, z3⟩⟩)
            · exact Or.inl (Or.inl z)
            · exact Or.inl (Or.inr ⟨z1, z⟩)
            · cases z2
              exact Or.inr ⟨z1, z3⟩
        · intro v hv
          show sHas (fJoin (M.2 26) 0 (M.2 22) ((t * 64 + 0) * 4)) 0 v = true ↔ _
          rw [sHas_join _ _ _ _ hv, Bool.or_eq_true, hX v hv, (hfr 22 (by decide)).2, hY t ht2.1 0 ht2.2.2 v hv, hyes, ht]
          refine or_congr Iff.rfl ⟨fun z => ⟨t, rfl, z⟩, fun ⟨t', z1, z2⟩ => ?_⟩
          cases z1
          exact z2
theorem E_takeFollow (P : sP) (V : sV) (M : xMe) (hP : cP P M) (hV : cV P V M) (hw : wP P) (f i k q : Nat) (hf : f < 12) (hi : i < 41) (hk : k < 24) (hq : q < 4) : xE l G y_Re_takeFollow [.ref 16, .int (nI f), .int (nI (f * 41 + i)), .int (nI k), .int (nI q)] M (fun r M' => ∃ b, r = some (.int (b2 b)) ∧ (b = true ↔ ∃ p, p < 64 ∧ vS V f i q p ∧ (pR P k p).isSome) ∧ (b = false → M' = M) ∧ (b = true → cV P (vFollow P V f k (fun p => p < 64 ∧ vS V f i q p ∧ (pR P k p).isSome)) M' ∧ ∀ v, v < 256 → (sHas (M'.2 26) 0 v = true ↔ ∃ p, (p < 64 ∧ vS V f i q p ∧ (pR P k p).isSome) ∧ ∃ t, pR P k p = some t ∧ vY V t 0 v)) ∧ xfr [18, 26, 27] M M') := by
  have hs64 := (hw.1 k hk).1
  obtain ⟨h1, h2, h3, h4, h5, h6, h7, h8⟩ := hV
  refine xE_of [some (.ref 16), some (.int (nI f)), some (.int (nI (f * 41 + i))), some (.int (nI k)), some (.int (nI q)), none, none, none, none] (by decide +kernel) (Nat.le_of_ble_eq_true rfl) rfl ?_
  refine xF_go o_Re_takeFollow [39] 60 (fun K hK => ?_)
  repeat' ((conv => whnf); first | refine ⟨fun h => ?_, fun h => ?_⟩ | refine ⟨?_, ?_⟩ | refine hK _ _ _ _ ?_)
  refine xF_callV o_Re_takeFollow [.int (nI (f * 41 + i)), .int (nI q)] rfl z_Re_placesIn i_Re_placesIn v_Re_placesIn l_Re_223 rfl ⟨⟨by decide, by decide⟩, rfl, rfl⟩ (Nat.le_of_ble_eq_true rfl) rfl rfl rfl (E_placesIn l G (f * 41 + i) q (by omega) hq M) ?_
  rintro v M' ⟨rfl, rfl⟩
  clear hK K
  have hcl : (nI k).toNatClampNeg = k := nI_clamp (by omega)
  have hpl : ∀ p, p < 64 → (xbit (M'.2 21 ((f * 41 + i) * 16 + q * 4) &&& M'.2 8 k) p = true ↔ vS V f i q p ∧ (pR P k p).isSome) := by
    intro p hp
    rw [xbit_and, Bool.and_eq_true, (hP.2.2.1 k hk p hp).1, ← shas_low _ _ hp, h1 f hf i hi q hq p (by omega)]
  refine xF_go o_Re_takeFollow [39] 60 (fun K hK => ?_)
  repeat' ((conv => whnf); first | refine ⟨fun h => ?_, fun h => ?_⟩ | refine ⟨?_, ?_⟩ | refine hK _ _ _ _ ?_)
  · exact vp_in_nI hk (by decide)
  · rw [hcl]
    clear hK K
    generalize M'.2 21 ((f * 41 + i) * 16 + q * 4) &&& M'.2 8 k = w at *
    refine xF_callV o_Re_takeFollow [.int (nI f), .int (nI k), .long w] rfl z_Re_beginRead i_Re_beginRead v_Re_beginRead l_Re_231 rfl ⟨⟨by decide, by decide⟩, rfl, rfl⟩ (Nat.le_of_ble_eq_true rfl) rfl rfl rfl (E_beginRead l G f k hf hk w M') ?_
    rintro v M1 ⟨b, rfl, hb1, hb2, hfr1⟩
    cases b with
    | true =>
      obtain ⟨h0, e27, e18, e26⟩ := hb2 rfl
      have hex : ∃ p, p < 64 ∧ vS V f i q p ∧ (pR P k p).isSome := by
        refine Classical.byContradiction (fun hn => h0 (xbit_zero.mpr (fun p hp => ?_)))
        cases e : xbit w p with
        | false => rfl
        | true => exact absurd ⟨p, hp, (hpl p hp).mp e⟩ hn
      refine xF_go o_Re_takeFollow [39] 60 (fun K hK => ?_)
      repeat' ((conv => whnf); first | refine ⟨fun h => ?_, fun h => ?_⟩ | refine ⟨?_, ?_⟩ | refine hK _ _ _ _ ?_)
      all_goals first | exact absurd (show b2 true = 0 from by assumption) (by decide) | skip
      refine xF_callS o_Re_takeFollow [.long w] rfl z_JL_numberOfTrailingZeros s_JL_numberOfTrailingZeros l_Re_163 rfl ⟨⟨by decide, by decide⟩, rfl, rfl⟩ (Nat.le_of_ble_eq_true rfl) rfl (E_lnz l G w h0 _) ?_
      rintro v M1 ⟨rfl, t, ht, rfl, hb, hlo⟩
      clear hK K
      refine xF_go o_Re_takeFollow [39] 60 (fun K hK => ?_)
      repeat' ((conv => whnf); first | refine ⟨fun h => ?_, fun h => ?_⟩ | refine ⟨?_, ?_⟩ | refine hK _ _ _ _ ?_)
      have hpr : ∀ p, p < 64 → xbit w p = true → ∃ t, pR P k p = some t := fun p z1 z2 => Option.isSome_iff_exists.mp ((hpl p z1).mp z2).2
      have htp : t < pS P k := by
        obtain ⟨t', z⟩ := hpr t ht hb
        exact (hw.2.2.1 k hk t ht t' z).2.1
      have hno : ∀ (A : Nat → Prop), ¬ ∃ p', p' < t ∧ xbit w p' = true ∧ A p' := by
        rintro A ⟨p', z1, z2, _⟩
        rw [hlo p' z1] at z2
        cases z2
      refine L_takeFollow l G P (vY V) (fun k' p => vRd V k' p ∨ (k' = k ∧ vS V f i q p ∧ (pR P k p).isSome)) (fun a b => vLk V a b ∨ (a = f ∧ b = 12 + k)) hw _ _ _ k hk w hpr M1 ?_ ?_ _ ?_ (pS P k - t) t (by omega) M1 _ xfr.rf ?_ ?_ ?_
      · exact cP_fr hfr1 (by decide) hP
      · unfold cY22; rw [(hfr1 22 (by decide)).2]; exact h2
      · intro M2 hfr2 hR hL hX
        have hfr : xfr [18, 26, 27] M' M2 := hfr1.tr hfr2 (by simp)
        refine ⟨true, rfl, ⟨fun _ => hex, fun _ => rfl⟩, (fun z => by cases z), fun _ => ⟨⟨?_, ?_, ?_, ?_, ?_, ?_, ?_, ?_⟩, fun v hv => ?_⟩, ?_⟩
        · unfold cS21; rw [(hfr 21 (by decide)).2]; exact h1
        · unfold cY22; rw [(hfr 22 (by decide)).2]; exact h2
        · unfold cB; rw [(hfr 23 (by decide)).2]; exact h3
        · unfold cB; rw [(hfr 24 (by decide)).2]; exact h4
        · intro a ha b hb
          refine (hR a ha b hb).trans ?_
          constructor
          · rintro ((z | z) | ⟨z, p', z1, z2, z3⟩)
            · exact Or.inl z
            · exact Or.inr (Or.inl ⟨z.1, hb, z.2⟩)
            · exact Or.inr (Or.inr ⟨z, p', ⟨z1, (hpl p' z1).mp z2⟩, z3⟩)
          · rintro (z | z | ⟨z, p', z1, z3⟩)
            · exact Or.inl (Or.inl z)
            · exact Or.inl (Or.inr ⟨z.1, z.2.2⟩)
            · exact Or.inr ⟨z, p', z1.1, (hpl p' z1.1).mpr z1.2, z3⟩
        · unfold cZ; rw [(hfr 28 (by decide)).1]; exact h6
        · unfold cZ; rw [(hfr 29 (by decide)).1]; exact h7
        · refine cB_iff hL (fun a b => ?_)
          constructor
          · rintro ((z | z) | ⟨z, p', z1, z2, z3⟩)
            · exact Or.inl z
            · exact Or.inr (Or.inl z)
            · exact Or.inr (Or.inr ⟨z, p', ⟨z1, (hpl p' z1).mp z2⟩, z3⟩)
          · rintro (z | z | ⟨z, p', z1, z3⟩)
            · exact Or.inl (Or.inl z)
            · exact Or.inl (Or.inr z)
            · exact Or.inr ⟨z, p', z1.1, (hpl p' z1.1).mpr z1.2, z3⟩
        · refine (hX v hv).trans ?_
          constructor
          · rintro ⟨p', z1, z2, z3⟩
            exact ⟨p', ⟨z1, (hpl p' z1).mp z2⟩, z3⟩
          · rintro ⟨p', z1, z3⟩
            exact ⟨p', z1.1, (hpl p' z1.1).mpr z1.2, z3⟩
        · exact hfr
      · intro k' hk' p hp
        rw [e27, bit_upd', Bool.or_eq_true, Bool.and_eq_true, decide_eq_true_iff, h5 k' hk' p hp, hpl p hp]
        exact ⟨Or.inl, fun z => z.elim id (fun z => absurd z.2 (hno _))⟩
      · intro a ha b hb
        rw [e18, bit_upd (by omega), Bool.or_eq_true, decide_eq_true_iff, h8 a ha b hb]
        exact ⟨Or.inl, fun z => z.elim id (fun z => absurd z.2 (hno _))⟩
      · intro v hv
        rw [e26 v hv]
        exact ⟨(fun z => by cases z), fun z => absurd z (hno _)⟩
    | false =>
      obtain ⟨h0, rfl⟩ := hb1 rfl
      refine xF_go o_Re_takeFollow [39] 60 (fun K hK => ?_)
      repeat' ((conv => whnf); first | refine ⟨fun h => ?_, fun h => ?_⟩ | refine ⟨?_, ?_⟩ | refine hK _ _ _ _ ?_)
      all_goals first | exact absurd rfl (show ¬ b2 false = 0 from by assumption) | skip
      refine xF_zret o_Re_takeFollow rfl rfl (Or.inl rfl) ?_
      refine ⟨false, rfl, ⟨(fun z => by cases z), fun ⟨p, z1, z2⟩ => ?_⟩, fun _ => rfl, (fun z => by cases z), xfr.rf⟩
      have := (hpl p z1).mpr z2
      rw [h0, xbit_0] at this
      cases this
end XFW
