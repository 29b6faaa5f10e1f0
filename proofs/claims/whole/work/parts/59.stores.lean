/-! Reach: stores, follows -/
theorem cB_iff {c n : Nat} {X X' : Nat → Nat → Prop} {M : xMe} (h : cB c n X M) (hx : ∀ a b, X a b ↔ X' a b) : cB c n X' M := fun a ha b hb => (h a ha b hb).trans (hx a b)
theorem Y22_join {P : sP} {Y : Nat → Nat → Nat → Prop} {M : xMe} (hw : wP P) (h : cY22 P Y M) {k p : Nat} (hk : k < 24) (hp : p < pS P k) {g : Nat → Int64} {s : Nat} {Z : Nat → Prop} (hZ : ∀ v, v < 256 → (sHas g s v = true ↔ Z v)) : cY22 P (fun k' p' v => Y k' p' v ∨ (k' = k ∧ p' = p ∧ Z v)) (xsL M 22 (fJoin (M.2 22) ((k * 64 + p) * 4) g s)) := by
  intro k' hk' p' hp' v hv
  rw [xsL_2, if_pos rfl]
  have := (hw.1 k hk).1
  have := (hw.1 k' hk').1
  by_cases e : k' = k ∧ p' = p
  · obtain ⟨rfl, rfl⟩ := e
    rw [sHas_join _ _ _ _ hv, Bool.or_eq_true, h k' hk' p' hp' v hv, hZ v hv]
    simp
  · rw [sHas_join_o _ _ _ _ _ hv (by omega), h k' hk' p' hp' v hv]
    exact ⟨Or.inl, fun z => z.elim id (fun z => absurd ⟨z.1, z.2.1⟩ e)⟩
theorem Y22_grew {P : sP} {Y : Nat → Nat → Nat → Prop} {M : xMe} (h : cY22 P Y M) {k p : Nat} (hk : k < 24) (hp : p < pS P k) {g : Nat → Int64} {s : Nat} {Z : Nat → Prop} (hZ : ∀ v, v < 256 → (sHas g s v = true ↔ Z v)) : gGrew (M.2 22) ((k * 64 + p) * 4) g s 4 = true ↔ ∃ v, v < 256 ∧ Z v ∧ ¬ Y k p v := by
  rw [grew_iff]
  constructor
  · rintro ⟨v, hv, h1, h2⟩
    refine ⟨v, hv, (hZ v hv).mp h1, fun z => ?_⟩
    rw [(h k hk p hp v hv).mpr z] at h2
    cases h2
  · rintro ⟨v, hv, h1, h2⟩
    refine ⟨v, hv, (hZ v hv).mpr h1, ?_⟩
    cases hh : sHas (M.2 22) ((k * 64 + p) * 4) v with
    | false => rfl
    | true => exact absurd ((h k hk p hp v hv).mp hh) h2
section XSO
variable (l : Launch) (G : xG)
theorem L_takeStore (P : sP) (Y : Nat → Nat → Nat → Prop) (hw : wP P) (s k r : Nat) (hs : s < 492) (hk : k < 24) (hr : r < 4) (q : Int32) (w : Int64) (Z : Nat → Prop) (M0 : xMe) (hS : cS P M0) (hZ : ∀ v, v < 256 → (sHas (M0.2 21) (s * 16 + r * 4) v = true ↔ Z v)) (Q : Option Value → xMe → Prop) (hQ : ∀ M (b : Bool), xfr [22] M0 M → cY22 P (fun k' p v => Y k' p v ∨ (k' = k ∧ p < pS P k ∧ xbit w p = true ∧ Z v)) M → (b = true ↔ ∃ p, p < pS P k ∧ xbit w p = true ∧ ∃ v, v < 256 ∧ Z v ∧ ¬ Y k p v) → ∀ x, xF l G y_Re_takeStore 103 [some (.ref 16), some (.int (nI s)), some (.int (nI k)), some (.int q), some (.int (nI r)), some (.long w), none, some (.int (b2 b)), some (.int x)] [] M Q) : ∀ (m p : Nat), m + p = pS P k → ∀ M (b : Bool), xfr [22] M0 M → cY22 P (fun k' p' v => Y k' p' v ∨ (k' = k ∧ p' < p ∧ xbit w p' = true ∧ Z v)) M → (b = true ↔ ∃ p', p' < p ∧ xbit w p' = true ∧ ∃ v, v < 256 ∧ Z v ∧ ¬ Y k p' v) → xF l G y_Re_takeStore 43 [some (.ref 16), some (.int (nI s)), some (.int (nI k)), some (.int q), some (.int (nI r)), some (.long w), none, some (.int (b2 b)), some (.int (nI p))] [] M Q := by
  have t2 : xtl 22 = 6144 := rfl
  have t1 : xtl 21 = 7872 := rfl
  have hs64 := (hw.1 k hk).1
  have hcl : (nI k).toNatClampNeg = k := nI_clamp (by omega)
  intro m
  induction m with
  | zero =>
    intro p hp M b hfr hX hb
    obtain rfl : p = pS P k := by omega
    have hsz : M.1 2 (nI k).toNatClampNeg = nI (pS P k) := by rw [hcl, (hfr 2 (by decide)).1]; exact (hS k hk).1
    refine xF_go o_Re_takeStore [43, 103] 60 (fun K hK => ?_)
    repeat' ((conv => whnf); first | refine ⟨fun h => ?_, fun h => ?_⟩ | refine ⟨?_, ?_⟩ | refine hK _ _ _ _ ?_)
    · exact vp_in_nI hk (by decide)
    · exact hQ M b hfr hX hb _
    all_goals
      have hlt : nI (pS P k) < M.1 2 (nI k).toNatClampNeg := by assumption
      rw [hsz, nI_ltI (by omega) (by omega)] at hlt
      omega
  | succ m ih =>
    intro p hp M b hfr hX hb
    have hsz : M.1 2 (nI k).toNatClampNeg = nI (pS P k) := by rw [hcl, (hfr 2 (by decide)).1]; exact (hS k hk).1
    have hp' : p < pS P k := by omega
    refine xF_go o_Re_takeStore [43, 103] 60 (fun K hK => ?_)
    repeat' ((conv => whnf); first | refine ⟨fun h => ?_, fun h => ?_⟩ | refine ⟨?_, ?_⟩ | refine hK _ _ _ _ ?_)
    · exact vp_in_nI hk (by decide)
    · have hlt : ¬ nI p < M.1 2 (nI k).toNatClampNeg := by assumption
      rw [hsz, nI_ltI (by omega) (by omega)] at hlt
      exact absurd hp' hlt
    · have h0 : lg_cmp ((w.toUInt64 >>> ((nI p).toInt64.toUInt64 &&& Int64.toUInt64 63)).toInt64 &&& 1) 0 = 0 := by assumption
      rw [xcmp0, xbit_test w (by omega)] at h0
      rw [nI_1]
      refine ih (p + 1) (by omega) M b hfr (fun k' hk' p' hp2 v hv => ?_) ?_
      · rw [hX k' hk' p' hp2 v hv]
        constructor
        · rintro (z | ⟨z1, z2, z3⟩)
          · exact Or.inl z
          · exact Or.inr ⟨z1, by omega, z3⟩
        · rintro (z | ⟨z1, z2, z3, z4⟩)
          · exact Or.inl z
          · by_cases e : p' = p
            · rw [e, h0] at z3; cases z3
            · exact Or.inr ⟨z1, by omega, z3, z4⟩
      · rw [hb]
        constructor
        · rintro ⟨p', z1, z2⟩
          exact ⟨p', by omega, z2⟩
        · rintro ⟨p', z1, z2, z3⟩
          by_cases e : p' = p
          · rw [e, h0] at z2; cases z2
          · exact ⟨p', by omega, z2, z3⟩
    · have h0 : ¬ lg_cmp ((w.toUInt64 >>> ((nI p).toInt64.toUInt64 &&& Int64.toUInt64 63)).toInt64 &&& 1) 0 = 0 := by assumption
      rw [xcmp0, xbit_test w (by omega)] at h0
      have h1 : xbit w p = true := by
        cases e : xbit w p with
        | true => rfl
        | false => exact absurd e h0
      refine xF_callS o_Re_takeStore [.int (nI k), .int (nI p)] rfl z_Re_standAt s_Re_standAt l_Re_122 rfl ⟨⟨by decide, by decide⟩, rfl, rfl⟩ (Nat.le_of_ble_eq_true rfl) rfl (E_standAt l G (nI k) (nI p) M) ?_
      rintro v M' ⟨rfl, rfl⟩
      rw [stand_n]
      clear hK K
      refine xF_go o_Re_takeStore [43, 103] 60 (fun K hK => ?_)
      repeat' ((conv => whnf); first | refine ⟨fun h => ?_, fun h => ?_⟩ | refine ⟨?_, ?_⟩ | refine hK _ _ _ _ ?_)
      refine xF_callS o_Re_takeStore [.int (nI s), .int (nI r)] rfl z_Re_setAt s_Re_setAt l_Re_95 rfl ⟨⟨by decide, by decide⟩, rfl, rfl⟩ (Nat.le_of_ble_eq_true rfl) rfl (E_setAt l G (nI s) (nI r) M') ?_
      rintro v M ⟨rfl, rfl⟩
      rw [set_n]
      clear hK K
      refine xF_go o_Re_takeStore [43, 103] 60 (fun K hK => ?_)
      repeat' ((conv => whnf); first | refine ⟨fun h => ?_, fun h => ?_⟩ | refine ⟨?_, ?_⟩ | refine hK _ _ _ _ ?_)
      refine xF_callS o_Re_takeStore [.ref 22, .int (nI ((k * 64 + p) * 4)), .ref 21, .int (nI (s * 16 + r * 4))] rfl z_OS_join s_OS_join l_Re_155 rfl ⟨⟨by decide, by decide⟩, rfl, rfl⟩ (Nat.le_of_ble_eq_true rfl) rfl (E_join_22_21 l G ((k * 64 + p) * 4) (s * 16 + r * 4) (by omega) (by omega) (by omega) M) ?_
      rintro v M' ⟨rfl, rfl⟩
      clear hK K
      have hZ' : ∀ v, v < 256 → (sHas (M.2 21) (s * 16 + r * 4) v = true ↔ Z v) := by
        intro v hv
        rw [(hfr 21 (by decide)).2]
        exact hZ v hv
      have c1 := Y22_join hw hX hk hp' hZ'
      have c2 := Y22_grew hX hk hp' hZ'
      refine xF_go o_Re_takeStore [43, 103] 60 (fun K hK => ?_)
      repeat' ((conv => whnf); first | refine ⟨fun h => ?_, fun h => ?_⟩ | refine ⟨?_, ?_⟩ | refine hK _ _ _ _ ?_)
      rw [b2_or, nI_1]
      refine ih (p + 1) (by omega) _ _ (hfr.L (by simp)) (fun k' hk' p' hp2 v hv => ?_) ?_
      · rw [c1 k' hk' p' hp2 v hv]
        constructor
        · rintro ((z | ⟨z1, z2, z3⟩) | ⟨z1, z2, z3⟩)
          · exact Or.inl z
          · exact Or.inr ⟨z1, by omega, z3⟩
          · exact Or.inr ⟨z1, by omega, z2 ▸ h1, z3⟩
        · rintro (z | ⟨z1, z2, z3, z4⟩)
          · exact Or.inl (Or.inl z)
          · by_cases e : p' = p
            · exact Or.inr ⟨z1, e, z4⟩
            · exact Or.inl (Or.inr ⟨z1, by omega, z3, z4⟩)
      · rw [Bool.or_eq_true, hb, c2]
        constructor
        · rintro (⟨p', z1, z2⟩ | ⟨v, z1, z2, z3⟩)
          · exact ⟨p', by omega, z2⟩
          · exact ⟨p, by omega, h1, v, z1, z2, fun z => z3 (Or.inl z)⟩
        · rintro ⟨p', z1, z2, v, z3, z4, z5⟩
          by_cases e : p' = p
          · subst e
            refine Or.inr ⟨v, z3, z4, ?_⟩
            rintro (z | z)
            · exact z5 z
            · omega
          · exact Or.inl ⟨p', by omega, z2, v, z3, z4, z5⟩
theorem E_takeStore (P : sP) (V : sV) (M : xMe) (hP : cP P M) (hV : cV P V M) (hk0 : cK P M) (hw : wP P) (f i k q r : Nat) (hf : f < 12) (hi : i < 41) (hk : k < 24) (hq : q < 4) (hr : r < 4) : xE l G y_Re_takeStore [.ref 16, .int (nI (f * 41 + i)), .int (nI k), .int (nI q), .int (nI r)] M (fun v M' => ∃ b, v = some (.int (b2 b)) ∧ (b = true ↔ ∃ p, p < pS P k ∧ vS V f i q p) ∧ (b = false → M' = M) ∧ (b = true → cV P (vStore P V k (fun p => p < pS P k ∧ vS V f i q p) (vS V f i r)) M') ∧ xfr [22, 24, 28] M M') := by
  have hs64 := (hw.1 k hk).1
  obtain ⟨h1, h2, h3, h4, h5, h6, h7, h8⟩ := hV
  refine xE_of [some (.ref 16), some (.int (nI (f * 41 + i))), some (.int (nI k)), some (.int (nI q)), some (.int (nI r)), none, none, none, none] (by decide +kernel) (Nat.le_of_ble_eq_true rfl) rfl ?_
  refine xF_go o_Re_takeStore [43] 60 (fun K hK => ?_)
  repeat' ((conv => whnf); first | refine ⟨fun h => ?_, fun h => ?_⟩ | refine ⟨?_, ?_⟩ | refine hK _ _ _ _ ?_)
  refine xF_callV o_Re_takeStore [.int (nI (f * 41 + i)), .int (nI q)] rfl z_Re_placesIn i_Re_placesIn v_Re_placesIn l_Re_223 rfl ⟨⟨by decide, by decide⟩, rfl, rfl⟩ (Nat.le_of_ble_eq_true rfl) rfl rfl rfl (E_placesIn l G (f * 41 + i) q (by omega) hq M) ?_
  rintro v M' ⟨rfl, rfl⟩
  clear hK K
  refine xF_go o_Re_takeStore [43] 60 (fun K hK => ?_)
  repeat' ((conv => whnf); first | refine ⟨fun h => ?_, fun h => ?_⟩ | refine ⟨?_, ?_⟩ | refine hK _ _ _ _ ?_)
  refine xF_callV o_Re_takeStore [.int (nI k)] rfl z_Pr_placesOf i_Pr_placesOf v_Pr_placesOf l_Re_227 rfl ⟨⟨by decide, by decide⟩, rfl, rfl⟩ (Nat.le_of_ble_eq_true rfl) rfl rfl rfl (E_placesOf l G P M' hP.1 hw k hk) ?_
  rintro v M ⟨rfl, w2, rfl, hw2⟩
  clear hK K
  have hpl : ∀ p, p < 64 → (xbit (M.2 21 ((f * 41 + i) * 16 + q * 4) &&& w2) p = true ↔ p < pS P k ∧ vS V f i q p) := by
    intro p hp
    rw [xbit_and, Bool.and_eq_true, hw2 p hp, decide_eq_true_iff, ← shas_low _ _ hp, h1 f hf i hi q hq p (by omega)]
    exact ⟨fun z => ⟨z.2, z.1⟩, fun z => ⟨z.2, z.1⟩⟩
  refine xF_go o_Re_takeStore [43] 60 (fun K hK => ?_)
  repeat' ((conv => whnf); first | refine ⟨fun h => ?_, fun h => ?_⟩ | refine ⟨?_, ?_⟩ | refine hK _ _ _ _ ?_)
  · exact vp_in_nI hk (by decide)
  · exact Or.inr rfl
  · have h0 : ¬ lg_cmp (M.2 21 ((f * 41 + i) * 16 + q * 4) &&& w2) 0 = 0 := by assumption
    rw [xcmp0] at h0
    clear hK K
    generalize M.2 21 ((f * 41 + i) * 16 + q * 4) &&& w2 = w at *
    have hex : ∃ p, p < pS P k ∧ vS V f i q p := by
      refine Classical.byContradiction (fun hn => h0 (xbit_zero.mpr (fun p hp => ?_)))
      cases e : xbit w p with
      | false => rfl
      | true => exact absurd ⟨p, (hpl p hp).mp e⟩ hn
    have hcl : (nI k).toNatClampNeg = k := nI_clamp (by omega)
    rw [hcl]
    refine xF_callS o_Re_takeStore [.long w] rfl z_JL_numberOfTrailingZeros s_JL_numberOfTrailingZeros l_Re_163 rfl ⟨⟨by decide, by decide⟩, rfl, rfl⟩ (Nat.le_of_ble_eq_true rfl) rfl (E_lnz l G w h0 _) ?_
    rintro v M1 ⟨rfl, t, ht, rfl, hb, hlo⟩
    refine xF_go o_Re_takeStore [43] 60 (fun K hK => ?_)
    repeat' ((conv => whnf); first | refine ⟨fun h => ?_, fun h => ?_⟩ | refine ⟨?_, ?_⟩ | refine hK _ _ _ _ ?_)
    have htp : t < pS P k := ((hpl t ht).mp hb).1
    refine L_takeStore l G P (vY V) hw (f * 41 + i) k r (by omega) hk hr _ w (vS V f i r) _ ?_ ?_ _ ?_ (pS P k - t) t (by omega) _ false xfr.rf ?_ ?_
    · exact hP.1
    · exact fun v hv => h1 f hf i hi r hr v hv
    · clear hK K
      intro M2 b hfr hY hbg x
      have hfr0 : xfr [22, 24, 28] M M2 := (xfr.rf.I (by simp)).tr hfr (by simp)
      have hgr : b = true ↔ vStoreG V k (fun p => p < pS P k ∧ vS V f i q p) (vS V f i r) := by
        rw [hbg]
        constructor
        · rintro ⟨p, z1, z2, z3⟩
          exact ⟨p, (hpl p (by omega)).mp z2, z3⟩
        · rintro ⟨p, z1, z3⟩
          exact ⟨p, z1.1, (hpl p (by have := z1.1; omega)).mpr z1, z3⟩
      have hY' : cY22 P (fun k' p v => vY V k' p v ∨ (k' = k ∧ (p < pS P k ∧ vS V f i q p) ∧ vS V f i r v)) M2 := by
        intro k' hk' p' hp2 v hv
        rw [hY k' hk' p' hp2 v hv]
        constructor
        · rintro (z | ⟨z1, z2, z3, z4⟩)
          · exact Or.inl z
          · exact Or.inr ⟨z1, (hpl p' (by omega)).mp z3, z4⟩
        · rintro (z | ⟨z1, z2, z4⟩)
          · exact Or.inl z
          · exact Or.inr ⟨z1, z2.1, (hpl p' (by have := z2.1; omega)).mpr z2, z4⟩
      have g1 : cS21 (vS V) M2 := by unfold cS21; rw [(hfr 21 (by decide)).2]; exact h1
      have g3 : cB 23 12 (vC V) M2 := by unfold cB; rw [(hfr 23 (by decide)).2]; exact h3
      have g4 : cB 24 12 (vW V) M2 := by unfold cB; rw [(hfr 24 (by decide)).2]; exact h4
      have g5 : cB 27 24 (vRd V) M2 := by unfold cB; rw [(hfr 27 (by decide)).2]; exact h5
      have g6 : cZ 28 (fun k' => vWr V k' ∨ k' = k) M2 := by
        intro k' hk'
        rw [(hfr 28 (by decide)).1]
        show ∃ b, upd (M.1 28) k 1 k' = b2 b ∧ (b = true ↔ (vWr V k' ∨ k' = k))
        by_cases e : k' = k
        · subst e
          exact ⟨true, upd_s, fun _ => Or.inr rfl, fun _ => rfl⟩
        · obtain ⟨b, e1, e2⟩ := h6 k' hk'
          exact ⟨b, by rw [upd_n e]; exact e1, by rw [e2]; exact ⟨Or.inl, fun z => z.elim id (fun z => absurd z e)⟩⟩
      have g7 : cZ 29 (vCm V) M2 := by unfold cZ; rw [(hfr 29 (by decide)).1]; exact h7
      have g8 : cB 18 36 (vLk V) M2 := by unfold cB; rw [(hfr 18 (by decide)).2]; exact h8
      refine xF_go o_Re_takeStore [] 60 (fun K hK => ?_)
      repeat' ((conv => whnf); first | refine ⟨fun h => ?_, fun h => ?_⟩ | refine ⟨?_, ?_⟩ | refine hK _ _ _ _ ?_)
      · have hb0 : b2 b = 0 := by assumption
        have hn : ¬ vStoreG V k (fun p => p < pS P k ∧ vS V f i q p) (vS V f i r) := fun z => by
          rw [hgr.mpr z] at hb0
          exact absurd hb0 (by decide)
        refine xF_zret o_Re_takeStore rfl rfl (Or.inr rfl) ?_
        refine ⟨true, rfl, ⟨fun _ => hex, fun _ => rfl⟩, (fun z => by cases z), fun _ => ⟨g1, hY', g3, cB_iff g4 (fun a b => ⟨Or.inl, fun z => z.elim id (fun z => absurd z.1 hn)⟩), g5, g6, g7, g8⟩, hfr0⟩
      · have hb0 : ¬ b2 b = 0 := by assumption
        have hg : vStoreG V k (fun p => p < pS P k ∧ vS V f i q p) (vS V f i r) := by
          refine hgr.mp ?_
          cases b with
          | true => rfl
          | false => exact absurd rfl hb0
        rw [show (12 : Int32) + nI k = nI (12 + k) from nI_add 12 k]
        refine xF_callV o_Re_takeStore [.int (nI (12 + k))] rfl z_Re_wake i_Re_wake v_Re_wake l_Re_171 rfl ⟨⟨by decide, by decide⟩, rfl, rfl⟩ (Nat.le_of_ble_eq_true rfl) rfl rfl rfl (E_wake l G P (vS V, fun k' p v => vY V k' p v ∨ (k' = k ∧ (p < pS P k ∧ vS V f i q p) ∧ vS V f i r v), vC V, vW V, vRd V, fun k' => vWr V k' ∨ k' = k, vCm V, vLk V) M2 ⟨g1, hY', g3, g4, g5, g6, g7, g8⟩ (cK_fr hfr0 (by decide) hk0) (12 + k) (by omega)) ?_
        rintro v M3 ⟨rfl, hV3, hfr3⟩
        clear hK K
        refine xF_go o_Re_takeStore [] 60 (fun K hK => ?_)
        repeat' ((conv => whnf); first | refine ⟨fun h => ?_, fun h => ?_⟩ | refine ⟨?_, ?_⟩ | refine hK _ _ _ _ ?_)
        refine xF_callV o_Re_takeStore [.int (nI 36)] rfl z_Re_wake i_Re_wake v_Re_wake l_Re_171 rfl ⟨⟨by decide, by decide⟩, rfl, rfl⟩ (Nat.le_of_ble_eq_true rfl) rfl rfl rfl (E_wake l G P _ M3 hV3 (cK_fr (hfr0.tr hfr3 (by simp)) (by decide) hk0) 36 (by omega)) ?_
        rintro v M4 ⟨rfl, hV4, hfr4⟩
        clear hK K
        refine xF_go o_Re_takeStore [] 60 (fun K hK => ?_)
        repeat' ((conv => whnf); first | refine ⟨fun h => ?_, fun h => ?_⟩ | refine ⟨?_, ?_⟩ | refine hK _ _ _ _ ?_)
        refine xF_zret o_Re_takeStore rfl rfl (Or.inr rfl) ?_
        obtain ⟨e1, e2, e3, e4, e5, e6, e7, e8⟩ := hV4
        refine ⟨true, rfl, ⟨fun _ => hex, fun _ => rfl⟩, (fun z => by cases z), fun _ => ⟨e1, e2, e3, cB_iff e4 (fun a b => ?_), e5, e6, e7, e8⟩, (hfr0.tr hfr3 (by simp)).tr hfr4 (by simp)⟩
        show ((vW V a b ∨ (site P (12 + k) a b ∧ vC V a b)) ∨ (site P 36 a b ∧ vC V a b)) ↔ (vW V a b ∨ (_ ∧ (site P (12 + k) a b ∨ site P 36 a b) ∧ vC V a b))
        constructor
        · rintro ((z | z) | z)
          · exact Or.inl z
          · exact Or.inr ⟨hg, Or.inl z.1, z.2⟩
          · exact Or.inr ⟨hg, Or.inr z.1, z.2⟩
        · rintro (z | ⟨_, z | z, z2⟩)
          · exact Or.inl (Or.inl z)
          · exact Or.inl (Or.inr ⟨z, z2⟩)
          · exact Or.inr ⟨z, z2⟩
    · intro k' hk' p' hp2 v hv
      refine (h2 k' hk' p' hp2 v hv).trans ⟨Or.inl, fun z => z.elim id (fun z => ?_)⟩
      rw [hlo p' z.2.1] at z
      exact absurd z.2.2.1 (by decide)
    · refine ⟨(fun z => by cases z), fun ⟨p', z1, z2, _⟩ => ?_⟩
      rw [hlo p' z1] at z2
      cases z2
  · have h0 : lg_cmp (M.2 21 ((f * 41 + i) * 16 + q * 4) &&& w2) 0 = 0 := by assumption
    rw [xcmp0] at h0
    refine xF_zret o_Re_takeStore rfl rfl (Or.inl rfl) ?_
    refine ⟨false, rfl, ⟨(fun z => by cases z), fun ⟨p, z⟩ => ?_⟩, fun _ => rfl, (fun z => by cases z), xfr.rf⟩
    have := (hpl p (by have := z.1; omega)).mpr z
    rw [h0, xbit_0] at this
    cases this
end XSO
