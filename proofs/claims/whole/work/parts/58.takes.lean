/-! Reach: loads, stores, follows -/
def vLoad (V : sV) (f k : Nat) (pl : Nat → Prop) : sV := (vS V, vY V, vC V, vW V, fun k' p => vRd V k' p ∨ (k' = k ∧ pl p), vWr V, vCm V, fun a b => vLk V a b ∨ (a = f ∧ b = 12 + k))
def vStoreG (V : sV) (k : Nat) (pl : Nat → Prop) (Z : Nat → Prop) : Prop := ∃ p, pl p ∧ ∃ v, v < 256 ∧ Z v ∧ ¬ vY V k p v
def vStore (P : sP) (V : sV) (k : Nat) (pl : Nat → Prop) (Z : Nat → Prop) : sV := (vS V, fun k' p v => vY V k' p v ∨ (k' = k ∧ pl p ∧ Z v), vC V, fun f i => vW V f i ∨ (vStoreG V k pl Z ∧ (site P (12 + k) f i ∨ site P 36 f i) ∧ vC V f i), vRd V, fun k' => vWr V k' ∨ k' = k, vCm V, vLk V)
def vFollow (P : sP) (V : sV) (f k : Nat) (pl : Nat → Prop) : sV := (vS V, vY V, vC V, vW V, fun k' p => vRd V k' p ∨ (k' = k ∧ pl p) ∨ (p = 0 ∧ ∃ p', pl p' ∧ pR P k p' = some k'), vWr V, vCm V, fun a b => vLk V a b ∨ (a = f ∧ b = 12 + k) ∨ (a = 12 + k ∧ ∃ p', pl p' ∧ ∃ t, pR P k p' = some t ∧ b = 12 + t))
theorem shas_low (f : Nat → Int64) (t : Nat) {p : Nat} (hp : p < 64) : sHas f t p = xbit (f t) p := by
  unfold sHas
  rw [show p / 64 = 0 by omega, show p % 64 = p by omega, Nat.add_zero]
theorem bit_upd' {g : Nat → Int64} {f : Nat} {x : Int64} {f' i : Nat} : xbit (vp_updL g f (g f ||| x) f') i = (xbit (g f') i || (decide (f' = f) && xbit x i)) := by
  unfold vp_updL
  by_cases e : f' = f
  · subst e
    rw [if_pos rfl, xbit_or]
    simp
  · rw [if_neg e]
    simp [e]
section XTK
variable (l : Launch) (G : xG)
theorem L_takeLoad (P : sP) (Y : Nat → Nat → Nat → Prop) (hw : wP P) (f slot q : Int32) (k : Nat) (hk : k < 24) (w : Int64) (M0 : xMe) (hS : cS P M0) (hY : cY22 P Y M0) (Q : Option Value → xMe → Prop) (hQ : ∀ M, xfr [26] M0 M → (∀ v, v < 256 → (sHas (M.2 26) 0 v = true ↔ ∃ p, p < pS P k ∧ xbit w p = true ∧ Y k p v)) → Q (some (.int 1)) M) : ∀ (m p : Nat), (m + p = pS P k ∨ (m = 0 ∧ pS P k ≤ p ∧ p < 64)) → ∀ M, xfr [26] M0 M → (∀ v, v < 256 → (sHas (M.2 26) 0 v = true ↔ ∃ p', p' < p ∧ p' < pS P k ∧ xbit w p' = true ∧ Y k p' v)) → xF l G y_Re_takeLoad 38 [some (.ref 16), some (.int f), some (.int slot), some (.int (nI k)), some (.int q), some (.long w), none, some (.int (nI p))] [] M Q := by
  have t2 : xtl 22 = 6144 := rfl
  have hs64 := (hw.1 k hk).1
  have hcl : (nI k).toNatClampNeg = k := nI_clamp (by omega)
  intro m
  induction m with
  | zero =>
    intro p hp M hfr hX
    have hsz : M.1 2 (nI k).toNatClampNeg = nI (pS P k) := by rw [hcl, (hfr 2 (by decide)).1]; exact (hS k hk).1
    refine xF_go o_Re_takeLoad [38] 60 (fun K hK => ?_)
    repeat' ((conv => whnf); first | refine ⟨fun h => ?_, fun h => ?_⟩ | refine ⟨?_, ?_⟩ | refine hK _ _ _ _ ?_)
    · exact vp_in_nI hk (by decide)
    · refine xF_zret o_Re_takeLoad rfl rfl (Or.inr rfl) ?_
      refine hQ M hfr (fun v hv => ?_)
      rw [hX v hv]
      exact ⟨fun ⟨p', z1, z2⟩ => ⟨p', z2⟩, fun ⟨p', z1, z2⟩ => ⟨p', by omega, z1, z2⟩⟩
    all_goals
      have hlt : nI p < M.1 2 (nI k).toNatClampNeg := by assumption
      rw [hsz, nI_ltI (by omega) (by omega)] at hlt
      omega
  | succ m ih =>
    intro p hp M hfr hX
    have hsz : M.1 2 (nI k).toNatClampNeg = nI (pS P k) := by rw [hcl, (hfr 2 (by decide)).1]; exact (hS k hk).1
    have hp' : p < pS P k := by omega
    refine xF_go o_Re_takeLoad [38] 60 (fun K hK => ?_)
    repeat' ((conv => whnf); first | refine ⟨fun h => ?_, fun h => ?_⟩ | refine ⟨?_, ?_⟩ | refine hK _ _ _ _ ?_)
    · exact vp_in_nI hk (by decide)
    · have hlt : ¬ nI p < M.1 2 (nI k).toNatClampNeg := by assumption
      rw [hsz, nI_ltI (by omega) (by omega)] at hlt
      exact absurd hp' hlt
    · have h0 : lg_cmp ((w.toUInt64 >>> ((nI p).toInt64.toUInt64 &&& Int64.toUInt64 63)).toInt64 &&& 1) 0 = 0 := by assumption
      rw [xcmp0, xbit_test w (by omega)] at h0
      rw [nI_1]
      refine ih (p + 1) (by omega) M hfr (fun v hv => ?_)
      rw [hX v hv]
      constructor
      · rintro ⟨p', z1, z2⟩
        exact ⟨p', by omega, z2⟩
      · rintro ⟨p', z1, z2, z3, z4⟩
        by_cases e : p' = p
        · rw [e, h0] at z3; cases z3
        · exact ⟨p', by omega, z2, z3, z4⟩
    · have h0 : ¬ lg_cmp ((w.toUInt64 >>> ((nI p).toInt64.toUInt64 &&& Int64.toUInt64 63)).toInt64 &&& 1) 0 = 0 := by assumption
      rw [xcmp0, xbit_test w (by omega)] at h0
      have h1 : xbit w p = true := by
        cases e : xbit w p with
        | true => rfl
        | false => exact absurd e h0
      refine xF_callS o_Re_takeLoad [.int (nI k), .int (nI p)] rfl z_Re_standAt s_Re_standAt l_Re_122 rfl ⟨⟨by decide, by decide⟩, rfl, rfl⟩ (Nat.le_of_ble_eq_true rfl) rfl (E_standAt l G (nI k) (nI p) M) ?_
      rintro v M' ⟨rfl, rfl⟩
      rw [stand_n]
      clear hK K
      refine xF_go o_Re_takeLoad [38] 60 (fun K hK => ?_)
      repeat' ((conv => whnf); first | refine ⟨fun h => ?_, fun h => ?_⟩ | refine ⟨?_, ?_⟩ | refine hK _ _ _ _ ?_)
      refine xF_callS o_Re_takeLoad [.ref 26, .int (nI 0), .ref 22, .int (nI ((k * 64 + p) * 4))] rfl z_OS_join s_OS_join l_Re_155 rfl ⟨⟨by decide, by decide⟩, rfl, rfl⟩ (Nat.le_of_ble_eq_true rfl) rfl (E_join_26_22 l G 0 ((k * 64 + p) * 4) (by decide) (by omega) (by omega) M') ?_
      rintro v M ⟨rfl, rfl⟩
      clear hK K
      refine xF_go o_Re_takeLoad [38] 60 (fun K hK => ?_)
      repeat' ((conv => whnf); first | refine ⟨fun h => ?_, fun h => ?_⟩ | refine ⟨?_, ?_⟩ | refine hK _ _ _ _ ?_)
      rw [nI_1]
      refine ih (p + 1) (by omega) _ (hfr.L (by simp)) (fun v hv => ?_)
      rw [xsL_2, if_pos rfl, sHas_join _ _ _ _ hv, Bool.or_eq_true, hX v hv, (hfr 22 (by decide)).2, hY k hk p hp' v hv]
      constructor
      · rintro (⟨p', z1, z2⟩ | z)
        · exact ⟨p', by omega, z2⟩
        · exact ⟨p, by omega, hp', h1, z⟩
      · rintro ⟨p', z1, z2, z3, z4⟩
        by_cases e : p' = p
        · exact Or.inr (e ▸ z4)
        · exact Or.inl ⟨p', by omega, z2, z3, z4⟩
theorem E_beginRead (f k : Nat) (hf : f < 12) (hk : k < 24) (w : Int64) (M : xMe) : xE l G y_Re_beginRead [.ref 16, .int (nI f), .int (nI k), .long w] M (fun r M' => ∃ b, r = some (.int (b2 b)) ∧ (b = false → w = 0 ∧ M' = M) ∧ (b = true → ¬ w = 0 ∧ M'.2 27 = vp_updL (M.2 27) k (M.2 27 k ||| w) ∧ M'.2 18 = vp_updL (M.2 18) f (M.2 18 f ||| (1 : Int64) <<< ((nI (12 + k)).toInt64 &&& 63)) ∧ ∀ v, v < 256 → sHas (M'.2 26) 0 v = false) ∧ xfr [18, 26, 27] M M') := by
  refine xE_of [some (.ref 16), some (.int (nI f)), some (.int (nI k)), some (.long w), none] (by decide +kernel) (Nat.le_of_ble_eq_true rfl) rfl ?_
  refine xF_go o_Re_beginRead [] 60 (fun K hK => ?_)
  repeat' ((conv => whnf); first | refine ⟨fun h => ?_, fun h => ?_⟩ | refine ⟨?_, ?_⟩ | refine hK _ _ _ _ ?_)
  · exact vp_in_nI hk (by decide)
  · exact vp_in_nI hk (by decide)
  · have h0 : ¬ lg_cmp w 0 = 0 := by assumption
    rw [xcmp0] at h0
    clear hK K
    have hcl : (nI k).toNatClampNeg = k := nI_clamp (by omega)
    rw [hcl]
    rw [show (12 : Int32) + nI k = nI (12 + k) from nI_add 12 k]
    refine xF_callV o_Re_beginRead [.int (nI f), .int (nI (12 + k))] rfl z_Ch_link i_Ch_link v_Ch_link l_Re_220 rfl ⟨⟨by decide, by decide⟩, rfl, rfl⟩ (Nat.le_of_ble_eq_true rfl) rfl rfl rfl (E_link l G f (12 + k) (by omega) (by omega) _) ?_
    rintro v M1 ⟨rfl, rfl⟩
    refine xF_go o_Re_beginRead [] 60 (fun K hK => ?_)
    repeat' ((conv => whnf); first | refine ⟨fun h => ?_, fun h => ?_⟩ | refine ⟨?_, ?_⟩ | refine hK _ _ _ _ ?_)
    refine xF_callS o_Re_beginRead [.ref 26, .long 0] rfl z_JA_fill2 s_JA_fill2 l_Re_106 rfl ⟨⟨by decide, by decide⟩, rfl, rfl⟩ (Nat.le_of_ble_eq_true rfl) rfl (E_fill2 l G 26 (by simp) 0 _) ?_
    rintro v M1 ⟨rfl, rfl⟩
    clear hK K
    refine xF_go o_Re_beginRead [] 60 (fun K hK => ?_)
    repeat' ((conv => whnf); first | refine ⟨fun h => ?_, fun h => ?_⟩ | refine ⟨?_, ?_⟩ | refine hK _ _ _ _ ?_)
    refine xF_zret o_Re_beginRead rfl rfl (Or.inr rfl) ?_
    refine ⟨true, rfl, (fun z => by cases z), fun _ => ⟨h0, rfl, rfl, fun v hv => ?_⟩, ((xfr.rf.L (by simp)).L (by simp)).L (by simp)⟩
    show xbit (if 0 + v / 64 < 4 then (0 : Int64) else M.2 26 (0 + v / 64)) (v % 64) = false
    rw [if_pos (by omega), xbit_0]
  · have h0 : lg_cmp w 0 = 0 := by assumption
    rw [xcmp0] at h0
    refine xF_zret o_Re_beginRead rfl rfl (Or.inl rfl) ?_
    exact ⟨false, rfl, fun _ => ⟨h0, rfl⟩, (fun z => by cases z), xfr.rf⟩
theorem E_takeLoad (P : sP) (V : sV) (M : xMe) (hP : cP P M) (hV : cV P V M) (hw : wP P) (f i k q : Nat) (hf : f < 12) (hi : i < 41) (hk : k < 24) (hq : q < 4) : xE l G y_Re_takeLoad [.ref 16, .int (nI f), .int (nI (f * 41 + i)), .int (nI k), .int (nI q)] M (fun r M' => ∃ b, r = some (.int (b2 b)) ∧ (b = true ↔ ∃ p, p < pS P k ∧ vS V f i q p) ∧ (b = false → M' = M) ∧ (b = true → cV P (vLoad V f k (fun p => p < pS P k ∧ vS V f i q p)) M' ∧ ∀ v, v < 256 → (sHas (M'.2 26) 0 v = true ↔ ∃ p, (p < pS P k ∧ vS V f i q p) ∧ vY V k p v)) ∧ xfr [18, 26, 27] M M') := by
  have hs64 := (hw.1 k hk).1
  obtain ⟨h1, h2, h3, h4, h5, h6, h7, h8⟩ := hV
  refine xE_of [some (.ref 16), some (.int (nI f)), some (.int (nI (f * 41 + i))), some (.int (nI k)), some (.int (nI q)), none, none, none] (by decide +kernel) (Nat.le_of_ble_eq_true rfl) rfl ?_
  refine xF_go o_Re_takeLoad [38] 60 (fun K hK => ?_)
  repeat' ((conv => whnf); first | refine ⟨fun h => ?_, fun h => ?_⟩ | refine ⟨?_, ?_⟩ | refine hK _ _ _ _ ?_)
  refine xF_callV o_Re_takeLoad [.int (nI (f * 41 + i)), .int (nI q)] rfl z_Re_placesIn i_Re_placesIn v_Re_placesIn l_Re_223 rfl ⟨⟨by decide, by decide⟩, rfl, rfl⟩ (Nat.le_of_ble_eq_true rfl) rfl rfl rfl (E_placesIn l G (f * 41 + i) q (by omega) hq M) ?_
  rintro v M' ⟨rfl, rfl⟩
  clear hK K
  refine xF_go o_Re_takeLoad [38] 60 (fun K hK => ?_)
  repeat' ((conv => whnf); first | refine ⟨fun h => ?_, fun h => ?_⟩ | refine ⟨?_, ?_⟩ | refine hK _ _ _ _ ?_)
  refine xF_callV o_Re_takeLoad [.int (nI k)] rfl z_Pr_placesOf i_Pr_placesOf v_Pr_placesOf l_Re_227 rfl ⟨⟨by decide, by decide⟩, rfl, rfl⟩ (Nat.le_of_ble_eq_true rfl) rfl rfl rfl (E_placesOf l G P M' hP.1 hw k hk) ?_
  rintro v M ⟨rfl, w2, rfl, hw2⟩
  clear hK K
  have hpl : ∀ p, p < 64 → (xbit (M.2 21 ((f * 41 + i) * 16 + q * 4) &&& w2) p = true ↔ p < pS P k ∧ vS V f i q p) := by
    intro p hp
    rw [xbit_and, Bool.and_eq_true, hw2 p hp, decide_eq_true_iff, ← shas_low _ _ hp, h1 f hf i hi q hq p (by omega)]
    exact ⟨fun z => ⟨z.2, z.1⟩, fun z => ⟨z.2, z.1⟩⟩
  refine xF_go o_Re_takeLoad [38] 60 (fun K hK => ?_)
  repeat' ((conv => whnf); first | refine ⟨fun h => ?_, fun h => ?_⟩ | refine ⟨?_, ?_⟩ | refine hK _ _ _ _ ?_)
  clear hK K
  generalize M.2 21 ((f * 41 + i) * 16 + q * 4) &&& w2 = w at *
  refine xF_callV o_Re_takeLoad [.int (nI f), .int (nI k), .long w] rfl z_Re_beginRead i_Re_beginRead v_Re_beginRead l_Re_231 rfl ⟨⟨by decide, by decide⟩, rfl, rfl⟩ (Nat.le_of_ble_eq_true rfl) rfl rfl rfl (E_beginRead l G f k hf hk w M) ?_
  rintro v M1 ⟨b, rfl, hb1, hb2, hfr1⟩
  cases b with
  | true =>
    obtain ⟨h0, e27, e18, e26⟩ := hb2 rfl
    have hex : ∃ p, p < pS P k ∧ vS V f i q p := by
      refine Classical.byContradiction (fun hn => h0 (xbit_zero.mpr (fun p hp => ?_)))
      cases e : xbit w p with
      | false => rfl
      | true => exact absurd ⟨p, (hpl p hp).mp e⟩ hn
    refine xF_go o_Re_takeLoad [38] 60 (fun K hK => ?_)
    repeat' ((conv => whnf); first | refine ⟨fun h => ?_, fun h => ?_⟩ | refine ⟨?_, ?_⟩ | refine hK _ _ _ _ ?_)
    all_goals first | exact absurd (show b2 true = 0 from by assumption) (by decide) | skip
    refine xF_callS o_Re_takeLoad [.long w] rfl z_JL_numberOfTrailingZeros s_JL_numberOfTrailingZeros l_Re_163 rfl ⟨⟨by decide, by decide⟩, rfl, rfl⟩ (Nat.le_of_ble_eq_true rfl) rfl (E_lnz l G w h0 _) ?_
    rintro v M1 ⟨rfl, t, ht, rfl, hb, hlo⟩
    clear hK K
    refine xF_go o_Re_takeLoad [38] 60 (fun K hK => ?_)
    repeat' ((conv => whnf); first | refine ⟨fun h => ?_, fun h => ?_⟩ | refine ⟨?_, ?_⟩ | refine hK _ _ _ _ ?_)
    have htp : t < pS P k := ((hpl t ht).mp hb).1
    refine L_takeLoad l G P (vY V) hw _ _ _ k hk w M1 ?_ ?_ _ ?_ (pS P k - t) t (by omega) M1 xfr.rf ?_
    · exact (cP_fr hfr1 (by decide) hP).1
    · unfold cY22; rw [(hfr1 22 (by decide)).2]; exact h2
    · intro M2 hfr2 hX
      have hfr : xfr [18, 26, 27] M M2 := hfr1.tr hfr2 (by simp)
      refine ⟨true, rfl, ⟨fun _ => hex, fun _ => rfl⟩, (fun z => by cases z), fun _ => ⟨⟨?_, ?_, ?_, ?_, ?_, ?_, ?_, ?_⟩, fun v hv => ?_⟩, hfr⟩
      · unfold cS21; rw [(hfr 21 (by decide)).2]; exact h1
      · unfold cY22; rw [(hfr 22 (by decide)).2]; exact h2
      · unfold cB; rw [(hfr 23 (by decide)).2]; exact h3
      · unfold cB; rw [(hfr 24 (by decide)).2]; exact h4
      · intro k' hk' p hp
        rw [(hfr2 27 (by decide)).2, e27]
        show xbit (vp_updL (M.2 27) k (M.2 27 k ||| w) k') p = true ↔ (vRd V k' p ∨ (k' = k ∧ p < pS P k ∧ vS V f i q p))
        rw [bit_upd', Bool.or_eq_true, Bool.and_eq_true, decide_eq_true_iff, h5 k' hk' p hp, hpl p hp]
      · unfold cZ; rw [(hfr 28 (by decide)).1]; exact h6
      · unfold cZ; rw [(hfr 29 (by decide)).1]; exact h7
      · intro a ha b hb
        rw [(hfr2 18 (by decide)).2, e18]
        show xbit (vp_updL (M.2 18) f (M.2 18 f ||| (1 : Int64) <<< ((nI (12 + k)).toInt64 &&& 63)) a) b = true ↔ (vLk V a b ∨ (a = f ∧ b = 12 + k))
        rw [bit_upd (by omega), Bool.or_eq_true, decide_eq_true_iff, h8 a ha b hb]
      · rw [hX v hv]
        constructor
        · rintro ⟨p, z1, z2, z3⟩
          exact ⟨p, (hpl p (by omega)).mp z2, z3⟩
        · rintro ⟨p, z1, z3⟩
          exact ⟨p, z1.1, (hpl p (by have := z1.1; omega)).mpr z1, z3⟩
    · intro v hv
      rw [e26 v hv]
      constructor
      · intro z; cases z
      · rintro ⟨p, z1, z2, z3, z4⟩
        rw [hlo p z1] at z3
        cases z3
  | false =>
    obtain ⟨h0, rfl⟩ := hb1 rfl
    refine xF_go o_Re_takeLoad [38] 60 (fun K hK => ?_)
    repeat' ((conv => whnf); first | refine ⟨fun h => ?_, fun h => ?_⟩ | refine ⟨?_, ?_⟩ | refine hK _ _ _ _ ?_)
    all_goals first | exact absurd rfl (show ¬ b2 false = 0 from by assumption) | skip
    refine xF_zret o_Re_takeLoad rfl rfl (Or.inl rfl) ?_
    refine ⟨false, rfl, ⟨(fun z => by cases z), fun ⟨p, z⟩ => ?_⟩, fun _ => rfl, (fun z => by cases z), xfr.rf⟩
    have := (hpl p (by have := z.1; omega)).mpr z
    rw [h0, xbit_0] at this
    cases this
end XTK
