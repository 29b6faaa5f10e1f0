/-! Reach: how it starts, on -/
section XSS
variable (l : Launch) (G : xG)
theorem L_stand2 (P : sP) (hw : wP P) (M0 : xMe) (hS : cS P M0) (hO : cO P M0) (k : Nat) (hk : k < 24) (Q : Option Value → xMe → Prop) (hQ : ∀ F x, (∀ k', k' < k + 1 → ∀ p, p < pS P k' → ∀ v, v < 256 → sHas F ((k' * 64 + p) * 4) v = decide (v = pO P k' p)) → xF l G y_Re_standAsTold 81 [some (.ref 16), some (.int (nI k)), x] [] (xsL M0 22 F) Q) : ∀ (m p : Nat), m + p = pS P k → ∀ F, (∀ k', k' < k → ∀ p, p < pS P k' → ∀ v, v < 256 → sHas F ((k' * 64 + p) * 4) v = decide (v = pO P k' p)) → (∀ p', p' < p → ∀ v, v < 256 → sHas F ((k * 64 + p') * 4) v = decide (v = pO P k p')) → (∀ p', p ≤ p' → p' < pS P k → ∀ v, v < 256 → sHas F ((k * 64 + p') * 4) v = false) → xF l G y_Re_standAsTold 36 [some (.ref 16), some (.int (nI k)), some (.int (nI p))] [] (xsL M0 22 F) Q := by
  have t2 : xtl 22 = 6144 := rfl
  have hs64 := (hw.1 k hk).1
  have hcl : (nI k).toNatClampNeg = k := nI_clamp (by omega)
  have hsz : (xsL M0 22 (fun _ => 0)).1 2 (nI k).toNatClampNeg = nI (pS P k) := by rw [hcl]; exact (hS k hk).1
  intro m
  induction m with
  | zero =>
    intro p hp F h1 h2 h3
    obtain rfl : p = pS P k := by omega
    refine xF_go o_Re_standAsTold [36, 81] 60 (fun K hK => ?_)
    repeat' ((conv => whnf); first | refine ⟨fun h => ?_, fun h => ?_⟩ | refine ⟨?_, ?_⟩ | refine hK _ _ _ _ ?_)
    · exact vp_in_nI hk (by decide)
    · refine hQ F _ (fun k' hk' p2 hp2 v hv => ?_)
      by_cases e : k' = k
      · subst e; exact h2 p2 hp2 v hv
      · exact h1 k' (by omega) p2 hp2 v hv
    all_goals
      have hlt : nI (pS P k) < M0.1 2 (nI k).toNatClampNeg := by assumption
      rw [show M0.1 2 (nI k).toNatClampNeg = nI (pS P k) from hsz, nI_ltI (by omega) (by omega)] at hlt
      omega
  | succ m ih =>
    intro p hp F h1 h2 h3
    have hp' : p < pS P k := by omega
    have e64 : nI k * 64 + nI p = nI (k * 64 + p) := by rw [nI_16, nI_add]
    have hoct := hO k hk p (by omega)
    have ho256 := hw.2.1 k hk p (by omega)
    refine xF_go o_Re_standAsTold [36, 81] 60 (fun K hK => ?_)
    repeat' ((conv => whnf); first | refine ⟨fun h => ?_, fun h => ?_⟩ | refine ⟨?_, ?_⟩ | refine hK _ _ _ _ ?_)
    · exact vp_in_nI hk (by decide)
    · have hlt : ¬ nI p < M0.1 2 (nI k).toNatClampNeg := by assumption
      rw [show M0.1 2 (nI k).toNatClampNeg = nI (pS P k) from hsz, nI_ltI (by omega) (by omega)] at hlt
      omega
    · refine xF_callS o_Re_standAsTold [.int (nI k), .int (nI p)] rfl z_Re_standAt s_Re_standAt l_Re_122 rfl ⟨⟨by decide, by decide⟩, rfl, rfl⟩ (Nat.le_of_ble_eq_true rfl) rfl (E_standAt l G (nI k) (nI p) _) ?_
      rintro v M' ⟨rfl, rfl⟩
      rw [stand_n]
      clear hK K
      refine xF_go o_Re_standAsTold [36, 81] 60 (fun K hK => ?_)
      repeat' ((conv => whnf); first | refine ⟨fun h => ?_, fun h => ?_⟩ | refine ⟨?_, ?_⟩ | refine hK _ _ _ _ ?_)
      · rw [e64]; exact vp_in_nI (N := 1536) (by omega) (by decide)
      · have hoc : (xsL M0 22 F).1 6 (nI k * 64 + nI p).toNatClampNeg = nI (pO P k p) := by
          rw [e64, nI_clamp (by omega)]
          exact hoct
        rw [hoc]
        refine xF_callS o_Re_standAsTold [.ref 22, .int (nI ((k * 64 + p) * 4)), .int (nI (pO P k p))] rfl z_OS_add s_OS_add l_Re_131 rfl ⟨⟨by decide, by decide⟩, rfl, rfl⟩ (Nat.le_of_ble_eq_true rfl) rfl (E_add l G 22 (by simp) ((k * 64 + p) * 4) (pO P k p) ho256 (by omega) _) ?_
        rintro v M' ⟨rfl, rfl⟩
        clear hK K
        refine xF_go o_Re_standAsTold [36, 81] 60 (fun K hK => ?_)
        repeat' ((conv => whnf); first | refine ⟨fun h => ?_, fun h => ?_⟩ | refine ⟨?_, ?_⟩ | refine hK _ _ _ _ ?_)
        rw [nI_1, xsL_LL]
        refine ih (p + 1) (by omega) _ (fun k' hk' p2 hp2 v hv => ?_) (fun p2 hp2 v hv => ?_) (fun p2 hp2 hp3 v hv => ?_)
        · have := (hw.1 k' (by omega)).1
          show sHas (vp_updL F _ _) _ v = _
          rw [sHas_upd_o _ _ _ ho256 hv (by omega)]
          exact h1 k' hk' p2 hp2 v hv
        · show sHas (vp_updL F ((k * 64 + p) * 4 + pO P k p / 64) (F ((k * 64 + p) * 4 + pO P k p / 64) ||| _)) _ v = _
          by_cases e : p2 = p
          · subst e
            rw [sHas_upd _ _ ho256 hv, h3 p2 (Nat.le_refl _) hp' v hv, Bool.false_or]
          · rw [sHas_upd_o _ _ _ ho256 hv (by omega)]
            exact h2 p2 (by omega) v hv
        · show sHas (vp_updL F _ _) _ v = _
          rw [sHas_upd_o _ _ _ ho256 hv (by omega)]
          exact h3 p2 (by omega) hp3 v hv
theorem L_stand1 (P : sP) (hw : wP P) (M0 : xMe) (hS : cS P M0) (hO : cO P M0) (Q : Option Value → xMe → Prop) (hQ : ∀ F, (∀ k', k' < 24 → ∀ p, p < pS P k' → ∀ v, v < 256 → sHas F ((k' * 64 + p) * 4) v = decide (v = pO P k' p)) → Q none (xsL M0 22 F)) : ∀ (m k : Nat), m + k = 24 → ∀ F x, (∀ k', k' < k → ∀ p, p < pS P k' → ∀ v, v < 256 → sHas F ((k' * 64 + p) * 4) v = decide (v = pO P k' p)) → xF l G y_Re_standAsTold 2 [some (.ref 16), some (.int (nI k)), x] [] (xsL M0 22 F) Q := by
  have t2 : xtl 22 = 6144 := rfl
  intro m
  induction m with
  | zero =>
    intro k hk F x hF
    obtain rfl : k = 24 := by omega
    refine xF_go o_Re_standAsTold [2] 60 (fun K hK => ?_)
    repeat' ((conv => whnf); first | refine ⟨fun h => ?_, fun h => ?_⟩ | refine ⟨?_, ?_⟩ | refine hK _ _ _ _ ?_)
    · refine xF_vret o_Re_standAsTold rfl rfl ?_
      exact hQ F hF
    all_goals exact absurd (show nI 24 < nI 24 from by assumption) (nI_nlt (by omega) (by omega))
  | succ m ih =>
    intro k hk F x hF
    have hk24 : k < 24 := by omega
    have hs64 := (hw.1 k hk24).1
    have hcl : (nI k).toNatClampNeg = k := nI_clamp (by omega)
    refine xF_go o_Re_standAsTold [36] 60 (fun K hK => ?_)
    repeat' ((conv => whnf); first | refine ⟨fun h => ?_, fun h => ?_⟩ | refine ⟨?_, ?_⟩ | refine hK _ _ _ _ ?_)
    · exact absurd (nI_lt (b := 24) (by omega) (by omega)) h
    · refine xF_callS o_Re_standAsTold [.int (nI k), .int (nI 0)] rfl z_Re_standAt s_Re_standAt l_Re_122 rfl ⟨⟨by decide, by decide⟩, rfl, rfl⟩ (Nat.le_of_ble_eq_true rfl) rfl (E_standAt l G (nI k) (nI 0) _) ?_
      rintro v M' ⟨rfl, rfl⟩
      rw [stand_n]
      clear hK K
      refine xF_go o_Re_standAsTold [36] 60 (fun K hK => ?_)
      repeat' ((conv => whnf); first | refine ⟨fun h => ?_, fun h => ?_⟩ | refine ⟨?_, ?_⟩ | refine hK _ _ _ _ ?_)
      · exact vp_in_nI hk24 (by decide)
      · have hsz : (xsL M0 22 F).1 2 (nI k).toNatClampNeg = nI (pS P k) := by rw [hcl]; exact (hS k hk24).1
        rw [hsz]
        refine xF_callS o_Re_standAsTold [.int (nI k), .int (nI (pS P k))] rfl z_Re_standAt s_Re_standAt l_Re_122 rfl ⟨⟨by decide, by decide⟩, rfl, rfl⟩ (Nat.le_of_ble_eq_true rfl) rfl (E_standAt l G (nI k) (nI (pS P k)) _) ?_
        rintro v M' ⟨rfl, rfl⟩
        rw [stand_n]
        clear hK K
        refine xF_go o_Re_standAsTold [36] 60 (fun K hK => ?_)
        repeat' ((conv => whnf); first | refine ⟨fun h => ?_, fun h => ?_⟩ | refine ⟨?_, ?_⟩ | refine hK _ _ _ _ ?_)
        refine xF_callS o_Re_standAsTold [.ref 22, .int (nI ((k * 64 + 0) * 4)), .int (nI ((k * 64 + pS P k) * 4)), .long 0] rfl z_JA_fill3 s_JA_fill3 l_Re_119 rfl ⟨⟨by decide, by decide⟩, rfl, rfl⟩ (Nat.le_of_ble_eq_true rfl) rfl (E_fill3_22 l G 0 ((k * 64 + 0) * 4) ((k * 64 + pS P k) * 4) (by omega) (by omega) _) ?_
        rintro v M' ⟨rfl, rfl⟩
        clear hK K
        refine xF_go o_Re_standAsTold [36] 60 (fun K hK => ?_)
        repeat' ((conv => whnf); first | refine ⟨fun h => ?_, fun h => ?_⟩ | refine ⟨?_, ?_⟩ | refine hK _ _ _ _ ?_)
        rw [xsL_LL]
        refine L_stand2 l G P hw M0 hS hO k hk24 Q ?_ (pS P k) 0 (by omega) _ (fun k' hk' p hp v hv => ?_) (fun p' hp' => by omega) (fun p' _ hp' v hv => ?_)
        · clear hK K
          intro F' x' hF'
          refine xF_go o_Re_standAsTold [2] 60 (fun K hK => ?_)
          repeat' ((conv => whnf); first | refine ⟨fun h => ?_, fun h => ?_⟩ | refine ⟨?_, ?_⟩ | refine hK _ _ _ _ ?_)
          rw [nI_1]
          exact ih (k + 1) (by omega) F' _ hF'
        · have := (hw.1 k' (by omega)).1
          rw [← hF k' hk' p hp v hv]
          unfold sHas
          show xbit (if (k * 64 + 0) * 4 ≤ (k' * 64 + p) * 4 + v / 64 ∧ (k' * 64 + p) * 4 + v / 64 < (k * 64 + pS P k) * 4 then (0 : Int64) else F ((k' * 64 + p) * 4 + v / 64)) (v % 64) = _
          rw [if_neg (by omega)]
        · unfold sHas
          show xbit (if (k * 64 + 0) * 4 ≤ (k * 64 + p') * 4 + v / 64 ∧ (k * 64 + p') * 4 + v / 64 < (k * 64 + pS P k) * 4 then (0 : Int64) else F ((k * 64 + p') * 4 + v / 64)) (v % 64) = _
          rw [if_pos (by omega), xbit_0]
theorem E_standAsTold (P : sP) (hw : wP P) (M : xMe) (hS : cS P M) (hO : cO P M) : xE l G y_Re_standAsTold [.ref 16] M (fun r M' => r = none ∧ xfr [22] M M' ∧ cY22 P (fun k p v => v = pO P k p) M') := by
  refine xE_of [some (.ref 16), none, none] (by decide +kernel) (Nat.le_of_ble_eq_true rfl) rfl ?_
  refine xF_go o_Re_standAsTold [2] 60 (fun K hK => ?_)
  repeat' ((conv => whnf); first | refine ⟨fun h => ?_, fun h => ?_⟩ | refine ⟨?_, ?_⟩ | refine hK _ _ _ _ ?_)
  have e0 : M = xsL M 22 (M.2 22) := (xsL_id (fun i => rfl)).symm
  have key := L_stand1 l G P hw M hS hO (fun r M' => r = none ∧ xfr [22] M M' ∧ cY22 P (fun k p v => v = pO P k p) M') (fun F hF => ⟨rfl, xfr.rf.L (by simp), fun k hk p hp v hv => by
    rw [xsL_2, if_pos rfl, hF k hk p hp v hv, decide_eq_true_iff]⟩) 24 0 (by omega) (M.2 22) none (fun k' hk' => by omega)
  rw [← e0] at key
  exact key
theorem E_wakerOf (P : sP) (hw : wP P) (M : xMe) (hC : cC P M) (f i : Nat) (hf : f < 12) (q : Nat × Int32 × Int32 × Int32) (hq : (pC P f)[i]? = some q) : xE l G y_Re_wakerOf [.ref 16, .int (nI (f * 40 + i))] M (fun r M' => M' = M ∧ r = some (.int (oI (waker q)))) := by
  obtain ⟨hl40, hv⟩ := hw.2.2.2.1 f hf
  have hlt : i < (pC P f).length := (List.getElem?_eq_some_iff.mp hq).1
  have hvq : vN q := hv q (List.mem_of_getElem? hq)
  obtain ⟨c1, c2, c3, c4⟩ := (hC f hf).2 i q hq
  have hin : vp_in (nI (f * 40 + i)) 480 := vp_in_nI (by omega) (by decide)
  have hcl : (nI (f * 40 + i)).toNatClampNeg = f * 40 + i := nI_clamp (by omega)
  have hq12 := vN_le hvq
  obtain ⟨o, a, b, c⟩ := q
  replace hq12 : o < 12 := hq12
  refine xE_of [some (.ref 16), some (.int (nI (f * 40 + i)))] (by decide +kernel) (Nat.le_of_ble_eq_true rfl) rfl ?_
  refine xF_go o_Re_wakerOf [9] 60 (fun K hK => ?_)
  repeat' ((conv => whnf); first | refine ⟨fun h => ?_, fun h => ?_⟩ | refine ⟨?_, ?_⟩ | refine hK _ _ _ _ ?_)
  · exact hin
  rw [hcl, c1]
  clear hK K
  refine xF_go o_Re_wakerOf [44, 54, 67, 70] 60 (fun K hK => ?_)
  repeat' ((conv => whnf); first | refine ⟨fun h => ?_, fun h => ?_⟩ | refine ⟨?_, ?_⟩ | refine hK _ _ _ _ ?_)
  · obtain rfl : o = 3 := nI_inj (by omega) (by decide) (show nI o = nI 3 from by assumption)
    obtain ⟨k, hk, rfl, ek⟩ := vT_n hvq.2.1
    clear hK K
    refine xF_go o_Re_wakerOf [] 60 (fun K hK => ?_)
    repeat' ((conv => whnf); first | refine ⟨fun h => ?_, fun h => ?_⟩ | refine ⟨?_, ?_⟩ | refine hK _ _ _ _ ?_)
    · exact hin
    · rw [hcl, c3]
      show xF l G y_Re_wakerOf 66 _ [.int ((12 : Int32) + nI k)] M _
      refine xF_iret o_Re_wakerOf rfl rfl ?_
      refine ⟨rfl, ?_⟩
      have : waker (3, a, nI k, c) = some (12 + k) := by
        unfold waker
        rw [if_neg (by simp), if_pos rfl]
        show some (12 + ix (nI k)) = _
        rw [ek]
      rw [this, show (12 : Int32) + nI k = nI (12 + k) from nI_add 12 k]
      rfl
  · obtain rfl : o = 5 := nI_inj (by omega) (by decide) (show nI o = nI 5 from by assumption)
    obtain ⟨g, hg, rfl, eg⟩ := vF_n hvq.1
    clear hK K
    refine xF_go o_Re_wakerOf [] 60 (fun K hK => ?_)
    repeat' ((conv => whnf); first | refine ⟨fun h => ?_, fun h => ?_⟩ | refine ⟨?_, ?_⟩ | refine hK _ _ _ _ ?_)
    · exact hin
    · rw [hcl, c2]
      show xF l G y_Re_wakerOf 53 _ [.int (nI g)] M _
      refine xF_iret o_Re_wakerOf rfl rfl ?_
      refine ⟨rfl, ?_⟩
      have : waker (5, nI g, b, c) = some g := by
        unfold waker
        rw [if_pos rfl]
        show some (ix (nI g)) = _
        rw [eg]
      rw [this]
      rfl
  · obtain rfl : o = 11 := nI_inj (by omega) (by decide) (show nI o = nI 11 from by assumption)
    clear hK K
    refine xF_go o_Re_wakerOf [] 60 (fun K hK => ?_)
    repeat' ((conv => whnf); first | refine ⟨fun h => ?_, fun h => ?_⟩ | refine ⟨?_, ?_⟩ | refine hK _ _ _ _ ?_)
    refine xF_iret o_Re_wakerOf rfl rfl ?_
    exact ⟨rfl, rfl⟩
  · have n3 : ¬ nI o = nI 3 := by assumption
    have n5 : ¬ nI o = nI 5 := by assumption
    have n11 : ¬ nI o = nI 11 := by assumption
    clear hK K
    refine xF_go o_Re_wakerOf [] 60 (fun K hK => ?_)
    repeat' ((conv => whnf); first | refine ⟨fun h => ?_, fun h => ?_⟩ | refine ⟨?_, ?_⟩ | refine hK _ _ _ _ ?_)
    refine xF_iret o_Re_wakerOf rfl rfl ?_
    refine ⟨rfl, ?_⟩
    unfold waker
    rw [if_neg (fun z : o = 5 => n5 (by rw [z])), if_neg (fun z : o = 3 => n3 (by rw [z])), if_neg (fun z : o = 11 => n11 (by rw [z]))]
    rfl
/-- sites found in functions below f, and in f below i -/
def cSt (P : sP) (f i : Nat) (F : Nat → Int64) : Prop := ∀ w, w < 37 → ∀ g, g < 12 → ∀ j, j < 64 → (xbit (F (w * 12 + g)) j = true ↔ (site P w g j ∧ (g < f ∨ (g = f ∧ j < i))))
theorem site_lt {P : sP} {w g j : Nat} (h : site P w g j) : j < (pC P g).length := by
  obtain ⟨q, hq, _⟩ := h
  exact (List.getElem?_eq_some_iff.mp hq).1
theorem waker_lt {q : Nat × Int32 × Int32 × Int32} (hv : vN q) {w : Nat} (h : waker q = some w) : w < 37 := by
  obtain ⟨o, a, b, c⟩ := q
  unfold waker at h
  by_cases h5 : o = 5
  · rw [if_pos h5] at h
    subst h5
    obtain ⟨g, hg, x1, eg⟩ := vF_n hv.1
    have e : ix a = w := Option.some.inj h
    have : ix a < 12 := by rw [eg]; exact hg
    omega
  · rw [if_neg h5] at h
    by_cases h3 : o = 3
    · rw [if_pos h3] at h
      subst h3
      obtain ⟨k, hk, x1, ek⟩ := vT_n hv.2.1
      have e : 12 + ix b = w := Option.some.inj h
      have : ix b < 24 := by rw [ek]; exact hk
      omega
    · rw [if_neg h3] at h
      by_cases h11 : o = 11
      · rw [if_pos h11] at h
        have := Option.some.inj h
        omega
      · rw [if_neg h11] at h
        cases h
theorem L_sites2 (P : sP) (hw : wP P) (M0 : xMe) (hC : cC P M0) (hL : ∀ f, f < 12 → M0.1 20 f = nI (pC P f).length) (f : Nat) (hf : f < 12) (Q : Option Value → xMe → Prop) (hQ : ∀ F y x, cSt P (f + 1) 0 F → xF l G y_Re_findSites 59 [some (.ref 16), some (.int (nI f)), y, x] [] (xsL M0 25 F) Q) : ∀ (m i : Nat), m + i = (pC P f).length → ∀ F x, cSt P f i F → xF l G y_Re_findSites 10 [some (.ref 16), some (.int (nI f)), some (.int (nI i)), x] [] (xsL M0 25 F) Q := by
  have hl40 := (hw.2.2.2.1 f hf).1
  have hcl : (nI f).toNatClampNeg = f := nI_clamp (by omega)
  have hlen : M0.1 20 (nI f).toNatClampNeg = nI (pC P f).length := by rw [hcl]; exact hL f hf
  intro m
  induction m with
  | zero =>
    intro i hi F x hF
    obtain rfl : i = (pC P f).length := by omega
    refine xF_go o_Re_findSites [10, 59] 60 (fun K hK => ?_)
    repeat' ((conv => whnf); first | refine ⟨fun h => ?_, fun h => ?_⟩ | refine ⟨?_, ?_⟩ | refine hK _ _ _ _ ?_)
    · exact vp_in_nI hf (by decide)
    · refine hQ F _ _ (fun w hw' g hg j hj => (hF w hw' g hg j hj).trans ?_)
      constructor
      · rintro ⟨z, z2⟩
        exact ⟨z, Or.inl (by omega)⟩
      · rintro ⟨z, z2⟩
        have := site_lt z
        refine ⟨z, ?_⟩
        by_cases e : g = f
        · subst e; exact Or.inr ⟨rfl, this⟩
        · exact Or.inl (by omega)
    all_goals
      have hlt : nI (pC P f).length < M0.1 20 (nI f).toNatClampNeg := by assumption
      rw [hlen, nI_ltI (by omega) (by omega)] at hlt
      omega
  | succ m ih =>
    intro i hi F x hF
    have hlt : i < (pC P f).length := by omega
    have hq := List.getElem?_eq_getElem hlt
    generalize (pC P f)[i] = q at hq
    have hvq : vN q := (hw.2.2.2.1 f hf).2 q (List.mem_of_getElem? hq)
    have e40 : nI f * 40 + nI i = nI (f * 40 + i) := by rw [nI_40, nI_add]
    refine xF_go o_Re_findSites [10, 59] 60 (fun K hK => ?_)
    repeat' ((conv => whnf); first | refine ⟨fun h => ?_, fun h => ?_⟩ | refine ⟨?_, ?_⟩ | refine hK _ _ _ _ ?_)
    · exact vp_in_nI hf (by decide)
    · have hlt2 : ¬ nI i < M0.1 20 (nI f).toNatClampNeg := by assumption
      rw [hlen, nI_ltI (by omega) (by omega)] at hlt2
      omega
    · rw [e40]
      refine xF_callV o_Re_findSites [.int (nI (f * 40 + i))] rfl z_Re_wakerOf i_Re_wakerOf v_Re_wakerOf l_Re_135 rfl ⟨⟨by decide, by decide⟩, rfl, rfl⟩ (Nat.le_of_ble_eq_true rfl) rfl rfl rfl (E_wakerOf l G P hw _ (show cC P (xsL M0 25 F) from hC) f i hf q hq) ?_
      rintro v M' ⟨rfl, rfl⟩
      clear hK K
      cases hwk : waker q with
      | none =>
        refine xF_go o_Re_findSites [10, 59] 60 (fun K hK => ?_)
        repeat' ((conv => whnf); first | refine ⟨fun h => ?_, fun h => ?_⟩ | refine ⟨?_, ?_⟩ | refine hK _ _ _ _ ?_)
        all_goals first | exact absurd rfl (show ¬ oI none = -1 from by assumption) | skip
        rw [nI_1]
        refine ih (i + 1) (by omega) F _ (fun w hw' g hg j hj => (hF w hw' g hg j hj).trans ?_)
        constructor
        · rintro ⟨z, z2⟩
          exact ⟨z, by omega⟩
        · rintro ⟨z, z2⟩
          refine ⟨z, ?_⟩
          by_cases e : g = f ∧ j = i
          · obtain ⟨rfl, rfl⟩ := e
            obtain ⟨q', h1, h2⟩ := z
            rw [hq] at h1
            cases h1
            rw [hwk] at h2
            cases h2
          · omega
      | some w =>
        have hw37 := waker_lt hvq hwk
        have ew : nI w * 12 + nI f = nI (w * 12 + f) := by rw [← nI_add, show nI (w * 12) = nI w * 12 from (pk_mul w 12).symm]
        have hin : vp_in (nI w * 12 + nI f) 444 := by rw [ew]; exact vp_in_nI (by omega) (by decide)
        have hne : ¬ oI (some w) = -1 := fun z => by
          have z2 : nI w = -1 := z
          have := nI_pos' (n := w) (by omega)
          rw [z2] at this
          exact absurd this (by decide)
        refine xF_go o_Re_findSites [10, 59] 60 (fun K hK => ?_)
        repeat' ((conv => whnf); first | refine ⟨fun h => ?_, fun h => ?_⟩ | refine ⟨?_, ?_⟩ | refine hK _ _ _ _ ?_)
        · exact absurd (show oI (some w) = -1 from by assumption) hne
        · exact hin
        · exact hin
        · show xF l G y_Re_findSites 10 _ [] (xsL (xsL M0 25 F) 25 (vp_updL F (nI w * 12 + nI f).toNatClampNeg (F (nI w * 12 + nI f).toNatClampNeg ||| (1 : Int64) <<< ((nI i).toInt64 &&& 63)))) Q
          rw [nI_1, ew, nI_clamp (by omega), xsL_LL]
          refine ih (i + 1) (by omega) _ _ (fun w' hw' g hg j hj => ?_)
          rw [bit_upd (by omega), Bool.or_eq_true, decide_eq_true_iff, hF w' hw' g hg j hj]
          constructor
          · rintro (⟨z, z2⟩ | z)
            · exact ⟨z, by omega⟩
            · have e1 : w' = w ∧ g = f := by omega
              obtain ⟨rfl, rfl⟩ := e1
              obtain ⟨_, rfl⟩ := z
              exact ⟨⟨q, hq, hwk⟩, by omega⟩
          · rintro ⟨z, z2⟩
            by_cases e : g = f ∧ j = i
            · obtain ⟨rfl, rfl⟩ := e
              obtain ⟨q', h1, h2⟩ := z
              rw [hq] at h1
              cases h1
              rw [hwk] at h2
              cases h2
              exact Or.inr ⟨rfl, rfl⟩
            · exact Or.inl ⟨z, by omega⟩
theorem L_sites1 (P : sP) (hw : wP P) (M0 : xMe) (hC : cC P M0) (hL : ∀ f, f < 12 → M0.1 20 f = nI (pC P f).length) (Q : Option Value → xMe → Prop) (hQ : ∀ F, cSt P 12 0 F → Q none (xsL M0 25 F)) : ∀ (m f : Nat), m + f = 12 → ∀ F y x, cSt P f 0 F → xF l G y_Re_findSites 2 [some (.ref 16), some (.int (nI f)), y, x] [] (xsL M0 25 F) Q := by
  intro m
  induction m with
  | zero =>
    intro f hf F y x hF
    obtain rfl : f = 12 := by omega
    refine xF_go o_Re_findSites [10] 60 (fun K hK => ?_)
    repeat' ((conv => whnf); first | refine ⟨fun h => ?_, fun h => ?_⟩ | refine ⟨?_, ?_⟩ | refine hK _ _ _ _ ?_)
    · refine xF_vret o_Re_findSites rfl rfl ?_
      exact hQ F hF
    all_goals exact absurd (show nI 12 < nI 12 from by assumption) (nI_nlt (by omega) (by omega))
  | succ m ih =>
    intro f hf F y x hF
    refine xF_go o_Re_findSites [10] 60 (fun K hK => ?_)
    repeat' ((conv => whnf); first | refine ⟨fun h => ?_, fun h => ?_⟩ | refine ⟨?_, ?_⟩ | refine hK _ _ _ _ ?_)
    · exact absurd (nI_lt (b := 12) (by omega) (by omega)) h
    · clear hK K
      refine L_sites2 l G P hw M0 hC hL f (by omega) Q ?_ (pC P f).length 0 (by omega) F _ hF
      intro F' y' x' hF'
      refine xF_go o_Re_findSites [2] 60 (fun K hK => ?_)
      repeat' ((conv => whnf); first | refine ⟨fun h => ?_, fun h => ?_⟩ | refine ⟨?_, ?_⟩ | refine hK _ _ _ _ ?_)
      rw [nI_1]
      exact ih (f + 1) (by omega) F' _ _ hF'
theorem E_findSites (P : sP) (hw : wP P) (M : xMe) (hC : cC P M) (hL : ∀ f, f < 12 → M.1 20 f = nI (pC P f).length) (h0 : ∀ j, j < 444 → M.2 25 j = 0) : xE l G y_Re_findSites [.ref 16] M (fun r M' => r = none ∧ xfr [25] M M' ∧ cK P M') := by
  refine xE_of [some (.ref 16), none, none, none] (by decide +kernel) (Nat.le_of_ble_eq_true rfl) rfl ?_
  refine xF_go o_Re_findSites [2] 60 (fun K hK => ?_)
  repeat' ((conv => whnf); first | refine ⟨fun h => ?_, fun h => ?_⟩ | refine ⟨?_, ?_⟩ | refine hK _ _ _ _ ?_)
  have e0 : M = xsL M 25 (M.2 25) := (xsL_id (fun i => rfl)).symm
  have key := L_sites1 l G P hw M hC hL (fun r M' => r = none ∧ xfr [25] M M' ∧ cK P M') (fun F hF => ⟨rfl, xfr.rf.L (by simp), hL, fun w hw' f hf i hi => ?_⟩) 12 0 (by omega) (M.2 25) none none (fun w hw' g hg j hj => ?_)
  · rw [← e0] at key
    exact key
  · rw [xsL_2, if_pos rfl, hF w hw' f hf i hi]
    exact ⟨fun z => z.1, fun z => ⟨z, Or.inl hf⟩⟩
  · rw [h0 _ (by omega), xbit_0]
    refine ⟨(fun z => by cases z), fun z => ?_⟩
    omega
end XSS
