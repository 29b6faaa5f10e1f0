/-! Layout: holdsAny, fitsAlign, findOuter, layTails -/
theorem oI_some {o : Option Nat} (h : ∀ d, o = some d → d < 24) {k : Nat} (hk : k < 24) : oI o = nI k ↔ o = some k := by
  cases o with
  | none =>
    refine ⟨fun z => ?_, fun z => by cases z⟩
    have z' : nI k = -1 := z.symm
    exact absurd (z' ▸ nI_pos' (n := k) (by omega)) (by decide)
  | some d =>
    have hd := h d rfl
    refine ⟨fun z => ?_, fun z => by cases z; rfl⟩
    have z' : nI d = nI k := z
    rw [nI_inj (by omega) (by omega) z']
theorem fa_1 : ∀ b, b < 4 → ∀ d, d < 65 → ((nI d &&& (nI (2 ^ b) - 1) = 0) ↔ d % 2 ^ b = 0) := by decide +kernel
theorem fa_2 {a d : Nat} (ha : a = 1 ∨ a = 2 ∨ a = 4 ∨ a = 8) (hd : d < 65) : (nI d &&& (nI a - 1) = 0) ↔ d % a = 0 := by
  rcases ha with rfl | rfl | rfl | rfl
  · exact fa_1 0 (by decide) d hd
  · exact fa_1 1 (by decide) d hd
  · exact fa_1 2 (by decide) d hd
  · exact fa_1 3 (by decide) d hd
section XL3
variable (l : Launch) (G : xG)
theorem E_LholdsAny (o : Nat → Option Nat) (ho : ∀ j, j < 24 → ∀ d, o j = some d → d < 24) (k : Nat) (hk : k < 24) (M : xMe) (h39 : c38 39 o M) : xE l G y_La_holdsAny [.ref 30, .int (nI k)] M (fun r M' => M' = M ∧ r = some (.int (b2 (tb (∃ t, t < 24 ∧ o t = some k))))) := by
  refine xE_cps (fun Q hQ => ?_)
  refine xE_of [some (.ref 30), some (.int (nI k)), none] (by decide +kernel) (Nat.le_of_ble_eq_true rfl) rfl ?_
  refine xF_go o_La_holdsAny [2] 60 (fun K hK => ?_)
  repeat' ((conv => whnf); first | refine ⟨fun h => ?_, fun h => ?_⟩ | refine ⟨?_, ?_⟩ | refine hK _ _ _ _ ?_)
  clear hK K
  refine loopN (σ := Unit) 24 (fun t _ => ∀ j, j < t → ¬ o j = some k) (fun t _ => xF l G y_La_holdsAny 2 [some (.ref 30), some (.int (nI k)), some (.int (nI t))] [] M Q) ?_ ?_ 24 0 rfl () (fun j hj => absurd hj (Nat.not_lt_zero _))
  · intro t ht _ hI next
    have hcl : (nI t).toNatClampNeg = t := nI_clamp (by omega)
    have v39 : M.1 39 (nI t).toNatClampNeg = oI (o t) := by rw [hcl]; exact h39 t ht
    have hos := oI_some (ho t ht) hk
    refine xF_go o_La_holdsAny [2] 60 (fun K hK => ?_)
    repeat' ((conv => whnf); first | refine ⟨fun h => ?_, fun h => ?_⟩ | refine ⟨?_, ?_⟩ | refine hK _ _ _ _ ?_)
    · exact absurd (nI_lt (b := 24) ht (by decide)) h
    · exact vp_in_nI ht (by decide)
    · have h0 : ¬ M.1 39 (nI t).toNatClampNeg = nI k := by assumption
      rw [v39, hos] at h0
      rw [nI_1]
      refine next () (fun j hj => ?_)
      by_cases e : j = t
      · rw [e]; exact h0
      · exact hI j (by omega)
    · have h0 : M.1 39 (nI t).toNatClampNeg = nI k := by assumption
      rw [v39, hos] at h0
      refine xF_zret o_La_holdsAny rfl rfl (Or.inr rfl) ?_
      refine hQ _ _ ⟨rfl, ?_⟩
      rw [tb_t.mpr ⟨t, ht, h0⟩]
      rfl
  · intro _ hI
    refine xF_go o_La_holdsAny [2] 60 (fun K hK => ?_)
    repeat' ((conv => whnf); first | refine ⟨fun h => ?_, fun h => ?_⟩ | refine ⟨?_, ?_⟩ | refine hK _ _ _ _ ?_)
    · refine xF_zret o_La_holdsAny rfl rfl (Or.inl rfl) ?_
      refine hQ _ _ ⟨rfl, ?_⟩
      rw [tb_f.mpr (fun ⟨t, ht, e⟩ => hI t ht e)]
      rfl
    all_goals exact absurd (show nI 24 < nI 24 from by assumption) (nI_nlt (by omega) (by omega))
theorem E_LfitsAlign (P : sP) (hw : wP P) (A : Nat → Nat) (y x : Nat) (hy : y < 24) (hx : x < 24) (hle : pS P x ≤ pS P y) (hay : A y = 1 ∨ A y = 2 ∨ A y = 4 ∨ A y = 8) (hax : A x = 1 ∨ A x = 2 ∨ A x = 4 ∨ A x = 8) (M : xMe) (h34 : c34 P M) (h35 : ∀ k, k < 24 → M.1 35 k = nI (A k)) : xE l G y_La_fitsAlign [.ref 30, .int (nI y), .int (nI x)] M (fun r M' => M' = M ∧ r = some (.int (b2 (tb (A y % A x = 0 ∧ (pS P y - pS P x) % A x = 0))))) := by
  have hsy := (hw.1 y hy).1
  have hcy : (nI y).toNatClampNeg = y := nI_clamp (by omega)
  have hcx : (nI x).toNatClampNeg = x := nI_clamp (by omega)
  have vy : M.1 34 (nI y).toNatClampNeg = nI (pS P y) := by rw [hcy]; exact h34 y hy
  have vx : M.1 34 (nI x).toNatClampNeg = nI (pS P x) := by rw [hcx]; exact h34 x hx
  have ay : M.1 35 (nI y).toNatClampNeg = nI (A y) := by rw [hcy]; exact h35 y hy
  have ax : M.1 35 (nI x).toNatClampNeg = nI (A x) := by rw [hcx]; exact h35 x hx
  have esub : nI (pS P y) - nI (pS P x) = nI (pS P y - pS P x) := pk_sub hle
  refine xE_of [some (.ref 30), some (.int (nI y)), some (.int (nI x)), none] (by decide +kernel) (Nat.le_of_ble_eq_true rfl) rfl ?_
  refine xF_go o_La_fitsAlign [] 60 (fun K hK => ?_)
  repeat' ((conv => whnf); first | refine ⟨fun h => ?_, fun h => ?_⟩ | refine ⟨?_, ?_⟩ | refine hK _ _ _ _ ?_)
  · exact vp_in_nI hx (by decide)
  · exact vp_in_nI hy (by decide)
  · have h0 := (show ¬ M.1 35 (nI y).toNatClampNeg &&& (M.1 35 (nI x).toNatClampNeg - 1) = 0 from by assumption)
    rw [ay, ax, fa_2 hax (by omega)] at h0
    refine xF_zret o_La_fitsAlign rfl rfl (Or.inl rfl) ?_
    refine ⟨rfl, ?_⟩
    rw [tb_f.mpr (fun z => h0 z.1)]
    rfl
  · exact vp_in_nI hy (by decide)
  · exact vp_in_nI hx (by decide)
  · have h0 := (show ¬ (M.1 34 (nI y).toNatClampNeg - M.1 34 (nI x).toNatClampNeg) &&& (M.1 35 (nI x).toNatClampNeg - 1) = 0 from by assumption)
    rw [ax, vy, vx, esub, fa_2 hax (by omega)] at h0
    refine xF_zret o_La_fitsAlign rfl rfl (Or.inl rfl) ?_
    refine ⟨rfl, ?_⟩
    rw [tb_f.mpr (fun z => h0 z.2)]
    rfl
  · have h1 := (show M.1 35 (nI y).toNatClampNeg &&& (M.1 35 (nI x).toNatClampNeg - 1) = 0 from by assumption)
    rw [ay, ax, fa_2 hax (by omega)] at h1
    have h0 := (show (M.1 34 (nI y).toNatClampNeg - M.1 34 (nI x).toNatClampNeg) &&& (M.1 35 (nI x).toNatClampNeg - 1) = 0 from by assumption)
    rw [ax, vy, vx, esub, fa_2 hax (by omega)] at h0
    refine xF_zret o_La_fitsAlign rfl rfl (Or.inr rfl) ?_
    refine ⟨rfl, ?_⟩
    rw [tb_t.mpr ⟨h1, h0⟩]
    rfl
theorem E_LfindOuter (P : sP) (hw : wP P) (T : Nat → Prop) (hT : ∀ j, T j → j < 24 ∧ 0 < pS P j) (o : Nat → Option Nat) (ho : ∀ j, j < 24 → ∀ d, o j = some d → d < 24) (x : Nat) (hx : x < 24) (hTx : T x) (M : xMe) (h34 : c34 P M) (h35 : ∀ k, k < 24 → M.1 35 k = nI (aln P T k)) (hO : cO P M) (h37 : c36 37 T M) (h38 : c38 38 (sfr P T) M) (h39 : c38 39 o M) : xE l G y_La_findOuter [.ref 30, .int (nI x)] M (fun r M' => M' = M ∧ r = some (.int (oI (lst (fit P T o x) 24)))) := by
  refine xE_cps (fun Q hQ => ?_)
  have hcx : (nI x).toNatClampNeg = x := nI_clamp (by omega)
  have hsx := (hw.1 x hx).1
  have vx : M.1 34 (nI x).toNatClampNeg = nI (pS P x) := by rw [hcx]; exact h34 x hx
  refine xE_of [some (.ref 30), some (.int (nI x)), none, none] (by decide +kernel) (Nat.le_of_ble_eq_true rfl) rfl ?_
  refine xF_go o_La_findOuter [2] 60 (fun K hK => ?_)
  repeat' ((conv => whnf); first | refine ⟨fun h => ?_, fun h => ?_⟩ | refine ⟨?_, ?_⟩ | refine hK _ _ _ _ ?_)
  clear hK K
  refine loopN (σ := Option Value) 24 (fun t _ => ∀ j, j < t → ¬ fit P T o x j) (fun t z => xF l G y_La_findOuter 2 [some (.ref 30), some (.int (nI x)), some (.int (nI t)), z] [] M Q) ?_ ?_ 24 0 rfl none (fun j hj => absurd hj (Nat.not_lt_zero _))
  · intro t ht z hI next
    have hcl : (nI t).toNatClampNeg = t := nI_clamp (by omega)
    have hst := (hw.1 t ht).1
    have v39 : M.1 39 (nI t).toNatClampNeg = oI (o t) := by rw [hcl]; exact h39 t ht
    have v34 : M.1 34 (nI t).toNatClampNeg = nI (pS P t) := by rw [hcl]; exact h34 t ht
    have hno := oI_none (o := o t) (fun d e => by have := ho t ht d e; omega)
    have on : ∀ z, ¬ fit P T o x t → xF l G y_La_findOuter 71 [some (.ref 30), some (.int (nI x)), some (.int (nI t)), z] [] M Q := by
      intro z hn
      refine xF_go o_La_findOuter [2] 60 (fun K hK => ?_)
      repeat' ((conv => whnf); first | refine ⟨fun h => ?_, fun h => ?_⟩ | refine ⟨?_, ?_⟩ | refine hK _ _ _ _ ?_)
      rw [nI_1]
      refine next _ (fun j hj => ?_)
      by_cases e : j = t
      · rw [e]; exact hn
      · exact hI j (by omega)
    have may : ∀ b : Bool, (b = true ↔ sts P T t ∧ o t = none ∧ pS P x < pS P t) → xF l G y_La_findOuter 46 [some (.ref 30), some (.int (nI x)), some (.int (nI t)), z] [.int (b2 b)] M Q := by
      intro b hb
      cases b with
      | false =>
        refine xF_go o_La_findOuter [2, 71] 60 (fun K hK => ?_)
        repeat' ((conv => whnf); first | refine ⟨fun h => ?_, fun h => ?_⟩ | refine ⟨?_, ?_⟩ | refine hK _ _ _ _ ?_)
        · exact on _ (fun y => by have := hb.mpr ⟨y.1, y.2.1, y.2.2.1⟩; cases this)
        all_goals exact absurd rfl (show ¬ b2 false = 0 from by assumption)
      | true =>
        obtain ⟨g1, g2, g3⟩ := hb.mp rfl
        refine xF_go o_La_findOuter [2, 71] 60 (fun K hK => ?_)
        repeat' ((conv => whnf); first | refine ⟨fun h => ?_, fun h => ?_⟩ | refine ⟨?_, ?_⟩ | refine hK _ _ _ _ ?_)
        · exact absurd (show b2 true = 0 from by assumption) (by decide)
        · refine xF_callV o_La_findOuter [.int (nI t), .int (nI x)] rfl z_La_fitsAlign i_La_fitsAlign v_La_fitsAlign l_La_151 rfl ⟨⟨by decide, by decide⟩, rfl, rfl⟩ (Nat.le_of_ble_eq_true rfl) rfl rfl rfl (E_LfitsAlign l G P hw (aln P T) t x ht hx (by omega) (aln_one hw hT ht (hT t g1.1).2) (aln_one hw hT hx (hT x hTx).2) M h34 h35) ?_
          rintro v M' ⟨eM, rfl⟩; obtain rfl := eM.symm
          clear hK K
          by_cases g4 : aln P T t % aln P T x = 0 ∧ (pS P t - pS P x) % aln P T x = 0
          · rw [tb_t.mpr g4]
            refine xF_go o_La_findOuter [2, 71] 60 (fun K hK => ?_)
            repeat' ((conv => whnf); first | refine ⟨fun h => ?_, fun h => ?_⟩ | refine ⟨?_, ?_⟩ | refine hK _ _ _ _ ?_)
            · exact absurd (show b2 true = 0 from by assumption) (by decide)
            · refine xF_callV o_La_findOuter [.int (nI t), .int (nI x)] rfl z_La_endsWith i_La_endsWith v_La_endsWith l_La_133 rfl ⟨⟨by decide, by decide⟩, rfl, rfl⟩ (Nat.le_of_ble_eq_true rfl) rfl rfl rfl (E_LendsWith l G P hw t x ht hx M h34 hO) ?_
              rintro v M' ⟨eM, rfl⟩; obtain rfl := eM.symm
              clear hK K
              by_cases g5 : ens P t x
              · rw [tb_t.mpr g5]
                refine xF_go o_La_findOuter [2, 71] 60 (fun K hK => ?_)
                repeat' ((conv => whnf); first | refine ⟨fun h => ?_, fun h => ?_⟩ | refine ⟨?_, ?_⟩ | refine hK _ _ _ _ ?_)
                · exact absurd (show b2 true = 0 from by assumption) (by decide)
                · refine xF_iret o_La_findOuter rfl rfl ?_
                  refine hQ _ _ ⟨rfl, ?_⟩
                  rw [(lst_some 24 t).mpr ⟨ht, ⟨g1, g2, g3, g5, g4.1, g4.2⟩, hI⟩]
                  rfl
              · rw [tb_f.mpr g5]
                refine xF_go o_La_findOuter [2, 71] 60 (fun K hK => ?_)
                repeat' ((conv => whnf); first | refine ⟨fun h => ?_, fun h => ?_⟩ | refine ⟨?_, ?_⟩ | refine hK _ _ _ _ ?_)
                · exact on _ (fun y => g5 y.2.2.2.1)
                all_goals exact absurd rfl (show ¬ b2 false = 0 from by assumption)
          · rw [tb_f.mpr g4]
            refine xF_go o_La_findOuter [2, 71] 60 (fun K hK => ?_)
            repeat' ((conv => whnf); first | refine ⟨fun h => ?_, fun h => ?_⟩ | refine ⟨?_, ?_⟩ | refine hK _ _ _ _ ?_)
            · exact on _ (fun y => g4 ⟨y.2.2.2.2.1, y.2.2.2.2.2⟩)
            all_goals exact absurd rfl (show ¬ b2 false = 0 from by assumption)
    refine xF_go o_La_findOuter [2, 46] 60 (fun K hK => ?_)
    repeat' ((conv => whnf); first | refine ⟨fun h => ?_, fun h => ?_⟩ | refine ⟨?_, ?_⟩ | refine hK _ _ _ _ ?_)
    · exact absurd (nI_lt (b := 24) ht (by decide)) h
    · refine xF_callV o_La_findOuter [.int (nI t)] rfl z_La_standsStill i_La_standsStill v_La_standsStill l_La_130 rfl ⟨⟨by decide, by decide⟩, rfl, rfl⟩ (Nat.le_of_ble_eq_true rfl) rfl rfl rfl (E_LstandsStill l G T t ht (sfr P T t) (fun d e => by have := (sfr_some.mp e).1; omega) M (h37 t ht) (h38 t ht)) ?_
      rintro v M' ⟨eM, rfl⟩; obtain rfl := eM.symm
      clear hK K
      by_cases g1 : T t ∧ sfr P T t = none
      · rw [tb_t.mpr g1]
        refine xF_go o_La_findOuter [2, 46] 60 (fun K hK => ?_)
        repeat' ((conv => whnf); first | refine ⟨fun h => ?_, fun h => ?_⟩ | refine ⟨?_, ?_⟩ | refine hK _ _ _ _ ?_)
        · exact absurd (show b2 true = 0 from by assumption) (by decide)
        · exact vp_in_nI ht (by decide)
        · have h0 : ¬ M.1 39 (nI t).toNatClampNeg = -1 := by assumption
          rw [v39, hno] at h0
          exact may false ⟨fun z => (by cases z), fun z => absurd z.2.1 h0⟩
        · exact vp_in_nI ht (by decide)
        · exact vp_in_nI hx (by decide)
        · have h0 := (show ¬ M.1 34 (nI x).toNatClampNeg < M.1 34 (nI t).toNatClampNeg from by assumption)
          rw [vx, v34, nI_ltI (by omega) (by omega)] at h0
          exact may false ⟨fun z => (by cases z), fun z => absurd z.2.2 h0⟩
        · have h0 := (show M.1 34 (nI x).toNatClampNeg < M.1 34 (nI t).toNatClampNeg from by assumption)
          rw [vx, v34, nI_ltI (by omega) (by omega)] at h0
          have h1 : M.1 39 (nI t).toNatClampNeg = -1 := by assumption
          rw [v39, hno] at h1
          exact may true ⟨fun _ => ⟨g1, h1, h0⟩, fun _ => rfl⟩
      · rw [tb_f.mpr g1]
        refine xF_go o_La_findOuter [2, 46] 60 (fun K hK => ?_)
        repeat' ((conv => whnf); first | refine ⟨fun h => ?_, fun h => ?_⟩ | refine ⟨?_, ?_⟩ | refine hK _ _ _ _ ?_)
        · exact may false ⟨fun z => (by cases z), fun z => absurd z.1 g1⟩
        all_goals exact absurd rfl (show ¬ b2 false = 0 from by assumption)
  · intro z hI
    refine xF_go o_La_findOuter [2] 60 (fun K hK => ?_)
    repeat' ((conv => whnf); first | refine ⟨fun h => ?_, fun h => ?_⟩ | refine ⟨?_, ?_⟩ | refine hK _ _ _ _ ?_)
    · refine xF_iret o_La_findOuter rfl rfl ?_
      refine hQ _ _ ⟨rfl, ?_⟩
      rw [(lst_none 24).mpr hI]
      rfl
    all_goals exact absurd (show nI 24 < nI 24 from by assumption) (nI_nlt (by omega) (by omega))
theorem oun_24 {P : sP} {T : Nat → Prop} (n j : Nat) (d : Nat) (h : oun P T n j = some d) : d < 24 := by
  by_cases e : j < n
  · rw [oun_lo n e] at h
    exact (oun_some h).2.2.1
  · rw [oun_hi n j (by omega)] at h
    cases h
theorem E_LlayTails (P : sP) (hw : wP P) (T : Nat → Prop) (hT : ∀ j, T j → j < 24 ∧ 0 < pS P j) (M : xMe) (h34 : c34 P M) (h35 : ∀ k, k < 24 → M.1 35 k = nI (aln P T k)) (hO : cO P M) (h37 : c36 37 T M) (h38 : c38 38 (sfr P T) M) (h39 : ∀ k, k < 24 → M.1 39 k = -1) : xE l G y_La_layTails [.ref 30] M (fun r M' => r = none ∧ xfr [39] M M' ∧ c38 39 (ouf P T) M') := by
  refine xE_cps (fun Q hQ => ?_)
  refine xE_of [some (.ref 30), none] (by decide +kernel) (Nat.le_of_ble_eq_true rfl) rfl ?_
  refine xF_go o_La_layTails [2] 60 (fun K hK => ?_)
  repeat' ((conv => whnf); first | refine ⟨fun h => ?_, fun h => ?_⟩ | refine ⟨?_, ?_⟩ | refine hK _ _ _ _ ?_)
  clear hK K
  refine loopN (σ := xMe) 24 (fun k M1 => xfr [39] M M1 ∧ c38 39 (oun P T k) M1) (fun k M1 => xF l G y_La_layTails 2 [some (.ref 30), some (.int (nI k))] [] M1 Q) ?_ ?_ 24 0 rfl M ⟨xfr.rf, fun k hk => h39 k hk⟩
  · intro k hk M1 hI next
    obtain ⟨hf, hi⟩ := hI
    have hcl : (nI k).toNatClampNeg = k := nI_clamp (by omega)
    have w34 : c34 P M1 := fun j hj => by rw [(hf 34 (by decide)).1]; exact h34 j hj
    have w35 : ∀ k, k < 24 → M1.1 35 k = nI (aln P T k) := fun j hj => by rw [(hf 35 (by decide)).1]; exact h35 j hj
    have wO : cO P M1 := fun j hj p hp => by rw [(hf 6 (by decide)).1]; exact hO j hj p hp
    have w37 : c36 37 T M1 := fun j hj => by rw [(hf 37 (by decide)).1]; exact h37 j hj
    have w38 : c38 38 (sfr P T) M1 := fun j hj => by rw [(hf 38 (by decide)).1]; exact h38 j hj
    have skip : ¬ (sts P T k ∧ ¬ ∃ t, t < 24 ∧ oun P T k t = some k) → xF l G y_La_layTails 35 [some (.ref 30), some (.int (nI k))] [] M1 Q := by
      intro hn
      refine xF_go o_La_layTails [2] 60 (fun K hK => ?_)
      repeat' ((conv => whnf); first | refine ⟨fun h => ?_, fun h => ?_⟩ | refine ⟨?_, ?_⟩ | refine hK _ _ _ _ ?_)
      rw [nI_1]
      refine next _ ⟨hf, fun j hj => (hi j hj).trans (congrArg oI ?_)⟩
      show _ = un (oun P T k) k _ j
      by_cases e : j = k
      · subst e
        rw [un_s, if_neg (by rw [tb_f.mpr hn]; decide), oun_hi j j (Nat.le_refl _)]
      · rw [un_n e]
    refine xF_go o_La_layTails [2, 35] 60 (fun K hK => ?_)
    repeat' ((conv => whnf); first | refine ⟨fun h => ?_, fun h => ?_⟩ | refine ⟨?_, ?_⟩ | refine hK _ _ _ _ ?_)
    · exact absurd (nI_lt (b := 24) hk (by decide)) h
    · refine xF_callV o_La_layTails [.int (nI k)] rfl z_La_standsStill i_La_standsStill v_La_standsStill l_La_130 rfl ⟨⟨by decide, by decide⟩, rfl, rfl⟩ (Nat.le_of_ble_eq_true rfl) rfl rfl rfl (E_LstandsStill l G T k hk (sfr P T k) (fun d e => by have := (sfr_some.mp e).1; omega) M1 (w37 k hk) (w38 k hk)) ?_
      rintro v M' ⟨eM, rfl⟩; obtain rfl := eM.symm
      clear hK K
      by_cases g1 : T k ∧ sfr P T k = none
      · rw [tb_t.mpr g1]
        refine xF_go o_La_layTails [2, 35] 60 (fun K hK => ?_)
        repeat' ((conv => whnf); first | refine ⟨fun h => ?_, fun h => ?_⟩ | refine ⟨?_, ?_⟩ | refine hK _ _ _ _ ?_)
        · exact absurd (show b2 true = 0 from by assumption) (by decide)
        · refine xF_callV o_La_layTails [.int (nI k)] rfl z_La_holdsAny i_La_holdsAny v_La_holdsAny l_La_144 rfl ⟨⟨by decide, by decide⟩, rfl, rfl⟩ (Nat.le_of_ble_eq_true rfl) rfl rfl rfl (E_LholdsAny l G (oun P T k) (fun j hj d e => oun_24 k j d e) k hk M1 hi) ?_
          rintro v M' ⟨eM, rfl⟩; obtain rfl := eM.symm
          clear hK K
          by_cases g2 : ∃ t, t < 24 ∧ oun P T k t = some k
          · rw [tb_t.mpr g2]
            refine xF_go o_La_layTails [2, 35] 60 (fun K hK => ?_)
            repeat' ((conv => whnf); first | refine ⟨fun h => ?_, fun h => ?_⟩ | refine ⟨?_, ?_⟩ | refine hK _ _ _ _ ?_)
            · exact skip (fun y => y.2 g2)
            all_goals exact absurd (show b2 true = 0 from by assumption) (by decide)
          · rw [tb_f.mpr g2]
            refine xF_go o_La_layTails [2, 35] 60 (fun K hK => ?_)
            repeat' ((conv => whnf); first | refine ⟨fun h => ?_, fun h => ?_⟩ | refine ⟨?_, ?_⟩ | refine hK _ _ _ _ ?_)
            · exact absurd rfl (show ¬ b2 false = 0 from by assumption)
            · refine xF_callV o_La_layTails [.int (nI k)] rfl z_La_findOuter i_La_findOuter v_La_findOuter l_La_147 rfl ⟨⟨by decide, by decide⟩, rfl, rfl⟩ (Nat.le_of_ble_eq_true rfl) rfl rfl rfl (E_LfindOuter l G P hw T hT (oun P T k) (fun j hj d e => oun_24 k j d e) k hk g1.1 M1 w34 w35 wO w37 w38 hi) ?_
              rintro v M' ⟨eM, rfl⟩; obtain rfl := eM.symm
              clear hK K
              refine xF_go o_La_layTails [2] 60 (fun K hK => ?_)
              repeat' ((conv => whnf); first | refine ⟨fun h => ?_, fun h => ?_⟩ | refine ⟨?_, ?_⟩ | refine hK _ _ _ _ ?_)
              · exact vp_in_nI hk (by decide)
              · rw [nI_1, hcl]
                refine next _ ⟨hf.I (by simp), fun j hj => ?_⟩
                rw [xsI_s]
                show _ = oI (un (oun P T k) k _ j)
                by_cases e : j = k
                · subst e
                  rw [upd_s, un_s, if_pos (tb_t.mpr ⟨g1, g2⟩)]
                · rw [upd_n e, un_n e]
                  exact hi j hj
      · rw [tb_f.mpr g1]
        refine xF_go o_La_layTails [2, 35] 60 (fun K hK => ?_)
        repeat' ((conv => whnf); first | refine ⟨fun h => ?_, fun h => ?_⟩ | refine ⟨?_, ?_⟩ | refine hK _ _ _ _ ?_)
        · exact skip (fun y => g1 y.1)
        all_goals exact absurd rfl (show ¬ b2 false = 0 from by assumption)
  · intro M1 hI
    obtain ⟨hf, hi⟩ := hI
    refine xF_go o_La_layTails [2] 60 (fun K hK => ?_)
    repeat' ((conv => whnf); first | refine ⟨fun h => ?_, fun h => ?_⟩ | refine ⟨?_, ?_⟩ | refine hK _ _ _ _ ?_)
    · refine xF_vret o_La_layTails rfl rfl ?_
      exact hQ _ _ ⟨rfl, hf, hi⟩
    all_goals exact absurd (show nI 24 < nI 24 from by assumption) (nI_nlt (by omega) (by omega))
end XL3
