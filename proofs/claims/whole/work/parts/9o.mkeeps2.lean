/-! the reference: keeps -/
theorem kpg_1 {P : sP} {V : sV} {k : Nat} : kpg P V 1 k ↔ kp0 P V k := ⟨fun z => z.elim id (fun y => by omega), Or.inl⟩
theorem kpg_4 {P : sP} (hw : wP P) {V : sV} {k : Nat} (hk : k < 24) : kpg P V 4 k ↔ kpt P V k := by
  have := (hw.1 k hk).2.1
  exact ⟨fun z => z.imp id (fun y => ⟨y.1, y.2.1, y.2.2.2⟩), fun z => z.imp id (fun y => ⟨y.1, y.2.1, by omega, y.2.2⟩)⟩
def isg (P : sP) (V : sV) (g : Nat) : Prop := ∃ j, j < 24 ∧ kpg P V g j ∧ pG P j = g
theorem isg_0 {P : sP} {V : sV} {g : Nat} : isg P V g ↔ ∃ j, j < 24 ∧ kp0 P V j ∧ pG P j = g := by
  constructor
  · rintro ⟨j, h1, h2 | h2, h3⟩
    · exact ⟨j, h1, h2, h3⟩
    · omega
  · rintro ⟨j, h1, h2, h3⟩
    exact ⟨j, h1, Or.inl h2, h3⟩
theorem kpg_s {P : sP} {V : sV} {g k : Nat} (hg : 0 < g) : kpg P V (g + 1) k ↔ kpg P V g k ∨ (isg P V g ∧ pG P k = g ∧ 0 < pS P k) := by
  rw [isg_0]
  unfold kpg
  constructor
  · rintro (z | ⟨z1, z2, z3, z4⟩)
    · exact Or.inl (Or.inl z)
    · by_cases e : pG P k = g
      · exact Or.inr ⟨by rw [e] at z4; exact z4, e, z1⟩
      · exact Or.inl (Or.inr ⟨z1, z2, by omega, z4⟩)
  · rintro ((z | ⟨z1, z2, z3, z4⟩) | ⟨z1, z2, z3⟩)
    · exact Or.inl z
    · exact Or.inr ⟨z1, z2, by omega, z4⟩
    · exact Or.inr ⟨z3, by omega, by omega, by rw [z2]; exact z1⟩
section XMK2
variable (l : Launch) (G : xG)
theorem E_Mkeeps (P : sP) (hw : wP P) (V : sV) (hV : fin P V) (C : Nat → Nat → Prop) (M : xMe) (hP : mP P M) (h74 : mKP 74 (vRd V) M) (h72 : m72 C M) : xE l G y_Mo_keeps [.ref 50] M (fun r M' => r = none ∧ xfr [80, 81, 83, 84] M M' ∧ c36 80 (kpt P V) M' ∧ (∀ k, k < 24 → M'.1 83 k = nI (pS P k)) ∧ (∀ f, f < 12 → M'.1 81 f = b2 (tb (C f 0)) ∧ M'.1 84 f = nI (pC P f).length)) := by
  refine xE_cps (fun Q hQ => ?_)
  have hS := hP.1
  have third : ∀ M1 x2 x3, xfr [80, 83] M M1 → c36 80 (kpt P V) M1 → (∀ k, k < 24 → M1.1 83 k = nI (pS P k)) → xF l G y_Mo_keeps 180 [some (.ref 50), some (.int (nI 0)), x2, x3] [] M1 Q := by
    intro M1 x2 x3 f1 g1 g2
    refine loopN (σ := xMe) 12 (fun f M2 => xfr [81, 84] M1 M2 ∧ ∀ j, j < f → M2.1 81 j = b2 (tb (C j 0)) ∧ M2.1 84 j = nI (pC P j).length) (fun f M2 => xF l G y_Mo_keeps 180 [some (.ref 50), some (.int (nI f)), x2, x3] [] M2 Q) ?_ ?_ 12 0 rfl M1 ⟨xfr.rf, fun j hj => absurd hj (Nat.not_lt_zero _)⟩
    · intro f hf M2 hI next
      obtain ⟨f2, i2⟩ := hI
      have hcl : (nI f).toNatClampNeg = f := nI_clamp (by omega)
      have e41 : 41 * nI f = nI (41 * f) := nI_41' f
      have v72 : M2.1 72 (nI (41 * f)).toNatClampNeg = b2 (tb (C f 0)) := by
        rw [nI_clamp (by omega), (f2 72 (by decide)).1, (f1 72 (by decide)).1]
        obtain ⟨b, b1, b2'⟩ := h72 f hf 0 (by omega)
        rw [← tb_b b2']
        exact b1
      have v57 : M2.1 57 (nI f).toNatClampNeg = nI (pC P f).length := by
        rw [hcl, (f2 57 (by decide)).1, (f1 57 (by decide)).1]
        exact (hP.2.2.2.1 f hf).1
      refine xF_go o_Mo_keeps [2, 44, 65, 74, 108, 117, 165, 180] 60 (fun K hK => ?_)
      repeat' ((conv => whnf); first | refine ⟨fun h => ?_, fun h => ?_⟩ | refine ⟨?_, ?_⟩ | refine hK _ _ _ _ ?_)
      · exact absurd (nI_lt (b := 12) hf (by decide)) h
      · rw [e41]; exact vp_in_nI (by show _ < 492; omega) (by decide)
      · exact vp_in_nI hf (by decide)
      · rw [e41, v72]; exact b2_01 _
      · exact vp_in_nI hf (by decide)
      · exact vp_in_nI hf (by decide)
      · rw [e41, v72, nI_1]
        refine next _ ⟨(f2.I (by simp)).I (by simp), fun j hj => ?_⟩
        have e57 : (xsI M2 81 (upd (M2.1 81) (nI f).toNatClampNeg (b2 (tb (C f 0))))).1 57 = M2.1 57 := rfl
        rw [e57, v57, hcl]
        show upd (M2.1 81) f _ j = _ ∧ upd (M2.1 84) f _ j = _
        by_cases e : j = f
        · subst e
          rw [upd_s, upd_s]
          exact ⟨rfl, rfl⟩
        · rw [upd_n e, upd_n e]
          exact i2 j (by omega)
    · intro M2 hI
      obtain ⟨f2, i2⟩ := hI
      refine xF_go o_Mo_keeps [2, 44, 65, 74, 108, 117, 165, 180] 60 (fun K hK => ?_)
      repeat' ((conv => whnf); first | refine ⟨fun h => ?_, fun h => ?_⟩ | refine ⟨?_, ?_⟩ | refine hK _ _ _ _ ?_)
      · refine xF_vret o_Mo_keeps rfl rfl ?_
        refine hQ _ _ ⟨rfl, (f1.mono (by decide)).tr f2 (by decide), ?_, ?_, i2⟩
        · unfold c36; rw [(f2 80 (by decide)).1]; exact g1
        · rw [(f2 83 (by decide)).1]; exact g2
      all_goals exact absurd (show nI 12 < nI 12 from by assumption) (nI_nlt (by omega) (by omega))
  have second : ∀ (m g : Nat), m + g = 4 → 0 < g → ∀ M1 x2 x3, xfr [80, 83] M M1 → c36 80 (kpg P V g) M1 → (∀ k, k < 24 → M1.1 83 k = nI (pS P k)) → xF l G y_Mo_keeps 65 [some (.ref 50), some (.int (nI g)), x2, x3] [] M1 Q := by
    intro m
    induction m with
    | zero =>
      intro g hg hg0 M1 x2 x3 f1 g1 g2
      obtain rfl : g = 4 := by omega
      refine xF_go o_Mo_keeps [2, 44, 65, 74, 108, 117, 165, 180] 60 (fun K hK => ?_)
      repeat' ((conv => whnf); first | refine ⟨fun h => ?_, fun h => ?_⟩ | refine ⟨?_, ?_⟩ | refine hK _ _ _ _ ?_)
      · exact third M1 x2 x3 f1 (fun k hk => (g1 k hk).trans (congrArg b2 (tb_c (kpg_4 hw hk)))) g2
      all_goals exact absurd (show nI 4 < nI 4 from by assumption) (nI_nlt (by omega) (by omega))
    | succ m ih =>
      intro g hg hg0 M1 x2 x3 f1 g1 g2
      have w51 : ∀ M2, xfr [80, 83] M M2 → ∀ k, k < 24 → M2.1 51 k = nI (pS P k) ∧ M2.1 53 k = nI (pG P k) := fun M2 f2 k hk => by
        rw [(f2 51 (by decide)).1, (f2 53 (by decide)).1]
        exact ⟨(hS k hk).1, (hS k hk).2.2.1⟩
      -- all of the group
      have upds : ∀ b : Bool, (b = true ↔ isg P V g) → xF l G y_Mo_keeps 117 [some (.ref 50), some (.int (nI g)), some (.int (b2 b)), some (.int (nI 0))] [] M1 Q := by
        intro b hb
        refine loopN (σ := xMe) 24 (fun k M2 => xfr [80, 83] M M2 ∧ M2.1 83 = M1.1 83 ∧ ∀ j, j < 24 → M2.1 80 j = b2 (tb ((j < k ∧ kpg P V (g + 1) j) ∨ (k ≤ j ∧ kpg P V g j)))) (fun k M2 => xF l G y_Mo_keeps 117 [some (.ref 50), some (.int (nI g)), some (.int (b2 b)), some (.int (nI k))] [] M2 Q) ?_ ?_ 24 0 rfl M1 ⟨f1, rfl, fun j hj => (g1 j hj).trans (congrArg b2 (tb_c ⟨fun z => Or.inr ⟨Nat.zero_le _, z⟩, fun z => z.elim (fun y => absurd y.1 (Nat.not_lt_zero _)) (fun y => y.2)⟩))⟩
        · intro k hk M2 hI next
          obtain ⟨f2, e83, i2⟩ := hI
          have hcl : (nI k).toNatClampNeg = k := nI_clamp (by omega)
          have hs64 := (hw.1 k hk).1
          have hg3 := (hw.1 k hk).2.1
          have v80 : M2.1 80 (nI k).toNatClampNeg = b2 (tb (kpg P V g k)) := by
            rw [hcl, i2 k hk]
            exact congrArg b2 (tb_c ⟨fun z => z.elim (fun y => absurd y.1 (Nat.lt_irrefl _)) (fun y => y.2), fun z => Or.inr ⟨Nat.le_refl _, z⟩⟩)
          have v51 : M2.1 51 (nI k).toNatClampNeg = nI (pS P k) := by rw [hcl]; exact (w51 M2 f2 k hk).1
          have v53 : M2.1 53 (nI k).toNatClampNeg = nI (pG P k) := by rw [hcl]; exact (w51 M2 f2 k hk).2
          have go : ∀ z : Bool, (z = true ↔ kpg P V (g + 1) k) → xF l G y_Mo_keeps 165 [some (.ref 50), some (.int (nI g)), some (.int (b2 b)), some (.int (nI k))] [.int (b2 z), .int (nI k), .ref 80] M2 Q := by
            intro z hz
            refine xF_go o_Mo_keeps [2, 44, 65, 74, 108, 117, 165, 180] 60 (fun K hK => ?_)
            repeat' ((conv => whnf); first | refine ⟨fun h => ?_, fun h => ?_⟩ | refine ⟨?_, ?_⟩ | refine hK _ _ _ _ ?_)
            · exact vp_in_nI hk (by decide)
            · exact b2_01 z
            · rw [nI_1, hcl]
              refine next _ ⟨f2.I (by simp), e83, fun j hj => ?_⟩
              rw [xsI_s]
              by_cases e : j = k
              · subst e
                rw [upd_s, tb_b hz]
                exact congrArg b2 (tb_c ⟨fun z => Or.inl ⟨by omega, z⟩, fun z => z.elim (fun y => y.2) (fun y => absurd y.1 (by omega))⟩)
              · rw [upd_n e]
                refine (i2 j hj).trans (congrArg b2 (tb_c ?_))
                exact ⟨fun z => z.elim (fun w => Or.inl ⟨by omega, w.2⟩) (fun w => Or.inr ⟨by omega, w.2⟩), fun z => z.elim (fun w => Or.inl ⟨by omega, w.2⟩) (fun w => Or.inr ⟨by omega, w.2⟩)⟩
          refine xF_go o_Mo_keeps [2, 44, 65, 74, 108, 117, 165, 180] 60 (fun K hK => ?_)
          repeat' ((conv => whnf); first | refine ⟨fun h => ?_, fun h => ?_⟩ | refine ⟨?_, ?_⟩ | refine hK _ _ _ _ ?_)
          · exact absurd (nI_lt (b := 24) hk (by decide)) h
          · exact vp_in_nI hk (by decide)
          · have h0 : ¬ M2.1 80 (nI k).toNatClampNeg = 0 := by assumption
            rw [v80, b2_ne, tb_t] at h0
            exact go true ⟨fun _ => (kpg_s hg0).mpr (Or.inl h0), fun _ => rfl⟩
          · have h0 : M2.1 80 (nI k).toNatClampNeg = 0 := by assumption
            rw [v80, b2_0, tb_f] at h0
            have h1 : b2 b = 0 := by assumption
            rw [b2_0] at h1
            refine go false ⟨fun z => (by cases z), fun z => ((kpg_s hg0).mp z).elim (fun y => absurd y h0) (fun y => ?_)⟩
            rw [hb.mpr y.1] at h1
            cases h1
          · exact vp_in_nI hk (by decide)
          · have h0 : M2.1 80 (nI k).toNatClampNeg = 0 := by assumption
            rw [v80, b2_0, tb_f] at h0
            have h1 : ¬ M2.1 53 (nI k).toNatClampNeg = nI g := by assumption
            rw [v53] at h1
            exact go false ⟨fun z => (by cases z), fun z => ((kpg_s hg0).mp z).elim (fun y => absurd y h0) (fun y => absurd (congrArg nI y.2.1) h1)⟩
          · exact vp_in_nI hk (by decide)
          · have h0 : M2.1 80 (nI k).toNatClampNeg = 0 := by assumption
            rw [v80, b2_0, tb_f] at h0
            have h1 : ¬ 0 < M2.1 51 (nI k).toNatClampNeg := by assumption
            rw [v51, nI_0lt (by omega)] at h1
            exact go false ⟨fun z => (by cases z), fun z => ((kpg_s hg0).mp z).elim (fun y => absurd y h0) (fun y => absurd y.2.2 h1)⟩
          · have h1 : 0 < M2.1 51 (nI k).toNatClampNeg := by assumption
            rw [v51, nI_0lt (by omega)] at h1
            have h2 : M2.1 53 (nI k).toNatClampNeg = nI g := by assumption
            rw [v53] at h2
            have h3 : ¬ b2 b = 0 := by assumption
            rw [b2_ne] at h3
            exact go true ⟨fun _ => (kpg_s hg0).mpr (Or.inr ⟨hb.mp h3, nI_inj (by omega) (by omega) h2, h1⟩), fun _ => rfl⟩
        · intro M2 hI
          obtain ⟨f2, e83, i2⟩ := hI
          refine xF_go o_Mo_keeps [2, 44, 65, 74, 108, 117, 165, 180] 60 (fun K hK => ?_)
          repeat' ((conv => whnf); first | refine ⟨fun h => ?_, fun h => ?_⟩ | refine ⟨?_, ?_⟩ | refine hK _ _ _ _ ?_)
          · rw [nI_1]
            exact ih (g + 1) (by omega) (by omega) M2 _ _ f2 (fun k hk => (i2 k hk).trans (congrArg b2 (tb_c ⟨fun z => z.elim (fun y => y.2) (fun y => absurd hk (by omega)), fun z => Or.inl ⟨hk, z⟩⟩))) (by rw [e83]; exact g2)
          all_goals exact absurd (show nI 24 < nI 24 from by assumption) (nI_nlt (by omega) (by omega))
      refine xF_go o_Mo_keeps [2, 44, 65, 74, 108, 117, 165, 180] 60 (fun K hK => ?_)
      repeat' ((conv => whnf); first | refine ⟨fun h => ?_, fun h => ?_⟩ | refine ⟨?_, ?_⟩ | refine hK _ _ _ _ ?_)
      · exact absurd (nI_lt (b := 4) (show g < 4 by omega) (by decide)) h
      · clear hK K
        refine loopN (σ := Bool) 24 (fun k b => b = true ↔ ∃ j, j < k ∧ kpg P V g j ∧ pG P j = g) (fun k b => xF l G y_Mo_keeps 74 [some (.ref 50), some (.int (nI g)), some (.int (b2 b)), some (.int (nI k))] [] M1 Q) ?_ ?_ 24 0 rfl false ⟨fun z => (by cases z), fun ⟨x, z, _⟩ => absurd z (Nat.not_lt_zero _)⟩
        · intro k hk b hb next
          have hcl : (nI k).toNatClampNeg = k := nI_clamp (by omega)
          have hg3 := (hw.1 k hk).2.1
          have v80 : M1.1 80 (nI k).toNatClampNeg = b2 (tb (kpg P V g k)) := by rw [hcl]; exact g1 k hk
          have v53 : M1.1 53 (nI k).toNatClampNeg = nI (pG P k) := by rw [hcl]; exact (w51 M1 f1 k hk).2
          have go : ∀ z : Bool, (z = true ↔ (b = true ∨ (kpg P V g k ∧ pG P k = g))) → xF l G y_Mo_keeps 108 [some (.ref 50), some (.int (nI g)), some (.int (b2 b)), some (.int (nI k))] [.int (b2 z)] M1 Q := by
            intro z hz
            refine xF_go o_Mo_keeps [2, 44, 65, 74, 108, 117, 165, 180] 60 (fun K hK => ?_)
            repeat' ((conv => whnf); first | refine ⟨fun h => ?_, fun h => ?_⟩ | refine ⟨?_, ?_⟩ | refine hK _ _ _ _ ?_)
            rw [nI_1]
            refine next z (hz.trans ?_)
            rw [hb]
            constructor
            · rintro (⟨x, x1, x2⟩ | y)
              · exact ⟨x, by omega, x2⟩
              · exact ⟨k, by omega, y⟩
            · rintro ⟨x, x1, x2⟩
              by_cases e : x = k
              · exact Or.inr (e ▸ x2)
              · exact Or.inl ⟨x, by omega, x2⟩
          refine xF_go o_Mo_keeps [2, 44, 65, 74, 108, 117, 165, 180] 60 (fun K hK => ?_)
          repeat' ((conv => whnf); first | refine ⟨fun h => ?_, fun h => ?_⟩ | refine ⟨?_, ?_⟩ | refine hK _ _ _ _ ?_)
          · exact absurd (nI_lt (b := 24) hk (by decide)) h
          · have h0 : ¬ b2 b = 0 := by assumption
            rw [b2_ne] at h0
            exact go true ⟨fun _ => Or.inl h0, fun _ => rfl⟩
          · exact vp_in_nI hk (by decide)
          · have h0 : M1.1 80 (nI k).toNatClampNeg = 0 := by assumption
            rw [v80, b2_0, tb_f] at h0
            have h1 : b2 b = 0 := by assumption
            rw [b2_0] at h1
            exact go false ⟨fun z => (by cases z), fun z => z.elim (fun y => by rw [h1] at y; cases y) (fun y => absurd y.1 h0)⟩
          · exact vp_in_nI hk (by decide)
          · have h0 : ¬ M1.1 53 (nI k).toNatClampNeg = nI g := by assumption
            rw [v53] at h0
            have h1 : b2 b = 0 := by assumption
            rw [b2_0] at h1
            exact go false ⟨fun z => (by cases z), fun z => z.elim (fun y => by rw [h1] at y; cases y) (fun y => absurd (congrArg nI y.2) h0)⟩
          · have h0 : ¬ M1.1 80 (nI k).toNatClampNeg = 0 := by assumption
            rw [v80, b2_ne, tb_t] at h0
            have h1 : M1.1 53 (nI k).toNatClampNeg = nI g := by assumption
            rw [v53] at h1
            exact go true ⟨fun _ => Or.inr ⟨h0, nI_inj (by omega) (by omega) h1⟩, fun _ => rfl⟩
        · intro b hb
          refine xF_go o_Mo_keeps [2, 44, 65, 74, 108, 117, 165, 180] 60 (fun K hK => ?_)
          repeat' ((conv => whnf); first | refine ⟨fun h => ?_, fun h => ?_⟩ | refine ⟨?_, ?_⟩ | refine hK _ _ _ _ ?_)
          · exact upds b hb
          all_goals exact absurd (show nI 24 < nI 24 from by assumption) (nI_nlt (by omega) (by omega))
  refine xE_of [some (.ref 50), none, none, none] (by decide +kernel) (Nat.le_of_ble_eq_true rfl) rfl ?_
  refine xF_go o_Mo_keeps [2, 44, 65, 74, 108, 117, 165, 180] 60 (fun K hK => ?_)
  repeat' ((conv => whnf); first | refine ⟨fun h => ?_, fun h => ?_⟩ | refine ⟨?_, ?_⟩ | refine hK _ _ _ _ ?_)
  clear hK K
  refine loopN (σ := xMe) 24 (fun k M1 => xfr [80, 83] M M1 ∧ ∀ j, j < k → M1.1 80 j = b2 (tb (kp0 P V j)) ∧ M1.1 83 j = nI (pS P j)) (fun k M1 => xF l G y_Mo_keeps 2 [some (.ref 50), some (.int (nI k)), none, none] [] M1 Q) ?_ ?_ 24 0 rfl M ⟨xfr.rf, fun j hj => absurd hj (Nat.not_lt_zero _)⟩
  · intro k hk M1 hI next
    obtain ⟨f1, i1⟩ := hI
    have hs64 := (hw.1 k hk).1
    have hcl : (nI k).toNatClampNeg = k := nI_clamp (by omega)
    have wS : mS P M1 := by unfold mS; rw [(f1 51 (by decide)).1, (f1 52 (by decide)).1, (f1 53 (by decide)).1, (f1 56 (by decide)).1]; exact hS
    have w74 : mKP 74 (vRd V) M1 := by unfold mKP; rw [(f1 74 (by decide)).1]; exact h74
    have v51 : M1.1 51 (nI k).toNatClampNeg = nI (pS P k) := by rw [hcl]; exact (wS k hk).1
    have v56 : M1.1 56 (nI k).toNatClampNeg = b2 (pV P k) := by rw [hcl]; exact (wS k hk).2.2.2
    have hrd : (∃ p, p < pS P k ∧ vRd V k p) ↔ ∃ p, p < 64 ∧ vRd V k p := ⟨fun ⟨p, a, b⟩ => ⟨p, by omega, b⟩, fun ⟨p, a, b⟩ => ⟨p, (rd_lt hw hV b).2, b⟩⟩
    have go : ∀ z : Bool, (z = true ↔ kp0 P V k) → xF l G y_Mo_keeps 44 [some (.ref 50), some (.int (nI k)), none, none] [.int (b2 z), .int (nI k), .ref 80] M1 Q := by
      intro z hz
      refine xF_go o_Mo_keeps [2, 44, 65, 74, 108, 117, 165, 180] 60 (fun K hK => ?_)
      repeat' ((conv => whnf); first | refine ⟨fun h => ?_, fun h => ?_⟩ | refine ⟨?_, ?_⟩ | refine hK _ _ _ _ ?_)
      · exact vp_in_nI hk (by decide)
      · exact b2_01 z
      · exact vp_in_nI hk (by decide)
      · exact vp_in_nI hk (by decide)
      · rw [nI_1]
        refine next _ ⟨(f1.I (by simp)).I (by simp), fun j hj => ?_⟩
        have e51 : (xsI M1 80 (upd (M1.1 80) (nI k).toNatClampNeg (b2 z))).1 51 = M1.1 51 := rfl
        rw [e51, v51, hcl]
        show upd (M1.1 80) k _ j = _ ∧ upd (M1.1 83) k _ j = _
        by_cases e : j = k
        · subst e
          rw [upd_s, upd_s, tb_b hz]
          exact ⟨rfl, rfl⟩
        · rw [upd_n e, upd_n e]
          exact i1 j (by omega)
    refine xF_go o_Mo_keeps [2, 44, 65, 74, 108, 117, 165, 180] 60 (fun K hK => ?_)
    repeat' ((conv => whnf); first | refine ⟨fun h => ?_, fun h => ?_⟩ | refine ⟨?_, ?_⟩ | refine hK _ _ _ _ ?_)
    · exact absurd (nI_lt (b := 24) hk (by decide)) h
    · exact vp_in_nI hk (by decide)
    · have h0 : ¬ 0 < M1.1 51 (nI k).toNatClampNeg := by assumption
      rw [v51, nI_0lt (by omega)] at h0
      exact go false ⟨fun z => (by cases z), fun z => absurd z.1 h0⟩
    · exact vp_in_nI hk (by decide)
    · have h0 : 0 < M1.1 51 (nI k).toNatClampNeg := by assumption
      rw [v51, nI_0lt (by omega)] at h0
      have h1 : ¬ M1.1 56 (nI k).toNatClampNeg = 0 := by assumption
      rw [v56, b2_ne] at h1
      exact go true ⟨fun _ => ⟨h0, Or.inl h1⟩, fun _ => rfl⟩
    · have h0 : 0 < M1.1 51 (nI k).toNatClampNeg := by assumption
      rw [v51, nI_0lt (by omega)] at h0
      have h1 : M1.1 56 (nI k).toNatClampNeg = 0 := by assumption
      rw [v56, b2_0] at h1
      refine xF_callV o_Mo_keeps [.int (nI k)] rfl z_Mo_reads i_Mo_reads v_Mo_reads l_Mo_251 rfl ⟨⟨by decide, by decide⟩, rfl, rfl⟩ (Nat.le_of_ble_eq_true rfl) rfl rfl rfl (E_Mreads l G P hw (vRd V) M1 wS w74 k hk) ?_
      rintro v M' ⟨eM, rfl⟩; obtain rfl := eM.symm
      clear hK K
      rw [tb_c hrd]
      by_cases e : ∃ p, p < 64 ∧ vRd V k p
      · rw [tb_t.mpr e]
        refine xF_go o_Mo_keeps [2, 44, 65, 74, 108, 117, 165, 180] 60 (fun K hK => ?_)
        repeat' ((conv => whnf); first | refine ⟨fun h => ?_, fun h => ?_⟩ | refine ⟨?_, ?_⟩ | refine hK _ _ _ _ ?_)
        · exact absurd (show b2 true = 0 from by assumption) (by decide)
        · exact go true ⟨fun _ => ⟨h0, Or.inr e⟩, fun _ => rfl⟩
      · rw [tb_f.mpr e]
        refine xF_go o_Mo_keeps [2, 44, 65, 74, 108, 117, 165, 180] 60 (fun K hK => ?_)
        repeat' ((conv => whnf); first | refine ⟨fun h => ?_, fun h => ?_⟩ | refine ⟨?_, ?_⟩ | refine hK _ _ _ _ ?_)
        · exact go false ⟨fun z => (by cases z), fun z => z.2.elim (fun y => by rw [h1] at y; cases y) (fun y => absurd y e)⟩
        · exact absurd rfl (show ¬ b2 false = 0 from by assumption)
  · intro M1 hI
    obtain ⟨f1, i1⟩ := hI
    refine xF_go o_Mo_keeps [2, 44, 65, 74, 108, 117, 165, 180] 60 (fun K hK => ?_)
    repeat' ((conv => whnf); first | refine ⟨fun h => ?_, fun h => ?_⟩ | refine ⟨?_, ?_⟩ | refine hK _ _ _ _ ?_)
    · exact second 3 1 rfl (by omega) M1 none none f1 (fun k hk => ((i1 k hk).1).trans (congrArg b2 (tb_c kpg_1.symm))) (fun k hk => (i1 k hk).2)
    all_goals exact absurd (show nI 24 < nI 24 from by assumption) (nI_nlt (by omega) (by omega))
end XMK2
