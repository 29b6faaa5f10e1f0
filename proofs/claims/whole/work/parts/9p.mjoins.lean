/-! the reference: joins, its first two loops -/
section XMJ
variable (l : Launch) (G : xG)
theorem L_joins1 (P : sP) (hw : wP P) (V : sV) (M : xMe) (hP : mP P M) (h80 : c36 80 (kpt P V) M) (h76 : cZ 76 (vWr V) M) (h77 : cZ 77 (vCm V) M) (Q : Option Value → xMe → Prop) (hQ : ∀ M1, xfr [86, 87, 88, 90, 91] M M1 → c36 90 (stl P V) M1 → (∀ k, k < 24 → M1.1 86 k = -1) → (∀ k, k < 24 → M1.1 87 k = -1) → (∀ k, k < 24 → M1.1 91 k = 0) → (∀ k, k < 24 → M1.1 88 k = nI (pA P k)) → xF l G y_Mo_joins 95 [some (.ref 50), some (.int (nI 0)), none, none] [] M1 Q) : xF l G y_Mo_joins 2 [some (.ref 50), some (.int (nI 0)), none, none] [] M Q := by
  refine loopN (σ := xMe) 24 (fun k M1 => xfr [86, 87, 88, 90, 91] M M1 ∧ ∀ j, j < k → M1.1 90 j = b2 (tb (stl P V j)) ∧ M1.1 86 j = -1 ∧ M1.1 87 j = -1 ∧ M1.1 91 j = 0 ∧ M1.1 88 j = nI (pA P j)) (fun k M1 => xF l G y_Mo_joins 2 [some (.ref 50), some (.int (nI k)), none, none] [] M1 Q) ?_ ?_ 24 0 rfl M ⟨xfr.rf, fun j hj => absurd hj (Nat.not_lt_zero _)⟩
  · intro k hk M1 hI next
    obtain ⟨f1, i1⟩ := hI
    have hcl : (nI k).toNatClampNeg = k := nI_clamp (by omega)
    have wP1 : mP P M1 := mP_fr f1 (by decide) (by rw [(f1 50 (by decide)).1]) hP
    have v80 : M1.1 80 (nI k).toNatClampNeg = b2 (tb (kpt P V k)) := by rw [hcl, (f1 80 (by decide)).1]; exact h80 k hk
    have v76 : M1.1 76 (nI k).toNatClampNeg = b2 (tb (vWr V k)) := by rw [hcl, (f1 76 (by decide)).1]; exact cZ_36 h76 k hk
    have v77 : M1.1 77 (nI k).toNatClampNeg = b2 (tb (vCm V k)) := by rw [hcl, (f1 77 (by decide)).1]; exact cZ_36 h77 k hk
    have v52 : M1.1 52 k = nI (pA P k) := (wP1.1 k hk).2.1
    have go : ∀ z : Bool, (z = true ↔ stl P V k) → xF l G y_Mo_joins 53 [some (.ref 50), some (.int (nI k)), none, none] [.int (b2 z), .int (nI k), .ref 90] M1 Q := by
      intro z hz
      refine xF_go o_Mo_joins [2, 95] 60 (fun K hK => ?_)
      repeat' ((conv => whnf); first | refine ⟨fun h => ?_, fun h => ?_⟩ | refine ⟨?_, ?_⟩ | refine hK _ _ _ _ ?_)
      · exact vp_in_nI hk (by decide)
      · exact b2_01 z
      · exact vp_in_nI hk (by decide)
      · exact vp_in_nI hk (by decide)
      · exact vp_in_nI hk (by decide)
      · exact Or.inl rfl
      · exact vp_in_nI hk (by decide)
      · exact vp_in_nI hk (by decide)
      · rw [nI_1]
        refine next _ ⟨((((f1.I (by simp)).I (by simp)).I (by simp)).I (by simp)).I (by simp), fun j hj => ?_⟩
        rw [hcl]
        show upd (M1.1 90) k (b2 z) j = _ ∧ upd (M1.1 86) k (-1) j = _ ∧ upd (M1.1 87) k (-1) j = _ ∧ upd (M1.1 91) k 0 j = _ ∧ upd (M1.1 88) k (M1.1 52 k) j = _
        by_cases e : j = k
        · subst e
          rw [upd_s, upd_s, upd_s, upd_s, upd_s, tb_b hz, v52]
          exact ⟨rfl, rfl, rfl, rfl, rfl⟩
        · rw [upd_n e, upd_n e, upd_n e, upd_n e, upd_n e]
          exact i1 j (by omega)
    refine xF_go o_Mo_joins [2, 53, 95] 60 (fun K hK => ?_)
    repeat' ((conv => whnf); first | refine ⟨fun h => ?_, fun h => ?_⟩ | refine ⟨?_, ?_⟩ | refine hK _ _ _ _ ?_)
    · exact absurd (nI_lt (b := 24) hk (by decide)) h
    · exact vp_in_nI hk (by decide)
    · have h0 : M1.1 80 (nI k).toNatClampNeg = 0 := by assumption
      rw [v80, b2_0, tb_f] at h0
      exact go false ⟨fun z => (by cases z), fun z => absurd z.2.1 h0⟩
    · have h0 : ¬ M1.1 80 (nI k).toNatClampNeg = 0 := by assumption
      rw [v80, b2_ne, tb_t] at h0
      refine xF_callV o_Mo_joins [.int (nI k)] rfl z_Mo_refers i_Mo_refers v_Mo_refers l_Mo_261 rfl ⟨⟨by decide, by decide⟩, rfl, rfl⟩ (Nat.le_of_ble_eq_true rfl) rfl rfl rfl (E_Mrefers l G P hw M1 wP1.1 wP1.2.2.1 k hk) ?_
      rintro v M' ⟨eM, rfl⟩; obtain rfl := eM.symm
      clear hK K
      by_cases hr : ¬ ∀ p, p < 64 → pR P k p = none
      · rw [tb_t.mpr hr]
        refine xF_go o_Mo_joins [2, 53, 95] 60 (fun K hK => ?_)
        repeat' ((conv => whnf); first | refine ⟨fun h => ?_, fun h => ?_⟩ | refine ⟨?_, ?_⟩ | refine hK _ _ _ _ ?_)
        · exact go false ⟨fun z => (by cases z), fun z => absurd z.2.2.2.1 hr⟩
        all_goals exact absurd (show b2 true = 0 from by assumption) (by decide)
      · rw [tb_f.mpr hr]
        rw [Classical.not_not] at hr
        refine xF_go o_Mo_joins [2, 53, 95] 60 (fun K hK => ?_)
        repeat' ((conv => whnf); first | refine ⟨fun h => ?_, fun h => ?_⟩ | refine ⟨?_, ?_⟩ | refine hK _ _ _ _ ?_)
        · exact absurd rfl (show ¬ b2 false = 0 from by assumption)
        · exact vp_in_nI hk (by decide)
        · have h1 : ¬ M1.1 76 (nI k).toNatClampNeg = 0 := by assumption
          rw [v76, b2_ne, tb_t] at h1
          exact go false ⟨fun z => (by cases z), fun z => absurd h1 z.2.2.1⟩
        · exact vp_in_nI hk (by decide)
        · have h1 : ¬ M1.1 77 (nI k).toNatClampNeg = 0 := by assumption
          rw [v77, b2_ne, tb_t] at h1
          exact go false ⟨fun z => (by cases z), fun z => absurd h1 z.2.2.2.2⟩
        · have h1 : M1.1 76 (nI k).toNatClampNeg = 0 := by assumption
          rw [v76, b2_0, tb_f] at h1
          have h2 : M1.1 77 (nI k).toNatClampNeg = 0 := by assumption
          rw [v77, b2_0, tb_f] at h2
          exact go true ⟨fun _ => ⟨hk, h0, h1, hr, h2⟩, fun _ => rfl⟩
  · intro M1 hI
    obtain ⟨f1, i1⟩ := hI
    refine xF_go o_Mo_joins [2, 95] 60 (fun K hK => ?_)
    repeat' ((conv => whnf); first | refine ⟨fun h => ?_, fun h => ?_⟩ | refine ⟨?_, ?_⟩ | refine hK _ _ _ _ ?_)
    · exact hQ M1 f1 (fun k hk => (i1 k hk).1) (fun k hk => (i1 k hk).2.1) (fun k hk => (i1 k hk).2.2.1) (fun k hk => (i1 k hk).2.2.2.1) (fun k hk => (i1 k hk).2.2.2.2)
    all_goals exact absurd (show nI 24 < nI 24 from by assumption) (nI_nlt (by omega) (by omega))
theorem L_joins2 (P : sP) (hw : wP P) (T : Nat → Prop) (hT : ∀ j, T j → j < 24 ∧ 0 < pS P j) (M : xMe) (hP : mP P M) (h90 : c36 90 T M) (h86 : ∀ k, k < 24 → M.1 86 k = -1) (h88 : ∀ k, k < 24 → M.1 88 k = nI (pA P k)) (Q : Option Value → xMe → Prop) (hQ : ∀ M1 x, xfr [86, 88] M M1 → c38 86 (sfr P T) M1 → (∀ k, k < 24 → M1.1 88 k = nI (aln P T k)) → xF l G y_Mo_joins 227 [some (.ref 50), some (.int (nI 0)), x, none] [] M1 Q) : xF l G y_Mo_joins 95 [some (.ref 50), some (.int (nI 0)), none, none] [] M Q := by
  refine loopN2 (σ := xMe) (τ := Option Value) 24 (fun k M1 _ => xfr [86, 88] M M1 ∧ (∀ j, j < 24 → M1.1 86 j = oI (if j < k then sfr P T j else none)) ∧ ∀ j, j < 24 → M1.1 88 j = nI (if (sfr P T j).isNone then amx P T j k else pA P j)) (fun k M1 x => xF l G y_Mo_joins 95 [some (.ref 50), some (.int (nI k)), x, none] [] M1 Q) ?_ ?_ 24 0 rfl M none ⟨xfr.rf, fun j hj => by rw [if_neg (by omega)]; exact h86 j hj, fun j hj => (h88 j hj).trans (congrArg nI (by split <;> rfl))⟩
  · intro k hk M1 x hI next
    obtain ⟨f1, i86, i88⟩ := hI
    have hcl : (nI k).toNatClampNeg = k := nI_clamp (by omega)
    have fin2 : ∀ M2 y, xfr [86, 88] M M2 → (∀ j, j < 24 → M2.1 86 j = oI (if j < k + 1 then sfr P T j else none)) → (∀ j, j < 24 → M2.1 88 j = nI (if (sfr P T j).isNone then amx P T j (k + 1) else pA P j)) → xF l G y_Mo_joins 219 [some (.ref 50), some (.int (nI k)), y, none] [] M2 Q := by
      intro M2 y f2 a b
      refine xF_go o_Mo_joins [95, 219] 60 (fun K hK => ?_)
      repeat' ((conv => whnf); first | refine ⟨fun h => ?_, fun h => ?_⟩ | refine ⟨?_, ?_⟩ | refine hK _ _ _ _ ?_)
      rw [nI_1]
      exact next _ _ ⟨f2, a, b⟩
    refine xF_go o_Mo_joins [95, 103, 227] 60 (fun K hK => ?_)
    repeat' ((conv => whnf); first | refine ⟨fun h => ?_, fun h => ?_⟩ | refine ⟨?_, ?_⟩ | refine hK _ _ _ _ ?_)
    · exact absurd (nI_lt (b := 24) hk (by decide)) h
    · clear hK K
      -- the state at i
      refine loopN (σ := xMe) k (fun i M2 => xfr [86, 88] M M2 ∧ (∀ j, j < 24 → M2.1 86 j = oI (if j < k then sfr P T j else if j = k then lst (fun x => alk P T x k) i else none)) ∧ ∀ j, j < 24 → M2.1 88 j = nI (if (sfr P T j).isNone then (if j < i then amx P T j (k + 1) else amx P T j k) else pA P j)) (fun i M2 => xF l G y_Mo_joins 103 [some (.ref 50), some (.int (nI k)), some (.int (nI i)), none] [] M2 Q) ?_ ?_ k 0 rfl M1 ⟨f1, fun j hj => (i86 j hj).trans (congrArg oI ?_), fun j hj => (i88 j hj).trans (congrArg nI ?_)⟩
      · intro i hi M2 hI2 next2
        obtain ⟨f2, a86, a88⟩ := hI2
        have hci : (nI i).toNatClampNeg = i := nI_clamp (by omega)
        have wP2 : mP P M2 := mP_fr f2 (by decide) (by rw [(f2 50 (by decide)).1]) hP
        have hsk := (hw.1 k hk).1
        have hsi := (hw.1 i (by omega)).1
        have v90k : M2.1 90 (nI k).toNatClampNeg = b2 (tb (T k)) := by rw [hcl, (f2 90 (by decide)).1]; exact h90 k hk
        have v90i : M2.1 90 (nI i).toNatClampNeg = b2 (tb (T i)) := by rw [hci, (f2 90 (by decide)).1]; exact h90 i (by omega)
        have v51k : M2.1 51 (nI k).toNatClampNeg = nI (pS P k) := by rw [hcl]; exact (wP2.1 k hk).1
        have v51i : M2.1 51 (nI i).toNatClampNeg = nI (pS P i) := by rw [hci]; exact (wP2.1 i (by omega)).1
        have v86k : M2.1 86 (nI k).toNatClampNeg = oI (lst (fun x => alk P T x k) i) := by rw [hcl, a86 k hk, if_neg (Nat.lt_irrefl _), if_pos rfl]
        have v86i : M2.1 86 (nI i).toNatClampNeg = oI (sfr P T i) := by rw [hci, a86 i (by omega), if_pos hi]
        have hnk := oI_none (o := lst (fun x => alk P T x k) i) (fun d e => by have := ((lst_some i d).mp e).1; omega)
        have hni := oI_none (o := sfr P T i) (fun d e => by have := (sfr_some.mp e).1; omega)
        -- nothing found at i
        have skip : lst (fun x => alk P T x k) i = none → ¬ alk P T i k → xF l G y_Mo_joins 213 [some (.ref 50), some (.int (nI k)), some (.int (nI i)), none] [] M2 Q := by
          intro hn0 hna
          refine xF_go o_Mo_joins [103, 219] 60 (fun K hK => ?_)
          repeat' ((conv => whnf); first | refine ⟨fun h => ?_, fun h => ?_⟩ | refine ⟨?_, ?_⟩ | refine hK _ _ _ _ ?_)
          rw [nI_1]
          refine next2 _ ⟨f2, fun j hj => (a86 j hj).trans (congrArg oI ?_), fun j hj => (a88 j hj).trans (congrArg nI ?_)⟩
          · rw [lst_1, hn0]
            show _ = if j < k then sfr P T j else if j = k then (if tb (alk P T i k) = true then some i else none) else none
            rw [if_nt hna]
          · by_cases e : j = i
            · subst e
              rw [if_neg (c := j < j) (Nat.lt_irrefl _), if_pos (c := j < j + 1) (by omega), amx_no (fun z => hna z.2)]
            · by_cases e2 : j < i
              · rw [if_pos (c := j < i) e2, if_pos (c := j < i + 1) (by omega)]
              · rw [if_neg (c := j < i) e2, if_neg (c := j < i + 1) (by omega)]
        refine xF_go o_Mo_joins [103, 213, 219] 60 (fun K hK => ?_)
        repeat' ((conv => whnf); first | refine ⟨fun h => ?_, fun h => ?_⟩ | refine ⟨?_, ?_⟩ | refine hK _ _ _ _ ?_)
        · exact absurd (nI_lt (b := k) hi (by omega)) h
        · exact vp_in_nI hk (by decide)
        · -- the row itself is not still
          have h0 : M2.1 90 (nI k).toNatClampNeg = 0 := by assumption
          rw [v90k, b2_0, tb_f] at h0
          refine fin2 M2 _ f2 (fun j hj => (a86 j hj).trans (congrArg oI ?_)) (fun j hj => (a88 j hj).trans (congrArg nI ?_))
          · by_cases e : j = k
            · subst e
              rw [if_neg (Nat.lt_irrefl _), if_pos rfl, if_pos (by omega), sfr_none.mpr (fun x _ z => h0 z.2.1)]
              exact (lst_none i).mpr (fun x _ z => h0 z.2.1)
            · by_cases e2 : j < k
              · rw [if_pos e2, if_pos (by omega)]
              · rw [if_neg e2, if_neg e, if_neg (by omega)]
          · rw [amx_no (fun z => h0 z.2.2.1)]
            by_cases e2 : j < i
            · rw [if_pos e2]
            · rw [if_neg e2]
        · exact vp_in_nI hk (by decide)
        · -- found before
          have h0 : ¬ M2.1 86 (nI k).toNatClampNeg = -1 := by assumption
          rw [v86k, hnk] at h0
          cases e0 : lst (fun x => alk P T x k) i with
          | none => exact absurd e0 h0
          | some i0 =>
            obtain ⟨z1, z2, z3⟩ := (lst_some i i0).mp e0
            have hsf : sfr P T k = some i0 := sfr_some.mpr ⟨by omega, z2, z3⟩
            refine fin2 M2 _ f2 (fun j hj => (a86 j hj).trans (congrArg oI ?_)) (fun j hj => (a88 j hj).trans (congrArg nI ?_))
            · by_cases e : j = k
              · subst e
                rw [if_neg (Nat.lt_irrefl _), if_pos rfl, if_pos (by omega), e0, hsf]
              · by_cases e2 : j < k
                · rw [if_pos e2, if_pos (by omega)]
                · rw [if_neg e2, if_neg e, if_neg (by omega)]
            · cases e3 : sfr P T j with
              | some d => rfl
              | none =>
                show (if j < i then amx P T j (k + 1) else amx P T j k) = amx P T j (k + 1)
                by_cases e2 : j < i
                · rw [if_pos e2]
                · rw [if_neg e2, amx_no]
                  intro z
                  exact sfr_none.mp e3 i0 (by omega) (alk_tr z2 (alk_sy z.2))
        · exact vp_in_nI (by show _ < 24; omega) (by decide)
        · have h0 : M2.1 90 (nI i).toNatClampNeg = 0 := by assumption
          rw [v90i, b2_0, tb_f] at h0
          have h1 : M2.1 86 (nI k).toNatClampNeg = -1 := by assumption
          rw [v86k, hnk] at h1
          exact skip h1 (fun z => h0 z.1)
        · exact vp_in_nI (by show _ < 24; omega) (by decide)
        · have h0 : ¬ M2.1 86 (nI i).toNatClampNeg = -1 := by assumption
          rw [v86i, hni] at h0
          have h1 : M2.1 86 (nI k).toNatClampNeg = -1 := by assumption
          rw [v86k, hnk] at h1
          refine skip h1 (fun z => ?_)
          cases e0 : sfr P T i with
          | none => exact absurd e0 h0
          | some i0 =>
            obtain ⟨z1, z2, z3⟩ := sfr_some.mp e0
            exact (lst_none i).mp h1 i0 z1 (alk_tr z2 z)
        · exact vp_in_nI (by show _ < 24; omega) (by decide)
        · exact vp_in_nI hk (by decide)
        · have h0 := (show ¬ M2.1 51 (nI i).toNatClampNeg = M2.1 51 (nI k).toNatClampNeg from by assumption)
          rw [v51i, v51k] at h0
          have h1 : M2.1 86 (nI k).toNatClampNeg = -1 := by assumption
          rw [v86k, hnk] at h1
          exact skip h1 (fun z => h0 (by rw [z.2.2.1]))
        · have h0 := (show M2.1 51 (nI i).toNatClampNeg = M2.1 51 (nI k).toNatClampNeg from by assumption)
          rw [v51i, v51k] at h0
          have hsz : pS P i = pS P k := nI_inj (by omega) (by omega) h0
          have h1 : M2.1 86 (nI k).toNatClampNeg = -1 := by assumption
          rw [v86k, hnk] at h1
          have h2 : M2.1 86 (nI i).toNatClampNeg = -1 := by assumption
          rw [v86i, hni] at h2
          have h3 : ¬ M2.1 90 (nI i).toNatClampNeg = 0 := by assumption
          rw [v90i, b2_ne, tb_t] at h3
          have h4 : ¬ M2.1 90 (nI k).toNatClampNeg = 0 := by assumption
          rw [v90k, b2_ne, tb_t] at h4
          refine xF_callV o_Mo_joins [.int (nI i), .int (nI k)] rfl z_Mo_endsWith i_Mo_endsWith v_Mo_endsWith l_Mo_264 rfl ⟨⟨by decide, by decide⟩, rfl, rfl⟩ (Nat.le_of_ble_eq_true rfl) rfl rfl rfl (E_MendsWith l G P hw M2 wP2.1 wP2.2.1 i k (by omega) hk) ?_
          rintro v M' ⟨eM, rfl⟩; obtain rfl := eM.symm
          clear hK K
          by_cases hen : ens P i k
          · have halk : alk P T i k := ⟨h3, h4, hsz, hen⟩
            have l1 := amx_le hw hT h3 k
            have l2 := (hw.1 k hk).2.2 (hT k h4).2
            have v88i : M2.1 88 i = nI (amx P T i k) := by
              rw [a88 i (by omega), h2, if_neg (Nat.lt_irrefl i)]
              rfl
            have v52k : M2.1 52 k = nI (pA P k) := (wP2.1 k hk).2.1
            -- both branches of the greater align
            have go : ∀ x : Int32, x = nI (max (amx P T i k) (pA P k)) → xF l G y_Mo_joins 212 [some (.ref 50), some (.int (nI k)), some (.int (nI i)), none] [.int x, .int (nI i), .ref 88] (xsI M2 86 (upd (M2.1 86) k (nI i))) Q := by
              intro x hx
              refine xF_go o_Mo_joins [103, 219] 60 (fun K hK => ?_)
              repeat' ((conv => whnf); first | refine ⟨fun h => ?_, fun h => ?_⟩ | refine ⟨?_, ?_⟩ | refine hK _ _ _ _ ?_)
              · exact vp_in_nI (by show _ < 24; omega) (by decide)
              · rw [nI_1, hci, hx]
                refine next2 _ ⟨(f2.I (by simp)).I (by simp), fun j hj => ?_, fun j hj => ?_⟩
                · show upd (M2.1 86) k (nI i) j = _
                  by_cases e : j = k
                  · subst e
                    rw [upd_s, if_neg (Nat.lt_irrefl _), if_pos rfl, lst_1, h1]
                    show _ = oI (if tb (alk P T i j) = true then some i else none)
                    rw [if_tb halk]
                    rfl
                  · rw [upd_n e, a86 j hj, if_neg (c := j = k) e, if_neg (c := j = k) e]
                · show upd (M2.1 88) i _ j = _
                  by_cases e : j = i
                  · subst e
                    rw [upd_s, h2, if_pos (c := j < j + 1) (by omega), amx_new ⟨hi, halk⟩]
                    rfl
                  · rw [upd_n e, a88 j hj]
                    by_cases e2 : j < i
                    · rw [if_pos (c := j < i) e2, if_pos (c := j < i + 1) (by omega)]
                    · rw [if_neg (c := j < i) e2, if_neg (c := j < i + 1) (by omega)]
            rw [tb_t.mpr hen]
            refine xF_go o_Mo_joins [103, 212, 213, 219] 60 (fun K hK => ?_)
            repeat' ((conv => whnf); first | refine ⟨fun h => ?_, fun h => ?_⟩ | refine ⟨?_, ?_⟩ | refine hK _ _ _ _ ?_)
            · exact absurd (show b2 true = 0 from by assumption) (by decide)
            · exact vp_in_nI hk (by decide)
            · exact vp_in_nI (by show _ < 24; omega) (by decide)
            · exact vp_in_nI hk (by decide)
            · exact vp_in_nI (by show _ < 24; omega) (by decide)
            · rw [hcl, hci]
              have h5 := (show ¬ M2.1 88 (nI i).toNatClampNeg < M2.1 52 (nI k).toNatClampNeg from by assumption)
              rw [hci, hcl, v88i, v52k, nI_ltI (by omega) (by omega)] at h5
              refine go (M2.1 88 i) ?_
              rw [v88i, Nat.max_eq_left (by omega)]
            · exact vp_in_nI hk (by decide)
            · rw [hcl]
              have h5 := (show M2.1 88 (nI i).toNatClampNeg < M2.1 52 (nI k).toNatClampNeg from by assumption)
              rw [hci, hcl, v88i, v52k, nI_ltI (by omega) (by omega)] at h5
              refine go (M2.1 52 k) ?_
              rw [v52k, Nat.max_eq_right (by omega)]
          · rw [tb_f.mpr hen]
            refine xF_go o_Mo_joins [103, 212, 213, 219] 60 (fun K hK => ?_)
            repeat' ((conv => whnf); first | refine ⟨fun h => ?_, fun h => ?_⟩ | refine ⟨?_, ?_⟩ | refine hK _ _ _ _ ?_)
            · exact skip h1 (fun z => hen z.2.2.2)
            all_goals exact absurd rfl (show ¬ b2 false = 0 from by assumption)
      · intro M2 hI2
        obtain ⟨f2, a86, a88⟩ := hI2
        refine xF_go o_Mo_joins [103, 219] 60 (fun K hK => ?_)
        repeat' ((conv => whnf); first | refine ⟨fun h => ?_, fun h => ?_⟩ | refine ⟨?_, ?_⟩ | refine hK _ _ _ _ ?_)
        · refine fin2 M2 _ f2 (fun j hj => (a86 j hj).trans (congrArg oI ?_)) (fun j hj => (a88 j hj).trans (congrArg nI ?_))
          · by_cases e : j = k
            · subst e
              rw [if_neg (Nat.lt_irrefl _), if_pos rfl, if_pos (by omega)]
              rfl
            · by_cases e2 : j < k
              · rw [if_pos e2, if_pos (by omega)]
              · rw [if_neg e2, if_neg e, if_neg (by omega)]
          · by_cases e2 : j < k
            · rw [if_pos e2]
            · rw [if_neg e2, amx_no (fun z => e2 z.1)]
        all_goals exact absurd (show nI k < nI k from by assumption) (nI_nlt (by omega) (by omega))
      · by_cases e2 : j < k
        · rw [if_pos e2, if_pos e2]
        · rw [if_neg e2, if_neg e2]
          by_cases e : j = k
          · rw [if_pos e]
            rfl
          · rw [if_neg e]
      · rw [if_neg (Nat.not_lt_zero j)]
  · intro M1 x hI
    obtain ⟨f1, i86, i88⟩ := hI
    refine xF_go o_Mo_joins [95, 227] 60 (fun K hK => ?_)
    repeat' ((conv => whnf); first | refine ⟨fun h => ?_, fun h => ?_⟩ | refine ⟨?_, ?_⟩ | refine hK _ _ _ _ ?_)
    · exact hQ M1 _ f1 (fun k hk => by rw [i86 k hk, if_pos hk]) i88
    all_goals exact absurd (show nI 24 < nI 24 from by assumption) (nI_nlt (by omega) (by omega))
end XMJ
