/-! the reference's item -/
section XMU
variable (l : Launch) (G : xG)
theorem L_Mitem1 (k : Nat) (hk : k < 24) (n a g z : Int32) (M0 : xMe) (Q : Option Value → xMe → Prop) (hnext : xF l G y_Mo_item 125 [some (.ref 50), some (.int (nI k)), some (.int n), some (.int a), some (.int g), some (.int z), some (.int (nI 64))] [] (xsI (xsI M0 54 (fun i => if k * 64 ≤ i ∧ i < k * 64 + 64 then 0 else M0.1 54 i)) 55 (fun i => if k * 64 ≤ i ∧ i < k * 64 + 64 then -1 else M0.1 55 i)) Q) : ∀ (m p : Nat), m + p = 64 → xF l G y_Mo_item 86 [some (.ref 50), some (.int (nI k)), some (.int n), some (.int a), some (.int g), some (.int z), some (.int (nI p))] [] (xsI (xsI M0 54 (fun i => if k * 64 ≤ i ∧ i < k * 64 + p then 0 else M0.1 54 i)) 55 (fun i => if k * 64 ≤ i ∧ i < k * 64 + p then -1 else M0.1 55 i)) Q := by
  intro m
  induction m with
  | zero =>
    intro p hp
    refine xF_go o_Mo_item [86, 125] 60 (fun K hK => ?_)
    repeat' ((conv => whnf); first | refine ⟨fun h => ?_, fun h => ?_⟩ | refine ⟨?_, ?_⟩ | refine hK _ _ _ _ ?_)
    · have e : p = 64 := by omega
      subst e
      exact hnext
    all_goals exact absurd (show nI p < nI 64 from by assumption) (nI_nlt (by omega) (by omega))
  | succ m ih =>
    intro p hp
    refine xF_go o_Mo_item [86, 125] 60 (fun K hK => ?_)
    repeat' ((conv => whnf); first | refine ⟨fun h => ?_, fun h => ?_⟩ | refine ⟨?_, ?_⟩ | refine hK _ _ _ _ ?_)
    · exact absurd (nI_lt (b := 64) (by omega) (by omega)) h
    · rw [nI_64, nI_add]
      exact vp_in_nI (N := 1536) (by omega) (by decide)
    · rw [nI_64, nI_add]
      exact vp_in_nI (N := 1536) (by omega) (by decide)
    · rw [nI_1, nI_64, nI_add, nI_clamp (by omega)]
      have e := ih (p + 1) (by omega)
      have eM : xsI (xsI (xsI (xsI M0 54 (fun i => if k * 64 ≤ i ∧ i < k * 64 + p then 0 else M0.1 54 i)) 55 (fun i => if k * 64 ≤ i ∧ i < k * 64 + p then -1 else M0.1 55 i)) 54 (upd (fun i => if k * 64 ≤ i ∧ i < k * 64 + p then 0 else M0.1 54 i) (64 * k + p) 0)) 55 (upd (fun i => if k * 64 ≤ i ∧ i < k * 64 + p then -1 else M0.1 55 i) (64 * k + p) (-1)) = xsI (xsI M0 54 (fun i => if k * 64 ≤ i ∧ i < k * 64 + (p + 1) then 0 else M0.1 54 i)) 55 (fun i => if k * 64 ≤ i ∧ i < k * 64 + (p + 1) then -1 else M0.1 55 i) := by
        have a1 : (fun i => if k * 64 ≤ i ∧ i < k * 64 + (p + 1) then 0 else M0.1 54 i) = upd (fun i => if k * 64 ≤ i ∧ i < k * 64 + p then 0 else M0.1 54 i) (64 * k + p) 0 := by
          funext i
          unfold upd
          grind
        have a2 : (fun i => if k * 64 ≤ i ∧ i < k * 64 + (p + 1) then -1 else M0.1 55 i) = upd (fun i => if k * 64 ≤ i ∧ i < k * 64 + p then -1 else M0.1 55 i) (64 * k + p) (-1) := by
          funext i
          unfold upd
          grind
        rw [a1, a2]
        unfold xsI
        congr 1
        funext b
        by_cases b5 : b = 55
        · simp [b5]
        · by_cases b4 : b = 54 <;> simp [b5, b4]
      rw [← eM] at e
      exact e
theorem L_Mitem2 (k : Nat) (hk : k < 24) (a g z : Int32) (M0 : xMe) (Q : Option Value → xMe → Prop) (hnext : Q (some (.int 1)) (xsI (xsI M0 55 (fun i => if i < 1536 ∧ M0.1 55 i = nI k then -1 else M0.1 55 i)) 50 (upd (M0.1 50) 26 0))) : ∀ (m p : Nat), m + p = 1536 → xF l G y_Mo_item 128 [some (.ref 50), some (.int (nI k)), some (.int 0), some (.int a), some (.int g), some (.int z), some (.int (nI p))] [] (xsI M0 55 (fun i => if i < p ∧ M0.1 55 i = nI k then -1 else M0.1 55 i)) Q := by
  intro m
  induction m with
  | zero =>
    intro p hp
    have e : p = 1536 := by omega
    refine xF_go o_Mo_item [128] 60 (fun K hK => ?_)
    repeat' ((conv => whnf); first | refine ⟨fun h => ?_, fun h => ?_⟩ | refine ⟨?_, ?_⟩ | refine hK _ _ _ _ ?_)
    · exact Or.inl rfl
    · refine xF_zret o_Mo_item rfl rfl (Or.inr rfl) ?_
      subst e
      exact hnext
    all_goals exact absurd (show nI p < nI 1536 from by assumption) (nI_nlt (by omega) (by omega))
  | succ m ih =>
    intro p hp
    have hcl : (nI p).toNatClampNeg = p := nI_clamp (by omega)
    have hstep : ∀ x : Int32, x = (if M0.1 55 p = nI k then -1 else M0.1 55 p) → xsI (xsI M0 55 (fun i => if i < p ∧ M0.1 55 i = nI k then -1 else M0.1 55 i)) 55 (upd (fun i => if i < p ∧ M0.1 55 i = nI k then -1 else M0.1 55 i) p x) = xsI M0 55 (fun i => if i < p + 1 ∧ M0.1 55 i = nI k then -1 else M0.1 55 i) := by
      rintro x rfl
      rw [xsI_II]
      refine xsI_c (fun i => ?_)
      unfold upd
      by_cases e : i = p
      · subst e
        simp
      · rw [if_neg e]
        dsimp only
        by_cases e2 : i < p ∧ M0.1 55 i = nI k
        · rw [if_pos e2, if_pos ⟨by omega, e2.2⟩]
        · rw [if_neg e2, if_neg (fun q => e2 ⟨by omega, q.2⟩)]
    have hrd : (xsI M0 55 (fun i => if i < p ∧ M0.1 55 i = nI k then -1 else M0.1 55 i)).1 55 (nI p).toNatClampNeg = M0.1 55 p := by
      rw [hcl, xsI_1, if_pos rfl, if_neg (by omega)]
    refine xF_go o_Mo_item [128] 60 (fun K hK => ?_)
    repeat' ((conv => whnf); first | refine ⟨fun h => ?_, fun h => ?_⟩ | refine ⟨?_, ?_⟩ | refine hK _ _ _ _ ?_)
    · exact Or.inl rfl
    · exact absurd (nI_lt (a := p) (b := 1536) (by omega) (by omega)) h
    · exact Or.inl rfl
    · exact absurd rfl (show ¬ (0 : Int32) = 0 from by assumption)
    · exact vp_in_nI (N := 1536) (by omega) (by decide)
    · exact vp_in_nI (N := 1536) (by omega) (by decide)
    · exact vp_in_nI (N := 1536) (by omega) (by decide)
    · have hq : ¬ (xsI M0 55 (fun i => if i < p ∧ M0.1 55 i = nI k then -1 else M0.1 55 i)).1 55 (nI p).toNatClampNeg = nI k := by assumption
      rw [hrd] at hq
      rw [hrd, hcl, nI_1, xsI_s, hstep _ (by rw [if_neg hq])]
      exact ih (p + 1) (by omega)
    · exact vp_in_nI (N := 1536) (by omega) (by decide)
    · have hq : (xsI M0 55 (fun i => if i < p ∧ M0.1 55 i = nI k then -1 else M0.1 55 i)).1 55 (nI p).toNatClampNeg = nI k := by assumption
      rw [hrd] at hq
      rw [hcl, nI_1, xsI_s, hstep _ (by rw [if_pos hq])]
      exact ih (p + 1) (by omega)
theorem mP_item {P : sP} {M N : xMe} (hM : mP P M) (hw : wP P) {k n a g : Nat} {v : Bool} (hk : k < 24) (n51 : N.1 51 = upd (M.1 51) k (nI n)) (n52 : N.1 52 = upd (M.1 52) k (nI a)) (n53 : N.1 53 = upd (M.1 53) k (nI g)) (n56 : N.1 56 = upd (M.1 56) k (b2 v)) (n54 : ∀ i, N.1 54 i = if k * 64 ≤ i ∧ i < k * 64 + 64 then 0 else M.1 54 i) (n55 : ∀ i, i < 1536 → N.1 55 i = if k * 64 ≤ i ∧ i < k * 64 + 64 then -1 else if n = 0 ∧ M.1 55 i = nI k then -1 else M.1 55 i) (n50 : N.1 50 14 = M.1 50 14) (nf : xfr [50, 51, 52, 53, 54, 55, 56] M N) : mP (sItem P k n a g v) N := by
  obtain ⟨h1, h2, h3, h4, h5, h6⟩ := hM
  refine ⟨?_, ?_, ?_, ?_, ?_, ?_⟩
  · intro j hj
    rw [n51, n52, n53, n56]
    have hj1 := h1 j hj
    rw [sItem_S, sItem_A, sItem_G, sItem_V]
    unfold upd
    by_cases e : j = k
    · simp [e]
    · simp [e, hj1]
  · intro j hj p hp
    rw [n54]
    by_cases e : j = k
    · subst e
      rw [if_pos (by omega), sItem_O, if_pos rfl]
      rfl
    · rw [if_neg (by omega), sItem_O, if_neg e]
      exact h2 j hj p hp
  · intro j hj p hp
    rw [n55 _ (by omega), sItem_R, h3 j hj p hp]
    by_cases e : j = k
    · subst e
      rw [if_pos (by omega), if_pos rfl]
      rfl
    · rw [if_neg (by omega), if_neg e]
      have hiff : oI (pR P j p) = nI k ↔ pR P j p = some k := by
        cases hr : pR P j p with
        | none =>
          refine ⟨fun z => ?_, fun z => by cases z⟩
          have z2 : (-1 : Int32) = nI k := z
          exact absurd (z2 ▸ nI_pos' (n := k) (by omega)) (by decide)
        | some t =>
          have ht := (hw.2.2.1 j hj p hp t hr).1
          refine ⟨fun z => ?_, fun z => ?_⟩
          · have z2 : nI t = nI k := z
            rw [nI_inj (by omega) (by omega) z2]
          · cases z
            rfl
      by_cases e2 : n = 0 ∧ pR P j p = some k
      · rw [if_pos e2, if_pos ⟨e2.1, hiff.mpr e2.2⟩]
        rfl
      · rw [if_neg e2, if_neg (fun z => e2 ⟨z.1, hiff.mp z.2⟩)]
  · intro f' hf'
    rw [(nf 57 (by simp)).1, (nf 58 (by simp)).1, (nf 59 (by simp)).1, (nf 60 (by simp)).1, (nf 61 (by simp)).1]
    exact h4 f' hf'
  · intro f' hf'
    rw [(nf 62 (by simp)).1]
    exact h5 f' hf'
  · refine ⟨?_, fun i v' hv => ?_⟩
    · rw [n50]
      exact h6.1
    · rw [(nf 63 (by simp)).1]
      exact h6.2 i v' hv
theorem E_Mitem (P P' : sP) (M : xMe) (hM : mP P M) (hw : wP P) (k n a g r0 : Int32) (v ac : Bool) (hr : rItem P k n a g v P' r0 ac) : xE l G y_Mo_item [.ref 50, .int k, .int n, .int a, .int g, .int (b2 v)] M (fun r M' => r = some (.int r0) ∧ mP P' M' ∧ (ac = false → M' = M) ∧ (ac = true → M'.1 50 = upd (M.1 50) 26 0) ∧ xfr [50, 51, 52, 53, 54, 55, 56] M M') := by
  -- what follows the tests
  have fin : ∀ (M : xMe), mP P M → ∀ (k' n' a' g' : Nat), k' < 24 → n' ≤ 64 → a' < 9 → g' ≤ 3 → xF l G y_Mo_item 53 [some (.ref 50), some (.int (nI k')), some (.int (nI n')), some (.int (nI a')), some (.int (nI g')), some (.int (b2 v)), none] [] M (fun r M' => r = some (.int 1) ∧ mP (sItem P k' n' a' g' v) M' ∧ M'.1 50 = upd (M.1 50) 26 0 ∧ xfr [50, 51, 52, 53, 54, 55, 56] M M') := by
    intro M hM k' n' a' g' c1 c2 c3 c4
    refine xF_go o_Mo_item [86] 60 (fun K hK => ?_)
    repeat' ((conv => whnf); first | refine ⟨fun h => ?_, fun h => ?_⟩ | refine ⟨?_, ?_⟩ | refine hK _ _ _ _ ?_)
    · exact vp_in_nI c1 (by decide)
    · exact vp_in_nI c1 (by decide)
    · exact vp_in_nI c1 (by decide)
    · exact vp_in_nI c1 (by decide)
    · exact b2_01 v
    rw [nI_clamp (by omega)]
    generalize hM1 : xsI _ 56 _ = M1
    have q51 : M1.1 51 = upd (M.1 51) k' (nI n') := by rw [← hM1]; rfl
    have q52 : M1.1 52 = upd (M.1 52) k' (nI a') := by rw [← hM1]; rfl
    have q53 : M1.1 53 = upd (M.1 53) k' (nI g') := by rw [← hM1]; rfl
    have q56 : M1.1 56 = upd (M.1 56) k' (b2 v) := by rw [← hM1]; rfl
    have q54 : M1.1 54 = M.1 54 := by rw [← hM1]; rfl
    have q55 : M1.1 55 = M.1 55 := by rw [← hM1]; rfl
    have q50 : M1.1 50 = M.1 50 := by rw [← hM1]; rfl
    have qf : xfr [50, 51, 52, 53, 54, 55, 56] M M1 := by
      rw [← hM1]
      exact (((xfr.rf.I (by simp)).I (by simp)).I (by simp)).I (by simp)
    clear hM1
    have e0 : M1 = xsI (xsI M1 54 (fun i => if k' * 64 ≤ i ∧ i < k' * 64 + 0 then 0 else M1.1 54 i)) 55 (fun i => if k' * 64 ≤ i ∧ i < k' * 64 + 0 then -1 else M1.1 55 i) := by
      rw [xsI_id (M := M1) (c := 54) (fun i => by rw [if_neg (by omega)]), xsI_id (fun i => by rw [if_neg (by omega)])]
    rw [e0]
    refine L_Mitem1 l G k' c1 _ _ _ _ M1 _ ?_ 64 0 (by omega)
    clear hK K
    refine xF_go o_Mo_item [128] 60 (fun K hK => ?_)
    repeat' ((conv => whnf); first | refine ⟨fun h => ?_, fun h => ?_⟩ | refine ⟨?_, ?_⟩ | refine hK _ _ _ _ ?_)
    by_cases hn0 : n' = 0
    · subst hn0
      generalize hM2 : xsI _ 55 _ = M2
      have p54 : M2.1 54 = (fun i => if k' * 64 ≤ i ∧ i < k' * 64 + 64 then 0 else M1.1 54 i) := by rw [← hM2]; rfl
      have p55 : M2.1 55 = (fun i => if k' * 64 ≤ i ∧ i < k' * 64 + 64 then -1 else M1.1 55 i) := by rw [← hM2]; rfl
      have p51 : M2.1 51 = M1.1 51 := by rw [← hM2]; rfl
      have p52 : M2.1 52 = M1.1 52 := by rw [← hM2]; rfl
      have p53 : M2.1 53 = M1.1 53 := by rw [← hM2]; rfl
      have p56 : M2.1 56 = M1.1 56 := by rw [← hM2]; rfl
      have p50 : M2.1 50 = M1.1 50 := by rw [← hM2]; rfl
      have pf : xfr [50, 51, 52, 53, 54, 55, 56] M M2 := by
        rw [← hM2]
        exact (qf.I (by simp)).I (by simp)
      clear hM2
      have e1 : M2 = xsI M2 55 (fun i => if i < 0 ∧ M2.1 55 i = nI k' then -1 else M2.1 55 i) := (xsI_id (fun i => by rw [if_neg (by omega)])).symm
      have key := L_Mitem2 l G k' c1 (nI a') (nI g') (b2 v) M2 (fun r M' => r = some (.int 1) ∧ mP (sItem P k' 0 a' g' v) M' ∧ M'.1 50 = upd (M.1 50) 26 0 ∧ xfr [50, 51, 52, 53, 54, 55, 56] M M') ?_ 1536 0 (by omega)
      · rw [← e1] at key
        exact key
      · refine ⟨rfl, mP_item hM hw c1 (p51.trans q51) (p52.trans q52) (p53.trans q53) (p56.trans q56) (fun i => ?_) (fun i hi => ?_) ?_ ((pf.I (by simp)).I (by simp)), ?_, (pf.I (by simp)).I (by simp)⟩
        · show M2.1 54 i = _
          rw [p54, q54]
        · show (if i < 1536 ∧ M2.1 55 i = nI k' then -1 else M2.1 55 i) = _
          rw [p55, q55]
          dsimp only
          grind
        · rw [xsI_1, if_pos rfl, upd_n (by decide), p50, q50]
        · rw [xsI_1, if_pos rfl, p50, q50]
    · clear hK K
      refine xF_go o_Mo_item [] 60 (fun K hK => ?_)
      repeat' ((conv => whnf); first | refine ⟨fun h => ?_, fun h => ?_⟩ | refine ⟨?_, ?_⟩ | refine hK _ _ _ _ ?_)
      · exact Or.inl rfl
      · exact absurd (show (0 : Int32) < 1536 from by decide) (by assumption)
      · exact Or.inl rfl
      · refine xF_zret o_Mo_item rfl rfl (Or.inr rfl) ?_
        refine ⟨rfl, mP_item hM hw c1 q51 q52 q53 q56 (fun i => ?_) (fun i hi => ?_) ?_ (((qf.I (by simp)).I (by simp)).I (by simp)), ?_, ((qf.I (by simp)).I (by simp)).I (by simp)⟩
        · show (if k' * 64 ≤ i ∧ i < k' * 64 + 64 then 0 else M1.1 54 i) = _
          rw [q54]
        · show (if k' * 64 ≤ i ∧ i < k' * 64 + 64 then -1 else M1.1 55 i) = _
          rw [q55, if_neg (c := n' = 0 ∧ M.1 55 i = nI k') (fun z => hn0 z.1)]
        · rw [xsI_1, if_pos rfl, upd_n (by decide)]
          show M1.1 50 14 = _
          rw [q50]
        · rw [xsI_1, if_pos rfl]
          show upd (M1.1 50) 26 0 = _
          rw [q50]
      all_goals exact absurd (nI_inj (a := n') (b := 0) (by omega) (by omega) (show nI n' = nI 0 from by assumption)) hn0
  have out : ∀ M1 : xMe, mP P M1 → ¬ vItem k n a g → (some (Value.int 0) = some (.int r0) ∧ mP P' M1 ∧ (ac = false → M1 = M1) ∧ (ac = true → M1.1 50 = upd (M1.1 50) 26 0) ∧ xfr [50, 51, 52, 53, 54, 55, 56] M1 M1) := by
    intro M1 hM1 hv
    rcases hr with ⟨-, rfl, rfl, rfl⟩ | ⟨k', n', a', g', c1, c2, c3, c4, rfl, rfl, rfl, rfl, -⟩
    · exact ⟨rfl, hM1, fun _ => rfl, (fun z => by cases z), xfr.rf⟩
    · refine absurd ?_ hv
      refine ⟨nI_24 c1, ⟨nI_pos' (by omega), nI_le (b := 64) c2 (by omega)⟩, ?_, ⟨nI_pos' (by omega), nI_le (b := 3) c4 (by omega)⟩⟩
      rcases c3 with rfl | rfl | rfl | rfl
      · exact Or.inl rfl
      · exact Or.inr (Or.inl rfl)
      · exact Or.inr (Or.inr (Or.inl rfl))
      · exact Or.inr (Or.inr (Or.inr rfl))
  have yes : ∀ M1 : xMe, mP P M1 → vItem k n a g → xF l G y_Mo_item 53 [some (.ref 50), some (.int k), some (.int n), some (.int a), some (.int g), some (.int (b2 v)), none] [] M1 (fun r M' => r = some (.int r0) ∧ mP P' M' ∧ (ac = false → M' = M1) ∧ (ac = true → M'.1 50 = upd (M1.1 50) 26 0) ∧ xfr [50, 51, 52, 53, 54, 55, 56] M1 M') := by
    intro M1 hM1 hv
    rcases hr with ⟨hv2, -⟩ | ⟨k', n', a', g', c1, c2, c3, c4, rfl, rfl, rfl, rfl, rfl, rfl, rfl⟩
    · exact absurd hv hv2
    · refine xF_post ?_ (fin M1 hM1 k' n' a' g' c1 c2 (by omega) c4)
      rintro r M' ⟨z1, z2, z3, z4⟩
      exact ⟨z1, z2, (fun z => by cases z), fun _ => z3, z4⟩
  clear fin
  refine xE_of [some (.ref 50), some (.int k), some (.int n), some (.int a), some (.int g), some (.int (b2 v)), none] (by decide +kernel) (Nat.le_of_ble_eq_true rfl) rfl ?_
  refine xF_go o_Mo_item [53] 60 (fun K hK => ?_)
  repeat' ((conv => whnf); first | refine ⟨fun h => ?_, fun h => ?_⟩ | refine ⟨?_, ?_⟩ | refine hK _ _ _ _ ?_)
  refine xF_callS o_Mo_item [.int k, .int 0, .int 23] rfl z_Mo_in s_Mo_in l_Mo_157 rfl ⟨⟨by decide, by decide⟩, rfl, rfl⟩ (Nat.le_of_ble_eq_true rfl) rfl (E_in l G k 0 23 M) ?_
  rintro w M1 ⟨rfl, rfl⟩
  clear hK K
  refine xF_go o_Mo_item [53] 60 (fun K hK => ?_)
  repeat' ((conv => whnf); first | refine ⟨fun h => ?_, fun h => ?_⟩ | refine ⟨?_, ?_⟩ | refine hK _ _ _ _ ?_)
  · refine xF_zret o_Mo_item rfl rfl (Or.inl rfl) ?_
    exact out M1 hM (fun z => by unfold vItem at z; grind)
  refine xF_callS o_Mo_item [.int n, .int 0, .int 64] rfl z_Mo_in s_Mo_in l_Mo_157 rfl ⟨⟨by decide, by decide⟩, rfl, rfl⟩ (Nat.le_of_ble_eq_true rfl) rfl (E_in l G n 0 64 M1) ?_
  rintro w M ⟨rfl, rfl⟩
  clear hK K
  refine xF_go o_Mo_item [53] 60 (fun K hK => ?_)
  have lastc : ∀ (_ : 0 ≤ k ∧ k ≤ 23) (_ : 0 ≤ n ∧ n ≤ 64) (_ : a = 1 ∨ a = 2 ∨ a = 4 ∨ a = 8), xF l G y_Mo_item 45 [some (.ref 50), some (.int k), some (.int n), some (.int a), some (.int g), some (.int (b2 v)), none] [.int 3, .int 0, .int g] M (fun r M' => r = some (.int r0) ∧ mP P' M' ∧ (ac = false → M' = M) ∧ (ac = true → M'.1 50 = upd (M.1 50) 26 0) ∧ xfr [50, 51, 52, 53, 54, 55, 56] M M') := by
    intro w1 w2 w3
    refine xF_callS o_Mo_item [.int g, .int 0, .int 3] rfl z_Mo_in s_Mo_in l_Mo_157 rfl ⟨⟨by decide, by decide⟩, rfl, rfl⟩ (Nat.le_of_ble_eq_true rfl) rfl (E_in l G g 0 3 M) ?_
    rintro w M1 ⟨rfl, rfl⟩
    refine xF_go o_Mo_item [53] 60 (fun K hK => ?_)
    repeat' ((conv => whnf); first | refine ⟨fun h => ?_, fun h => ?_⟩ | refine ⟨?_, ?_⟩ | refine hK _ _ _ _ ?_)
    · exact yes M1 hM (by unfold vItem; grind)
    · refine xF_zret o_Mo_item rfl rfl (Or.inl rfl) ?_
      exact out M1 hM (fun z => by unfold vItem at z; grind)
  repeat' ((conv => whnf); first | refine ⟨fun h => ?_, fun h => ?_⟩ | refine ⟨?_, ?_⟩ | refine hK _ _ _ _ ?_)
  · refine xF_zret o_Mo_item rfl rfl (Or.inl rfl) ?_
    exact out M hM (fun z => by unfold vItem at z; grind)
  · exact lastc (by grind) (by grind) (by grind)
  · exact lastc (by grind) (by grind) (by grind)
  · exact lastc (by grind) (by grind) (by grind)
  · refine xF_zret o_Mo_item rfl rfl (Or.inl rfl) ?_
    exact out M hM (fun z => by unfold vItem at z; grind)
  · exact lastc (by grind) (by grind) (by grind)
end XMU
