/-! Layout: standsStill, endsWith, joinAlike -/
theorem if_tb {α : Type} {p : Prop} {a b : α} (h : p) : (if tb p = true then a else b) = a := if_pos (tb_t.mpr h)
theorem if_nt {α : Type} {p : Prop} {a b : α} (h : ¬ p) : (if tb p = true then a else b) = b := by
  rw [tb_f.mpr h]
  rfl
noncomputable def sfn (P : sP) (T : Nat → Prop) (k j : Nat) : Option Nat := lst (fun i => i < j ∧ alk P T i j) k
theorem sfn_k {P : sP} {T : Nat → Prop} {k j : Nat} (h : j ≤ k) : sfn P T k j = sfr P T j := by
  cases e : sfr P T j with
  | none =>
    rw [sfr_none] at e
    exact (lst_none k).mpr (fun i hi z => e i z.1 z.2)
  | some i =>
    obtain ⟨a, b, c⟩ := sfr_some.mp e
    exact (lst_some k i).mpr ⟨by omega, ⟨a, b⟩, fun i' hi' z => c i' hi' z.2⟩
theorem sfn_0 {P : sP} {T : Nat → Prop} {j : Nat} : sfn P T 0 j = none := rfl
theorem sfn_lt {P : sP} {T : Nat → Prop} {k j d : Nat} (h : sfn P T k j = some d) : d < k := ((lst_some k d).mp h).1
theorem sfn_skip {P : sP} {T : Nat → Prop} {k j : Nat} (h : ¬ sts P T k) : sfn P T (k + 1) j = sfn P T k j := by
  show lst _ (k + 1) = lst _ k
  rw [lst_1]
  cases e : lst (fun i => i < j ∧ alk P T i j) k with
  | some i => rfl
  | none =>
    have e' := (lst_none k).mp e
    have hn : ¬ (k < j ∧ alk P T k j) := by
      intro z
      apply h
      refine ⟨z.2.1, sfr_none.mpr (fun i hi y => e' i hi ⟨by omega, alk_tr y z.2⟩)⟩
    rw [if_neg (by rw [tb_f.mpr hn]; decide)]
theorem sfn_no {P : sP} {T : Nat → Prop} {k j : Nat} (h : ¬ (k < j ∧ alk P T k j)) : sfn P T (k + 1) j = sfn P T k j := by
  show lst _ (k + 1) = lst _ k
  rw [lst_1]
  cases e : lst (fun i => i < j ∧ alk P T i j) k with
  | some i => rfl
  | none => rw [if_neg (by rw [tb_f.mpr h]; decide)]
theorem sfn_was {P : sP} {T : Nat → Prop} {k j : Nat} (h : ¬ sfn P T k j = none) : sfn P T (k + 1) j = sfn P T k j := by
  show lst _ (k + 1) = lst _ k
  rw [lst_1]
  cases e : lst (fun i => i < j ∧ alk P T i j) k with
  | some i => rfl
  | none => exact absurd e h
theorem sfn_new {P : sP} {T : Nat → Prop} {k j : Nat} (h0 : sfn P T k j = none) (h : k < j ∧ alk P T k j) : sfn P T (k + 1) j = some k := by
  show lst _ (k + 1) = _
  rw [lst_1]
  rw [show lst (fun i => i < j ∧ alk P T i j) k = none from h0]
  show (if tb (k < j ∧ alk P T k j) = true then some k else none) = some k
  rw [if_pos (tb_t.mpr h)]
theorem sfn_st {P : sP} {T : Nat → Prop} {k j : Nat} (h : sts P T k) (ha : alk P T k j) : sfn P T k j = none := by
  refine (lst_none k).mpr (fun i hi z => ?_)
  exact sfr_none.mp h.2 i hi (alk_tr z.2 (alk_sy ha))
theorem amx_no {P : sP} {T : Nat → Prop} {k n : Nat} (h : ¬ (k < n ∧ alk P T k n)) : amx P T k (n + 1) = amx P T k n := by
  show (if tb (k < n ∧ alk P T k n) = true then _ else _) = _
  rw [if_neg (by rw [tb_f.mpr h]; decide)]
theorem amx_new {P : sP} {T : Nat → Prop} {k n : Nat} (h : k < n ∧ alk P T k n) : amx P T k (n + 1) = max (amx P T k n) (pA P n) := by
  show (if tb (k < n ∧ alk P T k n) = true then _ else _) = _
  rw [if_pos (tb_t.mpr h)]
theorem amx_lo {P : sP} {T : Nat → Prop} {k : Nat} : ∀ n, n ≤ k + 1 → amx P T k n = pA P k
  | 0, _ => rfl
  | n + 1, h => by rw [amx_no (fun z => by have := z.1; omega)]; exact amx_lo n (by omega)
theorem amx_le {P : sP} (hw : wP P) {T : Nat → Prop} (hT : ∀ j, T j → j < 24 ∧ 0 < pS P j) {k : Nat} (hk : T k) (n : Nat) : amx P T k n ≤ 8 := by
  have := amx_one (P := P) (T := T) (fun j hj => (hw.1 j (hT j hj).1).2.2 (hT j hj).2) ((hw.1 k (hT k hk).1).2.2 (hT k hk).2) n
  omega
def c38 (c : Nat) (o : Nat → Option Nat) (M : xMe) : Prop := ∀ k, k < 24 → M.1 c k = oI (o k)
section XL2
variable (l : Launch) (G : xG)
theorem E_LstandsStill (T : Nat → Prop) (k : Nat) (hk : k < 24) (o : Option Nat) (ho : ∀ d, o = some d → d < 24) (M : xMe) (h37 : M.1 37 k = b2 (tb (T k))) (h38 : M.1 38 k = oI o) : xE l G y_La_standsStill [.ref 30, .int (nI k)] M (fun r M' => M' = M ∧ r = some (.int (b2 (tb (T k ∧ o = none))))) := by
  have hcl : (nI k).toNatClampNeg = k := nI_clamp (by omega)
  have hno := oI_none (o := o) (fun d e => by have := ho d e; omega)
  refine xE_of [some (.ref 30), some (.int (nI k))] (by decide +kernel) (Nat.le_of_ble_eq_true rfl) rfl ?_
  refine xF_go o_La_standsStill [24] 60 (fun K hK => ?_)
  repeat' ((conv => whnf); first | refine ⟨fun h => ?_, fun h => ?_⟩ | refine ⟨?_, ?_⟩ | refine hK _ _ _ _ ?_)
  · exact vp_in_nI hk (by decide)
  · have h0 : M.1 37 (nI k).toNatClampNeg = 0 := by assumption
    rw [hcl, h37, b2_0, tb_f] at h0
    refine xF_zret o_La_standsStill rfl rfl (Or.inl rfl) ?_
    refine ⟨rfl, ?_⟩
    rw [tb_f.mpr (fun z => h0 z.1)]
    rfl
  · exact vp_in_nI hk (by decide)
  · have h0 : ¬ M.1 38 (nI k).toNatClampNeg = -1 := by assumption
    rw [hcl, h38, hno] at h0
    refine xF_zret o_La_standsStill rfl rfl (Or.inl rfl) ?_
    refine ⟨rfl, ?_⟩
    rw [tb_f.mpr (fun z => h0 z.2)]
    rfl
  · have h0 : ¬ M.1 37 (nI k).toNatClampNeg = 0 := by assumption
    rw [hcl, h37, b2_ne, tb_t] at h0
    have h1 : M.1 38 (nI k).toNatClampNeg = -1 := by assumption
    rw [hcl, h38, hno] at h1
    refine xF_zret o_La_standsStill rfl rfl (Or.inr rfl) ?_
    refine ⟨rfl, ?_⟩
    rw [tb_t.mpr ⟨h0, h1⟩]
    rfl
theorem E_LendsWith (P : sP) (hw : wP P) (y x : Nat) (hy : y < 24) (hx : x < 24) (M : xMe) (h34 : c34 P M) (hO : cO P M) : xE l G y_La_endsWith [.ref 30, .int (nI y), .int (nI x)] M (fun r M' => M' = M ∧ r = some (.int (b2 (tb (ens P y x))))) := by
  refine xE_cps (fun Q hQ => ?_)
  have hsy := (hw.1 y hy).1
  have hsx := (hw.1 x hx).1
  have hcy : (nI y).toNatClampNeg = y := nI_clamp (by omega)
  have hcx : (nI x).toNatClampNeg = x := nI_clamp (by omega)
  have vy : M.1 34 (nI y).toNatClampNeg = nI (pS P y) := by rw [hcy]; exact h34 y hy
  have vx : M.1 34 (nI x).toNatClampNeg = nI (pS P x) := by rw [hcx]; exact h34 x hx
  refine xE_of [some (.ref 30), some (.int (nI y)), some (.int (nI x)), none, none, none] (by decide +kernel) (Nat.le_of_ble_eq_true rfl) rfl ?_
  by_cases hle : pS P x ≤ pS P y
  · have esub : nI (pS P y) - nI (pS P x) = nI (pS P y - pS P x) := pk_sub hle
    refine xF_go o_La_endsWith [23] 60 (fun K hK => ?_)
    repeat' ((conv => whnf); first | refine ⟨fun h => ?_, fun h => ?_⟩ | refine ⟨?_, ?_⟩ | refine hK _ _ _ _ ?_)
    · exact vp_in_nI hy (by decide)
    · exact vp_in_nI hx (by decide)
    · clear hK K
      rw [vy, vx, esub]
      refine loopN (σ := Option Value) (pS P x) (fun p _ => ∀ p', p' < p → pO P y (pS P y - pS P x + p') = pO P x p') (fun p z => xF l G y_La_endsWith 23 [some (.ref 30), some (.int (nI y)), some (.int (nI x)), some (.int (nI (pS P y - pS P x))), some (.int (nI p)), z] [] M Q) ?_ ?_ (pS P x) 0 rfl none (fun p' hp' => absurd hp' (Nat.not_lt_zero _))
      · intro p hp z hI next
        have e1 : nI y * 64 + nI (pS P y - pS P x) + nI p = nI (y * 64 + (pS P y - pS P x + p)) := by rw [nI_16, nI_add, nI_add, Nat.add_assoc]
        have e2 : nI x * 64 + nI p = nI (x * 64 + p) := by rw [nI_16, nI_add]
        have v1 : M.1 6 (nI (y * 64 + (pS P y - pS P x + p))).toNatClampNeg = nI (pO P y (pS P y - pS P x + p)) := by
          rw [nI_clamp (by omega)]
          exact hO y hy _ (by omega)
        have v2 : M.1 6 (nI (x * 64 + p)).toNatClampNeg = nI (pO P x p) := by
          rw [nI_clamp (by omega)]
          exact hO x hx _ (by omega)
        have b1 := hw.2.1 y hy (pS P y - pS P x + p) (by omega)
        have b2' := hw.2.1 x hx p (by omega)
        refine xF_go o_La_endsWith [23] 60 (fun K hK => ?_)
        repeat' ((conv => whnf); first | refine ⟨fun h => ?_, fun h => ?_⟩ | refine ⟨?_, ?_⟩ | refine hK _ _ _ _ ?_)
        · exact vp_in_nI hx (by decide)
        · have h0 : ¬ nI p < M.1 34 (nI x).toNatClampNeg := by assumption
          rw [vx, nI_ltI (by omega) (by omega)] at h0
          exact absurd hp h0
        · rw [e1]; exact vp_in_nI (by show _ < 1536; omega) (by decide)
        · rw [e2]; exact vp_in_nI (by show _ < 1536; omega) (by decide)
        · have h0 := (show M.1 6 (nI y * 64 + nI (pS P y - pS P x) + nI p).toNatClampNeg = M.1 6 (nI x * 64 + nI p).toNatClampNeg from by assumption)
          rw [e1, e2, v1, v2] at h0
          have h1 := nI_inj (by omega) (by omega) h0
          rw [nI_1]
          refine next _ (fun p' hp' => ?_)
          by_cases e : p' = p
          · rw [e]; exact h1
          · exact hI p' (by omega)
        · have h0 := (show ¬ M.1 6 (nI y * 64 + nI (pS P y - pS P x) + nI p).toNatClampNeg = M.1 6 (nI x * 64 + nI p).toNatClampNeg from by assumption)
          rw [e1, e2, v1, v2] at h0
          refine xF_zret o_La_endsWith rfl rfl (Or.inl rfl) ?_
          refine hQ _ _ ⟨rfl, ?_⟩
          rw [tb_f.mpr (fun z => h0 (by rw [z.2 p hp]))]
          rfl
      · intro z hI
        refine xF_go o_La_endsWith [23] 60 (fun K hK => ?_)
        repeat' ((conv => whnf); first | refine ⟨fun h => ?_, fun h => ?_⟩ | refine ⟨?_, ?_⟩ | refine hK _ _ _ _ ?_)
        · exact vp_in_nI hx (by decide)
        · refine xF_zret o_La_endsWith rfl rfl (Or.inr rfl) ?_
          refine hQ _ _ ⟨rfl, ?_⟩
          rw [tb_t.mpr ⟨hle, hI⟩]
          rfl
        all_goals
          have h0 : nI (pS P x) < M.1 34 (nI x).toNatClampNeg := by assumption
          rw [vx, nI_ltI (by omega) (by omega)] at h0
          exact absurd h0 (Nat.lt_irrefl _)
    · have h0 := (show M.1 34 (nI y).toNatClampNeg - M.1 34 (nI x).toNatClampNeg < 0 from by assumption)
      rw [vy, vx, esub] at h0
      exact absurd h0 (nI_pos (by omega))
  · have hneg : nI (pS P y) - nI (pS P x) < 0 := by
      have e : nI (pS P y) - nI (pS P x) = - nI (pS P x - pS P y) := by
        rw [show nI (pS P x - pS P y) = nI (pS P x) - nI (pS P y) from (pk_sub (by omega)).symm]
        grind
      rw [e]
      have h1 : nI 0 < nI (pS P x - pS P y) := nI_lt (by omega) (by omega)
      have h2 : nI (pS P x - pS P y) ≤ nI 64 := nI_le (by omega) (by omega)
      have h1' : (0 : Int32) < nI (pS P x - pS P y) := h1
      have h2' : nI (pS P x - pS P y) ≤ 64 := h2
      grind
    refine xF_go o_La_endsWith [23] 60 (fun K hK => ?_)
    repeat' ((conv => whnf); first | refine ⟨fun h => ?_, fun h => ?_⟩ | refine ⟨?_, ?_⟩ | refine hK _ _ _ _ ?_)
    · exact vp_in_nI hy (by decide)
    · exact vp_in_nI hx (by decide)
    · have h0 := (show ¬ M.1 34 (nI y).toNatClampNeg - M.1 34 (nI x).toNatClampNeg < 0 from by assumption)
      rw [vy, vx] at h0
      exact absurd hneg h0
    · refine xF_zret o_La_endsWith rfl rfl (Or.inl rfl) ?_
      refine hQ _ _ ⟨rfl, ?_⟩
      rw [tb_f.mpr (fun z => hle z.1)]
      rfl
/-- rows below k are joined; of row k those below n -/
def jI (P : sP) (T : Nat → Prop) (M0 : xMe) (k n : Nat) (M : xMe) : Prop := xfr [35, 38] M0 M ∧ (∀ j, j < 24 → M.1 38 j = oI (if j < n then sfn P T (k + 1) j else sfn P T k j)) ∧ (∀ j, j < 24 → M.1 35 j = nI (if j < k then aln P T j else if tb (j = k ∧ sts P T k) then amx P T k n else pA P j))
theorem E_LjoinAlike (P : sP) (hw : wP P) (T : Nat → Prop) (hT : ∀ j, T j → j < 24 ∧ 0 < pS P j) (M : xMe) (h34 : c34 P M) (hO : cO P M) (h37 : c36 37 T M) (h38 : ∀ k, k < 24 → M.1 38 k = -1) (h35 : ∀ k, k < 24 → M.1 35 k = nI (pA P k)) : xE l G y_La_joinAlike [.ref 30] M (fun r M' => r = none ∧ xfr [35, 38] M M' ∧ c38 38 (sfr P T) M' ∧ (∀ k, k < 24 → M'.1 35 k = nI (aln P T k))) := by
  refine xE_cps (fun Q hQ => ?_)
  refine xE_of [some (.ref 30), none, none] (by decide +kernel) (Nat.le_of_ble_eq_true rfl) rfl ?_
  refine xF_go o_La_joinAlike [2] 60 (fun K hK => ?_)
  repeat' ((conv => whnf); first | refine ⟨fun h => ?_, fun h => ?_⟩ | refine ⟨?_, ?_⟩ | refine hK _ _ _ _ ?_)
  clear hK K
  refine loopN2 (σ := xMe) (τ := Option Value) 24 (fun k M1 _ => xfr [35, 38] M M1 ∧ (∀ j, j < 24 → M1.1 38 j = oI (sfn P T k j)) ∧ (∀ j, j < 24 → M1.1 35 j = nI (if j < k then aln P T j else pA P j))) (fun k M1 x => xF l G y_La_joinAlike 2 [some (.ref 30), some (.int (nI k)), x] [] M1 Q) ?_ ?_ 24 0 rfl M none ⟨xfr.rf, fun j hj => by rw [h38 j hj]; rfl, fun j hj => by rw [if_neg (by omega)]; exact h35 j hj⟩
  · intro k hk M1 x hI next
    obtain ⟨hf, hj38, hj35⟩ := hI
    have hkk : sfn P T k k = sfr P T k := sfn_k (Nat.le_refl _)
    have fin1 : ∀ M2 z, xfr [35, 38] M M2 → (∀ j, j < 24 → M2.1 38 j = oI (sfn P T (k + 1) j)) → (∀ j, j < 24 → M2.1 35 j = nI (if j < k then aln P T j else if tb (j = k ∧ sts P T k) then amx P T k 24 else pA P j)) → xF l G y_La_joinAlike 92 [some (.ref 30), some (.int (nI k)), z] [] M2 Q := by
      intro M2 z g1 g2 g3
      refine xF_go o_La_joinAlike [2] 60 (fun K hK => ?_)
      repeat' ((conv => whnf); first | refine ⟨fun h => ?_, fun h => ?_⟩ | refine ⟨?_, ?_⟩ | refine hK _ _ _ _ ?_)
      rw [nI_1]
      refine next _ _ ⟨g1, g2, fun j hj => (g3 j hj).trans (congrArg nI ?_)⟩
      by_cases e : j < k
      · rw [if_pos e, if_pos (by omega)]
      · rw [if_neg e]
        by_cases e2 : j = k
        · subst e2
          rw [if_pos (c := j < j + 1) (by omega)]
          unfold aln
          by_cases e3 : sts P T j
          · rw [if_tb ⟨rfl, e3⟩, e3.2]
            rfl
          · rw [if_nt (fun y => e3 y.2)]
            cases e4 : sfr P T j with
            | some i => rfl
            | none =>
              have hnT : ¬ T j := fun y => e3 ⟨y, e4⟩
              show pA P j = amx P T j 24
              have : ∀ n, amx P T j n = pA P j := by
                intro n
                induction n with
                | zero => rfl
                | succ n ih => rw [amx_no (fun y => hnT y.2.1), ih]
              rw [this]
        · rw [if_nt (fun y => e2 y.1), if_neg (by omega)]
    by_cases hst : sts P T k
    · -- the row stands
      have hcl : (nI k).toNatClampNeg = k := nI_clamp (by omega)
      refine xF_go o_La_joinAlike [2, 12] 60 (fun K hK => ?_)
      repeat' ((conv => whnf); first | refine ⟨fun h => ?_, fun h => ?_⟩ | refine ⟨?_, ?_⟩ | refine hK _ _ _ _ ?_)
      · exact absurd (nI_lt (b := 24) hk (by decide)) h
      · clear hK K
        rw [nI_1]
        refine loopN (σ := xMe) 24 (fun n M2 => k < n ∧ jI P T M k n M2) (fun n M2 => xF l G y_La_joinAlike 12 [some (.ref 30), some (.int (nI k)), some (.int (nI n))] [] M2 Q) ?_ ?_ (24 - (k + 1)) (k + 1) (by omega) M1 ⟨by omega, hf, fun j hj => (hj38 j hj).trans (congrArg oI ?_), fun j hj => (hj35 j hj).trans (congrArg nI ?_)⟩
        · intro n hn M2 hI2 next2
          obtain ⟨hkn, g1, g2, g3⟩ := hI2
          have hcn : (nI n).toNatClampNeg = n := nI_clamp (by omega)
          have hsk := (hw.1 k hk).1
          have hsn := (hw.1 n hn).1
          have w34 : c34 P M2 := fun j hj => by rw [(g1 34 (by decide)).1]; exact h34 j hj
          have wO : cO P M2 := fun j hj p hp => by rw [(g1 6 (by decide)).1]; exact hO j hj p hp
          have w37 : c36 37 T M2 := fun j hj => by rw [(g1 37 (by decide)).1]; exact h37 j hj
          have vk : M2.1 34 (nI k).toNatClampNeg = nI (pS P k) := by rw [hcl]; exact w34 k hk
          have vn : M2.1 34 (nI n).toNatClampNeg = nI (pS P n) := by rw [hcn]; exact w34 n hn
          have ek : M2.1 38 k = oI none := by
            rw [g2 k hk, if_pos hkn, sfn_k (by omega), hst.2]
          have en : M2.1 38 n = oI (sfn P T k n) := by rw [g2 n hn, if_neg (Nat.lt_irrefl _)]
          -- nothing changes at n
          have skip : ¬ alk P T k n → xF l G y_La_joinAlike 86 [some (.ref 30), some (.int (nI k)), some (.int (nI n))] [] M2 Q := by
            intro hna
            refine xF_go o_La_joinAlike [12] 60 (fun K hK => ?_)
            repeat' ((conv => whnf); first | refine ⟨fun h => ?_, fun h => ?_⟩ | refine ⟨?_, ?_⟩ | refine hK _ _ _ _ ?_)
            rw [nI_1]
            refine next2 _ ⟨by omega, g1, fun j hj => (g2 j hj).trans (congrArg oI ?_), fun j hj => (g3 j hj).trans (congrArg nI ?_)⟩
            · by_cases e : j = n
              · subst e
                rw [if_neg (Nat.lt_irrefl _), if_pos (by omega), sfn_no (fun y => hna y.2)]
              · by_cases e2 : j < n
                · rw [if_pos e2, if_pos (by omega)]
                · rw [if_neg e2, if_neg (by omega)]
            · rw [amx_no (fun y => hna y.2)]
          refine xF_go o_La_joinAlike [12, 92] 60 (fun K hK => ?_)
          repeat' ((conv => whnf); first | refine ⟨fun h => ?_, fun h => ?_⟩ | refine ⟨?_, ?_⟩ | refine hK _ _ _ _ ?_)
          · exact absurd (nI_lt (b := 24) hn (by decide)) h
          · refine xF_callV o_La_joinAlike [.int (nI k)] rfl z_La_standsStill i_La_standsStill v_La_standsStill l_La_130 rfl ⟨⟨by decide, by decide⟩, rfl, rfl⟩ (Nat.le_of_ble_eq_true rfl) rfl rfl rfl (E_LstandsStill l G T k hk none (fun d e => by cases e) M2 (w37 k hk) ek) ?_
            rintro v M' ⟨eM, rfl⟩; obtain rfl := eM.symm
            rw [tb_t.mpr ⟨hst.1, rfl⟩]
            clear hK K
            refine xF_go o_La_joinAlike [12, 86, 92] 60 (fun K hK => ?_)
            repeat' ((conv => whnf); first | refine ⟨fun h => ?_, fun h => ?_⟩ | refine ⟨?_, ?_⟩ | refine hK _ _ _ _ ?_)
            · exact absurd h (by decide)
            · refine xF_callV o_La_joinAlike [.int (nI n)] rfl z_La_standsStill i_La_standsStill v_La_standsStill l_La_130 rfl ⟨⟨by decide, by decide⟩, rfl, rfl⟩ (Nat.le_of_ble_eq_true rfl) rfl rfl rfl (E_LstandsStill l G T n hn (sfn P T k n) (fun d e => by have := sfn_lt e; omega) M2 (w37 n hn) en) ?_
              rintro v M' ⟨eM, rfl⟩; obtain rfl := eM.symm
              clear hK K
              by_cases hs2 : T n ∧ sfn P T k n = none
              · rw [tb_t.mpr hs2]
                refine xF_go o_La_joinAlike [12, 86, 92] 60 (fun K hK => ?_)
                repeat' ((conv => whnf); first | refine ⟨fun h => ?_, fun h => ?_⟩ | refine ⟨?_, ?_⟩ | refine hK _ _ _ _ ?_)
                · exact absurd h (by decide)
                · exact vp_in_nI hn (by decide)
                · exact vp_in_nI hk (by decide)
                · have h0 := (show ¬ M2.1 34 (nI n).toNatClampNeg = M2.1 34 (nI k).toNatClampNeg from by assumption)
                  rw [vk, vn] at h0
                  exact skip (fun y => h0 (by rw [y.2.2.1]))
                · have h0 := (show M2.1 34 (nI n).toNatClampNeg = M2.1 34 (nI k).toNatClampNeg from by assumption)
                  rw [vk, vn] at h0
                  have hsz : pS P n = pS P k := nI_inj (by omega) (by omega) h0
                  refine xF_callV o_La_joinAlike [.int (nI k), .int (nI n)] rfl z_La_endsWith i_La_endsWith v_La_endsWith l_La_133 rfl ⟨⟨by decide, by decide⟩, rfl, rfl⟩ (Nat.le_of_ble_eq_true rfl) rfl rfl rfl (E_LendsWith l G P hw k n hk hn M2 w34 wO) ?_
                  rintro v M' ⟨eM, rfl⟩; obtain rfl := eM.symm
                  clear hK K
                  by_cases hen : ens P k n
                  · have halk : alk P T k n := ⟨hst.1, hs2.1, hsz.symm, hen⟩
                    rw [tb_t.mpr hen]
                    refine xF_go o_La_joinAlike [12, 86, 92] 60 (fun K hK => ?_)
                    repeat' ((conv => whnf); first | refine ⟨fun h => ?_, fun h => ?_⟩ | refine ⟨?_, ?_⟩ | refine hK _ _ _ _ ?_)
                    · exact absurd (show b2 true = 0 from by assumption) (by decide)
                    · exact vp_in_nI hn (by decide)
                    · exact vp_in_nI hk (by decide)
                    · exact vp_in_nI hn (by decide)
                    · rw [hcn, hcl]
                      have e35k : M2.1 35 k = nI (amx P T k n) := by rw [g3 k hk, if_neg (Nat.lt_irrefl _), if_tb ⟨rfl, hst⟩]
                      have e35n : M2.1 35 n = nI (pA P n) := by rw [g3 n hn, if_neg (by omega), if_nt (fun y => by have := y.1; omega)]
                      have l1 := amx_le hw hT hst.1 n
                      have l2 := (hw.1 n hn).2.2 (hT n hs2.1).2
                      rw [show (xsI M2 38 (upd (M2.1 38) n (nI k))).1 35 = M2.1 35 from rfl, e35k, e35n]
                      refine xF_callS o_La_joinAlike [.int (nI (amx P T k n)), .int (nI (pA P n))] rfl z_JM_max s_JM_max l_La_137 rfl ⟨⟨by decide, by decide⟩, rfl, rfl⟩ (Nat.le_of_ble_eq_true rfl) rfl (E_max l G (nI (amx P T k n)) (nI (pA P n)) _) ?_
                      rintro v M3 ⟨rfl, rfl⟩
                      clear hK K
                      have emax : (if nI (amx P T k n) ≤ nI (pA P n) then nI (pA P n) else nI (amx P T k n)) = nI (max (amx P T k n) (pA P n)) := by
                        by_cases e : amx P T k n ≤ pA P n
                        · rw [if_pos (nI_le e (by omega)), Nat.max_eq_right e]
                        · rw [if_neg (fun z => e ((nI_leI (by omega) (by omega)).mp z)), Nat.max_eq_left (by omega)]
                      rw [emax]
                      refine xF_go o_La_joinAlike [12] 60 (fun K hK => ?_)
                      repeat' ((conv => whnf); first | refine ⟨fun h => ?_, fun h => ?_⟩ | refine ⟨?_, ?_⟩ | refine hK _ _ _ _ ?_)
                      · exact vp_in_nI hk (by decide)
                      · rw [hcl, nI_1]
                        refine next2 _ ⟨by omega, (g1.I (by simp)).I (by simp), fun j hj => ?_, fun j hj => ?_⟩
                        · show upd (M2.1 38) n (nI k) j = _
                          by_cases e : j = n
                          · subst e
                            rw [upd_s, if_pos (by omega), sfn_new hs2.2 ⟨hkn, halk⟩]
                            rfl
                          · rw [upd_n e, g2 j hj]
                            by_cases e2 : j < n
                            · rw [if_pos e2, if_pos (by omega)]
                            · rw [if_neg e2, if_neg (by omega)]
                        · show upd (M2.1 35) k (nI (max (amx P T k n) (pA P n))) j = _
                          by_cases e : j = k
                          · subst e
                            rw [upd_s, if_neg (Nat.lt_irrefl _), if_tb ⟨rfl, hst⟩, amx_new ⟨hkn, halk⟩]
                          · rw [upd_n e, g3 j hj, if_nt (p := j = k ∧ sts P T k) (fun y => e y.1), if_nt (p := j = k ∧ sts P T k) (fun y => e y.1)]
                  · rw [tb_f.mpr hen]
                    refine xF_go o_La_joinAlike [12, 86, 92] 60 (fun K hK => ?_)
                    repeat' ((conv => whnf); first | refine ⟨fun h => ?_, fun h => ?_⟩ | refine ⟨?_, ?_⟩ | refine hK _ _ _ _ ?_)
                    · exact skip (fun y => hen y.2.2.2)
                    all_goals exact absurd rfl (show ¬ b2 false = 0 from by assumption)
              · rw [tb_f.mpr hs2]
                refine xF_go o_La_joinAlike [12, 86, 92] 60 (fun K hK => ?_)
                repeat' ((conv => whnf); first | refine ⟨fun h => ?_, fun h => ?_⟩ | refine ⟨?_, ?_⟩ | refine hK _ _ _ _ ?_)
                · exact skip (fun y => hs2 ⟨y.2.1, sfn_st hst y⟩)
                all_goals exact absurd rfl (show ¬ b2 false = 0 from by assumption)
        · intro M2 hI2
          obtain ⟨hkn, g1, g2, g3⟩ := hI2
          refine xF_go o_La_joinAlike [12, 92] 60 (fun K hK => ?_)
          repeat' ((conv => whnf); first | refine ⟨fun h => ?_, fun h => ?_⟩ | refine ⟨?_, ?_⟩ | refine hK _ _ _ _ ?_)
          · exact fin1 M2 _ g1 (fun j hj => by rw [g2 j hj, if_pos hj]) g3
          all_goals exact absurd (show nI 24 < nI 24 from by assumption) (nI_nlt (by omega) (by omega))
        · by_cases e : j < k + 1
          · rw [if_pos e, sfn_k (by omega), sfn_k (by omega)]
          · rw [if_neg e]
        · by_cases e : j < k
          · rw [if_pos e, if_pos e]
          · rw [if_neg e, if_neg e]
            by_cases e2 : j = k
            · subst e2
              rw [if_tb ⟨rfl, hst⟩, amx_lo _ (Nat.le_refl _)]
            · rw [if_nt (fun y => e2 y.1)]
    · have done : ∀ z, xF l G y_La_joinAlike 92 [some (.ref 30), some (.int (nI k)), z] [] M1 Q := fun z => fin1 M1 z hf (fun j hj => by rw [hj38 j hj, sfn_skip hst]) (fun j hj => by rw [hj35 j hj, if_nt (p := j = k ∧ sts P T k) (fun y => hst y.2)])
      have w37 : c36 37 T M1 := fun j hj => by rw [(hf 37 (by decide)).1]; exact h37 j hj
      refine xF_go o_La_joinAlike [2, 92] 60 (fun K hK => ?_)
      repeat' ((conv => whnf); first | refine ⟨fun h => ?_, fun h => ?_⟩ | refine ⟨?_, ?_⟩ | refine hK _ _ _ _ ?_)
      · exact absurd (nI_lt (b := 24) hk (by decide)) h
      · exact done _
      · refine xF_callV o_La_joinAlike [.int (nI k)] rfl z_La_standsStill i_La_standsStill v_La_standsStill l_La_130 rfl ⟨⟨by decide, by decide⟩, rfl, rfl⟩ (Nat.le_of_ble_eq_true rfl) rfl rfl rfl (E_LstandsStill l G T k hk (sfn P T k k) (fun d e => by have := sfn_lt e; omega) M1 (w37 k hk) (hj38 k hk)) ?_
        rintro v M' ⟨eM, rfl⟩; obtain rfl := eM.symm
        rw [tb_f.mpr (fun z => hst ⟨z.1, hkk ▸ z.2⟩)]
        clear hK K
        refine xF_go o_La_joinAlike [2, 92] 60 (fun K hK => ?_)
        repeat' ((conv => whnf); first | refine ⟨fun h => ?_, fun h => ?_⟩ | refine ⟨?_, ?_⟩ | refine hK _ _ _ _ ?_)
        · exact done _
        all_goals exact absurd rfl (show ¬ b2 false = 0 from by assumption)
  · intro M1 x hI
    obtain ⟨hf, hj38, hj35⟩ := hI
    refine xF_go o_La_joinAlike [2] 60 (fun K hK => ?_)
    repeat' ((conv => whnf); first | refine ⟨fun h => ?_, fun h => ?_⟩ | refine ⟨?_, ?_⟩ | refine hK _ _ _ _ ?_)
    · refine xF_vret o_La_joinAlike rfl rfl ?_
      refine hQ _ _ ⟨rfl, hf, fun k hk => by rw [hj38 k hk, sfn_k (by omega)], fun k hk => by rw [hj35 k hk, if_pos hk]⟩
    all_goals exact absurd (show nI 24 < nI 24 from by assumption) (nI_nlt (by omega) (by omega))
end XL2
