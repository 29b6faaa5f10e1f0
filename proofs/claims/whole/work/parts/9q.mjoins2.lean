/-! the reference: joins, its last two loops -/
/-- cells S and of the reference's own fields only Z differ -/
def vfr (S Z : List Nat) (M M' : xMe) : Prop := xfr (50 :: S) M M' ∧ ∀ s, s ∉ Z → M'.1 50 s = M.1 50 s
theorem vfr.rf {S Z : List Nat} {M : xMe} : vfr S Z M M := ⟨xfr.rf, fun _ _ => rfl⟩
theorem vfr.of {S Z : List Nat} {M M' : xMe} (h : xfr S M M') (h5 : 50 ∉ S) : vfr S Z M M' := ⟨h.mono (fun c hc => List.mem_cons_of_mem _ hc), fun s _ => by rw [(h 50 h5).1]⟩
theorem vfr.tr {S Z S' Z' : List Nat} {M M' M'' : xMe} (h : vfr S Z M M') (h' : vfr S' Z' M' M'') (hs : ∀ c, c ∈ S' → c ∈ S) (hz : ∀ c, c ∈ Z' → c ∈ Z) : vfr S Z M M'' := ⟨h.1.tr h'.1 (fun c hc => (List.mem_cons.mp hc).elim (fun e => e ▸ List.mem_cons_self) (fun e => List.mem_cons_of_mem _ (hs c e))), fun s hs' => (h'.2 s (fun z => hs' (hz s z))).trans (h.2 s hs')⟩
theorem vfr.mono {S Z S' Z' : List Nat} {M M' : xMe} (h : vfr S Z M M') (hs : ∀ c, c ∈ S → c ∈ S') (hz : ∀ c, c ∈ Z → c ∈ Z') : vfr S' Z' M M' := ⟨h.1.mono (fun c hc => (List.mem_cons.mp hc).elim (fun e => e ▸ List.mem_cons_self) (fun e => List.mem_cons_of_mem _ (hs c e))), fun s hs' => h.2 s (fun z => hs' (hz s z))⟩
theorem vfr.I {S Z : List Nat} {M M' : xMe} {c : Nat} {f : Nat → Int32} (h : vfr S Z M M') (hc : c ∈ S) (h5 : ¬ c = 50) : vfr S Z M (xsI M' c f) := ⟨h.1.I (List.mem_cons_of_mem _ hc), fun s hs => by rw [xsI_1, if_neg (fun z => h5 z.symm)]; exact h.2 s hs⟩
theorem vfr.F {S Z : List Nat} {M M' : xMe} {s : Nat} {x : Int32} (h : vfr S Z M M') (hs : s ∈ Z) : vfr S Z M (xsI M' 50 (upd (M'.1 50) s x)) := ⟨h.1.I List.mem_cons_self, fun t ht => by rw [xsI_s, upd_n (fun z : t = s => ht (by rw [z]; exact hs))]; exact h.2 t ht⟩
theorem vfr.at {S Z : List Nat} {M M' : xMe} (h : vfr S Z M M') {c : Nat} (hc : c ∉ 50 :: S) : M'.1 c = M.1 c := (h.1 c hc).1
theorem vfr.P {P : sP} {S Z : List Nat} {M M' : xMe} (h : vfr S Z M M') (hS : ∀ c, c ∈ S → c ∉ [51, 52, 53, 54, 55, 56, 57, 58, 59, 60, 61, 62, 63]) (hZ : 14 ∉ Z) (hM : mP P M) : mP P M' := mP_fr h.1 (fun c hc => (List.mem_cons.mp hc).elim (fun e => by subst e; decide) (hS c)) (h.2 14 hZ) hM
section XMJ2
variable (l : Launch) (G : xG)
theorem L_joins3 (P : sP) (hw : wP P) (T : Nat → Prop) (hT : ∀ j, T j → j < 24 ∧ 0 < pS P j) (M : xMe) (hP : mP P M) (h90 : c36 90 T M) (h86 : c38 86 (sfr P T) M) (h88 : ∀ k, k < 24 → M.1 88 k = nI (aln P T k)) (h87 : ∀ k, k < 24 → M.1 87 k = -1) (h91 : ∀ k, k < 24 → M.1 91 k = 0) (Q : Option Value → xMe → Prop) (hQ : ∀ M1 x y, xfr [87, 91] M M1 → c38 87 (ouf P T) M1 → xF l G y_Mo_joins 410 [some (.ref 50), some (.int (nI 24)), x, y] [] M1 Q) (x0 : Option Value) : xF l G y_Mo_joins 227 [some (.ref 50), some (.int (nI 0)), x0, none] [] M Q := by
  refine loopN2 (σ := xMe) (τ := Option Value × Option Value) 24 (fun k M1 _ => xfr [87, 91] M M1 ∧ c38 87 (oun P T k) M1 ∧ c36 91 (fun y => ∃ t, t < 24 ∧ oun P T k t = some y) M1) (fun k M1 x => xF l G y_Mo_joins 227 [some (.ref 50), some (.int (nI k)), x.1, x.2] [] M1 Q) ?_ ?_ 24 0 rfl M (x0, none) ⟨xfr.rf, h87, fun k hk => ?_⟩
  · intro k hk M1 x hI next
    obtain ⟨x2, x3⟩ := x
    obtain ⟨f1, i87, i91⟩ := hI
    show xF l G y_Mo_joins 227 [some (.ref 50), some (.int (nI k)), x2, x3] [] M1 Q
    have hcl : (nI k).toNatClampNeg = k := nI_clamp (by omega)
    have v90 : M1.1 90 (nI k).toNatClampNeg = b2 (tb (T k)) := by rw [hcl, (f1 90 (by decide)).1]; exact h90 k hk
    have v86 : M1.1 86 (nI k).toNatClampNeg = oI (sfr P T k) := by rw [hcl, (f1 86 (by decide)).1]; exact h86 k hk
    have v91 : M1.1 91 (nI k).toNatClampNeg = b2 (tb (∃ t, t < 24 ∧ oun P T k t = some k)) := by rw [hcl]; exact i91 k hk
    have hni := oI_none (o := sfr P T k) (fun d e => by have := (sfr_some.mp e).1; omega)
    have fin3 : ∀ M2 y z, xfr [87, 91] M M2 → c38 87 (oun P T (k + 1)) M2 → c36 91 (fun y => ∃ t, t < 24 ∧ oun P T (k + 1) t = some y) M2 → xF l G y_Mo_joins 404 [some (.ref 50), some (.int (nI k)), y, z] [] M2 Q := by
      intro M2 y z f2 a b
      refine xF_go o_Mo_joins [227] 60 (fun K hK => ?_)
      repeat' ((conv => whnf); first | refine ⟨fun h => ?_, fun h => ?_⟩ | refine ⟨?_, ?_⟩ | refine hK _ _ _ _ ?_)
      rw [nI_1]
      exact next _ (_, _) ⟨f2, a, b⟩
    have same : ¬ (sts P T k ∧ ¬ ∃ t, t < 24 ∧ oun P T k t = some k) → ∀ y z, xF l G y_Mo_joins 404 [some (.ref 50), some (.int (nI k)), y, z] [] M1 Q := by
      intro hn y z
      have e : oun P T (k + 1) = oun P T k := by
        funext j
        show un (oun P T k) k _ j = _
        by_cases q : j = k
        · subst q
          rw [un_s, if_nt hn, oun_hi j j (Nat.le_refl _)]
        · rw [un_n q]
      refine fin3 M1 y z f1 ?_ ?_
      · rw [e]; exact i87
      · rw [e]; exact i91
    refine xF_go o_Mo_joins [227, 266, 404, 410] 60 (fun K hK => ?_)
    repeat' ((conv => whnf); first | refine ⟨fun h => ?_, fun h => ?_⟩ | refine ⟨?_, ?_⟩ | refine hK _ _ _ _ ?_)
    · exact absurd (nI_lt (b := 24) hk (by decide)) h
    · exact vp_in_nI hk (by decide)
    · have h0 : M1.1 90 (nI k).toNatClampNeg = 0 := by assumption
      rw [v90, b2_0, tb_f] at h0
      exact same (fun z => h0 z.1.1) _ _
    · exact vp_in_nI hk (by decide)
    · have h0 : ¬ M1.1 86 (nI k).toNatClampNeg = -1 := by assumption
      rw [v86, hni] at h0
      exact same (fun z => h0 z.1.2) _ _
    · exact vp_in_nI hk (by decide)
    · have h0 : M1.1 91 (nI k).toNatClampNeg = 0 := by assumption
      rw [v91, b2_0, tb_f] at h0
      have h1 : ¬ M1.1 90 (nI k).toNatClampNeg = 0 := by assumption
      rw [v90, b2_ne, tb_t] at h1
      have h2 : M1.1 86 (nI k).toNatClampNeg = -1 := by assumption
      rw [v86, hni] at h2
      have hst : sts P T k ∧ ¬ ∃ t, t < 24 ∧ oun P T k t = some k := ⟨⟨h1, h2⟩, h0⟩
      have hkk : oun P T k k = none := oun_hi k k (Nat.le_refl _)
      have enew : oun P T (k + 1) = un (oun P T k) k (lst (fit P T (oun P T k) k) 24) := by
        show un (oun P T k) k _ = _
        rw [if_tb hst]
      clear hK K
      -- the state at y
      have out : ∀ M2 y z o, o = lst (fit P T (oun P T k) k) 24 → xfr [87, 91] M M2 → c38 87 (un (oun P T k) k o) M2 → c36 91 (fun y => (∃ t, t < 24 ∧ oun P T k t = some y) ∨ o = some y) M2 → xF l G y_Mo_joins 404 [some (.ref 50), some (.int (nI k)), y, z] [] M2 Q := by
        intro M2 y z o eo f2 a b
        subst eo
        refine fin3 M2 y z f2 (by rw [enew]; exact a) (fun j hj => (b j hj).trans (congrArg b2 (tb_c ?_)))
        rw [enew]
        constructor
        · rintro (⟨t, t1, t2⟩ | z)
          · refine ⟨t, t1, ?_⟩
            rw [un_n (fun e => by rw [e, hkk] at t2; cases t2)]
            exact t2
          · exact ⟨k, hk, by rw [un_s]; exact z⟩
        · rintro ⟨t, t1, t2⟩
          by_cases e : t = k
          · subst e
            rw [un_s] at t2
            exact Or.inr t2
          · rw [un_n e] at t2
            exact Or.inl ⟨t, t1, t2⟩
      refine loopN2 (σ := xMe) (τ := Option Value) 24 (fun y M2 _ => xfr [87, 91] M M2 ∧ c38 87 (un (oun P T k) k (lst (fit P T (oun P T k) k) y)) M2 ∧ c36 91 (fun z => (∃ t, t < 24 ∧ oun P T k t = some z) ∨ lst (fit P T (oun P T k) k) y = some z) M2) (fun y M2 z => xF l G y_Mo_joins 266 [some (.ref 50), some (.int (nI k)), some (.int (nI y)), z] [] M2 Q) ?_ ?_ 24 0 rfl M1 x3 ⟨f1, fun j hj => (i87 j hj).trans (congrArg oI ?_), fun j hj => (i91 j hj).trans (congrArg b2 (tb_c ⟨Or.inl, fun z => z.elim id (fun y => by cases y)⟩))⟩
      · intro y hy M2 z hI2 next2
        obtain ⟨f2, a87, a91⟩ := hI2
        have hcy : (nI y).toNatClampNeg = y := nI_clamp (by omega)
        have wP2 : mP P M2 := mP_fr f2 (by decide) (by rw [(f2 50 (by decide)).1]) hP
        have hsk := (hw.1 k hk).1
        have hsy := (hw.1 y hy).1
        have u90 : M2.1 90 (nI y).toNatClampNeg = b2 (tb (T y)) := by rw [hcy, (f2 90 (by decide)).1]; exact h90 y hy
        have u86 : M2.1 86 (nI y).toNatClampNeg = oI (sfr P T y) := by rw [hcy, (f2 86 (by decide)).1]; exact h86 y hy
        have u51k : M2.1 51 (nI k).toNatClampNeg = nI (pS P k) := by rw [hcl]; exact (wP2.1 k hk).1
        have u51 : M2.1 51 (nI y).toNatClampNeg = nI (pS P y) := by rw [hcy]; exact (wP2.1 y hy).1
        have u88k : M2.1 88 (nI k).toNatClampNeg = nI (aln P T k) := by rw [hcl, (f2 88 (by decide)).1]; exact h88 k hk
        have u88 : M2.1 88 (nI y).toNatClampNeg = nI (aln P T y) := by rw [hcy, (f2 88 (by decide)).1]; exact h88 y hy
        have u87k : M2.1 87 (nI k).toNatClampNeg = oI (lst (fit P T (oun P T k) k) y) := by rw [hcl, a87 k hk, un_s]
        have hnk := oI_none (o := lst (fit P T (oun P T k) k) y) (fun d e => by have := ((lst_some y d).mp e).1; omega)
        have hny := oI_none (o := sfr P T y) (fun d e => by have := (sfr_some.mp e).1; omega)
        have hno := oI_none (o := oun P T k y) (fun d e => by have := oun_24 k y d e; omega)
        have ak := aln_one hw hT hk (hT k h1).2
        -- nothing at y
        have on : lst (fit P T (oun P T k) k) y = none → ¬ fit P T (oun P T k) k y → ∀ z, xF l G y_Mo_joins 398 [some (.ref 50), some (.int (nI k)), some (.int (nI y)), z] [] M2 Q := by
          intro hn0 hnf z
          have e : lst (fit P T (oun P T k) k) (y + 1) = lst (fit P T (oun P T k) k) y := by
            rw [lst_1, hn0]
            show (if tb (fit P T (oun P T k) k y) = true then some y else none) = none
            rw [if_nt hnf]
          refine xF_go o_Mo_joins [266, 404] 60 (fun K hK => ?_)
          repeat' ((conv => whnf); first | refine ⟨fun h => ?_, fun h => ?_⟩ | refine ⟨?_, ?_⟩ | refine hK _ _ _ _ ?_)
          rw [nI_1]
          refine next2 _ _ ⟨f2, ?_, ?_⟩
          · rw [e]; exact a87
          · rw [e]; exact a91
        -- whether it may be
        have may : lst (fit P T (oun P T k) k) y = none → ∀ b : Bool, (b = true ↔ (sts P T y ∧ pS P k < pS P y ∧ oun P T k y = none ∧ ens P y k)) → xF l G y_Mo_joins 340 [some (.ref 50), some (.int (nI k)), some (.int (nI y)), z] [.int (b2 b)] M2 Q := by
          intro hn0 b hb
          cases b with
          | false =>
            refine xF_go o_Mo_joins [266, 398, 404] 60 (fun K hK => ?_)
            repeat' ((conv => whnf); first | refine ⟨fun h => ?_, fun h => ?_⟩ | refine ⟨?_, ?_⟩ | refine hK _ _ _ _ ?_)
            · exact on hn0 (fun w => by have := hb.mpr ⟨w.1, w.2.2.1, w.2.1, w.2.2.2.1⟩; cases this) _
            all_goals exact absurd rfl (show ¬ b2 false = 0 from by assumption)
          | true =>
            obtain ⟨g1, g2, g3, g4⟩ := hb.mp rfl
            have ay := aln_one hw hT hy (hT y g1.1).2
            have er1 : M2.1 88 (nI y).toNatClampNeg - M2.1 88 (nI y).toNatClampNeg / M2.1 88 (nI k).toNatClampNeg * M2.1 88 (nI k).toNatClampNeg = nI (aln P T y % aln P T k) := by
              rw [u88, u88k]
              exact pk_rem (by omega) (by omega) (by omega)
            have esub : nI (pS P y) - nI (pS P k) = nI (pS P y - pS P k) := pk_sub (by omega)
            have er2 : M2.1 51 (nI y).toNatClampNeg - M2.1 51 (nI k).toNatClampNeg - (M2.1 51 (nI y).toNatClampNeg - M2.1 51 (nI k).toNatClampNeg) / M2.1 88 (nI k).toNatClampNeg * M2.1 88 (nI k).toNatClampNeg = nI ((pS P y - pS P k) % aln P T k) := by
              rw [u51, u51k, u88k, esub]
              exact pk_rem (by omega) (by omega) (by omega)
            have hm1 : aln P T y % aln P T k < 9 := by have := Nat.mod_lt (aln P T y) (show 0 < aln P T k by omega); omega
            have hm2 : (pS P y - pS P k) % aln P T k < 9 := by have := Nat.mod_lt (pS P y - pS P k) (show 0 < aln P T k by omega); omega
            have hk0 : ¬ M2.1 88 (nI k).toNatClampNeg = 0 := by
              rw [u88k]
              intro w
              have : aln P T k = 0 := nI_inj (a := aln P T k) (b := 0) (by omega) (by omega) w
              omega
            refine xF_go o_Mo_joins [266, 398, 404] 60 (fun K hK => ?_)
            repeat' ((conv => whnf); first | refine ⟨fun h => ?_, fun h => ?_⟩ | refine ⟨?_, ?_⟩ | refine hK _ _ _ _ ?_)
            · exact absurd (show b2 true = 0 from by assumption) (by decide)
            · exact vp_in_nI hy (by decide)
            · exact vp_in_nI hk (by decide)
            · exact hk0
            · have h3 := (show ¬ M2.1 88 (nI y).toNatClampNeg - M2.1 88 (nI y).toNatClampNeg / M2.1 88 (nI k).toNatClampNeg * M2.1 88 (nI k).toNatClampNeg = 0 from by assumption)
              rw [er1] at h3
              exact on hn0 (fun w => h3 (by rw [w.2.2.2.2.1]; rfl)) _
            · exact vp_in_nI hy (by decide)
            · exact vp_in_nI hk (by decide)
            · exact vp_in_nI hk (by decide)
            · exact hk0
            · have h3 := (show ¬ M2.1 51 (nI y).toNatClampNeg - M2.1 51 (nI k).toNatClampNeg - (M2.1 51 (nI y).toNatClampNeg - M2.1 51 (nI k).toNatClampNeg) / M2.1 88 (nI k).toNatClampNeg * M2.1 88 (nI k).toNatClampNeg = 0 from by assumption)
              rw [er2] at h3
              exact on hn0 (fun w => h3 (by rw [w.2.2.2.2.2]; rfl)) _
            · exact vp_in_nI hk (by decide)
            · exact vp_in_nI hy (by decide)
            · exact Or.inr rfl
            · have h3 := (show M2.1 88 (nI y).toNatClampNeg - M2.1 88 (nI y).toNatClampNeg / M2.1 88 (nI k).toNatClampNeg * M2.1 88 (nI k).toNatClampNeg = 0 from by assumption)
              rw [er1] at h3
              have h4 := (show M2.1 51 (nI y).toNatClampNeg - M2.1 51 (nI k).toNatClampNeg - (M2.1 51 (nI y).toNatClampNeg - M2.1 51 (nI k).toNatClampNeg) / M2.1 88 (nI k).toNatClampNeg * M2.1 88 (nI k).toNatClampNeg = 0 from by assumption)
              rw [er2] at h4
              have hfit : fit P T (oun P T k) k y := ⟨g1, g3, g2, g4, nI_inj (a := aln P T y % aln P T k) (b := 0) (by omega) (by omega) h3, nI_inj (a := (pS P y - pS P k) % aln P T k) (b := 0) (by omega) (by omega) h4⟩
              have e : lst (fit P T (oun P T k) k) (y + 1) = some y := by
                rw [lst_1, hn0]
                show (if tb (fit P T (oun P T k) k y) = true then some y else none) = some y
                rw [if_tb hfit]
              clear hK K
              refine xF_go o_Mo_joins [266, 404] 60 (fun K hK => ?_)
              repeat' ((conv => whnf); first | refine ⟨fun h => ?_, fun h => ?_⟩ | refine ⟨?_, ?_⟩ | refine hK _ _ _ _ ?_)
              rw [nI_1, hcl, hcy]
              refine next2 _ _ ⟨(f2.I (by simp)).I (by simp), fun j hj => ?_, fun j hj => ?_⟩
              · show upd (M2.1 87) k (nI y) j = _
                rw [e]
                by_cases q : j = k
                · subst q
                  rw [upd_s, un_s]
                  rfl
                · rw [upd_n q, un_n q, a87 j hj, un_n q]
              · show upd (M2.1 91) y 1 j = _
                by_cases q : j = y
                · subst q
                  rw [upd_s, tb_t.mpr (Or.inr e)]
                  rfl
                · rw [upd_n q]
                  refine (a91 j hj).trans (congrArg b2 (tb_c ?_))
                  rw [e, hn0]
                  exact ⟨fun w => Or.inl (w.elim id (fun v => by cases v)), fun w => Or.inl (w.elim id (fun v => by cases v; exact absurd rfl q))⟩
        refine xF_go o_Mo_joins [266, 340, 404] 60 (fun K hK => ?_)
        repeat' ((conv => whnf); first | refine ⟨fun h => ?_, fun h => ?_⟩ | refine ⟨?_, ?_⟩ | refine hK _ _ _ _ ?_)
        · exact absurd (nI_lt (b := 24) hy (by decide)) h
        · exact vp_in_nI hk (by decide)
        · -- found before
          have h3 : ¬ M2.1 87 (nI k).toNatClampNeg = -1 := by assumption
          rw [u87k, hnk] at h3
          cases e0 : lst (fit P T (oun P T k) k) y with
          | none => exact absurd e0 h3
          | some y0 =>
            obtain ⟨z1, z2, z3⟩ := (lst_some y y0).mp e0
            rw [e0] at a87 a91
            exact out M2 _ _ _ ((lst_some 24 y0).mpr ⟨by omega, z2, z3⟩).symm f2 a87 a91
        · exact vp_in_nI hy (by decide)
        · have h3 : M2.1 87 (nI k).toNatClampNeg = -1 := by assumption
          rw [u87k, hnk] at h3
          have h4 : M2.1 90 (nI y).toNatClampNeg = 0 := by assumption
          rw [u90, b2_0, tb_f] at h4
          exact may h3 false ⟨fun w => (by cases w), fun w => absurd w.1.1 h4⟩
        · exact vp_in_nI hy (by decide)
        · have h3 : M2.1 87 (nI k).toNatClampNeg = -1 := by assumption
          rw [u87k, hnk] at h3
          have h4 : ¬ M2.1 86 (nI y).toNatClampNeg = -1 := by assumption
          rw [u86, hny] at h4
          exact may h3 false ⟨fun w => (by cases w), fun w => absurd w.1.2 h4⟩
        · exact vp_in_nI hy (by decide)
        · exact vp_in_nI hk (by decide)
        · have h3 : M2.1 87 (nI k).toNatClampNeg = -1 := by assumption
          rw [u87k, hnk] at h3
          have h4 := (show ¬ M2.1 51 (nI k).toNatClampNeg < M2.1 51 (nI y).toNatClampNeg from by assumption)
          rw [u51, u51k, nI_ltI (by omega) (by omega)] at h4
          exact may h3 false ⟨fun w => (by cases w), fun w => absurd w.2.1 h4⟩
        · exact vp_in_nI hy (by decide)
        · have h3 : M2.1 87 (nI k).toNatClampNeg = -1 := by assumption
          rw [u87k, hnk] at h3
          have h4 := (show M2.1 51 (nI k).toNatClampNeg < M2.1 51 (nI y).toNatClampNeg from by assumption)
          rw [u51, u51k, nI_ltI (by omega) (by omega)] at h4
          have hyk : y ≠ k := fun e => by rw [e] at h4; exact absurd h4 (Nat.lt_irrefl _)
          have h5 : ¬ M2.1 87 (nI y).toNatClampNeg = -1 := by assumption
          rw [hcy, a87 y hy, un_n hyk, hno] at h5
          exact may h3 false ⟨fun w => (by cases w), fun w => absurd w.2.2.1 h5⟩
        · have h3 : M2.1 87 (nI k).toNatClampNeg = -1 := by assumption
          rw [u87k, hnk] at h3
          have h4 := (show M2.1 51 (nI k).toNatClampNeg < M2.1 51 (nI y).toNatClampNeg from by assumption)
          rw [u51, u51k, nI_ltI (by omega) (by omega)] at h4
          have hyk : y ≠ k := fun e => by rw [e] at h4; exact absurd h4 (Nat.lt_irrefl _)
          have h5 : M2.1 87 (nI y).toNatClampNeg = -1 := by assumption
          rw [hcy, a87 y hy, un_n hyk, hno] at h5
          have h6 : ¬ M2.1 90 (nI y).toNatClampNeg = 0 := by assumption
          rw [u90, b2_ne, tb_t] at h6
          have h7 : M2.1 86 (nI y).toNatClampNeg = -1 := by assumption
          rw [u86, hny] at h7
          refine xF_callV o_Mo_joins [.int (nI y), .int (nI k)] rfl z_Mo_endsWith i_Mo_endsWith v_Mo_endsWith l_Mo_264 rfl ⟨⟨by decide, by decide⟩, rfl, rfl⟩ (Nat.le_of_ble_eq_true rfl) rfl rfl rfl (E_MendsWith l G P hw M2 wP2.1 wP2.2.1 y k hy hk) ?_
          rintro v M' ⟨eM, rfl⟩; obtain rfl := eM.symm
          clear hK K
          by_cases hen : ens P y k
          · rw [tb_t.mpr hen]
            refine xF_go o_Mo_joins [266, 340, 404] 60 (fun K hK => ?_)
            repeat' ((conv => whnf); first | refine ⟨fun h => ?_, fun h => ?_⟩ | refine ⟨?_, ?_⟩ | refine hK _ _ _ _ ?_)
            · exact absurd (show b2 true = 0 from by assumption) (by decide)
            · exact may h3 true ⟨fun _ => ⟨⟨h6, h7⟩, h4, h5, hen⟩, fun _ => rfl⟩
          · rw [tb_f.mpr hen]
            refine xF_go o_Mo_joins [266, 340, 404] 60 (fun K hK => ?_)
            repeat' ((conv => whnf); first | refine ⟨fun h => ?_, fun h => ?_⟩ | refine ⟨?_, ?_⟩ | refine hK _ _ _ _ ?_)
            · exact may h3 false ⟨fun w => (by cases w), fun w => absurd w.2.2.2 hen⟩
            · exact absurd rfl (show ¬ b2 false = 0 from by assumption)
      · intro M2 z hI2
        obtain ⟨f2, a87, a91⟩ := hI2
        refine xF_go o_Mo_joins [266, 404] 60 (fun K hK => ?_)
        repeat' ((conv => whnf); first | refine ⟨fun h => ?_, fun h => ?_⟩ | refine ⟨?_, ?_⟩ | refine hK _ _ _ _ ?_)
        · exact out M2 _ _ _ rfl f2 a87 a91
        all_goals exact absurd (show nI 24 < nI 24 from by assumption) (nI_nlt (by omega) (by omega))
      · show oun P T k j = un (oun P T k) k none j
        by_cases q : j = k
        · subst q
          rw [un_s, hkk]
        · rw [un_n q]
    · have h0 : ¬ M1.1 91 (nI k).toNatClampNeg = 0 := by assumption
      rw [v91, b2_ne, tb_t] at h0
      exact same (fun z => z.2 h0) _ _
  · intro M1 x hI
    obtain ⟨x2, x3⟩ := x
    obtain ⟨f1, i87, i91⟩ := hI
    show xF l G y_Mo_joins 227 [some (.ref 50), some (.int (nI 24)), x2, x3] [] M1 Q
    refine xF_go o_Mo_joins [227, 410] 60 (fun K hK => ?_)
    repeat' ((conv => whnf); first | refine ⟨fun h => ?_, fun h => ?_⟩ | refine ⟨?_, ?_⟩ | refine hK _ _ _ _ ?_)
    · exact hQ M1 _ _ f1 i87
    all_goals exact absurd (show nI 24 < nI 24 from by assumption) (nI_nlt (by omega) (by omega))
  · rw [h91 k hk, tb_f.mpr (fun ⟨t, t1, t2⟩ => by cases t2)]
    rfl
/-- the reference's row of blocks -/
def m92 (c : Nat) (R : List Nat) (M : xMe) : Prop := M.1 50 56 = nI R.length ∧ ∀ i x, R[i]? = some x → M.1 c i = nI x
theorem L_joins4 (P : sP) (X T : Nat → Prop) (M : xMe) (h80 : c36 80 X M) (h86 : c38 86 (sfr P T) M) (h87 : c38 87 (ouf P T) M) (Q : Option Value → xMe → Prop) (hQ : ∀ M1, vfr [92] [56] M M1 → m92 92 (bls P X T 24) M1 → Q none M1) (x y : Option Value) : xF l G y_Mo_joins 410 [some (.ref 50), some (.int (nI 24)), x, y] [] M Q := by
  refine xF_go o_Mo_joins [417] 60 (fun K hK => ?_)
  repeat' ((conv => whnf); first | refine ⟨fun h => ?_, fun h => ?_⟩ | refine ⟨?_, ?_⟩ | refine hK _ _ _ _ ?_)
  clear hK K
  refine loopN (σ := xMe) 24 (fun k M1 => vfr [92] [56] M M1 ∧ m92 92 (bls P X T k) M1) (fun k M1 => xF l G y_Mo_joins 417 [some (.ref 50), some (.int (nI k)), x, y] [] M1 Q) ?_ ?_ 24 0 rfl _ ⟨vfr.rf.F (by simp), rfl, fun i x z => by simp [bls] at z⟩
  · intro k hk M1 hI next
    obtain ⟨hf, g1, g2⟩ := hI
    have hcl : (nI k).toNatClampNeg = k := nI_clamp (by omega)
    have v80 : M1.1 80 (nI k).toNatClampNeg = b2 (tb (X k)) := by rw [hcl, hf.at (by decide)]; exact h80 k hk
    have v86 : M1.1 86 (nI k).toNatClampNeg = oI (sfr P T k) := by rw [hcl, hf.at (by decide)]; exact h86 k hk
    have v87 : M1.1 87 (nI k).toNatClampNeg = oI (ouf P T k) := by rw [hcl, hf.at (by decide)]; exact h87 k hk
    have hlen := bls_len (P := P) (K := X) (T := T) k
    have hn6 := oI_none (o := sfr P T k) (fun d e => by have := (sfr_some.mp e).1; omega)
    have hn7 := oI_none (o := ouf P T k) (fun d e => by have := (ouf_some hk e).2.1; omega)
    have skip : ¬ (X k ∧ sfr P T k = none ∧ ouf P T k = none) → xF l G y_Mo_joins 472 [some (.ref 50), some (.int (nI k)), x, y] [] M1 Q := by
      intro hn
      have e : bls P X T (k + 1) = bls P X T k := if_nt hn
      refine xF_go o_Mo_joins [417] 60 (fun K hK => ?_)
      repeat' ((conv => whnf); first | refine ⟨fun h => ?_, fun h => ?_⟩ | refine ⟨?_, ?_⟩ | refine hK _ _ _ _ ?_)
      rw [nI_1]
      refine next _ ⟨hf, ?_⟩
      rw [e]
      exact ⟨g1, g2⟩
    refine xF_go o_Mo_joins [417, 472] 60 (fun K hK => ?_)
    repeat' ((conv => whnf); first | refine ⟨fun h => ?_, fun h => ?_⟩ | refine ⟨?_, ?_⟩ | refine hK _ _ _ _ ?_)
    · exact absurd (nI_lt (b := 24) hk (by decide)) h
    · exact vp_in_nI hk (by decide)
    · have h0 : M1.1 80 (nI k).toNatClampNeg = 0 := by assumption
      rw [v80, b2_0, tb_f] at h0
      exact skip (fun z => h0 z.1)
    · exact vp_in_nI hk (by decide)
    · have h0 : ¬ M1.1 86 (nI k).toNatClampNeg = -1 := by assumption
      rw [v86, hn6] at h0
      exact skip (fun z => h0 z.2.1)
    · exact vp_in_nI hk (by decide)
    · have h0 : ¬ M1.1 87 (nI k).toNatClampNeg = -1 := by assumption
      rw [v87, hn7] at h0
      exact skip (fun z => h0 z.2.2)
    · rw [g1]
      exact vp_in_nI (by show _ < 24; omega) (by decide)
    · have h0 : ¬ M1.1 80 (nI k).toNatClampNeg = 0 := by assumption
      rw [v80, b2_ne, tb_t] at h0
      have h1 : M1.1 86 (nI k).toNatClampNeg = -1 := by assumption
      rw [v86, hn6] at h1
      have h2 : M1.1 87 (nI k).toNatClampNeg = -1 := by assumption
      rw [v87, hn7] at h2
      have e : bls P X T (k + 1) = bls P X T k ++ [k] := if_tb ⟨h0, h1, h2⟩
      rw [show (xsI M1 92 (upd (M1.1 92) (M1.1 50 56).toNatClampNeg (nI k))).1 50 = M1.1 50 from rfl, g1, nI_clamp (by omega), nI_1]
      clear hK K
      refine xF_go o_Mo_joins [417] 60 (fun K hK => ?_)
      repeat' ((conv => whnf); first | refine ⟨fun h => ?_, fun h => ?_⟩ | refine ⟨?_, ?_⟩ | refine hK _ _ _ _ ?_)
      rw [nI_1]
      refine next _ ⟨(hf.I (by simp) (by decide)).F (by simp), ?_, fun i x hx => ?_⟩
      · rw [xsI_s, upd_s, e, List.length_append]
        rfl
      · show upd (M1.1 92) (bls P X T k).length (nI k) i = nI x
        rw [e] at hx
        by_cases q : i = (bls P X T k).length
        · subst q
          rw [List.getElem?_append_right (Nat.le_refl _)] at hx
          simp at hx
          rw [upd_s, hx]
        · rw [upd_n q]
          refine g2 i x ?_
          have hlt : i < (bls P X T k ++ [k]).length := (List.getElem?_eq_some_iff.mp hx).1
          rw [List.length_append] at hlt
          replace hlt : i < (bls P X T k).length + 1 := hlt
          rw [List.getElem?_append_left (by omega)] at hx
          exact hx
  · intro M1 hI
    obtain ⟨hf, g⟩ := hI
    refine xF_go o_Mo_joins [417] 60 (fun K hK => ?_)
    repeat' ((conv => whnf); first | refine ⟨fun h => ?_, fun h => ?_⟩ | refine ⟨?_, ?_⟩ | refine hK _ _ _ _ ?_)
    · refine xF_vret o_Mo_joins rfl rfl ?_
      exact hQ M1 hf g
    all_goals exact absurd (show nI 24 < nI 24 from by assumption) (nI_nlt (by omega) (by omega))
theorem E_Mjoins (P : sP) (hw : wP P) (V : sV) (M : xMe) (hP : mP P M) (h80 : c36 80 (kpt P V) M) (h76 : cZ 76 (vWr V) M) (h77 : cZ 77 (vCm V) M) : xE l G y_Mo_joins [.ref 50] M (fun r M' => r = none ∧ vfr [86, 87, 88, 90, 91, 92] [56] M M' ∧ c38 86 (sfr P (stl P V)) M' ∧ c38 87 (ouf P (stl P V)) M' ∧ (∀ k, k < 24 → M'.1 88 k = nI (aln P (stl P V) k)) ∧ m92 92 (bls P (kpt P V) (stl P V) 24) M') := by
  refine xE_cps (fun Q hQ => ?_)
  have hT : ∀ j, stl P V j → j < 24 ∧ 0 < pS P j := fun j hj => stl_T hj
  refine xE_of [some (.ref 50), none, none, none] (by decide +kernel) (Nat.le_of_ble_eq_true rfl) rfl ?_
  refine xF_go o_Mo_joins [2] 60 (fun K hK => ?_)
  repeat' ((conv => whnf); first | refine ⟨fun h => ?_, fun h => ?_⟩ | refine ⟨?_, ?_⟩ | refine hK _ _ _ _ ?_)
  clear hK K
  refine L_joins1 l G P hw V M hP h80 h76 h77 Q (fun M1 f1 a90 a86 a87 a91 a88 => ?_)
  have P1 : mP P M1 := mP_fr f1 (by decide) (by rw [(f1 50 (by decide)).1]) hP
  refine L_joins2 l G P hw (stl P V) hT M1 P1 a90 a86 a88 Q (fun M2 x f2 b86 b88 => ?_)
  have P2 : mP P M2 := mP_fr f2 (by decide) (by rw [(f2 50 (by decide)).1]) P1
  refine L_joins3 l G P hw (stl P V) hT M2 P2 (by unfold c36; rw [(f2 90 (by decide)).1]; exact a90) b86 b88 (by rw [(f2 87 (by decide)).1]; exact a87) (by rw [(f2 91 (by decide)).1]; exact a91) Q (fun M3 x y f3 d87 => ?_) x
  have f13 : xfr [86, 87, 88, 90, 91] M M3 := (f1.tr f2 (by decide)).tr f3 (by decide)
  refine L_joins4 l G P (kpt P V) (stl P V) M3 (by unfold c36; rw [(f13 80 (by decide)).1]; exact h80) (by unfold c38; rw [(f3 86 (by decide)).1]; exact b86) d87 Q (fun M4 f4 e92 => ?_) x y
  refine hQ _ _ ⟨rfl, ((vfr.of f13 (by decide)).mono (by decide) (fun _ z => z)).tr f4 (by decide) (fun _ z => z), ?_, ?_, ?_, e92⟩
  · unfold c38; rw [f4.at (by decide), (f3 86 (by decide)).1]; exact b86
  · unfold c38; rw [f4.at (by decide)]; exact d87
  · rw [f4.at (by decide), (f3 88 (by decide)).1]; exact b88
end XMJ2
