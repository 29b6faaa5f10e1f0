/-! the reference's reach: follows, stores -/
theorem b256_n (t w : Nat) : 256 * nI t + nI w = nI (256 * t + w) := by rw [show 256 * nI t = nI (256 * t) from pk_mul 256 t, nI_add]
section XM9
variable (l : Launch) (G : xG)
theorem L_flw (t : Nat) (ht : t < 24) (k q s p : Int32) (M0 : xMe) (Q : Option Value → xMe → Prop) (hQ : ∀ y, xF l G y_Mo_follows 134 [some (.ref 50), some (.int k), some (.int q), some (.int s), some (.int p), some (.int (nI t)), y] [] (xsL M0 79 (jn (M0.2 79) (M0.2 70) (256 * t) 4)) Q) : ∀ (m w : Nat), m + w = 4 → xF l G y_Mo_follows 98 [some (.ref 50), some (.int k), some (.int q), some (.int s), some (.int p), some (.int (nI t)), some (.int (nI w))] [] (xsL M0 79 (jn (M0.2 79) (M0.2 70) (256 * t) w)) Q := by
  intro m
  induction m with
  | zero =>
    intro w hw
    obtain rfl : w = 4 := by omega
    refine xF_go o_Mo_follows [98, 134] 60 (fun K hK => ?_)
    repeat' ((conv => whnf); first | refine ⟨fun h => ?_, fun h => ?_⟩ | refine ⟨?_, ?_⟩ | refine hK _ _ _ _ ?_)
    · exact hQ _
    all_goals exact absurd (show nI 4 < nI 4 from by assumption) (nI_nlt (by omega) (by omega))
  | succ m ih =>
    intro w hw
    have hih := ih (w + 1) (by omega)
    rw [jn_s] at hih
    refine xF_go o_Mo_follows [98, 134] 60 (fun K hK => ?_)
    repeat' ((conv => whnf); first | refine ⟨fun h => ?_, fun h => ?_⟩ | refine ⟨?_, ?_⟩ | refine hK _ _ _ _ ?_)
    · exact absurd (nI_lt (b := 4) (by omega) (by omega)) h
    · exact vp_in_nI (N := 4) (by omega) (by decide)
    · rw [b256_n]; exact vp_in_nI (N := 6144) (by omega) (by decide)
    · exact vp_in_nI (N := 4) (by omega) (by decide)
    · rw [b256_n, nI_1, nI_clamp (n := w) (by omega), nI_clamp (by omega), xsL_LL]
      exact hih
theorem L_follows (P : sP) (hw : wP P) (N : Nat → Nat → Prop) (Y : Nat → Nat → Nat → Prop) (k q : Nat) (hk : k < 24) (hq : q < 4) (Rd Fo : Nat → Nat → Prop) (M0 : xMe) (hP : mP P M0) (hN : nw N M0) (hY : m70 Y M0) (Q : Option Value → xMe → Prop) (hQ : ∀ M (b : Bool), ufr [74, 75, 79] M0 M → M.1 50 = M0.1 50 → (b = true ↔ ∃ p, p < 64 ∧ N q p ∧ (pR P k p).isSome) → mKP 74 (fun k' p => Rd k' p ∨ (k' = k ∧ p < 64 ∧ N q p ∧ (pR P k p).isSome) ∨ (p = 0 ∧ ∃ p', (p' < 64 ∧ N q p' ∧ (pR P k p').isSome) ∧ pR P k p' = some k')) M → mKP 75 (fun k' p => Fo k' p ∨ (k' = k ∧ p < 64 ∧ N q p ∧ (pR P k p).isSome)) M → stZ (fun v => ∃ p, (p < 64 ∧ N q p ∧ (pR P k p).isSome) ∧ ∃ t, pR P k p = some t ∧ Y t 0 v) M → Q (some (.int (b2 b))) M) : ∀ (m p : Nat), m + p = pS P k → ∀ M (b : Bool) y1 y2, ufr [74, 75, 79] M0 M → M.1 50 = M0.1 50 → (b = true ↔ ∃ x, x < p ∧ N q x ∧ (pR P k x).isSome) → mKP 74 (fun k' x => Rd k' x ∨ (k' = k ∧ x < p ∧ N q x ∧ (pR P k x).isSome) ∨ (x = 0 ∧ ∃ p', (p' < p ∧ N q p' ∧ (pR P k p').isSome) ∧ pR P k p' = some k')) M → mKP 75 (fun k' x => Fo k' x ∨ (k' = k ∧ x < p ∧ N q x ∧ (pR P k x).isSome)) M → stZ (fun v => ∃ x, (x < p ∧ N q x ∧ (pR P k x).isSome) ∧ ∃ t, pR P k x = some t ∧ Y t 0 v) M → xF l G y_Mo_follows 9 [some (.ref 50), some (.int (nI k)), some (.int (nI q)), some (.int (b2 b)), some (.int (nI p)), y1, y2] [] M Q := by
  have hs64 := (hw.1 k hk).1
  have hcl : (nI k).toNatClampNeg = k := nI_clamp (by omega)
  intro m
  induction m with
  | zero =>
    intro p hp M b y1 y2 hfr h50 hb hR hF hZ
    obtain rfl : p = pS P k := by omega
    have hsz : M.1 51 (nI k).toNatClampNeg = nI (pS P k) := by rw [hcl, (hfr.1 51 (by decide)).1]; exact (hP.1 k hk).1
    have hx : ∀ x, (x < pS P k ∧ N q x ∧ (pR P k x).isSome) ↔ (x < 64 ∧ N q x ∧ (pR P k x).isSome) := by
      intro x
      constructor
      · exact fun z => ⟨by omega, z.2⟩
      · intro z
        obtain ⟨t, ht⟩ := Option.isSome_iff_exists.mp z.2.2
        exact ⟨(hw.2.2.1 k hk x z.1 t ht).2.1, z.2⟩
    refine xF_go o_Mo_follows [9] 60 (fun K hK => ?_)
    repeat' ((conv => whnf); first | refine ⟨fun h => ?_, fun h => ?_⟩ | refine ⟨?_, ?_⟩ | refine hK _ _ _ _ ?_)
    · exact vp_in_nI hk (by decide)
    · show xF l G y_Mo_follows 141 _ [.int (b2 b)] M _
      refine xF_zret o_Mo_follows rfl rfl (b2_01 _) ?_
      refine hQ M b hfr h50 (hb.trans ⟨fun ⟨x, z⟩ => ⟨x, (hx x).mp z⟩, fun ⟨x, z⟩ => ⟨x, (hx x).mpr z⟩⟩) (mKP_iff hR (fun a _ x _ => ?_)) (mKP_iff hF (fun a _ x _ => or_congr Iff.rfl (and_congr Iff.rfl (hx x)))) (fun v hv => (hZ v hv).trans ⟨fun ⟨x, z1, z3⟩ => ⟨x, (hx x).mp z1, z3⟩, fun ⟨x, z1, z3⟩ => ⟨x, (hx x).mpr z1, z3⟩⟩)
      exact or_congr Iff.rfl (or_congr (and_congr Iff.rfl (hx x)) (and_congr Iff.rfl ⟨fun ⟨x', z1, z3⟩ => ⟨x', (hx x').mp z1, z3⟩, fun ⟨x', z1, z3⟩ => ⟨x', (hx x').mpr z1, z3⟩⟩))
    all_goals
      have hlt : nI (pS P k) < M.1 51 (nI k).toNatClampNeg := by assumption
      rw [hsz, nI_ltI (by omega) (by omega)] at hlt
      omega
  | succ m ih =>
    intro p hp M b y1 y2 hfr h50 hb hR hF hZ
    have hsz : M.1 51 (nI k).toNatClampNeg = nI (pS P k) := by rw [hcl, (hfr.1 51 (by decide)).1]; exact (hP.1 k hk).1
    have hp' : p < pS P k := by omega
    have e64 : 64 * nI k + nI p = nI (64 * k + p) := by rw [nI_64, nI_add]
    have i64 : vp_in (64 * nI k + nI p) 1536 := by rw [e64]; exact vp_in_nI (by omega) (by decide)
    have hrf : M.1 55 (64 * nI k + nI p).toNatClampNeg = oI (pR P k p) := by
      rw [e64, nI_clamp (by omega), (hfr.1 55 (by decide)).1, show 64 * k + p = k * 64 + p by omega]
      exact hP.2.2.1 k hk p (by omega)
    have hskip : ¬ (N q p ∧ (pR P k p).isSome) → ∀ y1 y2, xF l G y_Mo_follows 9 [some (.ref 50), some (.int (nI k)), some (.int (nI q)), some (.int (b2 b)), some (.int (nI (p + 1))), y1, y2] [] M Q := by
      intro hno y1 y2
      have hx : ∀ x, (x < p ∧ N q x ∧ (pR P k x).isSome) ↔ (x < p + 1 ∧ N q x ∧ (pR P k x).isSome) := by
        intro x
        constructor
        · exact fun z => ⟨by omega, z.2⟩
        · intro z
          refine ⟨?_, z.2⟩
          by_cases e : x = p
          · exact absurd (e ▸ z.2) hno
          · omega
      refine ih (p + 1) (by omega) M b _ _ hfr h50 (hb.trans ⟨fun ⟨x, z⟩ => ⟨x, (hx x).mp z⟩, fun ⟨x, z⟩ => ⟨x, (hx x).mpr z⟩⟩) (mKP_iff hR (fun a _ x _ => ?_)) (mKP_iff hF (fun a _ x _ => or_congr Iff.rfl (and_congr Iff.rfl (hx x)))) (fun v hv => (hZ v hv).trans ⟨fun ⟨x, z1, z3⟩ => ⟨x, (hx x).mp z1, z3⟩, fun ⟨x, z1, z3⟩ => ⟨x, (hx x).mpr z1, z3⟩⟩)
      exact or_congr Iff.rfl (or_congr (and_congr Iff.rfl (hx x)) (and_congr Iff.rfl ⟨fun ⟨x', z1, z3⟩ => ⟨x', (hx x').mp z1, z3⟩, fun ⟨x', z1, z3⟩ => ⟨x', (hx x').mpr z1, z3⟩⟩))
    refine xF_go o_Mo_follows [9, 34] 60 (fun K hK => ?_)
    repeat' ((conv => whnf); first | refine ⟨fun h => ?_, fun h => ?_⟩ | refine ⟨?_, ?_⟩ | refine hK _ _ _ _ ?_)
    · exact vp_in_nI hk (by decide)
    · have hlt : ¬ nI p < M.1 51 (nI k).toNatClampNeg := by assumption
      rw [hsz, nI_ltI (by omega) (by omega)] at hlt
      omega
    · exact i64
    · rw [hrf]
      clear hK K
      cases hr : pR P k p with
      | none =>
        refine xF_go o_Mo_follows [9] 60 (fun K hK => ?_)
        repeat' ((conv => whnf); first | refine ⟨fun h => ?_, fun h => ?_⟩ | refine ⟨?_, ?_⟩ | refine hK _ _ _ _ ?_)
        all_goals first | exact absurd rfl (show ¬ oI none = -1 from by assumption) | skip
        rw [nI_1]
        exact hskip (fun z => by rw [hr] at z; exact absurd z.2 (by decide)) _ _
      | some t =>
        have ht := hw.2.2.1 k hk p (by omega) t hr
        have hne : ¬ oI (some t) = -1 := fun z => by
          have z2 : nI t = -1 := z
          have := nI_pos' (n := t) (by omega)
          rw [z2] at this
          exact absurd this (by decide)
        refine xF_go o_Mo_follows [9] 60 (fun K hK => ?_)
        repeat' ((conv => whnf); first | refine ⟨fun h => ?_, fun h => ?_⟩ | refine ⟨?_, ?_⟩ | refine hK _ _ _ _ ?_)
        · exact absurd (show oI (some t) = -1 from by assumption) hne
        · rw [four_n]
          refine xF_callV o_Mo_follows [.ref 78, .int (nI (4 * q)), .int (nI p)] rfl z_Mo_hasValue i_Mo_hasValue v_Mo_hasValue l_Mo_214 rfl ⟨⟨by decide, by decide⟩, rfl, rfl⟩ (Nat.le_of_ble_eq_true rfl) rfl rfl rfl (E_hasValue l G 78 (by simp) (4 * q) p (by omega) (by show _ < 16; omega) M) ?_
          rintro v M1 ⟨rfl, rfl⟩
          clear hK K
          have hnp : sHas (M1.2 78) (4 * q) p = true ↔ N q p := by
            rw [(hfr.1 78 (by decide)).2]
            exact hN q hq p (by omega)
          cases hh : sHas (M1.2 78) (4 * q) p with
          | false =>
            have hno : ¬ N q p := fun z => by rw [hnp.mpr z] at hh; cases hh
            refine xF_go o_Mo_follows [9] 60 (fun K hK => ?_)
            repeat' ((conv => whnf); first | refine ⟨fun h => ?_, fun h => ?_⟩ | refine ⟨?_, ?_⟩ | refine hK _ _ _ _ ?_)
            all_goals first | exact absurd rfl (show ¬ b2 false = 0 from by assumption) | skip
            rw [nI_1]
            exact hskip (fun z => hno z.1) _ _
          | true =>
            have hyes : N q p := hnp.mp hh
            have hsome : (pR P k p).isSome := by rw [hr]; rfl
            have e64t : (64 * nI t : Int32) = nI (64 * t) := nI_64 t
            refine xF_go o_Mo_follows [9, 98] 60 (fun K hK => ?_)
            repeat' ((conv => whnf); first | refine ⟨fun h => ?_, fun h => ?_⟩ | refine ⟨?_, ?_⟩ | refine hK _ _ _ _ ?_)
            · exact absurd (show b2 true = 0 from by assumption) (by decide)
            · exact i64
            · exact Or.inr rfl
            · exact i64
            · exact Or.inr rfl
            · show vp_in (64 * nI t) 1536
              rw [e64t]; exact vp_in_nI (by omega) (by decide)
            · exact Or.inr rfl
            · show xF l G y_Mo_follows 98 _ [] (xsI (xsI (xsI M1 74 (upd (M1.1 74) (64 * nI k + nI p).toNatClampNeg 1)) 75 (upd (M1.1 75) (64 * nI k + nI p).toNatClampNeg 1)) 74 (upd (upd (M1.1 74) (64 * nI k + nI p).toNatClampNeg 1) (64 * nI t).toNatClampNeg 1)) Q
              rw [e64, e64t, nI_clamp (by omega), nI_clamp (by omega)]
              clear hK K
              generalize hM2 : xsI (xsI (xsI M1 74 (upd (M1.1 74) (64 * k + p) 1)) 75 (upd (M1.1 75) (64 * k + p) 1)) 74 (upd (upd (M1.1 74) (64 * k + p) 1) (64 * t) 1) = M2
              have q2 : M2.2 = M1.2 := by rw [← hM2]; rfl
              have q50 : M2.1 50 = M1.1 50 := by rw [← hM2]; rfl
              have q74 : mKP 74 (fun a b => ((Rd a b ∨ (a = k ∧ b < p ∧ N q b ∧ (pR P k b).isSome) ∨ (b = 0 ∧ ∃ p', (p' < p ∧ N q p' ∧ (pR P k p').isSome) ∧ pR P k p' = some a)) ∨ (a = k ∧ b = p)) ∨ (a = t ∧ b = 0)) M2 := by
                have c1 := mKP_set (mKP_set hR hk (show p < 64 by omega)) ht.1 (show 0 < 64 by omega)
                rw [← hM2]
                exact c1
              have q75 : mKP 75 (fun a b => (Fo a b ∨ (a = k ∧ b < p ∧ N q b ∧ (pR P k b).isSome)) ∨ (a = k ∧ b = p)) M2 := by
                have c1 := mKP_set hF hk (show p < 64 by omega)
                rw [← hM2]
                exact c1
              have hfr2 : ufr [74, 75, 79] M0 M2 := by
                rw [← hM2]
                exact ((hfr.I (by simp) (by decide)).I (by simp) (by decide)).I (by simp) (by decide)
              have e0 : M2 = xsL M2 79 (jn (M2.2 79) (M2.2 70) (256 * t) 0) := by
                rw [jn_0]
                exact (xsL_id (fun i => rfl)).symm
              have key := L_flw l G t ht.1 (nI k) (nI q) 1 (nI p) M2 Q ?_ 4 0 (by omega)
              · rw [← e0] at key
                exact key
              · intro y'
                refine xF_go o_Mo_follows [9] 60 (fun K hK => ?_)
                repeat' ((conv => whnf); first | refine ⟨fun h => ?_, fun h => ?_⟩ | refine ⟨?_, ?_⟩ | refine hK _ _ _ _ ?_)
                rw [nI_1]
                have hx : ∀ x, (x < p + 1 ∧ N q x ∧ (pR P k x).isSome) ↔ ((x < p ∧ N q x ∧ (pR P k x).isSome) ∨ x = p) := by
                  intro x
                  constructor
                  · intro z
                    by_cases e : x = p
                    · exact Or.inr e
                    · exact Or.inl ⟨by omega, z.2⟩
                  · rintro (z | rfl)
                    · exact ⟨by omega, z.2⟩
                    · exact ⟨by omega, hyes, hsome⟩
                refine ih (p + 1) (by omega) _ true _ _ (hfr2.L (by simp)) (q50.trans h50) ⟨fun _ => ⟨p, by omega, hyes, hsome⟩, fun _ => rfl⟩ (mKP_iff (M := xsL M2 79 _) q74 (fun a _ x _ => ?_)) (mKP_iff (M := xsL M2 79 _) q75 (fun a _ x _ => ?_)) (fun v hv => ?_)
                · constructor
                  · rintro (((z | z | ⟨z, p', z1, z2⟩) | z) | z)
                    · exact Or.inl z
                    · exact Or.inr (Or.inl ⟨z.1, (hx x).mpr (Or.inl z.2)⟩)
                    · exact Or.inr (Or.inr ⟨z, p', (hx p').mpr (Or.inl z1), z2⟩)
                    · exact Or.inr (Or.inl ⟨z.1, (hx x).mpr (Or.inr z.2)⟩)
                    · exact Or.inr (Or.inr ⟨z.2, p, (hx p).mpr (Or.inr rfl), by rw [z.1]; exact hr⟩)
                  · rintro (z | z | ⟨z, p', z1, z2⟩)
                    · exact Or.inl (Or.inl (Or.inl z))
                    · rcases (hx x).mp z.2 with z3 | z3
                      · exact Or.inl (Or.inl (Or.inr (Or.inl ⟨z.1, z3⟩)))
                      · exact Or.inl (Or.inr ⟨z.1, z3⟩)
                    · rcases (hx p').mp z1 with z3 | z3
                      · exact Or.inl (Or.inl (Or.inr (Or.inr ⟨z, p', z3, z2⟩)))
                      · rw [z3, hr] at z2
                        exact Or.inr ⟨(Option.some.inj z2).symm, z⟩
                · constructor
                  · rintro ((z | z) | z)
                    · exact Or.inl z
                    · exact Or.inr ⟨z.1, (hx x).mpr (Or.inl z.2)⟩
                    · exact Or.inr ⟨z.1, (hx x).mpr (Or.inr z.2)⟩
                  · rintro (z | z)
                    · exact Or.inl (Or.inl z)
                    · rcases (hx x).mp z.2 with z3 | z3
                      · exact Or.inl (Or.inr ⟨z.1, z3⟩)
                      · exact Or.inr ⟨z.1, z3⟩
                · show sHas (jn (M2.2 79) (M2.2 70) (256 * t) 4) 0 v = true ↔ _
                  have hyt := hY t ht.1 0 (by omega) v hv
                  rw [show 4 * (64 * t + 0) = 256 * t by omega] at hyt
                  rw [sHas_jn _ _ _ hv, Bool.or_eq_true, q2, hZ v hv, (hfr.1 70 (by decide)).2, hyt]
                  constructor
                  · rintro (⟨x, z1, z2⟩ | z)
                    · exact ⟨x, (hx x).mpr (Or.inl z1), z2⟩
                    · exact ⟨p, (hx p).mpr (Or.inr rfl), t, hr, z⟩
                  · rintro ⟨x, z1, t', z2, z3⟩
                    rcases (hx x).mp z1 with z4 | z4
                    · exact Or.inl ⟨x, z4, t', z2, z3⟩
                    · rw [z4, hr] at z2
                      cases z2
                      exact Or.inr z3
theorem E_follows (P : sP) (hw : wP P) (U : sU) (N : Nat → Nat → Prop) (m : Bool) (M : xMe) (hP : mP P M) (hU : mU U M) (hN : nw N M) (hm : mo m M) (k q : Nat) (hk : k < 24) (hq : q < 4) : xE l G y_Mo_follows [.ref 50, .int (nI k), .int (nI q)] M (fun v M' => ∃ b, v = some (.int (b2 b)) ∧ (b = true ↔ ∃ p, p < 64 ∧ N q p ∧ (pR P k p).isSome) ∧ mU (uFoll P U k (fun p => p < 64 ∧ N q p ∧ (pR P k p).isSome)) M' ∧ nw N M' ∧ mo m M' ∧ stZ (fun v => ∃ p, (p < 64 ∧ N q p ∧ (pR P k p).isSome) ∧ ∃ t, pR P k p = some t ∧ uY U t 0 v) M' ∧ ufr [74, 75, 79] M M') := by
  obtain ⟨h1, h2, h3, h4, h5, h6, h7, h8, h9⟩ := hU
  refine xE_of [some (.ref 50), some (.int (nI k)), some (.int (nI q)), none, none, none, none] (by decide +kernel) (Nat.le_of_ble_eq_true rfl) rfl ?_
  refine xF_go o_Mo_follows [9] 60 (fun K hK => ?_)
  repeat' ((conv => whnf); first | refine ⟨fun h => ?_, fun h => ?_⟩ | refine ⟨?_, ?_⟩ | refine hK _ _ _ _ ?_)
  refine xF_callV o_Mo_follows [] rfl z_Mo_empty i_Mo_empty v_Mo_empty l_Mo_211 rfl ⟨⟨by decide, by decide⟩, rfl, rfl⟩ (Nat.le_of_ble_eq_true rfl) rfl rfl rfl (E_empty l G M) ?_
  rintro v M1 ⟨rfl, hZ, hfr, he⟩
  clear hK K
  refine xF_go o_Mo_follows [9] 60 (fun K hK => ?_)
  repeat' ((conv => whnf); first | refine ⟨fun h => ?_, fun h => ?_⟩ | refine ⟨?_, ?_⟩ | refine hK _ _ _ _ ?_)
  have e78 : nw N M1 := by unfold nw; rw [(hfr.1 78 (by decide)).2]; exact hN
  refine L_follows l G P hw N (uY U) k q hk hq (uRd U) (uFo U) M1 (hfr.P (by decide) hP) e78 (by unfold m70; rw [(hfr.1 70 (by decide)).2]; exact h2) _ ?_ (pS P k) 0 (by omega) M1 false _ _ ufr.rf rfl ⟨(fun z => by cases z), fun ⟨x, z, _⟩ => by omega⟩ (mKP_iff (X := uRd U) (by unfold mKP; rw [he]; exact h6) (fun a _ x _ => ⟨Or.inl, fun z => z.elim id (fun z => z.elim (fun z => by omega) (fun ⟨_, _, z, _⟩ => by omega))⟩)) (mKP_iff (X := uFo U) (by unfold mKP; rw [he]; exact h7) (fun a _ x _ => ⟨Or.inl, fun z => z.elim id (fun z => by omega)⟩)) (fun v hv => (hZ v hv).trans ⟨False.elim, fun ⟨x, z, _⟩ => by omega⟩)
  intro M2 b hfr2 h50 hb hR hF hZ2
  have hfr' : ufr [74, 75, 79] M M2 := (hfr.mono (by simp)).tr hfr2 (fun _ z => z)
  refine ⟨b, rfl, hb, ⟨?_, ?_, ?_, ?_, ?_, hR, hF, ?_, ?_⟩, ?_, ?_, hZ2, hfr'⟩
  · unfold m69; rw [(hfr'.1 69 (by decide)).2]; exact h1
  · show m70 (uY U) M2; unfold m70; rw [(hfr'.1 70 (by decide)).2]; exact h2
  · unfold m71; rw [(hfr'.1 71 (by decide)).2]; exact h3
  · unfold m72; rw [(hfr'.1 72 (by decide)).1]; exact h4
  · unfold m73; rw [(hfr'.1 73 (by decide)).1]; exact h5
  · unfold cZ; rw [(hfr'.1 76 (by decide)).1]; exact h8
  · unfold cZ; rw [(hfr'.1 77 (by decide)).1]; exact h9
  · unfold nw; rw [(hfr'.1 78 (by decide)).2]; exact hN
  · unfold mo; rw [h50, he]; exact hm
end XM9
