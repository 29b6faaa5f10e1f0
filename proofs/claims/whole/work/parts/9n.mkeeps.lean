/-! the reference: reads, keeps, refers, endsWith -/
theorem eg_g5 {P : sP} {V : sV} {f i : Nat} {q : Nat × Int32 × Int32 × Int32} (hv : vN q) {g j : Nat} {X : Nat → Nat → Prop} (h : eg P V f i q g j X) : g = f ∨ (q.1 = 5 ∧ g = ix q.2.1) := by
  obtain ⟨o, a, b, c⟩ := q
  match o, hv, h with
  | 0, _, h => exact Or.inl h.1
  | 1, _, h => exact Or.inl h.1
  | 2, _, h => exact Or.inl h.1
  | 3, _, h => exact Or.inl h.2.1
  | 4, _, h => exact Or.inl h.2.1
  | 5, _, h => exact Or.inr ⟨rfl, h.1⟩
  | 6, _, h => exact Or.inl (h.elim (fun z => z.2.1) (fun z => z.2.1))
  | 7, _, h => exact Or.inl h.1
  | 8, _, h => exact Or.inl h.1
  | 9, _, h => exact Or.inl h.1
  | 10, _, h => exact Or.inl h.1
  | 11, _, h => exact Or.inl h.2.1
  | o + 12, hv, _ => exact hv.elim
theorem atU_0 {P : sP} {f : Nat} (hl : (pC P f).length ≤ 40) : atU P f 0 = 0 := by
  unfold atU
  rw [if_neg]
  · rfl
  · rintro (z | z)
    · exact absurd z (by decide)
    · exact absurd z (nI_pos (by omega))
/-- a function is kept: on both sides -/
theorem same_f {P : sP} (hw : wP P) {V : sV} {U : sU} (h : fin P V) (hu : finU P U) (hs : staU P U) {f : Nat} (hf : f < 12) : uC U f 0 ↔ ∃ i, i < 64 ∧ vC V f i := by
  have hl := (hw.2.2.2.1 f hf).1
  constructor
  · intro z
    have := (hu.2.1 V h.1).1.1 f hf 0 (Nat.zero_le _) z
    refine ⟨_, ?_, this⟩
    unfold pos
    split <;> omega
  · rintro ⟨i, hi, z⟩
    have h0 : ∀ g, g < 12 → atU P g 0 = 0 := fun g hg => atU_0 (hw.2.2.2.1 g hg).1
    have hz : cls P (vS (toV P U), vY (toV P U), fun f i => vC (toV P U) f i ∧ uC U f 0, (toV P U).2.2.2) := by
      obtain ⟨⟨c1, c2⟩, c3⟩ := hu.1
      refine ⟨⟨fun f hf he => ?_, c2⟩, fun f hf i q hq hc => ?_⟩
      · obtain ⟨d1, d2⟩ := c1 f hf he
        have := hs.1 f hf he
        rw [h0 f hf] at this
        exact ⟨⟨d1, this⟩, d2⟩
      · obtain ⟨hc1, hc2⟩ := hc
        have hv : vN q := (hw.2.2.2.1 f hf).2 q (List.mem_of_getElem? hq)
        have hlt : i < (pC P f).length := (List.getElem?_eq_some_iff.mp hq).1
        have hlf := (hw.2.2.2.1 f hf).1
        have huc : uC U f i := hc1.elim (fun z => z.2) (fun z => by have := z.1; omega)
        obtain ⟨e1, e2, e3⟩ := c3 f hf i q hq hc1
        refine ⟨fun g j X he => ?_, fun h5 hr => Or.inr ?_, e3⟩
        · obtain ⟨t1, t2⟩ := e1 g j X he
          refine ⟨⟨t1, ?_⟩, t2⟩
          rcases eg_g5 hv he with rfl | ⟨h5, rfl⟩
          · exact hc2
          · have := hs.2 f hf i q hq h5 huc
            have h12 : ix q.2.1 < 12 := by
              obtain ⟨o, a, bb, cc⟩ := q
              replace h5 : o = 5 := h5
              subst h5
              obtain ⟨k', hk', x1, ek⟩ := vF_n hv.1
              show ix a < 12
              rw [ek]; exact hk'
            rw [h0 _ h12] at this
            exact this
        · obtain ⟨t1, t2⟩ := (e2 h5 hr.1).elim (fun z => z.elim) id
          exact ⟨⟨t1, hc2⟩, t2⟩
    exact ((h.2.2.2 _ hz).1 f i z).2
/-- places read are places of items -/
theorem rd_lt {P : sP} (hw : wP P) {V : sV} (h : fin P V) {k p : Nat} (z : vRd V k p) : k < 24 ∧ p < pS P k := by
  obtain ⟨f, i, q, hf, hq, hc, hr⟩ := ((fin_aux hw h).1 k p).mp z
  have hv : vN q := (hw.2.2.2.1 f hf).2 q (List.mem_of_getElem? hq)
  obtain ⟨o, a, bb, cc⟩ := q
  rcases hr with hr | hr | hr
  · obtain ⟨h3, e, hp, _⟩ := hr
    replace h3 : o = 3 := h3
    subst h3
    obtain ⟨k', hk', x1, ek⟩ := vT_n hv.2.1
    replace ek : ix bb = k' := ek
    replace e : k = ix bb := e
    exact ⟨by omega, hp⟩
  · obtain ⟨h3, e, hp, _, hs⟩ := hr
    replace h3 : o = 11 := h3
    subst h3
    obtain ⟨k', hk', x1, ek⟩ := vT_n hv.2.1
    replace ek : ix bb = k' := ek
    replace e : k = ix bb := e
    have hk24 : k < 24 := by omega
    obtain ⟨t, ht⟩ := Option.isSome_iff_exists.mp hs
    exact ⟨hk24, (hw.2.2.1 k hk24 p hp t ht).2.1⟩
  · obtain ⟨h3, e, p', hp', _, hs⟩ := hr
    replace h3 : o = 11 := h3
    subst h3
    obtain ⟨k', hk', x1, ek⟩ := vT_n hv.2.1
    replace ek : ix bb = k' := ek
    replace hs : pR P (ix bb) p' = some k := hs
    have := hw.2.2.1 (ix bb) (by omega) p' hp' k hs
    exact ⟨this.1, by rw [e]; exact this.2.2⟩
theorem mKP_b {c : Nat} {X : Nat → Nat → Prop} {M : xMe} (h : mKP c X M) {k p : Nat} (hk : k < 24) (hp : p < 64) : M.1 c (64 * k + p) = b2 (tb (X k p)) := by
  obtain ⟨b, h1, h2⟩ := h k hk p hp
  rw [h1, tb_b h2]
/-- items of groups below g are kept as groups are -/
def kpg (P : sP) (V : sV) (g k : Nat) : Prop := kp0 P V k ∨ (0 < pS P k ∧ 0 < pG P k ∧ pG P k < g ∧ ∃ j, j < 24 ∧ kp0 P V j ∧ pG P j = pG P k)
section XMK
variable (l : Launch) (G : xG)
theorem E_Mreads (P : sP) (hw : wP P) (X : Nat → Nat → Prop) (M : xMe) (hS : mS P M) (h74 : mKP 74 X M) (k : Nat) (hk : k < 24) : xE l G y_Mo_reads [.ref 50, .int (nI k)] M (fun r M' => M' = M ∧ r = some (.int (b2 (tb (∃ p, p < pS P k ∧ X k p))))) := by
  refine xE_cps (fun Q hQ => ?_)
  have hs64 := (hw.1 k hk).1
  have hcl : (nI k).toNatClampNeg = k := nI_clamp (by omega)
  have v51 : M.1 51 (nI k).toNatClampNeg = nI (pS P k) := by rw [hcl]; exact (hS k hk).1
  refine xE_of [some (.ref 50), some (.int (nI k)), none, none] (by decide +kernel) (Nat.le_of_ble_eq_true rfl) rfl ?_
  refine xF_go o_Mo_reads [4] 60 (fun K hK => ?_)
  repeat' ((conv => whnf); first | refine ⟨fun h => ?_, fun h => ?_⟩ | refine ⟨?_, ?_⟩ | refine hK _ _ _ _ ?_)
  clear hK K
  refine loopN (σ := Bool) (pS P k) (fun p b => b = true ↔ ∃ x, x < p ∧ X k x) (fun p b => xF l G y_Mo_reads 4 [some (.ref 50), some (.int (nI k)), some (.int (b2 b)), some (.int (nI p))] [] M Q) ?_ ?_ (pS P k) 0 rfl false ⟨fun z => (by cases z), fun ⟨x, z, _⟩ => absurd z (Nat.not_lt_zero _)⟩
  · intro p hp b hb next
    have e64 : 64 * nI k + nI p = nI (64 * k + p) := by rw [nI_64, nI_add]
    have v74 : M.1 74 (nI (64 * k + p)).toNatClampNeg = b2 (tb (X k p)) := by rw [nI_clamp (by omega)]; exact mKP_b h74 hk (by omega)
    have go : ∀ z : Bool, (z = true ↔ (b = true ∨ X k p)) → xF l G y_Mo_reads 37 [some (.ref 50), some (.int (nI k)), some (.int (b2 b)), some (.int (nI p))] [.int (b2 z)] M Q := by
      intro z hz
      refine xF_go o_Mo_reads [4] 60 (fun K hK => ?_)
      repeat' ((conv => whnf); first | refine ⟨fun h => ?_, fun h => ?_⟩ | refine ⟨?_, ?_⟩ | refine hK _ _ _ _ ?_)
      rw [nI_1]
      refine next z (hz.trans ?_)
      rw [hb]
      constructor
      · rintro (⟨x, x1, x2⟩ | y)
        · exact ⟨x, by omega, x2⟩
        · exact ⟨p, by omega, y⟩
      · rintro ⟨x, x1, x2⟩
        by_cases e : x = p
        · exact Or.inr (e ▸ x2)
        · exact Or.inl ⟨x, by omega, x2⟩
    refine xF_go o_Mo_reads [4, 37] 60 (fun K hK => ?_)
    repeat' ((conv => whnf); first | refine ⟨fun h => ?_, fun h => ?_⟩ | refine ⟨?_, ?_⟩ | refine hK _ _ _ _ ?_)
    · exact vp_in_nI hk (by decide)
    · have h0 : ¬ nI p < M.1 51 (nI k).toNatClampNeg := by assumption
      rw [v51, nI_ltI (by omega) (by omega)] at h0
      exact absurd hp h0
    · have h0 : ¬ b2 b = 0 := by assumption
      rw [b2_ne] at h0
      exact go true ⟨fun _ => Or.inl h0, fun _ => rfl⟩
    · rw [e64]; exact vp_in_nI (by show _ < 1536; omega) (by decide)
    · have h0 := (show M.1 74 (64 * nI k + nI p).toNatClampNeg = 0 from by assumption)
      rw [e64, v74, b2_0, tb_f] at h0
      have h1 : b2 b = 0 := by assumption
      rw [b2_0] at h1
      exact go false ⟨fun z => (by cases z), fun z => z.elim (fun y => by rw [h1] at y; cases y) (fun y => absurd y h0)⟩
    · have h0 := (show ¬ M.1 74 (64 * nI k + nI p).toNatClampNeg = 0 from by assumption)
      rw [e64, v74, b2_ne, tb_t] at h0
      exact go true ⟨fun _ => Or.inr h0, fun _ => rfl⟩
  · intro b hb
    refine xF_go o_Mo_reads [4] 60 (fun K hK => ?_)
    repeat' ((conv => whnf); first | refine ⟨fun h => ?_, fun h => ?_⟩ | refine ⟨?_, ?_⟩ | refine hK _ _ _ _ ?_)
    · exact vp_in_nI hk (by decide)
    · show xF l G y_Mo_reads 45 _ [.int (b2 b)] M _
      refine xF_zret o_Mo_reads rfl rfl (b2_01 _) ?_
      exact hQ _ _ ⟨rfl, by rw [tb_b hb]⟩
    all_goals
      have h0 : nI (pS P k) < M.1 51 (nI k).toNatClampNeg := by assumption
      rw [v51, nI_ltI (by omega) (by omega)] at h0
      exact absurd h0 (Nat.lt_irrefl _)
theorem E_Mrefers (P : sP) (hw : wP P) (M : xMe) (hS : mS P M) (hR : mR P M) (k : Nat) (hk : k < 24) : xE l G y_Mo_refers [.ref 50, .int (nI k)] M (fun r M' => M' = M ∧ r = some (.int (b2 (tb (¬ ∀ p, p < 64 → pR P k p = none))))) := by
  refine xE_cps (fun Q hQ => ?_)
  have hs64 := (hw.1 k hk).1
  have hcl : (nI k).toNatClampNeg = k := nI_clamp (by omega)
  have v51 : M.1 51 (nI k).toNatClampNeg = nI (pS P k) := by rw [hcl]; exact (hS k hk).1
  refine xE_of [some (.ref 50), some (.int (nI k)), none, none] (by decide +kernel) (Nat.le_of_ble_eq_true rfl) rfl ?_
  refine xF_go o_Mo_refers [4] 60 (fun K hK => ?_)
  repeat' ((conv => whnf); first | refine ⟨fun h => ?_, fun h => ?_⟩ | refine ⟨?_, ?_⟩ | refine hK _ _ _ _ ?_)
  clear hK K
  refine loopN (σ := Bool) (pS P k) (fun p b => b = true ↔ ∃ x, x < p ∧ ¬ pR P k x = none) (fun p b => xF l G y_Mo_refers 4 [some (.ref 50), some (.int (nI k)), some (.int (b2 b)), some (.int (nI p))] [] M Q) ?_ ?_ (pS P k) 0 rfl false ⟨fun z => (by cases z), fun ⟨x, z, _⟩ => absurd z (Nat.not_lt_zero _)⟩
  · intro p hp b hb next
    have e64 : 64 * nI k + nI p = nI (64 * k + p) := by rw [nI_64, nI_add]
    have v55 : M.1 55 (nI (64 * k + p)).toNatClampNeg = oI (pR P k p) := by
      rw [nI_clamp (by omega), show 64 * k + p = k * 64 + p by omega]
      exact hR k hk p (by omega)
    have hnr := oI_none (o := pR P k p) (fun t e => by have := (hw.2.2.1 k hk p (by omega) t e).1; omega)
    have go : ∀ z : Bool, (z = true ↔ (b = true ∨ ¬ pR P k p = none)) → xF l G y_Mo_refers 38 [some (.ref 50), some (.int (nI k)), some (.int (b2 b)), some (.int (nI p))] [.int (b2 z)] M Q := by
      intro z hz
      refine xF_go o_Mo_refers [4] 60 (fun K hK => ?_)
      repeat' ((conv => whnf); first | refine ⟨fun h => ?_, fun h => ?_⟩ | refine ⟨?_, ?_⟩ | refine hK _ _ _ _ ?_)
      rw [nI_1]
      refine next z (hz.trans ?_)
      rw [hb]
      constructor
      · rintro (⟨x, x1, x2⟩ | y)
        · exact ⟨x, by omega, x2⟩
        · exact ⟨p, by omega, y⟩
      · rintro ⟨x, x1, x2⟩
        by_cases e : x = p
        · exact Or.inr (e ▸ x2)
        · exact Or.inl ⟨x, by omega, x2⟩
    refine xF_go o_Mo_refers [4, 38] 60 (fun K hK => ?_)
    repeat' ((conv => whnf); first | refine ⟨fun h => ?_, fun h => ?_⟩ | refine ⟨?_, ?_⟩ | refine hK _ _ _ _ ?_)
    · exact vp_in_nI hk (by decide)
    · have h0 : ¬ nI p < M.1 51 (nI k).toNatClampNeg := by assumption
      rw [v51, nI_ltI (by omega) (by omega)] at h0
      exact absurd hp h0
    · have h0 : ¬ b2 b = 0 := by assumption
      rw [b2_ne] at h0
      exact go true ⟨fun _ => Or.inl h0, fun _ => rfl⟩
    · rw [e64]; exact vp_in_nI (by show _ < 1536; omega) (by decide)
    · have h0 := (show M.1 55 (64 * nI k + nI p).toNatClampNeg = -1 from by assumption)
      rw [e64, v55, hnr] at h0
      have h1 : b2 b = 0 := by assumption
      rw [b2_0] at h1
      exact go false ⟨fun z => (by cases z), fun z => z.elim (fun y => by rw [h1] at y; cases y) (fun y => absurd h0 y)⟩
    · have h0 := (show ¬ M.1 55 (64 * nI k + nI p).toNatClampNeg = -1 from by assumption)
      rw [e64, v55, hnr] at h0
      exact go true ⟨fun _ => Or.inr h0, fun _ => rfl⟩
  · intro b hb
    have hb2 : b = true ↔ ¬ ∀ p, p < 64 → pR P k p = none := by
      rw [hb]
      constructor
      · rintro ⟨x, x1, x2⟩ z
        exact x2 (z x (by omega))
      · intro z
        refine Classical.byContradiction (fun y => z (fun p hp => ?_))
        cases e : pR P k p with
        | none => rfl
        | some t => exact absurd ⟨p, (hw.2.2.1 k hk p hp t e).2.1, by rw [e]; simp⟩ y
    refine xF_go o_Mo_refers [4] 60 (fun K hK => ?_)
    repeat' ((conv => whnf); first | refine ⟨fun h => ?_, fun h => ?_⟩ | refine ⟨?_, ?_⟩ | refine hK _ _ _ _ ?_)
    · exact vp_in_nI hk (by decide)
    · show xF l G y_Mo_refers 46 _ [.int (b2 b)] M _
      refine xF_zret o_Mo_refers rfl rfl (b2_01 _) ?_
      exact hQ _ _ ⟨rfl, by rw [tb_b hb2]⟩
    all_goals
      have h0 : nI (pS P k) < M.1 51 (nI k).toNatClampNeg := by assumption
      rw [v51, nI_ltI (by omega) (by omega)] at h0
      exact absurd h0 (Nat.lt_irrefl _)
theorem E_MendsWith (P : sP) (hw : wP P) (M : xMe) (hS : mS P M) (hO : mO P M) (y x : Nat) (hy : y < 24) (hx : x < 24) : xE l G y_Mo_endsWith [.ref 50, .int (nI y), .int (nI x)] M (fun r M' => M' = M ∧ r = some (.int (b2 (tb (ens P y x))))) := by
  refine xE_cps (fun Q hQ => ?_)
  have hsy := (hw.1 y hy).1
  have hsx := (hw.1 x hx).1
  have hcy : (nI y).toNatClampNeg = y := nI_clamp (by omega)
  have hcx : (nI x).toNatClampNeg = x := nI_clamp (by omega)
  have vy : M.1 51 (nI y).toNatClampNeg = nI (pS P y) := by rw [hcy]; exact (hS y hy).1
  have vx : M.1 51 (nI x).toNatClampNeg = nI (pS P x) := by rw [hcx]; exact (hS x hx).1
  refine xE_of [some (.ref 50), some (.int (nI y)), some (.int (nI x)), none, none] (by decide +kernel) (Nat.le_of_ble_eq_true rfl) rfl ?_
  have lp : ∀ b : Bool, (b = true ↔ pS P x ≤ pS P y) → xF l G y_Mo_endsWith 20 [some (.ref 50), some (.int (nI y)), some (.int (nI x)), none, none] [.int (b2 b)] M Q := by
    intro b hb
    refine xF_go o_Mo_endsWith [24] 60 (fun K hK => ?_)
    repeat' ((conv => whnf); first | refine ⟨fun h => ?_, fun h => ?_⟩ | refine ⟨?_, ?_⟩ | refine hK _ _ _ _ ?_)
    clear hK K
    refine loopN (σ := Bool) (pS P x) (fun p b => b = true ↔ (pS P x ≤ pS P y ∧ ∀ p', p' < p → pO P y (pS P y - pS P x + p') = pO P x p')) (fun p b => xF l G y_Mo_endsWith 24 [some (.ref 50), some (.int (nI y)), some (.int (nI x)), some (.int (b2 b)), some (.int (nI p))] [] M Q) ?_ ?_ (pS P x) 0 rfl b (hb.trans ⟨fun z => ⟨z, fun p' hp' => absurd hp' (Nat.not_lt_zero _)⟩, fun z => z.1⟩)
    · intro p hp b hb next
      have fin1 : b = false → Q (some (.int (b2 false))) M := by
        intro e
        refine hQ _ _ ⟨rfl, ?_⟩
        rw [tb_f.mpr (fun z => ?_)]
        rw [hb.mpr ⟨z.1, fun p' hp' => z.2 p' (by omega)⟩] at e
        cases e
      have e2 : 64 * nI x + nI p = nI (64 * x + p) := by rw [nI_64, nI_add]
      have v2 : M.1 54 (nI (64 * x + p)).toNatClampNeg = nI (pO P x p) := by
        rw [nI_clamp (by omega), show 64 * x + p = x * 64 + p by omega]
        exact hO x hx _ (by omega)
      have e1 : pS P x ≤ pS P y → 64 * nI y + nI (pS P y) - nI (pS P x) + nI p = nI (64 * y + (pS P y - pS P x + p)) := by
        intro z
        rw [nI_64, nI_add, show (nI (64 * y + pS P y) - nI (pS P x) : Int32) = nI (64 * y + pS P y - pS P x) from pk_sub (by omega), nI_add]
        congr 1
        omega
      have v1 : pS P x ≤ pS P y → M.1 54 (nI (64 * y + (pS P y - pS P x + p))).toNatClampNeg = nI (pO P y (pS P y - pS P x + p)) := by
        intro z
        rw [nI_clamp (by omega), show 64 * y + (pS P y - pS P x + p) = y * 64 + (pS P y - pS P x + p) by omega]
        exact hO y hy _ (by omega)
      have go : b = true → ∀ z : Bool, (z = true ↔ pO P y (pS P y - pS P x + p) = pO P x p) → xF l G y_Mo_endsWith 85 [some (.ref 50), some (.int (nI y)), some (.int (nI x)), some (.int (b2 b)), some (.int (nI p))] [.int (b2 z)] M Q := by
        intro hbt z hz
        have hb' := hb.mp hbt
        refine xF_go o_Mo_endsWith [24] 60 (fun K hK => ?_)
        repeat' ((conv => whnf); first | refine ⟨fun h => ?_, fun h => ?_⟩ | refine ⟨?_, ?_⟩ | refine hK _ _ _ _ ?_)
        rw [nI_1]
        refine next z (hz.trans ⟨fun e => ⟨hb'.1, fun p' hp' => ?_⟩, fun e => e.2 p (by omega)⟩)
        by_cases q : p' = p
        · rw [q]; exact e
        · exact hb'.2 p' (by omega)
      refine xF_go o_Mo_endsWith [24, 85] 60 (fun K hK => ?_)
      repeat' ((conv => whnf); first | refine ⟨fun h => ?_, fun h => ?_⟩ | refine ⟨?_, ?_⟩ | refine hK _ _ _ _ ?_)
      · exact vp_in_nI hx (by decide)
      · have h0 : ¬ nI p < M.1 51 (nI x).toNatClampNeg := by assumption
        rw [vx, nI_ltI (by omega) (by omega)] at h0
        exact absurd hp h0
      · have h0 : b2 b = 0 := by assumption
        rw [b2_0] at h0
        subst h0
        refine xF_zret o_Mo_endsWith rfl rfl (Or.inl rfl) ?_
        exact fin1 rfl
      · have h0 : ¬ b2 b = 0 := by assumption
        exact vp_in_nI hy (by decide)
      · exact vp_in_nI hx (by decide)
      · have h0 : ¬ b2 b = 0 := by assumption
        rw [b2_ne] at h0
        have hle := (hb.mp h0).1
        rw [vy, vx, e1 hle]
        exact vp_in_nI (by show _ < 1536; omega) (by decide)
      · rw [e2]
        exact vp_in_nI (by show _ < 1536; omega) (by decide)
      · have h0 : ¬ b2 b = 0 := by assumption
        rw [b2_ne] at h0
        have hle := (hb.mp h0).1
        have h1 := (show ¬ M.1 54 (64 * nI y + M.1 51 (nI y).toNatClampNeg - M.1 51 (nI x).toNatClampNeg + nI p).toNatClampNeg = M.1 54 (64 * nI x + nI p).toNatClampNeg from by assumption)
        rw [vy, vx, e1 hle, e2, v1 hle, v2] at h1
        exact go h0 false ⟨fun z => (by cases z), fun z => absurd (by rw [z]) h1⟩
      · have h0 : ¬ b2 b = 0 := by assumption
        rw [b2_ne] at h0
        have hle := (hb.mp h0).1
        have h1 := (show M.1 54 (64 * nI y + M.1 51 (nI y).toNatClampNeg - M.1 51 (nI x).toNatClampNeg + nI p).toNatClampNeg = M.1 54 (64 * nI x + nI p).toNatClampNeg from by assumption)
        rw [vy, vx, e1 hle, e2, v1 hle, v2] at h1
        have b1 := hw.2.1 y hy (pS P y - pS P x + p) (by omega)
        have b2' := hw.2.1 x hx p (by omega)
        exact go h0 true ⟨fun _ => nI_inj (by omega) (by omega) h1, fun _ => rfl⟩
    · intro b hb
      refine xF_go o_Mo_endsWith [24] 60 (fun K hK => ?_)
      repeat' ((conv => whnf); first | refine ⟨fun h => ?_, fun h => ?_⟩ | refine ⟨?_, ?_⟩ | refine hK _ _ _ _ ?_)
      · exact vp_in_nI hx (by decide)
      · show xF l G y_Mo_endsWith 93 _ [.int (b2 b)] M _
        refine xF_zret o_Mo_endsWith rfl rfl (b2_01 _) ?_
        exact hQ _ _ ⟨rfl, by rw [tb_b hb]; rfl⟩
      all_goals
        have h0 : nI (pS P x) < M.1 51 (nI x).toNatClampNeg := by assumption
        rw [vx, nI_ltI (by omega) (by omega)] at h0
        exact absurd h0 (Nat.lt_irrefl _)
  refine xF_go o_Mo_endsWith [20] 60 (fun K hK => ?_)
  repeat' ((conv => whnf); first | refine ⟨fun h => ?_, fun h => ?_⟩ | refine ⟨?_, ?_⟩ | refine hK _ _ _ _ ?_)
  · exact vp_in_nI hy (by decide)
  · exact vp_in_nI hx (by decide)
  · have h0 := (show M.1 51 (nI y).toNatClampNeg < M.1 51 (nI x).toNatClampNeg from by assumption)
    rw [vy, vx, nI_ltI (by omega) (by omega)] at h0
    exact lp false ⟨fun z => (by cases z), fun z => by omega⟩
  · have h0 := (show ¬ M.1 51 (nI y).toNatClampNeg < M.1 51 (nI x).toNatClampNeg from by assumption)
    rw [vy, vx, nI_ltI (by omega) (by omega)] at h0
    exact lp true ⟨fun _ => by omega, fun _ => rfl⟩
end XMK
