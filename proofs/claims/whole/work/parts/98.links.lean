/-! the reference's chains: links of instructions -/
def lk3 (P : sP) (U : sU) (f i : Nat) (q : Nat × Int32 × Int32 × Int32) (a b : Nat) : Prop := (q.1 = 5 ∧ a = f ∧ b = ix q.2.1) ∨ (q.1 = 3 ∧ a = f ∧ b = 12 + ix q.2.2.1 ∧ ∃ p, p < pS P (ix q.2.2.1) ∧ uS U f i (ix q.2.2.2) p) ∨ (q.1 = 11 ∧ a = f ∧ b = 12 + ix q.2.2.1 ∧ ∃ p, p < pS P (ix q.2.2.1) ∧ uS U f i (ix q.2.2.2) p ∧ (pR P (ix q.2.2.1) p).isSome)
def tIn (P : sP) (U : sU) (f i a b : Nat) : Prop := ∃ f' i' q, f' < 12 ∧ (f' < f ∨ (f' = f ∧ i' < i)) ∧ (pC P f')[i']? = some q ∧ uC U f' i' ∧ lk3 P U f' i' q a b
section XLI
variable (l : Launch) (G : xG)
theorem L_ins (P : sP) (hw : wP P) (U : sU) (E : Nat → Prop) (L : Nat → Nat → Prop) (D0 : Nat → Option Nat) (M0 : xMe) (hP : mP P M0) (hU : mU U M0) (hL : ∀ f i q a b, f < 12 → (pC P f)[i]? = some q → uC U f i → lk3 P U f i q a b → L a b) (f : Nat) (hf : f < 12) (Q : Option Value → xMe → Prop) (hQ : ∀ D c M y2 y3, mD D M → mo c M → ufr [82] M0 M → pD E L D0 D c (tIn P U (f + 1) 0) → xF l G y_Mo_chains 185 [some (.ref 50), some (.int (nI f)), y2, y3] [] M Q) : ∀ (m i : Nat), m + i = (pC P f).length → ∀ D c M y3, mD D M → mo c M → ufr [82] M0 M → pD E L D0 D c (tIn P U f i) → xF l G y_Mo_chains 67 [some (.ref 50), some (.int (nI f)), some (.int (nI i)), y3] [] M Q := by
  have hl := (hw.2.2.2.1 f hf).1
  have hcl : (nI f).toNatClampNeg = f := nI_clamp (by omega)
  intro m
  induction m with
  | zero =>
    intro i hi D c M y3 hD hm hfr hpd
    obtain rfl : i = (pC P f).length := by omega
    have hlen : M.1 57 (nI f).toNatClampNeg = nI (pC P f).length := by rw [hcl, (hfr.1 57 (by decide)).1]; exact (hP.2.2.2.1 f hf).1
    refine xF_go o_Mo_chains [67, 185] 60 (fun K hK => ?_)
    repeat' ((conv => whnf); first | refine ⟨fun h => ?_, fun h => ?_⟩ | refine ⟨?_, ?_⟩ | refine hK _ _ _ _ ?_)
    · exact vp_in_nI hf (by decide)
    · refine hQ D c M _ _ hD hm hfr (pD_mono hpd (fun a b ⟨f', i', q, z1, z2, z3, z4⟩ => ⟨f', i', q, z1, ?_, z3, z4⟩))
      have := (List.getElem?_eq_some_iff.mp z3).1
      by_cases e : f' = f
      · subst e; exact Or.inr ⟨rfl, this⟩
      · exact Or.inl (by omega)
    all_goals
      have hlt : nI (pC P f).length < M.1 57 (nI f).toNatClampNeg := by assumption
      rw [hlen, nI_ltI (by omega) (by omega)] at hlt
      omega
  | succ m ih =>
    intro i hi D c M y3 hD hm hfr hpd
    have hlt : i < (pC P f).length := by omega
    have hq := List.getElem?_eq_getElem hlt
    generalize (pC P f)[i] = q at hq
    have hvq : vN q := (hw.2.2.2.1 f hf).2 q (List.mem_of_getElem? hq)
    have hq12 := vN_le hvq
    have hlen : M.1 57 (nI f).toNatClampNeg = nI (pC P f).length := by rw [hcl, (hfr.1 57 (by decide)).1]; exact (hP.2.2.2.1 f hf).1
    have ek : 41 * nI f + nI i = nI (41 * f + i) := by rw [nI_41', nI_add]
    have hin : vp_in (41 * nI f + nI i) 492 := by rw [ek]; exact vp_in_nI (by omega) (by decide)
    have hck : (41 * nI f + nI i).toNatClampNeg = f * 41 + i := by rw [ek, nI_clamp (by omega)]; omega
    have hPM : mP P M := hfr.P (by decide) hP
    obtain ⟨c1, c2, c3, c4⟩ := (hPM.2.2.2.1 f hf).2 i q hq
    obtain ⟨b, hb1, hb2⟩ := hU.2.2.2.1 f hf i (by omega)
    have v72 : M.1 72 (41 * nI f + nI i).toNatClampNeg = b2 b := by rw [hck, show f * 41 + i = 41 * f + i by omega, (hfr.1 72 (by decide)).1]; exact hb1
    have v58 : M.1 58 (41 * nI f + nI i).toNatClampNeg = nI q.1 := by rw [hck]; exact c1
    have hno : (¬ uC U f i ∨ ∀ a b, ¬ lk3 P U f i q a b) → ∀ y3, xF l G y_Mo_chains 179 [some (.ref 50), some (.int (nI f)), some (.int (nI i)), y3] [] M Q := by
      intro hor y3
      refine xF_go o_Mo_chains [67] 60 (fun K hK => ?_)
      repeat' ((conv => whnf); first | refine ⟨fun h => ?_, fun h => ?_⟩ | refine ⟨?_, ?_⟩ | refine hK _ _ _ _ ?_)
      rw [nI_1]
      refine ih (i + 1) (by omega) D c M _ hD hm hfr (pD_mono hpd (fun a b ⟨f', i', q', z1, z2, z3, z4, z5⟩ => ⟨f', i', q', z1, ?_, z3, z4, z5⟩))
      by_cases e : f' = f ∧ i' = i
      · obtain ⟨rfl, rfl⟩ := e
        rw [hq] at z3
        cases z3
        rcases hor with y | y
        · exact absurd z4 y
        · exact absurd z5 (y a b)
      · omega
    have hyes : ∀ a b, a < 36 → b < 36 → uC U f i → lk3 P U f i q a b → (∀ a' b', lk3 P U f i q a' b' → a' = a ∧ b' = b) → ∀ M2 y3, mD (dLd D a b) M2 → mo (c || (dLf D a b).isSome) M2 → ufr [82] M M2 → xF l G y_Mo_chains 179 [some (.ref 50), some (.int (nI f)), some (.int (nI i)), y3] [] M2 Q := by
      intro a b ha hb hc hlk hun M2 y3 hD2 hm2 hfr2
      refine xF_go o_Mo_chains [67] 60 (fun K hK => ?_)
      repeat' ((conv => whnf); first | refine ⟨fun h => ?_, fun h => ?_⟩ | refine ⟨?_, ?_⟩ | refine hK _ _ _ _ ?_)
      rw [nI_1]
      refine ih (i + 1) (by omega) _ _ M2 _ hD2 hm2 (hfr.tr hfr2 (fun _ z => z)) (pD_mono (pD_step hpd hb (hL f i q a b hf hq hc hlk)) (fun a' b' ⟨f', i', q', z1, z2, z3, z4, z5⟩ => ?_))
      by_cases e : f' = f ∧ i' = i
      · obtain ⟨rfl, rfl⟩ := e
        rw [hq] at z3
        cases z3
        exact Or.inr (hun a' b' z5)
      · exact Or.inl ⟨f', i', q', z1, by omega, z3, z4, z5⟩
    have hcome : ¬ b2 b = 0 → uC U f i := fun h0 => by
      refine hb2.mp ?_
      cases b with
      | true => rfl
      | false => exact absurd rfl h0
    have hDb : ∀ x d, D x = some d → d < 2 ^ 30 := fun x d e => by have := iD_36 hpd.1 e; omega
    have h141 : uC U f i → (q.1 = 3 ∨ q.1 = 11) → xF l G y_Mo_chains 141 [some (.ref 50), some (.int (nI f)), some (.int (nI i)), some (.int (41 * nI f + nI i))] [] M Q := by
      intro hc ho
      obtain ⟨k, hk, e2, ek2⟩ : ∃ k, k < 24 ∧ q.2.2.1 = nI k ∧ ix q.2.2.1 = k := by
        obtain ⟨o, a, bb, cc⟩ := q
        rcases ho with ho | ho
        · replace ho : o = 3 := ho
          subst ho
          exact vT_n hvq.2.1
        · replace ho : o = 11 := ho
          subst ho
          exact vT_n hvq.2.1
      obtain ⟨rc, hrc, e3, erc⟩ : ∃ k, k < 4 ∧ q.2.2.2 = nI k ∧ ix q.2.2.2 = k := by
        obtain ⟨o, a, bb, cc⟩ := q
        rcases ho with ho | ho
        · replace ho : o = 3 := ho
          subst ho
          exact vR_n hvq.2.2
        · replace ho : o = 11 := ho
          subst ho
          exact vR_n hvq.2.2
      have hUM : mU U M := mU_fr hfr.1 (by decide) hU
      have fin : ∀ fo : Bool, (fo = true ↔ q.1 = 11) → xF l G y_Mo_chains 159 [some (.ref 50), some (.int (nI f)), some (.int (nI i)), some (.int (41 * nI f + nI i))] [.int (b2 fo), .int (41 * nI f + nI i), .ref 50] M Q := by
        intro fo hfo
        rw [ek]
        refine xF_callV o_Mo_chains [.int (nI (41 * f + i)), .int (b2 fo)] rfl z_Mo_readsBy i_Mo_readsBy v_Mo_readsBy l_Mo_257 rfl ⟨⟨by decide, by decide⟩, rfl, rfl⟩ (Nat.le_of_ble_eq_true rfl) rfl rfl rfl (E_readsBy l G P hw U M hPM hUM f i hf hlt q hq k rc hk hrc e2 e3 fo) ?_
        rintro v M1 ⟨rfl, bb, rfl, hbb⟩
        have hun : ∀ a' b', lk3 P U f i q a' b' → a' = f ∧ b' = 12 + k := by
          intro a' b' z
          rcases z with z | z | z
          · rcases ho with ho | ho
            · exact absurd (ho.symm.trans z.1) (by decide)
            · exact absurd (ho.symm.trans z.1) (by decide)
          · exact ⟨z.2.1, by rw [z.2.2.1, ek2]⟩
          · exact ⟨z.2.1, by rw [z.2.2.1, ek2]⟩
        have hlk : bb = true ↔ lk3 P U f i q f (12 + k) := by
          rw [hbb]
          unfold lk3
          rw [ek2, erc]
          constructor
          · rintro ⟨p, y1, y2, y3⟩
            rcases ho with ho | ho
            · exact Or.inr (Or.inl ⟨ho, rfl, rfl, p, y1, y2⟩)
            · exact Or.inr (Or.inr ⟨ho, rfl, rfl, p, y1, y2, y3 (hfo.mpr ho)⟩)
          · rintro (y | ⟨y0, _, _, p, y1, y2⟩ | ⟨y0, _, _, p, y1, y2, y3⟩)
            · rcases ho with ho | ho
              · exact absurd (ho.symm.trans y.1) (by decide)
              · exact absurd (ho.symm.trans y.1) (by decide)
            · exact ⟨p, y1, y2, fun z => by have := hfo.mp z; omega⟩
            · exact ⟨p, y1, y2, fun _ => y3⟩
        rw [← ek]
        refine xF_go o_Mo_chains [179] 60 (fun K hK => ?_)
        repeat' ((conv => whnf); first | refine ⟨fun h => ?_, fun h => ?_⟩ | refine ⟨?_, ?_⟩ | refine hK _ _ _ _ ?_)
        · have h0 : b2 bb = 0 := by assumption
          refine hno (Or.inr (fun a' b' z => ?_)) _
          have z2 := hun a' b' z
          rw [z2.1, z2.2] at z
          rw [hlk.mpr z] at h0
          exact absurd h0 (by decide)
        · exact hin
        · have h0 : ¬ b2 bb = 0 := by assumption
          have hbt : bb = true := by
            cases bb with
            | true => rfl
            | false => exact absurd rfl h0
          have v60 : M1.1 60 (41 * nI f + nI i).toNatClampNeg = nI k := by rw [hck, c3, e2]
          rw [v60, show (12 : Int32) + nI k = nI (12 + k) from nI_add 12 k]
          refine xF_callV o_Mo_chains [.int (nI f), .int (nI (12 + k))] rfl z_Mo_leads i_Mo_leads v_Mo_leads l_Mo_254 rfl ⟨⟨by decide, by decide⟩, rfl, rfl⟩ (Nat.le_of_ble_eq_true rfl) rfl rfl rfl (E_leads l G D hDb c M1 hD hm f (12 + k) (by omega) (by omega)) ?_
          rintro v M2 ⟨rfl, hD2, hm2, hfr2⟩
          exact hyes f (12 + k) (by omega) (by omega) hc (hlk.mp hbt) hun M2 _ hD2 hm2 hfr2
      refine xF_go o_Mo_chains [159] 60 (fun K hK => ?_)
      repeat' ((conv => whnf); first | refine ⟨fun h => ?_, fun h => ?_⟩ | refine ⟨?_, ?_⟩ | refine hK _ _ _ _ ?_)
      · exact hin
      · have h0 : ¬ M.1 58 (41 * nI f + nI i).toNatClampNeg = nI 11 := by assumption
        rw [v58] at h0
        exact fin false ⟨(fun z => by cases z), fun z => absurd (by rw [z]) h0⟩
      · have h0 : M.1 58 (41 * nI f + nI i).toNatClampNeg = nI 11 := by assumption
        rw [v58] at h0
        exact fin true ⟨fun _ => nI_inj (by omega) (by decide) h0, fun _ => rfl⟩
    refine xF_go o_Mo_chains [106, 141, 179, 185] 60 (fun K hK => ?_)
    repeat' ((conv => whnf); first | refine ⟨fun h => ?_, fun h => ?_⟩ | refine ⟨?_, ?_⟩ | refine hK _ _ _ _ ?_)
    · exact vp_in_nI hf (by decide)
    · have hlt2 : ¬ nI i < M.1 57 (nI f).toNatClampNeg := by assumption
      rw [hlen, nI_ltI (by omega) (by omega)] at hlt2
      omega
    · exact hin
    · exact hin
    · exact hin
    · have h0 : ¬ M.1 72 (41 * nI f + nI i).toNatClampNeg = 0 := by assumption
      rw [v72] at h0
      have h3 : M.1 58 (41 * nI f + nI i).toNatClampNeg = nI 3 := by assumption
      rw [v58] at h3
      exact h141 (hcome h0) (Or.inl (nI_inj (by omega) (by decide) h3))
    · exact hin
    · have h5 : ¬ M.1 58 (41 * nI f + nI i).toNatClampNeg = nI 5 := by assumption
      have h3 : ¬ M.1 58 (41 * nI f + nI i).toNatClampNeg = nI 3 := by assumption
      have h11 : ¬ M.1 58 (41 * nI f + nI i).toNatClampNeg = nI 11 := by assumption
      rw [v58] at h5 h3 h11
      refine hno (Or.inr (fun a' b' z => ?_)) _
      rcases z with z | z | z
      · exact h5 (by rw [z.1])
      · exact h3 (by rw [z.1])
      · exact h11 (by rw [z.1])
    · have h0 : ¬ M.1 72 (41 * nI f + nI i).toNatClampNeg = 0 := by assumption
      rw [v72] at h0
      have h11 : M.1 58 (41 * nI f + nI i).toNatClampNeg = nI 11 := by assumption
      rw [v58] at h11
      exact h141 (hcome h0) (Or.inr (nI_inj (by omega) (by decide) h11))
    · have h0 : ¬ M.1 72 (41 * nI f + nI i).toNatClampNeg = 0 := by assumption
      rw [v72] at h0
      have h5 : M.1 58 (41 * nI f + nI i).toNatClampNeg = nI 5 := by assumption
      rw [v58] at h5
      have ho := nI_inj (by omega) (by decide) h5
      clear hK K
      obtain ⟨g, hg, e1, eg⟩ : ∃ k, k < 12 ∧ q.2.1 = nI k ∧ ix q.2.1 = k := by
        obtain ⟨o, a, bb, cc⟩ := q
        replace ho : o = 5 := ho
        subst ho
        exact vF_n hvq.1
      have v59 : M.1 59 (41 * nI f + nI i).toNatClampNeg = nI g := by rw [hck, c2, e1]
      refine xF_go o_Mo_chains [179] 60 (fun K hK => ?_)
      repeat' ((conv => whnf); first | refine ⟨fun h => ?_, fun h => ?_⟩ | refine ⟨?_, ?_⟩ | refine hK _ _ _ _ ?_)
      · exact hin
      · rw [v59]
        refine xF_callV o_Mo_chains [.int (nI f), .int (nI g)] rfl z_Mo_leads i_Mo_leads v_Mo_leads l_Mo_254 rfl ⟨⟨by decide, by decide⟩, rfl, rfl⟩ (Nat.le_of_ble_eq_true rfl) rfl rfl rfl (E_leads l G D hDb c M hD hm f g (by omega) (by omega)) ?_
        rintro v M2 ⟨rfl, hD2, hm2, hfr2⟩
        clear hK K
        refine xF_go o_Mo_chains [179] 60 (fun K hK => ?_)
        repeat' ((conv => whnf); first | refine ⟨fun h => ?_, fun h => ?_⟩ | refine ⟨?_, ?_⟩ | refine hK _ _ _ _ ?_)
        refine hyes f g (by omega) (by omega) (hcome h0) (Or.inl ⟨ho, rfl, eg.symm⟩) (fun a' b' z => ?_) M2 _ hD2 hm2 hfr2
        rcases z with z | z | z
        · exact ⟨z.2.1, by rw [z.2.2, eg]⟩
        · omega
        · omega
    · have h0 : M.1 72 (41 * nI f + nI i).toNatClampNeg = 0 := by assumption
      rw [v72] at h0
      exact hno (Or.inl (fun z => by rw [hb2.mpr z] at h0; exact absurd h0 (by decide))) _
end XLI
