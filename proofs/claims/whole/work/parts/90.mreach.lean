/-! the reference's reach -/
def uIni (P : sP) (f : Nat) (R : Nat → Prop) : sU := (fun g i _ v => (g < f ∧ pE P g = true ∧ i = atU P g 0) ∧ v = 0, fun k p v => v = pO P k p, fun g i => g < f ∧ pE P g = true ∧ i = atU P g 0, fun _ _ _ => False, fun g => f ≤ g ∧ R g, fun _ _ => False, fun _ _ => False, fun _ => False, fun _ => False)
theorem uIni_sub {P : sP} (hw : wP P) {R : Nat → Prop} {Z : sV} (hz : cls P Z) : subU P (uIni P 12 R) Z := by
  refine ⟨⟨fun f hf i hi z => ?_, fun f hf i hi r hr v hv z => ?_, fun f hf z => by have := z.1; omega, fun f hf r hr v hv z => z.elim, fun k hk p hp v hv z => ?_⟩, fun _ _ z => z.elim, fun _ _ z => z.elim, fun _ z => z.elim, fun _ z => z.elim⟩
  · rw [z.2.2, pos_at (hw.2.2.2.1 f hf).1]
    exact (hz.1.1 f hf z.2.1).1
  · rw [z.1.2.2, pos_at (hw.2.2.2.1 f hf).1]
    exact (hz.1.1 f hf z.1.2.1).2 r hr v hv z.2
  · have z' : v = pO P k p := z
    rw [z']
    exact hz.1.2 k hk p hp
section XMR
variable (l : Launch) (G : xG)
theorem L_ents (P : sP) (hw : wP P) (R : Nat → Prop) (M0 : xMe) (hP : mP P M0) (Q : Option Value → xMe → Prop) (hQ : ∀ M (m : Bool) x y, ufr ufS M0 M → mo m M → mU (uIni P 12 R) M → xF l G y_Mo_reach 243 [some (.ref 50), x, y] [] M Q) : ∀ (n f : Nat), n + f = 12 → ∀ M (m : Bool) y, ufr ufS M0 M → mo m M → mU (uIni P f R) M → xF l G y_Mo_reach 178 [some (.ref 50), some (.int (nI f)), y] [] M Q := by
  intro n
  induction n with
  | zero =>
    intro f hf M m y hfr hm hU
    obtain rfl : f = 12 := by omega
    refine xF_go o_Mo_reach [178, 243] 60 (fun K hK => ?_)
    repeat' ((conv => whnf); first | refine ⟨fun h => ?_, fun h => ?_⟩ | refine ⟨?_, ?_⟩ | refine hK _ _ _ _ ?_)
    · exact hQ M m _ _ hfr hm hU
    all_goals exact absurd (show nI 12 < nI 12 from by assumption) (nI_nlt (by omega) (by omega))
  | succ n ih =>
    intro f hf M m y hfr hm hU
    have hf12 : f < 12 := by omega
    have hcl : (nI f).toNatClampNeg = f := nI_clamp (by omega)
    have hent : M.1 62 (nI f).toNatClampNeg = b2 (pE P f) := by rw [hcl, (hfr.1 62 (by decide)).1]; exact hP.2.2.2.2.1 f hf12
    have hU1 : mU (uS (uIni P f R), uY (uIni P f R), uC (uIni P f R), uB (uIni P f R), (fun g => f + 1 ≤ g ∧ R g), (fun _ _ => False), (fun _ _ => False), (fun _ => False), fun _ => False) (xsI M 73 (upd (M.1 73) f 0)) := by
      obtain ⟨h1, h2, h3, h4, h5, h6, h7, h8, h9⟩ := hU
      refine ⟨h1, h2, h3, h4, fun g hg => ?_, h6, h7, h8, h9⟩
      show ∃ b, upd (M.1 73) f 0 g = b2 b ∧ (b = true ↔ (f + 1 ≤ g ∧ R g))
      by_cases e : g = f
      · subst e
        exact ⟨false, by rw [upd_s]; rfl, (fun z => by cases z), fun z => by omega⟩
      · obtain ⟨b, e1, e2⟩ := h5 g hg
        refine ⟨b, by rw [upd_n e]; exact e1, e2.trans ⟨fun z => ⟨by have : f ≤ g := z.1; omega, z.2⟩, fun z => ⟨by show f ≤ g; omega, z.2⟩⟩⟩
    have hfr1 : ufr ufS M0 (xsI M 73 (upd (M.1 73) f 0)) := hfr.I (by simp) (by decide)
    refine xF_go o_Mo_reach [178, 202, 243] 60 (fun K hK => ?_)
    repeat' ((conv => whnf); first | refine ⟨fun h => ?_, fun h => ?_⟩ | refine ⟨?_, ?_⟩ | refine hK _ _ _ _ ?_)
    · exact absurd (nI_lt (b := 12) (by omega) (by omega)) h
    · exact vp_in_nI hf12 (by decide)
    · exact Or.inl rfl
    · exact vp_in_nI hf12 (by decide)
    · have h0 : M.1 62 (nI f).toNatClampNeg = 0 := by assumption
      rw [hent] at h0
      have hpe : ¬ pE P f = true := fun z => by rw [z] at h0; exact absurd h0 (by decide)
      rw [nI_1, hcl]
      have hx : ∀ g, (g < f ∧ pE P g = true) ↔ (g < f + 1 ∧ pE P g = true) := by
        intro g
        constructor
        · exact fun z => ⟨by omega, z.2⟩
        · intro z
          by_cases e : g = f
          · exact absurd (e ▸ z.2) hpe
          · exact ⟨by omega, z.2⟩
      refine ih (f + 1) (by omega) _ m _ hfr1 hm ?_
      obtain ⟨h1, h2, h3, h4, h5, h6, h7, h8, h9⟩ := hU1
      refine ⟨fun g hg i hi r hr v hv => (h1 g hg i hi r hr v hv).trans ?_, h2, h3, fun g hg i hi => ?_, h5, h6, h7, h8, h9⟩
      · exact and_congr ⟨fun z => ⟨((hx g).mp ⟨z.1, z.2.1⟩).1, z.2⟩, fun z => ⟨((hx g).mpr ⟨z.1, z.2.1⟩).1, z.2⟩⟩ Iff.rfl
      · obtain ⟨b, e1, e2⟩ := h4 g hg i hi
        exact ⟨b, e1, e2.trans ⟨fun z => ⟨((hx g).mp ⟨z.1, z.2.1⟩).1, z.2⟩, fun z => ⟨((hx g).mpr ⟨z.1, z.2.1⟩).1, z.2⟩⟩⟩
    · have h0 : ¬ M.1 62 (nI f).toNatClampNeg = 0 := by assumption
      rw [hent] at h0
      have hpe : pE P f = true := by
        cases e : pE P f with
        | true => rfl
        | false => rw [e] at h0; exact absurd rfl h0
      rw [hcl]
      clear hK K
      have e0 : xsI M 73 (upd (M.1 73) f 0) = xsL (xsI M 73 (upd (M.1 73) f 0)) 78 (fun i => if i < 0 then (if i % 4 = 0 then 1 else 0) else (xsI M 73 (upd (M.1 73) f 0)).2 78 i) := (xsL_id (fun i => by rw [if_neg (by omega)])).symm
      have key := L_now l G (nI f) (xsI M 73 (upd (M.1 73) f 0)) Q ?_ 16 0 (by omega)
      · rw [← e0] at key
        exact key
      · intro x
        have hN : nw (fun _ v => v = 0) (xsL (xsI M 73 (upd (M.1 73) f 0)) 78 (fun i => if i < 16 then (if i % 4 = 0 then 1 else 0) else (xsI M 73 (upd (M.1 73) f 0)).2 78 i)) := by
          intro r hr v hv
          show xbit (if 4 * r + v / 64 < 16 then (if (4 * r + v / 64) % 4 = 0 then 1 else 0) else M.2 78 (4 * r + v / 64)) (v % 64) = true ↔ v = 0
          rw [if_pos (by omega)]
          by_cases e : v / 64 = 0
          · rw [if_pos (by omega), xbit_one, decide_eq_true_iff]
            omega
          · rw [if_neg (by omega), xbit_0]
            exact ⟨(fun z => by cases z), fun z => by omega⟩
        have hfr2 : ufr ufS M0 (xsL (xsI M 73 (upd (M.1 73) f 0)) 78 (fun i => if i < 16 then (if i % 4 = 0 then 1 else 0) else (xsI M 73 (upd (M.1 73) f 0)).2 78 i)) := hfr1.L (by simp)
        refine xF_go o_Mo_reach [178] 60 (fun K hK => ?_)
        repeat' ((conv => whnf); first | refine ⟨fun h => ?_, fun h => ?_⟩ | refine ⟨?_, ?_⟩ | refine hK _ _ _ _ ?_)
        refine xF_callV o_Mo_reach [.int (nI f), .int 0] rfl z_Mo_comes i_Mo_comes v_Mo_comes l_Mo_234 rfl ⟨⟨by decide, by decide⟩, rfl, rfl⟩ (Nat.le_of_ble_eq_true rfl) rfl rfl rfl (E_comes l G P hw _ (fun _ v => v = 0) m _ (hfr2.P (by decide) hP) (mU_fr (S := [78]) (xfr.rf.L (by simp)) (by decide) hU1) hN hm f hf12 0) ?_
        rintro v M3 ⟨rfl, hU3, ⟨c, hc1, -⟩, hfr3⟩
        clear hK K
        refine xF_go o_Mo_reach [178] 60 (fun K hK => ?_)
        repeat' ((conv => whnf); first | refine ⟨fun h => ?_, fun h => ?_⟩ | refine ⟨?_, ?_⟩ | refine hK _ _ _ _ ?_)
        rw [nI_1]
        refine ih (f + 1) (by omega) M3 _ _ (hfr2.tr hfr3 (by simp)) hc1 ?_
        obtain ⟨h1, h2, h3, h4, h5, h6, h7, h8, h9⟩ := hU3
        have hx : ∀ g i, ((g < f ∧ pE P g = true ∧ i = atU P g 0) ∨ (g = f ∧ i = atU P f 0)) ↔ (g < f + 1 ∧ pE P g = true ∧ i = atU P g 0) := by
          intro g i
          constructor
          · rintro (z | ⟨rfl, z⟩)
            · exact ⟨by omega, z.2⟩
            · exact ⟨by omega, hpe, z⟩
          · intro z
            by_cases e : g = f
            · subst e; exact Or.inr ⟨rfl, z.2.2⟩
            · exact Or.inl ⟨by omega, z.2⟩
        refine ⟨fun g hg i hi r hr v hv => (h1 g hg i hi r hr v hv).trans ?_, h2, h3, fun g hg i hi => ?_, h5, h6, h7, h8, h9⟩
        · show (((g < f ∧ pE P g = true ∧ i = atU P g 0) ∧ v = 0) ∨ (g = f ∧ i = atU P f 0 ∧ v = 0)) ↔ ((g < f + 1 ∧ pE P g = true ∧ i = atU P g 0) ∧ v = 0)
          rw [← hx g i]
          constructor
          · rintro (z | z)
            · exact ⟨Or.inl z.1, z.2⟩
            · exact ⟨Or.inr ⟨z.1, z.2.1⟩, z.2.2⟩
          · rintro ⟨z | z, z2⟩
            · exact Or.inl ⟨z, z2⟩
            · exact Or.inr ⟨z.1, z.2, z2⟩
        · obtain ⟨b, e1, e2⟩ := h4 g hg i hi
          exact ⟨b, e1, e2.trans (hx g i)⟩
end XMR
