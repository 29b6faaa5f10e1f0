/-! the reference's chains: links between items -/
def tFo (P : sP) (U : sU) (p a b : Nat) : Prop := ∃ k x t, 64 * k + x < p ∧ k < 24 ∧ x < 64 ∧ uFo U k x ∧ pR P k x = some t ∧ a = 12 + k ∧ b = 12 + t
section XFL2
variable (l : Launch) (G : xG)
theorem L_fol (P : sP) (hw : wP P) (U : sU) (E : Nat → Prop) (L : Nat → Nat → Prop) (D0 : Nat → Option Nat) (T : Nat → Nat → Prop) (M0 : xMe) (hP : mP P M0) (hU : mU U M0) (hFs : ∀ k x, uFo U k x → (pR P k x).isSome) (hLf : ∀ k x t, uFo U k x → pR P k x = some t → L (12 + k) (12 + t)) (Q : Option Value → xMe → Prop) (hQ : ∀ D c M y1 y2 y3, mD D M → mo c M → ufr [82] M0 M → pD E L D0 D c (fun a b => T a b ∨ tFo P U 1536 a b) → xF l G y_Mo_chains 235 [some (.ref 50), y1, y2, y3] [] M Q) : ∀ (m p : Nat), m + p = 1536 → ∀ D c M y2 y3, mD D M → mo c M → ufr [82] M0 M → pD E L D0 D c (fun a b => T a b ∨ tFo P U p a b) → xF l G y_Mo_chains 193 [some (.ref 50), some (.int (nI p)), y2, y3] [] M Q := by
  intro m
  induction m with
  | zero =>
    intro p hp D c M y2 y3 hD hm hfr hpd
    obtain rfl : p = 1536 := by omega
    refine xF_go o_Mo_chains [193, 235] 60 (fun K hK => ?_)
    repeat' ((conv => whnf); first | refine ⟨fun h => ?_, fun h => ?_⟩ | refine ⟨?_, ?_⟩ | refine hK _ _ _ _ ?_)
    · exact hQ D c M _ _ _ hD hm hfr hpd
    all_goals exact absurd (show nI 1536 < nI 1536 from by assumption) (nI_nlt (by omega) (by omega))
  | succ m ih =>
    intro p hp D c M y2 y3 hD hm hfr hpd
    have hcl : (nI p).toNatClampNeg = p := nI_clamp (by omega)
    have ip : vp_in (nI p) 1536 := vp_in_nI (by omega) (by decide)
    obtain ⟨b, hb1, hb2⟩ := hU.2.2.2.2.2.2.1 (p / 64) (by omega) (p % 64) (by omega)
    rw [show 64 * (p / 64) + p % 64 = p by omega] at hb1
    have v75 : M.1 75 (nI p).toNatClampNeg = b2 b := by rw [hcl, (hfr.1 75 (by decide)).1]; exact hb1
    have ed : (nI p / 64 : Int32) = nI (p / 64) := pk_div (a := p) (d := 64) (by omega) (by decide) (by decide)
    refine xF_go o_Mo_chains [193, 235] 60 (fun K hK => ?_)
    repeat' ((conv => whnf); first | refine ⟨fun h => ?_, fun h => ?_⟩ | refine ⟨?_, ?_⟩ | refine hK _ _ _ _ ?_)
    · exact absurd (nI_lt (b := 1536) (by omega) (by omega)) h
    · exact ip
    · have h0 : M.1 75 (nI p).toNatClampNeg = 0 := by assumption
      rw [v75] at h0
      have hno : ¬ uFo U (p / 64) (p % 64) := fun z => by rw [hb2.mpr z] at h0; exact absurd h0 (by decide)
      rw [nI_1]
      refine ih (p + 1) (by omega) D c M _ _ hD hm hfr (pD_mono hpd (fun a b z => z.imp id (fun ⟨k, x, t, z1, z2, z3, z4, z5⟩ => ⟨k, x, t, ?_, z2, z3, z4, z5⟩)))
      by_cases e : 64 * k + x = p
      · exact absurd (by rw [← e, show (64 * k + x) / 64 = k by omega, show (64 * k + x) % 64 = x by omega]; exact z4) hno
      · omega
    · exact (by decide : ¬ (64 : Int32) = 0)
    · exact ip
    · have h0 : ¬ M.1 75 (nI p).toNatClampNeg = 0 := by assumption
      rw [v75] at h0
      have hbt : b = true := by
        cases b with
        | true => rfl
        | false => exact absurd rfl h0
      have hfo := hb2.mp hbt
      obtain ⟨t, ht⟩ := Option.isSome_iff_exists.mp (hFs _ _ hfo)
      have ht2 := hw.2.2.1 (p / 64) (by omega) (p % 64) (by omega) t ht
      have v55 : M.1 55 (nI p).toNatClampNeg = nI t := by
        rw [hcl, (hfr.1 55 (by decide)).1]
        have := hP.2.2.1 (p / 64) (by omega) (p % 64) (by omega)
        rw [show p / 64 * 64 + p % 64 = p by omega, ht] at this
        exact this
      rw [v55, ed, show (12 : Int32) + nI (p / 64) = nI (12 + p / 64) from nI_add 12 _, show (12 : Int32) + nI t = nI (12 + t) from nI_add 12 t]
      refine xF_callV o_Mo_chains [.int (nI (12 + p / 64)), .int (nI (12 + t))] rfl z_Mo_leads i_Mo_leads v_Mo_leads l_Mo_254 rfl ⟨⟨by decide, by decide⟩, rfl, rfl⟩ (Nat.le_of_ble_eq_true rfl) rfl rfl rfl (E_leads l G D (fun x d e => by have := iD_36 hpd.1 e; omega) c M hD hm (12 + p / 64) (12 + t) (by omega) (by omega)) ?_
      rintro v M2 ⟨rfl, hD2, hm2, hfr2⟩
      clear hK K
      refine xF_go o_Mo_chains [193] 60 (fun K hK => ?_)
      repeat' ((conv => whnf); first | refine ⟨fun h => ?_, fun h => ?_⟩ | refine ⟨?_, ?_⟩ | refine hK _ _ _ _ ?_)
      rw [nI_1]
      refine ih (p + 1) (by omega) _ _ M2 _ _ hD2 hm2 (hfr.tr hfr2 (fun _ z => z)) (pD_mono (pD_step hpd (show 12 + t < 36 by omega) (hLf _ _ t hfo ht)) (fun a b z => ?_))
      rcases z with z | ⟨k, x, t', z1, z2, z3, z4, z5, z6, z7⟩
      · exact Or.inl (Or.inl z)
      · by_cases e : 64 * k + x = p
        · have ek : k = p / 64 := by omega
          have ex : x = p % 64 := by omega
          rw [ek, ex, ht] at z5
          cases z5
          exact Or.inr ⟨by rw [z6, ek], z7⟩
        · exact Or.inl (Or.inr ⟨k, x, t', by omega, z2, z3, z4, z5, z6, z7⟩)
end XFL2
