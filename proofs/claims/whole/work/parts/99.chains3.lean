/-! the reference's chains: passes until nothing is shorter -/
section XCW
variable (l : Launch) (G : xG)
theorem L_funs (P : sP) (hw : wP P) (U : sU) (E : Nat → Prop) (L : Nat → Nat → Prop) (D0 : Nat → Option Nat) (M0 : xMe) (hP : mP P M0) (hU : mU U M0) (hL : ∀ f i q a b, f < 12 → (pC P f)[i]? = some q → uC U f i → lk3 P U f i q a b → L a b) (Q : Option Value → xMe → Prop) (hQ : ∀ D c M y1 y2 y3, mD D M → mo c M → ufr [82] M0 M → pD E L D0 D c (tIn P U 12 0) → xF l G y_Mo_chains 191 [some (.ref 50), y1, y2, y3] [] M Q) : ∀ (m f : Nat), m + f = 12 → ∀ D c M y2 y3, mD D M → mo c M → ufr [82] M0 M → pD E L D0 D c (tIn P U f 0) → xF l G y_Mo_chains 59 [some (.ref 50), some (.int (nI f)), y2, y3] [] M Q := by
  intro m
  induction m with
  | zero =>
    intro f hf D c M y2 y3 hD hm hfr hpd
    obtain rfl : f = 12 := by omega
    refine xF_go o_Mo_chains [67, 191] 60 (fun K hK => ?_)
    repeat' ((conv => whnf); first | refine ⟨fun h => ?_, fun h => ?_⟩ | refine ⟨?_, ?_⟩ | refine hK _ _ _ _ ?_)
    · exact hQ D c M _ _ _ hD hm hfr hpd
    all_goals exact absurd (show nI 12 < nI 12 from by assumption) (nI_nlt (by omega) (by omega))
  | succ m ih =>
    intro f hf D c M y2 y3 hD hm hfr hpd
    refine xF_go o_Mo_chains [67, 191] 60 (fun K hK => ?_)
    repeat' ((conv => whnf); first | refine ⟨fun h => ?_, fun h => ?_⟩ | refine ⟨?_, ?_⟩ | refine hK _ _ _ _ ?_)
    · exact absurd (nI_lt (b := 12) (by omega) (by omega)) h
    · clear hK K
      refine L_ins l G P hw U E L D0 M0 hP hU hL f (by omega) Q ?_ (pC P f).length 0 (by omega) D c M _ hD hm hfr hpd
      intro D2 c2 M2 z2 z3 hD2 hm2 hfr2 hpd2
      refine xF_go o_Mo_chains [59] 60 (fun K hK => ?_)
      repeat' ((conv => whnf); first | refine ⟨fun h => ?_, fun h => ?_⟩ | refine ⟨?_, ?_⟩ | refine hK _ _ _ _ ?_)
      rw [nI_1]
      exact ih (f + 1) (by omega) D2 c2 M2 _ _ hD2 hm2 hfr2 hpd2
theorem L_cwhile (P : sP) (hw : wP P) (U : sU) (E : Nat → Prop) (L : Nat → Nat → Prop) (M0 : xMe) (hP : mP P M0) (hU : mU U M0) (hL : ∀ f i q a b, f < 12 → (pC P f)[i]? = some q → uC U f i → lk3 P U f i q a b → L a b) (hFs : ∀ k x, uFo U k x → (pR P k x).isSome) (hLf : ∀ k x t, uFo U k x → pR P k x = some t → L (12 + k) (12 + t)) (Q : Option Value → xMe → Prop) (hQ : ∀ D M, mD D M → mo false M → ufr [82] M0 M → iD E L D → (∀ a b, (tIn P U 12 0 a b ∨ tFo P U 1536 a b) → dLf D a b = none) → Q none M) : ∀ (n : Nat) D (b : Bool) M y1 y2 y3, mD D M → mo b M → ufr [82] M0 M → iD E L D → (b = true → muD D < n) → (b = false → ∀ a b, (tIn P U 12 0 a b ∨ tFo P U 1536 a b) → dLf D a b = none) → xF l G y_Mo_chains 45 [some (.ref 50), y1, y2, y3] [] M Q := by
  intro n
  induction n with
  | zero =>
    intro D b M y1 y2 y3 hD hm hfr hi hn hb
    have hbf : b = false := by
      cases b with
      | false => rfl
      | true => exact absurd (hn rfl) (Nat.not_lt_zero _)
    subst hbf
    refine xF_go o_Mo_chains [59] 60 (fun K hK => ?_)
    repeat' ((conv => whnf); first | refine ⟨fun h => ?_, fun h => ?_⟩ | refine ⟨?_, ?_⟩ | refine hK _ _ _ _ ?_)
    · refine xF_vret o_Mo_chains rfl rfl ?_
      exact hQ D M hD hm hfr hi (hb rfl)
    all_goals
      have h0 : ¬ M.1 50 39 = 0 := by assumption
      rw [hm] at h0
      exact absurd rfl h0
  | succ n ih =>
    intro D b M y1 y2 y3 hD hm hfr hi hn hb
    refine xF_go o_Mo_chains [59] 60 (fun K hK => ?_)
    repeat' ((conv => whnf); first | refine ⟨fun h => ?_, fun h => ?_⟩ | refine ⟨?_, ?_⟩ | refine hK _ _ _ _ ?_)
    · have h0 : M.1 50 39 = 0 := by assumption
      rw [hm] at h0
      have hbf : b = false := by
        cases b with
        | false => rfl
        | true => exact absurd h0 (by decide)
      subst hbf
      refine xF_vret o_Mo_chains rfl rfl ?_
      exact hQ D M hD hm hfr hi (hb rfl)
    · exact Or.inl rfl
    · have h0 : ¬ M.1 50 39 = 0 := by assumption
      rw [hm] at h0
      have hbt : b = true := by
        cases b with
        | true => rfl
        | false => exact absurd rfl h0
      clear hK K
      refine L_funs l G P hw U E L D M0 hP hU hL Q ?_ 12 0 (by omega) D false _ _ _ hD rfl hfr.F (pD_mono (pD_0 hi) (fun a b ⟨f', i', q, z1, z2, _⟩ => by omega))
      intro D2 c2 M2 z1 z2 z3 hD2 hm2 hfr2 hpd2
      refine xF_go o_Mo_chains [193] 60 (fun K hK => ?_)
      repeat' ((conv => whnf); first | refine ⟨fun h => ?_, fun h => ?_⟩ | refine ⟨?_, ?_⟩ | refine hK _ _ _ _ ?_)
      clear hK K
      refine L_fol l G P hw U E L D (tIn P U 12 0) M0 hP hU hFs hLf Q ?_ 1536 0 (by omega) D2 c2 M2 _ _ hD2 hm2 hfr2 (pD_mono hpd2 (fun a b z => z.elim id (fun ⟨k, x, t, z1, _⟩ => by omega)))
      intro D3 c3 M3 w1 w2 w3 hD3 hm3 hfr3 hpd3
      refine xF_go o_Mo_chains [45] 60 (fun K hK => ?_)
      repeat' ((conv => whnf); first | refine ⟨fun h => ?_, fun h => ?_⟩ | refine ⟨?_, ?_⟩ | refine hK _ _ _ _ ?_)
      refine ih D3 c3 M3 _ _ _ hD3 hm3 hfr3 hpd3.1 (fun e => ?_) (fun e a b z => ?_)
      · have := hpd3.2.2.1 e
        have := hn hbt
        omega
      · obtain ⟨e1, e2⟩ := hpd3.2.2.2 e
        rw [e1]
        exact e2 a b z
end XCW
