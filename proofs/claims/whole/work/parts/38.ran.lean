/-! what is told of the last run -/
abbrev sX : Type := Bool × List Nat × Nat × Option Nat × Option Nat
def wX (X : sX) : Prop := X.2.1.length ≤ 2000 ∧ (X.1 = false → X.2.1 = [])
def cX (X : sX) (M : xMe) : Prop := M.1 43 7 = b2 X.1 ∧ M.1 43 12 = nI X.2.1.length ∧ (∀ i v, i < 100 → X.2.1[i]? = some v → M.1 49 i = nI v) ∧ (X.1 = true → M.1 43 13 = nI X.2.2.1 ∧ M.1 43 9 = oI X.2.2.2.1 ∧ M.1 43 10 = oI X.2.2.2.2)
def mX (X : sX) (M : xMe) : Prop := M.1 50 24 = b2 X.1 ∧ M.1 50 20 = nI X.2.1.length ∧ (∀ i v, i < 100 → X.2.1[i]? = some v → M.1 66 i = nI v) ∧ (X.1 = true → M.1 50 21 = nI X.2.2.1 ∧ M.1 50 22 = oI X.2.2.2.1 ∧ M.1 50 23 = oI X.2.2.2.2)
def rRan (X : sX) (w r : Int32) : Prop := (X.1 = false → r = -1) ∧ (X.1 = true → (w = 0 → r = nI X.2.1.length) ∧ (w = 1 → r = nI X.2.2.1) ∧ (w = 2 → r = oI X.2.2.2.1) ∧ (w = 3 → r = oI X.2.2.2.2) ∧ (¬ w = 0 → ¬ w = 1 → ¬ w = 2 → ¬ w = 3 → r = -1))
def rOut (X : sX) (i r : Int32) : Prop := (∀ j, j < X.2.1.length → j < 100 → i = nI j → ∃ v, X.2.1[j]? = some v ∧ r = nI v) ∧ ((¬ ∃ j, j < X.2.1.length ∧ j < 100 ∧ i = nI j) → r = -1)
theorem rRan_one {X : sX} {w r r' : Int32} (h : rRan X w r) (h' : rRan X w r') : r = r' := by
  obtain ⟨a, b⟩ := h
  obtain ⟨a', b'⟩ := h'
  cases hX : X.1 with
  | false => rw [a hX, a' hX]
  | true =>
    obtain ⟨b0, b1, b2, b3, b4⟩ := b hX
    obtain ⟨c0, c1, c2, c3, c4⟩ := b' hX
    by_cases e0 : w = 0
    · rw [b0 e0, c0 e0]
    · by_cases e1 : w = 1
      · rw [b1 e1, c1 e1]
      · by_cases e2 : w = 2
        · rw [b2 e2, c2 e2]
        · by_cases e3 : w = 3
          · rw [b3 e3, c3 e3]
          · rw [b4 e0 e1 e2 e3, c4 e0 e1 e2 e3]
theorem rOut_one {X : sX} {i r r' : Int32} (h : rOut X i r) (h' : rOut X i r') : r = r' := by
  by_cases e : ∃ j, j < X.2.1.length ∧ j < 100 ∧ i = nI j
  · obtain ⟨j, h1, h2, h3⟩ := e
    obtain ⟨v, e1, e2⟩ := h.1 j h1 h2 h3
    obtain ⟨v', e1', e2'⟩ := h'.1 j h1 h2 h3
    rw [e1] at e1'
    cases e1'
    rw [e2, e2']
  · rw [h.2 e, h'.2 e]
section XRN
variable (l : Launch) (G : xG)
theorem E_tell (X : sX) (M : xMe) (hM : cX X M) (w : Int32) : xE l G y_Ma_tell [.ref 43, .int w] M (fun r M' => M' = M ∧ ∃ r0, r = some (.int r0) ∧ rRan X w r0) := by
  obtain ⟨h1, h2, h3, h4⟩ := hM
  refine xE_of [some (.ref 43), some (.int w)] (by decide +kernel) (Nat.le_of_ble_eq_true rfl) rfl ?_
  refine xF_go o_Ma_tell [9] 60 (fun K hK => ?_)
  repeat' ((conv => whnf); first | refine ⟨fun h => ?_, fun h => ?_⟩ | refine ⟨?_, ?_⟩ | refine hK _ _ _ _ ?_)
  · rw [h1] at h
    have hX : X.1 = true := by
      cases hx : X.1 with
      | true => rfl
      | false => rw [hx] at h; exact absurd rfl h
    obtain ⟨g1, g2, g3⟩ := h4 hX
    clear hK K h
    refine xF_go o_Ma_tell [] 60 (fun K hK => ?_)
    repeat' ((conv => whnf); first | refine ⟨fun h => ?_, fun h => ?_⟩ | refine ⟨?_, ?_⟩ | refine hK _ _ _ _ ?_)
    · refine xF_iret o_Ma_tell rfl rfl ?_
      have e : w = 0 := by assumption
      refine ⟨rfl, _, rfl, (fun z => absurd (hX.symm.trans z) (by decide)), fun _ => ⟨fun _ => h2, ?_, ?_, ?_, ?_⟩⟩ <;> intro z <;> rw [e] at z <;> exact absurd z (by decide)
    · refine xF_iret o_Ma_tell rfl rfl ?_
      have e : w = 1 := by assumption
      refine ⟨rfl, _, rfl, (fun z => absurd (hX.symm.trans z) (by decide)), fun _ => ⟨?_, fun _ => g1, ?_, ?_, ?_⟩⟩
      · intro z; rw [e] at z; exact absurd z (by decide)
      · intro z; rw [e] at z; exact absurd z (by decide)
      · intro z; rw [e] at z; exact absurd z (by decide)
      · intro _ z; exact absurd e z
    · refine xF_iret o_Ma_tell rfl rfl ?_
      have e : w = 2 := by assumption
      refine ⟨rfl, _, rfl, (fun z => absurd (hX.symm.trans z) (by decide)), fun _ => ⟨?_, ?_, fun _ => g2, ?_, ?_⟩⟩
      · intro z; rw [e] at z; exact absurd z (by decide)
      · intro z; rw [e] at z; exact absurd z (by decide)
      · intro z; rw [e] at z; exact absurd z (by decide)
      · intro _ _ z; exact absurd e z
    · refine xF_iret o_Ma_tell rfl rfl ?_
      have e : w = 3 := by assumption
      refine ⟨rfl, _, rfl, (fun z => absurd (hX.symm.trans z) (by decide)), fun _ => ⟨?_, ?_, ?_, fun _ => g3, ?_⟩⟩
      · intro z; rw [e] at z; exact absurd z (by decide)
      · intro z; rw [e] at z; exact absurd z (by decide)
      · intro z; rw [e] at z; exact absurd z (by decide)
      · intro _ _ _ z; exact absurd e z
    · refine xF_iret o_Ma_tell rfl rfl ?_
      have e0 : ¬ w = 0 := by assumption
      have e1 : ¬ w = 1 := by assumption
      have e2 : ¬ w = 2 := by assumption
      have e3 : ¬ w = 3 := by assumption
      exact ⟨rfl, _, rfl, (fun z => absurd (hX.symm.trans z) (by decide)), fun _ => ⟨fun z => absurd z e0, fun z => absurd z e1, fun z => absurd z e2, fun z => absurd z e3, fun _ _ _ _ => rfl⟩⟩
  · rw [h1] at h
    have hX : X.1 = false := b2_0.mp h
    refine xF_iret o_Ma_tell rfl rfl ?_
    exact ⟨rfl, _, rfl, fun _ => rfl, fun z => absurd (hX.symm.trans z) (by decide)⟩
theorem E_DSran (X : sX) (M : xMe) (hM : cX X M) (w : Int32) : xE l G y_DS_ran [.ref 0, .int w] M (fun r M' => M' = M ∧ ∃ r0, r = some (.int r0) ∧ rRan X w r0) := by
  refine xE_of [some (.ref 0), some (.int w)] (by decide +kernel) (Nat.le_of_ble_eq_true rfl) rfl ?_
  refine xF_go o_DS_ran [] 60 (fun K hK => ?_)
  repeat' ((conv => whnf); first | refine ⟨fun h => ?_, fun h => ?_⟩ | refine ⟨?_, ?_⟩ | refine hK _ _ _ _ ?_)
  refine xF_callV o_DS_ran [.int w] rfl z_Ma_tell i_Ma_tell v_Ma_tell l_DS_113 rfl ⟨⟨by decide, by decide⟩, rfl, rfl⟩ (Nat.le_of_ble_eq_true rfl) rfl rfl rfl (E_tell l G X M hM w) ?_
  rintro v M' ⟨rfl, r0, rfl, hr⟩
  clear hK K
  refine xF_go o_DS_ran [] 60 (fun K hK => ?_)
  repeat' ((conv => whnf); first | refine ⟨fun h => ?_, fun h => ?_⟩ | refine ⟨?_, ?_⟩ | refine hK _ _ _ _ ?_)
  refine xF_iret o_DS_ran rfl rfl ?_
  exact ⟨rfl, r0, rfl, hr⟩
theorem E_sentAt (X : sX) (M : xMe) (hM : cX X M) (hw : wX X) (i : Int32) : xE l G y_Ma_sentAt [.ref 43, .int i] M (fun r M' => M' = M ∧ ∃ r0, r = some (.int r0) ∧ rOut X i r0) := by
  obtain ⟨h1, h2, h3, h4⟩ := hM
  have hlen := hw.1
  refine xE_of [some (.ref 43), some (.int i)] (by decide +kernel) (Nat.le_of_ble_eq_true rfl) rfl ?_
  refine xF_go o_Ma_sentAt [] 60 (fun K hK => ?_)
  repeat' ((conv => whnf); first | refine ⟨fun h => ?_, fun h => ?_⟩ | refine ⟨?_, ?_⟩ | refine hK _ _ _ _ ?_)
  rw [h2]
  refine xF_callS o_Ma_sentAt [.int (nI X.2.1.length), .int 100] rfl z_JM_min s_JM_min l_Ma_68 rfl ⟨⟨by decide, by decide⟩, rfl, rfl⟩ (Nat.le_of_ble_eq_true rfl) rfl (E_min l G (nI X.2.1.length) 100 M) ?_
  rintro v M' ⟨rfl, rfl⟩
  clear hK K
  have emin : (if nI X.2.1.length ≤ 100 then nI X.2.1.length else 100) = nI (min X.2.1.length 100) := by
    show (if nI X.2.1.length ≤ nI 100 then nI X.2.1.length else nI 100) = _
    by_cases e : X.2.1.length ≤ 100
    · rw [if_pos (nI_le (b := 100) e (by omega)), Nat.min_eq_left e]
    · rw [if_neg (fun z => e ((nI_leI (b := 100) (by omega) (by omega)).mp z)), Nat.min_eq_right (by omega)]
  rw [emin]
  refine xF_go o_Ma_sentAt [] 60 (fun K hK => ?_)
  repeat' ((conv => whnf); first | refine ⟨fun h => ?_, fun h => ?_⟩ | refine ⟨?_, ?_⟩ | refine hK _ _ _ _ ?_)
  refine xF_callS o_Ma_sentAt [.int i, .int 0, .int _] rfl z_DS_within s_DS_within l_Ma_74 rfl ⟨⟨by decide, by decide⟩, rfl, rfl⟩ (Nat.le_of_ble_eq_true rfl) rfl (E_within l G i 0 _ M') ?_
  rintro v M ⟨rfl, rfl⟩
  clear hK K
  by_cases e : ∃ j, j < X.2.1.length ∧ j < 100 ∧ i = nI j
  · obtain ⟨j, g1, g2, rfl⟩ := e
    rw [if_pos ⟨nI_pos' (by omega), by rw [show (nI (min X.2.1.length 100) - 1 : Int32) = nI (min X.2.1.length 100 - 1) from pk_sub (b := 1) (by omega)]; exact nI_le (by omega) (by omega)⟩]
    refine xF_go o_Ma_sentAt [] 60 (fun K hK => ?_)
    repeat' ((conv => whnf); first | refine ⟨fun h => ?_, fun h => ?_⟩ | refine ⟨?_, ?_⟩ | refine hK _ _ _ _ ?_)
    · exact absurd h (by decide)
    · exact vp_in_nI g2 (by decide)
    · refine xF_iret o_Ma_sentAt rfl rfl ?_
      rw [nI_clamp (by omega)]
      refine ⟨rfl, _, rfl, fun j' c1 c2 c3 => ?_, fun z => absurd ⟨j, g1, g2, rfl⟩ z⟩
      have := nI_inj (by omega) (by omega) c3
      subst this
      exact ⟨X.2.1[j], List.getElem?_eq_getElem g1, h3 j _ g2 (List.getElem?_eq_getElem g1)⟩
  · rw [if_neg (fun z => by
      rcases Nat.eq_zero_or_pos X.2.1.length with h0 | h0
      · rw [h0] at z
        have : (nI (min 0 100) - 1 : Int32) = -1 := by decide
        rw [this] at z
        grind
      · rw [show (nI (min X.2.1.length 100) - 1 : Int32) = nI (min X.2.1.length 100 - 1) from pk_sub (b := 1) (by omega)] at z
        obtain ⟨q, hq, eq⟩ := nI_ofN (x := i) (n := min X.2.1.length 100) (by omega) z.1 (by
          have h3 : nI (min X.2.1.length 100 - 1) < nI (min X.2.1.length 100) := nI_lt (by omega) (by omega)
          grind)
        exact e ⟨q, by omega, by omega, eq⟩)]
    refine xF_go o_Ma_sentAt [] 60 (fun K hK => ?_)
    repeat' ((conv => whnf); first | refine ⟨fun h => ?_, fun h => ?_⟩ | refine ⟨?_, ?_⟩ | refine hK _ _ _ _ ?_)
    · refine xF_iret o_Ma_sentAt rfl rfl ?_
      exact ⟨rfl, _, rfl, fun j' c1 c2 c3 => absurd ⟨j', c1, c2, c3⟩ e, fun _ => rfl⟩
    all_goals exact absurd rfl (show ¬ (0 : Int32) = 0 from by assumption)
theorem E_DSout (X : sX) (M : xMe) (hM : cX X M) (hw : wX X) (i : Int32) : xE l G y_DS_out [.ref 0, .int i] M (fun r M' => M' = M ∧ ∃ r0, r = some (.int r0) ∧ rOut X i r0) := by
  refine xE_of [some (.ref 0), some (.int i)] (by decide +kernel) (Nat.le_of_ble_eq_true rfl) rfl ?_
  refine xF_go o_DS_out [] 60 (fun K hK => ?_)
  repeat' ((conv => whnf); first | refine ⟨fun h => ?_, fun h => ?_⟩ | refine ⟨?_, ?_⟩ | refine hK _ _ _ _ ?_)
  refine xF_callV o_DS_out [.int i] rfl z_Ma_sentAt i_Ma_sentAt v_Ma_sentAt l_DS_116 rfl ⟨⟨by decide, by decide⟩, rfl, rfl⟩ (Nat.le_of_ble_eq_true rfl) rfl rfl rfl (E_sentAt l G X M hM hw i) ?_
  rintro v M' ⟨rfl, r0, rfl, hr⟩
  clear hK K
  refine xF_go o_DS_out [] 60 (fun K hK => ?_)
  repeat' ((conv => whnf); first | refine ⟨fun h => ?_, fun h => ?_⟩ | refine ⟨?_, ?_⟩ | refine hK _ _ _ _ ?_)
  refine xF_iret o_DS_out rfl rfl ?_
  exact ⟨rfl, r0, rfl, hr⟩
theorem E_Mran (X : sX) (M : xMe) (hM : mX X M) (w r0 : Int32) (hr : rRan X w r0) : xE l G y_Mo_ran [.ref 50, .int w] M (fun r M' => M' = M ∧ r = some (.int r0)) := by
  obtain ⟨h1, h2, h3, h4⟩ := hM
  obtain ⟨ra, rb⟩ := hr
  refine xE_of [some (.ref 50), some (.int w)] (by decide +kernel) (Nat.le_of_ble_eq_true rfl) rfl ?_
  refine xF_go o_Mo_ran [11] 60 (fun K hK => ?_)
  repeat' ((conv => whnf); first | refine ⟨fun h => ?_, fun h => ?_⟩ | refine ⟨?_, ?_⟩ | refine hK _ _ _ _ ?_)
  · rw [h1] at h
    have hX : X.1 = true := by
      cases hx : X.1 with
      | true => rfl
      | false => rw [hx] at h; exact absurd rfl h
    obtain ⟨g1, g2, g3⟩ := h4 hX
    obtain ⟨b0, b1, b2', b3, b4⟩ := rb hX
    clear hK K h
    refine xF_go o_Mo_ran [] 60 (fun K hK => ?_)
    repeat' ((conv => whnf); first | refine ⟨fun h => ?_, fun h => ?_⟩ | refine ⟨?_, ?_⟩ | refine hK _ _ _ _ ?_)
    all_goals refine xF_iret o_Mo_ran rfl rfl ⟨rfl, ?_⟩
    · rw [b4 (by assumption) (by assumption) (by assumption) (by assumption)]
    · rw [b3 (by assumption), g3]
    · rw [b2' (by assumption), g2]
    · rw [b1 (by assumption), g1]
    · rw [b0 (by assumption), h2]
  · rw [h1] at h
    have hX : X.1 = false := b2_0.mp h
    refine xF_iret o_Mo_ran rfl rfl ?_
    exact ⟨rfl, by rw [ra hX]⟩
theorem E_Mout (X : sX) (M : xMe) (hM : mX X M) (hw : wX X) (i r0 : Int32) (hr : rOut X i r0) : xE l G y_Mo_out [.ref 50, .int i] M (fun r M' => M' = M ∧ r = some (.int r0)) := by
  obtain ⟨h1, h2, h3, h4⟩ := hM
  have hlen := hw.1
  refine xE_of [some (.ref 50), some (.int i)] (by decide +kernel) (Nat.le_of_ble_eq_true rfl) rfl ?_
  refine xF_go o_Mo_out [] 60 (fun K hK => ?_)
  repeat' ((conv => whnf); first | refine ⟨fun h => ?_, fun h => ?_⟩ | refine ⟨?_, ?_⟩ | refine hK _ _ _ _ ?_)
  · rw [h1] at h
    have hX : X.1 = false := b2_0.mp h
    refine xF_iret o_Mo_out rfl rfl ?_
    refine ⟨rfl, ?_⟩
    rw [hr.2 (fun ⟨j, g1, _⟩ => by rw [hw.2 hX] at g1; simp at g1)]
  · refine xF_iret o_Mo_out rfl rfl ?_
    refine ⟨rfl, ?_⟩
    rw [hr.2 (fun ⟨j, g1, g2, e⟩ => absurd (show i < 0 from by assumption) (e ▸ nI_pos (by omega)))]
  · refine xF_iret o_Mo_out rfl rfl ?_
    refine ⟨rfl, ?_⟩
    rw [hr.2 (fun ⟨j, g1, g2, e⟩ => (show ¬ i < nI 100 from by assumption) (e ▸ nI_lt g2 (by omega)))]
  · refine xF_iret o_Mo_out rfl rfl ?_
    refine ⟨rfl, ?_⟩
    have hq : ¬ i < M.1 50 20 := by assumption
    rw [h2] at hq
    rw [hr.2 (fun ⟨j, g1, g2, e⟩ => hq (e ▸ nI_lt g1 (by omega)))]
  · obtain ⟨j, hj, rfl⟩ := nI_ofN (x := i) (n := 100) (by decide) (Int32.not_lt.mp (by assumption)) (by assumption)
    exact vp_in_nI hj (by decide)
  · obtain ⟨j, hj, rfl⟩ := nI_ofN (x := i) (n := 100) (by decide) (Int32.not_lt.mp (by assumption)) (by assumption)
    have hq : nI j < M.1 50 20 := by assumption
    rw [h2, nI_ltI (by omega) (by omega)] at hq
    refine xF_iret o_Mo_out rfl rfl ?_
    obtain ⟨v, e1, e2⟩ := hr.1 j hq hj rfl
    exact ⟨rfl, by rw [nI_clamp (by omega), e2, h3 j v hj e1]⟩
end XRN
