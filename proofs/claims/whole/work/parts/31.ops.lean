/-! the class's own calls that tell: each is tied to a relation on programs -/
def rItem (P : sP) (k n a g : Int32) (v : Bool) (P' : sP) (r : Int32) (ac : Bool) : Prop := (¬ vItem k n a g ∧ P' = P ∧ r = 0 ∧ ac = false) ∨ ∃ k' n' a' g', k' < 24 ∧ n' ≤ 64 ∧ (a' = 1 ∨ a' = 2 ∨ a' = 4 ∨ a' = 8) ∧ g' ≤ 3 ∧ k = nI k' ∧ n = nI n' ∧ a = nI a' ∧ g = nI g' ∧ P' = sItem P k' n' a' g' v ∧ r = 1 ∧ ac = true
def rBytes (P : sP) (k p n : Int32) (v : Int64) (P' : sP) (r : Int32) (ac : Bool) : Prop := (¬ ((∃ j q, j < 24 ∧ k = nI j ∧ q < pS P j ∧ p = nI q) ∧ 1 ≤ n ∧ n ≤ 8) ∧ P' = P ∧ r = -1 ∧ ac = false) ∨ ∃ k' p' n', k' < 24 ∧ p' < pS P k' ∧ 1 ≤ n' ∧ n' ≤ 8 ∧ k = nI k' ∧ p = nI p' ∧ n = nI n' ∧ P' = sBytes P k' p' (min n' (pS P k' - p')) v ∧ r = nI (min n' (pS P k' - p')) ∧ ac = true
def rRefer (P : sP) (k p t : Int32) (P' : sP) (r : Int32) (ac : Bool) : Prop := (¬ ((∃ j q, j < 24 ∧ k = nI j ∧ q < pS P j ∧ p = nI q) ∧ (t = -1 ∨ ∃ j, j < 24 ∧ t = nI j ∧ 0 < pS P j)) ∧ P' = P ∧ r = 0 ∧ ac = false) ∨ ∃ (k' p' : Nat) (t' : Option Nat), k' < 24 ∧ p' < pS P k' ∧ (∀ j, t' = some j → j < 24 ∧ 0 < pS P j) ∧ k = nI k' ∧ p = nI p' ∧ t = oI t' ∧ P' = sRef P k' p' t' ∧ r = 1 ∧ ac = true
theorem vItem_nat {k n a g : Int32} (h : vItem k n a g) : ∃ k' n' a' g', k' < 24 ∧ n' ≤ 64 ∧ (a' = 1 ∨ a' = 2 ∨ a' = 4 ∨ a' = 8) ∧ g' ≤ 3 ∧ k = nI k' ∧ n = nI n' ∧ a = nI a' ∧ g = nI g' := by
  obtain ⟨h1, h2, h3, h4⟩ := h
  obtain ⟨k', hk', rfl⟩ := nI_of24 h1
  obtain ⟨n', hn', rfl⟩ := nI_ofN (x := n) (n := 65) (by decide) h2.1 (by have : (nI 65 : Int32) = 65 := rfl; rw [this]; grind)
  obtain ⟨g', hg', rfl⟩ := nI_ofN (x := g) (n := 4) (by decide) h4.1 (by have : (nI 4 : Int32) = 4 := rfl; rw [this]; grind)
  rcases h3 with rfl | rfl | rfl | rfl
  · exact ⟨k', n', 1, g', hk', by omega, by simp, by omega, rfl, rfl, rfl, rfl⟩
  · exact ⟨k', n', 2, g', hk', by omega, by simp, by omega, rfl, rfl, rfl, rfl⟩
  · exact ⟨k', n', 4, g', hk', by omega, by simp, by omega, rfl, rfl, rfl, rfl⟩
  · exact ⟨k', n', 8, g', hk', by omega, by simp, by omega, rfl, rfl, rfl, rfl⟩
theorem wP_item {P : sP} (hw : wP P) {k n a g : Nat} {v : Bool} (hk : k < 24) (hn : n ≤ 64) (ha : a = 1 ∨ a = 2 ∨ a = 4 ∨ a = 8) (hg : g ≤ 3) : wP (sItem P k n a g v) := by
  obtain ⟨h1, h2, h3, h4, h5, h6⟩ := hw
  refine ⟨fun j hj => ?_, fun j hj p hp => ?_, fun j hj p hp t ht => ?_, h4, h5, h6⟩
  · rw [sItem_S, sItem_G, sItem_A]
    by_cases e : j = k
    · simp [e, hn, hg, ha]
    · simp only [if_neg e]
      exact h1 j hj
  · rw [sItem_O]
    by_cases e : j = k
    · simp [e]
    · rw [if_neg e]
      exact h2 j hj p hp
  · rw [sItem_R] at ht
    by_cases e : j = k
    · rw [if_pos e] at ht
      cases ht
    · rw [if_neg e] at ht
      by_cases e2 : n = 0 ∧ pR P j p = some k
      · rw [if_pos e2] at ht
        cases ht
      · rw [if_neg e2] at ht
        obtain ⟨g1, g2, g3⟩ := h3 j hj p hp t ht
        refine ⟨g1, ?_, ?_⟩
        · rw [sItem_S, if_neg e]
          exact g2
        · rw [sItem_S]
          by_cases e3 : t = k
          · rw [if_pos e3]
            have : n ≠ 0 := fun z => e2 ⟨z, by rw [ht, e3]⟩
            omega
          · rw [if_neg e3]
            exact g3
theorem wP_bytes {P : sP} (hw : wP P) {k p m : Nat} {v : Int64} : wP (sBytes P k p m v) := by
  obtain ⟨h1, h2, h3, h4, h5, h6⟩ := hw
  refine ⟨h1, fun j hj q hq => ?_, h3, h4, h5, h6⟩
  rw [sBytes_O]
  by_cases e : j = k ∧ p ≤ q ∧ q < p + m
  · rw [if_pos e]
    exact vbyte_lt _ _
  · rw [if_neg e]
    exact h2 j hj q hq
theorem wP_ref {P : sP} (hw : wP P) {k p : Nat} {t : Option Nat} (hp : p < pS P k) (ht : ∀ j, t = some j → j < 24 ∧ 0 < pS P j) : wP (sRef P k p t) := by
  obtain ⟨h1, h2, h3, h4, h5, h6⟩ := hw
  refine ⟨h1, h2, fun j hj q hq t' ht' => ?_, h4, h5, h6⟩
  rw [sRef_R] at ht'
  by_cases e : j = k ∧ q = p
  · rw [if_pos e] at ht'
    obtain ⟨rfl, rfl⟩ := e
    exact ⟨(ht t' ht').1, hp, (ht t' ht').2⟩
  · rw [if_neg e] at ht'
    exact h3 j hj q hq t' ht'
section XOP
variable (l : Launch) (G : xG)
theorem E_DSitem (P : sP) (M : xMe) (hM : cP P M) (hw : wP P) (k n a g : Int32) (v : Bool) : xE l G y_DS_item [.ref 0, .int k, .int n, .int a, .int g, .int (b2 v)] M (fun r M' => ∃ P' r0 ac, rItem P k n a g v P' r0 ac ∧ r = some (.int r0) ∧ cP P' M' ∧ wP P' ∧ (ac = false → M' = M) ∧ (ac = true → M'.1 0 = upd (M.1 0) 5 0) ∧ xfr [0, 2, 3, 4, 5, 6, 8] M M') := by
  refine xE_of [some (.ref 0), some (.int k), some (.int n), some (.int a), some (.int g), some (.int (b2 v))] (by decide +kernel) (Nat.le_of_ble_eq_true rfl) rfl ?_
  refine xF_go o_DS_item [] 60 (fun K hK => ?_)
  repeat' ((conv => whnf); first | refine ⟨fun h => ?_, fun h => ?_⟩ | refine ⟨?_, ?_⟩ | refine hK _ _ _ _ ?_)
  refine xF_callS o_DS_item [.int k, .int n, .int a, .int g] rfl z_Pr_isItem s_Pr_isItem l_DS_41 rfl ⟨⟨by decide, by decide⟩, rfl, rfl⟩ (Nat.le_of_ble_eq_true rfl) rfl (E_isItem l G k n a g M) ?_
  rintro w M1 ⟨rfl, b, rfl, hb⟩
  clear hK K
  refine xF_go o_DS_item [] 60 (fun K hK => ?_)
  repeat' ((conv => whnf); first | refine ⟨fun h => ?_, fun h => ?_⟩ | refine ⟨?_, ?_⟩ | refine hK _ _ _ _ ?_)
  · have hv : vItem k n a g := hb.mp (by cases b; exact absurd rfl h; rfl)
    obtain ⟨k', n', a', g', h1, h2, h3, h4, rfl, rfl, rfl, rfl⟩ := vItem_nat hv
    refine xF_callV o_DS_item [.int (nI k'), .int (nI n'), .int (nI a'), .int (nI g'), .int (b2 v)] rfl z_Pr_tellItem i_Pr_tellItem v_Pr_tellItem l_DS_45 rfl ⟨⟨by decide, by decide⟩, rfl, rfl⟩ (Nat.le_of_ble_eq_true rfl) rfl rfl rfl (E_tellItem l G P M1 hM hw k' n' a' g' v h1 h2 (by omega) h4) ?_
    rintro w M2 ⟨rfl, hP2, hf2⟩
    clear hK K
    refine xF_go o_DS_item [] 60 (fun K hK => ?_)
    repeat' ((conv => whnf); first | refine ⟨fun h => ?_, fun h => ?_⟩ | refine ⟨?_, ?_⟩ | refine hK _ _ _ _ ?_)
    · exact Or.inl rfl
    · refine xF_zret o_DS_item rfl rfl (Or.inr rfl) ?_
      have e0 : M2.1 0 = M1.1 0 := (hf2 0 (by simp)).1
      refine ⟨_, 1, true, Or.inr ⟨k', n', a', g', h1, h2, h3, h4, rfl, rfl, rfl, rfl, rfl, rfl, rfl⟩, rfl, ?_, wP_item hw h1 h2 h3 h4, (fun z => by cases z), fun _ => ?_, ?_⟩
      · exact hP2
      · rw [xsI_1, if_pos rfl, e0]
      · exact (hf2.mono (by simp)).I (by simp)
  · have hv : ¬ vItem k n a g := fun z => by
      have := hb.mpr z
      subst this
      exact absurd h (by decide)
    refine xF_zret o_DS_item rfl rfl (Or.inl rfl) ?_
    exact ⟨P, 0, false, Or.inl ⟨hv, rfl, rfl, rfl⟩, rfl, hM, hw, fun _ => rfl, (fun z => by cases z), xfr.rf⟩
theorem E_DSbytes (P : sP) (M : xMe) (hM : cP P M) (hw : wP P) (k p n : Int32) (v : Int64) : xE l G y_DS_bytes [.ref 0, .int k, .int p, .int n, .long v] M (fun r M' => ∃ P' r0 ac, rBytes P k p n v P' r0 ac ∧ r = some (.int r0) ∧ cP P' M' ∧ wP P' ∧ (ac = false → M' = M) ∧ (ac = true → M'.1 0 = upd (M.1 0) 5 0) ∧ xfr [0, 6] M M') := by
  refine xE_of [some (.ref 0), some (.int k), some (.int p), some (.int n), some (.long v), none] (by decide +kernel) (Nat.le_of_ble_eq_true rfl) rfl ?_
  refine xF_go o_DS_bytes [] 60 (fun K hK => ?_)
  repeat' ((conv => whnf); first | refine ⟨fun h => ?_, fun h => ?_⟩ | refine ⟨?_, ?_⟩ | refine hK _ _ _ _ ?_)
  refine xF_callV o_DS_bytes [.int k, .int p] rfl z_Pr_hasPlace i_Pr_hasPlace v_Pr_hasPlace l_DS_53 rfl ⟨⟨by decide, by decide⟩, rfl, rfl⟩ (Nat.le_of_ble_eq_true rfl) rfl rfl rfl (E_hasPlace l G P M hM.1 hw k p) ?_
  rintro w M1 ⟨rfl, b, rfl, hb⟩
  clear hK K
  refine xF_go o_DS_bytes [] 60 (fun K hK => ?_)
  repeat' ((conv => whnf); first | refine ⟨fun h => ?_, fun h => ?_⟩ | refine ⟨?_, ?_⟩ | refine hK _ _ _ _ ?_)
  · refine xF_iret o_DS_bytes rfl rfl ?_
    have hb0 : b = false := b2_0.mp h
    refine ⟨P, -1, false, Or.inl ⟨fun z => ?_, rfl, rfl, rfl⟩, rfl, hM, hw, fun _ => rfl, (fun z => by cases z), xfr.rf⟩
    have := hb.mpr z.1
    rw [hb0] at this
    cases this
  · have hb1 : b = true := by
      cases b
      · exact absurd rfl h
      · rfl
    obtain ⟨k', p', h1, rfl, h2, rfl⟩ := hb.mp hb1
    refine xF_callS o_DS_bytes [.int n, .int 1, .int 8] rfl z_DS_within s_DS_within l_DS_57 rfl ⟨⟨by decide, by decide⟩, rfl, rfl⟩ (Nat.le_of_ble_eq_true rfl) rfl (E_within l G n 1 8 M1) ?_
    rintro w M ⟨rfl, rfl⟩
    clear hK K
    refine xF_go o_DS_bytes [] 60 (fun K hK => ?_)
    repeat' ((conv => whnf); first | refine ⟨fun h => ?_, fun h => ?_⟩ | refine ⟨?_, ?_⟩ | refine hK _ _ _ _ ?_)
    · exact Or.inl rfl
    · have hn : 1 ≤ n ∧ n ≤ 8 := by grind
      obtain ⟨n', hn', rfl⟩ := nI_ofN (x := n) (n := 9) (by decide) (by grind) (by have : (nI 9 : Int32) = 9 := rfl; rw [this]; grind)
      have hn1 : 1 ≤ n' := by
        rcases Nat.eq_zero_or_pos n' with q | q
        · rw [q] at hn; exact absurd hn.1 (by decide)
        · exact q
      have hP0 : cP P (xsI M 0 (upd (M.1 0) 5 0)) := hM
      refine xF_callV o_DS_bytes [.int (nI k'), .int (nI p'), .int (nI n'), .long v] rfl z_Pr_tellOctets i_Pr_tellOctets v_Pr_tellOctets l_DS_61 rfl ⟨⟨by decide, by decide⟩, rfl, rfl⟩ (Nat.le_of_ble_eq_true rfl) rfl rfl rfl (E_tellOctets l G P _ hP0 hw k' p' n' v h1 h2 (by omega)) ?_
      rintro w M2 ⟨rfl, hP2, hf2⟩
      clear hK K
      refine xF_go o_DS_bytes [] 60 (fun K hK => ?_)
      repeat' ((conv => whnf); first | refine ⟨fun h => ?_, fun h => ?_⟩ | refine ⟨?_, ?_⟩ | refine hK _ _ _ _ ?_)
      refine xF_iret o_DS_bytes rfl rfl ?_
      refine ⟨_, _, true, Or.inr ⟨k', p', n', h1, h2, hn1, by omega, rfl, rfl, rfl, rfl, rfl, rfl⟩, rfl, hP2, wP_bytes hw, (fun z => by cases z), fun _ => ?_, ?_⟩
      · rw [(hf2 0 (by simp)).1, xsI_1, if_pos rfl]
      · exact (xfr.rf.I (by simp)).tr hf2 (by simp)
    · refine xF_iret o_DS_bytes rfl rfl ?_
      refine ⟨P, -1, false, Or.inl ⟨fun z => ?_, rfl, rfl, rfl⟩, rfl, hM, hw, fun _ => rfl, (fun z => by cases z), xfr.rf⟩
      grind
end XOP
