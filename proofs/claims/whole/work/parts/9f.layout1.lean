/-! Layout: begin, keepItems, keepGroups, findStill -/
theorem xE_cps {l : Launch} {G : xG} {Y : xMD} {a : List Value} {M : xMe} {Q : Option Value → xMe → Prop} (H : ∀ Q' : Option Value → xMe → Prop, (∀ r M', Q r M' → Q' r M') → xE l G Y a M Q') : xE l G Y a M Q := H Q (fun _ _ z => z)
theorem loopN2 {σ τ : Type} (n : Nat) (I R : Nat → σ → τ → Prop) (hs : ∀ k, k < n → ∀ s t, I k s t → (∀ s' t', I (k + 1) s' t' → R (k + 1) s' t') → R k s t) (he : ∀ s t, I n s t → R n s t) : ∀ (m k : Nat), m + k = n → ∀ s t, I k s t → R k s t := by
  intro m
  induction m with
  | zero =>
    intro k hk s t hi
    obtain rfl : k = n := by omega
    exact he s t hi
  | succ m ih =>
    intro k hk s t hi
    exact hs k (by omega) s t hi (fun s' t' h' => ih (k + 1) (by omega) s' t' h')
theorem nI_0lt {n : Nat} (h : n < 2 ^ 31) : (0 : Int32) < nI n ↔ 0 < n := nI_ltI (a := 0) (b := n) (by omega) h
theorem grp_or : ∀ m, m < 16 → ∀ g, g < 4 → (nI m ||| ((1 : Int32) <<< (nI g &&& 31))) = nI (m ||| 2 ^ g) ∧ (m ||| 2 ^ g) < 16 ∧ ∀ g', g' < 4 → ((m ||| 2 ^ g).testBit g' = (m.testBit g' || decide (g' = g))) := by decide +kernel
theorem grp_t : ∀ m, m < 16 → ∀ g, g < 4 → ((((nI m).toUInt32 >>> ((nI g).toUInt32 &&& Int32.toUInt32 31)).toInt32 &&& 1 = 0) ↔ m.testBit g = false) := by decide +kernel
theorem upd_b {f : Nat → Int32} {k j : Nat} {x : Int32} : upd f k x j = if j = k then x else f j := rfl
def c34 (P : sP) (M : xMe) : Prop := ∀ k, k < 24 → M.1 34 k = nI (pS P k)
def c36 (c : Nat) (X : Nat → Prop) (M : xMe) : Prop := ∀ k, k < 24 → M.1 c k = b2 (tb (X k))
theorem cZ_36 {c : Nat} {X : Nat → Prop} {M : xMe} (h : cZ c X M) : c36 c X M := fun k hk => by
  obtain ⟨b, h1, h2⟩ := h k hk
  rw [h1, tb_b h2]
theorem cB_ex {c n : Nat} {X : Nat → Nat → Prop} {M : xMe} (h : cB c n X M) {k : Nat} (hk : k < n) : M.2 c k = 0 ↔ ¬ ∃ p, p < 64 ∧ X k p := by
  rw [xbit_zero]
  constructor
  · rintro z ⟨p, h1, h2⟩
    have := (h k hk p h1).mpr h2
    rw [z p h1] at this
    cases this
  · intro z q hq
    cases e : xbit (M.2 c k) q with
    | false => rfl
    | true => exact absurd ⟨q, hq, (h k hk q hq).mp e⟩ z
set_option maxRecDepth 20000 in
theorem ac_La : xAC y_La_begin.1.cls 96 := ⟨xtbm (List.mem_of_getElem? (i := 782) rfl) rfl, xtbm (List.mem_of_getElem? (i := 500) rfl) rfl, xtbm (List.mem_of_getElem? (i := 499) rfl) rfl, xtbm (List.mem_of_getElem? (i := 93) rfl) rfl⟩
section XL1
variable (l : Launch) (G : xG)
theorem E_Lbegin (P : sP) (M : xMe) (hS : cS P M) : xE l G y_La_begin [.ref 30] M (fun r M' => r = none ∧ xfr [34, 35, 38, 39, 40, 42] M M' ∧ c34 P M' ∧ (∀ k, k < 24 → M'.1 35 k = nI (pA P k)) ∧ (∀ k, k < 24 → M'.1 38 k = -1) ∧ (∀ k, k < 24 → M'.1 39 k = -1) ∧ (∀ k, k < 24 → M'.1 40 k = -1) ∧ (∀ a, a < 1728 → M'.1 42 a = 0)) := by
  refine xE_of [some (.ref 30)] (by decide +kernel) (Nat.le_of_ble_eq_true rfl) rfl ?_
  refine xF_go o_La_begin [] 60 (fun K hK => ?_)
  repeat' ((conv => whnf); first | refine ⟨fun h => ?_, fun h => ?_⟩ | refine ⟨?_, ?_⟩ | refine hK _ _ _ _ ?_)
  refine xF_copyi o_La_begin rfl ac_La rfl rfl (by decide) (by decide) 0 0 24 rfl rfl rfl (by decide) (by decide) (by decide) (Nat.le_of_ble_eq_true rfl) (by decide) ?_
  clear hK K
  refine xF_go o_La_begin [] 60 (fun K hK => ?_)
  repeat' ((conv => whnf); first | refine ⟨fun h => ?_, fun h => ?_⟩ | refine ⟨?_, ?_⟩ | refine hK _ _ _ _ ?_)
  refine xF_copyi o_La_begin rfl ac_La rfl rfl (by decide) (by decide) 0 0 24 rfl rfl rfl (by decide) (by decide) (by decide) (Nat.le_of_ble_eq_true rfl) (by decide) ?_
  generalize hM1 : xsI (xsI M 34 _) 35 _ = M1
  have f1 : xfr [34, 35] M M1 := by
    rw [← hM1]
    exact (xfr.rf.I (by simp)).I (by simp)
  have a34 : ∀ k, k < 24 → M1.1 34 k = nI (pS P k) := by
    intro k hk
    rw [← hM1, ← (hS k hk).1]
    show va_cpy (M.1 2) (M.1 34) 0 0 24 k = M.1 2 k
    rw [pk_cpy_in (by omega) (by omega), show 0 + (k - 0) = k by omega]
  have a35 : ∀ k, k < 24 → M1.1 35 k = nI (pA P k) := by
    intro k hk
    rw [← hM1, ← (hS k hk).2.1]
    show va_cpy (M.1 3) (M.1 35) 0 0 24 k = M.1 3 k
    rw [pk_cpy_in (by omega) (by omega), show 0 + (k - 0) = k by omega]
  clear hM1 hK K
  refine xF_go o_La_begin [] 60 (fun K hK => ?_)
  repeat' ((conv => whnf); first | refine ⟨fun h => ?_, fun h => ?_⟩ | refine ⟨?_, ?_⟩ | refine hK _ _ _ _ ?_)
  refine xF_callS o_La_begin [.ref 38, .int (-1)] rfl z_JA_fill1 s_JA_fill1 l_La_103 rfl ⟨⟨by decide, by decide⟩, rfl, rfl⟩ (Nat.le_of_ble_eq_true rfl) rfl (E_fill1 l G 38 (by decide) (-1) M1) ?_
  rintro v M2 ⟨rfl, e2⟩
  clear hK K
  refine xF_go o_La_begin [] 60 (fun K hK => ?_)
  repeat' ((conv => whnf); first | refine ⟨fun h => ?_, fun h => ?_⟩ | refine ⟨?_, ?_⟩ | refine hK _ _ _ _ ?_)
  refine xF_callS o_La_begin [.ref 39, .int (-1)] rfl z_JA_fill1 s_JA_fill1 l_La_103 rfl ⟨⟨by decide, by decide⟩, rfl, rfl⟩ (Nat.le_of_ble_eq_true rfl) rfl (E_fill1 l G 39 (by decide) (-1) M2) ?_
  rintro v M3 ⟨rfl, e3⟩
  clear hK K
  refine xF_go o_La_begin [] 60 (fun K hK => ?_)
  repeat' ((conv => whnf); first | refine ⟨fun h => ?_, fun h => ?_⟩ | refine ⟨?_, ?_⟩ | refine hK _ _ _ _ ?_)
  refine xF_callS o_La_begin [.ref 40, .int (-1)] rfl z_JA_fill1 s_JA_fill1 l_La_103 rfl ⟨⟨by decide, by decide⟩, rfl, rfl⟩ (Nat.le_of_ble_eq_true rfl) rfl (E_fill1 l G 40 (by decide) (-1) M3) ?_
  rintro v M4 ⟨rfl, e4⟩
  clear hK K
  refine xF_go o_La_begin [] 60 (fun K hK => ?_)
  repeat' ((conv => whnf); first | refine ⟨fun h => ?_, fun h => ?_⟩ | refine ⟨?_, ?_⟩ | refine hK _ _ _ _ ?_)
  refine xF_callS o_La_begin [.ref 42, .int 0] rfl z_JA_fill1 s_JA_fill1 l_La_103 rfl ⟨⟨by decide, by decide⟩, rfl, rfl⟩ (Nat.le_of_ble_eq_true rfl) rfl (E_fill1 l G 42 (by decide) 0 M4) ?_
  rintro v M5 ⟨rfl, e5⟩
  clear hK K
  refine xF_go o_La_begin [] 60 (fun K hK => ?_)
  repeat' ((conv => whnf); first | refine ⟨fun h => ?_, fun h => ?_⟩ | refine ⟨?_, ?_⟩ | refine hK _ _ _ _ ?_)
  refine xF_vret o_La_begin rfl rfl ?_
  subst e2 e3 e4 e5
  refine ⟨rfl, ((((f1.mono (by simp)).I (by simp)).I (by simp)).I (by simp)).I (by simp), a34, a35, fun k hk => ?_, fun k hk => ?_, fun k hk => ?_, fun a ha => ?_⟩
  · show (if k < 24 then (-1 : Int32) else M1.1 38 k) = -1
    rw [if_pos hk]
  · show (if k < 24 then (-1 : Int32) else M1.1 39 k) = -1
    rw [if_pos hk]
  · show (if k < 24 then (-1 : Int32) else M1.1 40 k) = -1
    rw [if_pos hk]
  · show (if a < 1728 then (0 : Int32) else M1.1 42 a) = 0
    rw [if_pos ha]
theorem E_LkeepItems (P : sP) (V : sV) (hw : wP P) (M : xMe) (hS : cS P M) (h34 : c34 P M) (hV : cB 27 24 (vRd V) M) : xE l G y_La_keepItems [.ref 30] M (fun r M' => r = none ∧ xfr [36] M M' ∧ c36 36 (kp0 P V) M') := by
  refine xE_cps (fun Q hQ => ?_)
  refine xE_of [some (.ref 30), none] (by decide +kernel) (Nat.le_of_ble_eq_true rfl) rfl ?_
  refine xF_go o_La_keepItems [2] 60 (fun K hK => ?_)
  repeat' ((conv => whnf); first | refine ⟨fun h => ?_, fun h => ?_⟩ | refine ⟨?_, ?_⟩ | refine hK _ _ _ _ ?_)
  clear hK K
  refine loopN (σ := xMe) 24 (fun k M1 => xfr [36] M M1 ∧ ∀ j, j < k → M1.1 36 j = b2 (tb (kp0 P V j))) (fun k M1 => xF l G y_La_keepItems 2 [some (.ref 30), some (.int (nI k))] [] M1 Q) ?_ ?_ 24 0 rfl M ⟨xfr.rf, fun j hj => absurd hj (Nat.not_lt_zero _)⟩
  · intro k hk M1 hI next
    obtain ⟨hf, hi⟩ := hI
    have hs64 := (hw.1 k hk).1
    have hcl : (nI k).toNatClampNeg = k := nI_clamp (by omega)
    have v34 : M1.1 34 (nI k).toNatClampNeg = nI (pS P k) := by rw [hcl, (hf 34 (by decide)).1]; exact h34 k hk
    have v5 : M1.1 5 (nI k).toNatClampNeg = b2 (pV P k) := by rw [hcl, (hf 5 (by decide)).1]; exact (hS k hk).2.2.2
    have v27 : M1.2 27 (nI k).toNatClampNeg = M.2 27 k := by rw [hcl, (hf 27 (by decide)).2]
    have hx := cB_ex hV hk
    have go : ∀ z : Bool, (z = true ↔ kp0 P V k) → xF l G y_La_keepItems 53 [some (.ref 30), some (.int (nI k))] [.int (b2 z), .int (nI k), .ref 36] M1 Q := by
      intro z hz
      refine xF_go o_La_keepItems [2] 60 (fun K hK => ?_)
      repeat' ((conv => whnf); first | refine ⟨fun h => ?_, fun h => ?_⟩ | refine ⟨?_, ?_⟩ | refine hK _ _ _ _ ?_)
      · exact vp_in_nI hk (by decide)
      · exact b2_01 z
      · rw [nI_1, hcl]
        refine next _ ⟨hf.I (by simp), fun j hj => ?_⟩
        rw [xsI_s]
        by_cases e : j = k
        · subst e; rw [upd_s, tb_b hz]
        · rw [upd_n e]; exact hi j (by omega)
    refine xF_go o_La_keepItems [2, 53] 60 (fun K hK => ?_)
    repeat' ((conv => whnf); first | refine ⟨fun h => ?_, fun h => ?_⟩ | refine ⟨?_, ?_⟩ | refine hK _ _ _ _ ?_)
    · exact absurd (nI_lt (b := 24) hk (by decide)) h
    · exact vp_in_nI hk (by decide)
    · have h0 : ¬ 0 < M1.1 34 (nI k).toNatClampNeg := by assumption
      rw [v34, nI_0lt (by omega)] at h0
      exact go false ⟨fun z => (by cases z), fun z => absurd z.1 h0⟩
    · exact vp_in_nI hk (by decide)
    · have h0 : 0 < M1.1 34 (nI k).toNatClampNeg := by assumption
      rw [v34, nI_0lt (by omega)] at h0
      have h1 : ¬ M1.1 5 (nI k).toNatClampNeg = 0 := by assumption
      rw [v5, b2_ne] at h1
      exact go true ⟨fun _ => ⟨h0, Or.inl h1⟩, fun _ => rfl⟩
    · exact vp_in_nI hk (by decide)
    · have h1 : M1.1 5 (nI k).toNatClampNeg = 0 := by assumption
      rw [v5, b2_0] at h1
      have h2 : lg_cmp (M1.2 27 (nI k).toNatClampNeg) 0 = 0 := by assumption
      rw [v27, xcmp0, hx] at h2
      exact go false ⟨fun z => (by cases z), fun z => z.2.elim (fun y => by rw [h1] at y; cases y) (fun y => absurd y h2)⟩
    · have h0 : 0 < M1.1 34 (nI k).toNatClampNeg := by assumption
      rw [v34, nI_0lt (by omega)] at h0
      have h2 : ¬ lg_cmp (M1.2 27 (nI k).toNatClampNeg) 0 = 0 := by assumption
      rw [v27, xcmp0, hx, Classical.not_not] at h2
      exact go true ⟨fun _ => ⟨h0, Or.inr h2⟩, fun _ => rfl⟩
  · intro M1 hI
    obtain ⟨hf, hi⟩ := hI
    refine xF_go o_La_keepItems [2] 60 (fun K hK => ?_)
    repeat' ((conv => whnf); first | refine ⟨fun h => ?_, fun h => ?_⟩ | refine ⟨?_, ?_⟩ | refine hK _ _ _ _ ?_)
    · refine xF_vret o_La_keepItems rfl rfl ?_
      exact hQ _ _ ⟨rfl, hf, fun k hk => hi k hk⟩
    all_goals exact absurd (show nI 24 < nI 24 from by assumption) (nI_nlt (by omega) (by omega))
theorem E_LkeepGroups (P : sP) (V : sV) (hw : wP P) (M : xMe) (hS : cS P M) (h34 : c34 P M) (h36 : c36 36 (kp0 P V) M) : xE l G y_La_keepGroups [.ref 30] M (fun r M' => r = none ∧ xfr [36] M M' ∧ c36 36 (kpt P V) M') := by
  refine xE_cps (fun Q hQ => ?_)
  refine xE_of [some (.ref 30), none, none, none] (by decide +kernel) (Nat.le_of_ble_eq_true rfl) rfl ?_
  refine xF_go o_La_keepGroups [4] 60 (fun K hK => ?_)
  repeat' ((conv => whnf); first | refine ⟨fun h => ?_, fun h => ?_⟩ | refine ⟨?_, ?_⟩ | refine hK _ _ _ _ ?_)
  clear hK K
  refine loopN (σ := Nat) 24 (fun k m => m < 16 ∧ ∀ g, g < 4 → (m.testBit g = true ↔ ∃ j, j < k ∧ kp0 P V j ∧ pG P j = g)) (fun k m => xF l G y_La_keepGroups 4 [some (.ref 30), some (.int (nI m)), some (.int (nI k)), none] [] M Q) ?_ ?_ 24 0 rfl 0 ⟨by decide, fun g hg => by simp⟩
  · intro k hk m hI next
    obtain ⟨hm, hg⟩ := hI
    have hcl : (nI k).toNatClampNeg = k := nI_clamp (by omega)
    have v36 : M.1 36 (nI k).toNatClampNeg = b2 (tb (kp0 P V k)) := by rw [hcl]; exact h36 k hk
    have v4 : M.1 4 (nI k).toNatClampNeg = nI (pG P k) := by rw [hcl]; exact (hS k hk).2.2.1
    have hg3 := (hw.1 k hk).2.1
    refine xF_go o_La_keepGroups [4, 41] 60 (fun K hK => ?_)
    repeat' ((conv => whnf); first | refine ⟨fun h => ?_, fun h => ?_⟩ | refine ⟨?_, ?_⟩ | refine hK _ _ _ _ ?_)
    · exact absurd (nI_lt (b := 24) hk (by decide)) h
    · exact vp_in_nI hk (by decide)
    · have h0 : M.1 36 (nI k).toNatClampNeg = 0 := by assumption
      rw [v36, b2_0, tb_f] at h0
      rw [nI_1]
      refine next m ⟨hm, fun g hg' => (hg g hg').trans ⟨fun ⟨j, a, b⟩ => ⟨j, by omega, b⟩, fun ⟨j, a, b⟩ => ⟨j, ?_, b⟩⟩⟩
      have : j ≠ k := fun e => h0 (e ▸ b.1)
      omega
    · exact vp_in_nI hk (by decide)
    · have h0 : ¬ M.1 36 (nI k).toNatClampNeg = 0 := by assumption
      rw [v36, b2_ne, tb_t] at h0
      obtain ⟨e1, e2, e3⟩ := grp_or m hm (pG P k) (by omega)
      rw [v4, nI_1, e1]
      refine next _ ⟨e2, fun g hg' => ?_⟩
      rw [e3 g hg', Bool.or_eq_true, hg g hg', decide_eq_true_iff]
      constructor
      · rintro (⟨j, a, b⟩ | e)
        · exact ⟨j, by omega, b⟩
        · exact ⟨k, by omega, h0, e.symm⟩
      · rintro ⟨j, a, b⟩
        by_cases e : j = k
        · exact Or.inr (by rw [← b.2, e])
        · exact Or.inl ⟨j, by omega, b⟩
  · intro m hI
    obtain ⟨hm, hg⟩ := hI
    refine xF_go o_La_keepGroups [4, 41] 60 (fun K hK => ?_)
    repeat' ((conv => whnf); first | refine ⟨fun h => ?_, fun h => ?_⟩ | refine ⟨?_, ?_⟩ | refine hK _ _ _ _ ?_)
    · clear hK K
      refine loopN2 (σ := xMe) (τ := Option Value) 24 (fun k M1 _ => xfr [36] M M1 ∧ ∀ j, j < 24 → M1.1 36 j = b2 (tb ((j < k ∧ kpt P V j) ∨ (k ≤ j ∧ kp0 P V j)))) (fun k M1 x => xF l G y_La_keepGroups 41 [some (.ref 30), some (.int (nI m)), some (.int (nI k)), x] [] M1 Q) ?_ ?_ 24 0 rfl M none ⟨xfr.rf, fun j hj => (h36 j hj).trans (congrArg b2 (tb_c ⟨fun z => Or.inr ⟨Nat.zero_le _, z⟩, fun z => z.elim (fun y => absurd y.1 (Nat.not_lt_zero _)) (fun y => y.2)⟩))⟩
      · intro k hk M1 x hI next
        obtain ⟨hf, hi⟩ := hI
        have hs64 := (hw.1 k hk).1
        have hcl : (nI k).toNatClampNeg = k := nI_clamp (by omega)
        have v34 : M1.1 34 (nI k).toNatClampNeg = nI (pS P k) := by rw [hcl, (hf 34 (by decide)).1]; exact h34 k hk
        have v4 : M1.1 4 (nI k).toNatClampNeg = nI (pG P k) := by rw [hcl, (hf 4 (by decide)).1]; exact (hS k hk).2.2.1
        have hg3 := (hw.1 k hk).2.1
        have same : ∀ y, (kpt P V k → kp0 P V k) → xF l G y_La_keepGroups 41 [some (.ref 30), some (.int (nI m)), some (.int (nI (k + 1))), y] [] M1 Q := by
          intro y hy
          refine next _ _ ⟨hf, fun j hj => (hi j hj).trans (congrArg b2 (tb_c ?_))⟩
          by_cases e : j = k
          · subst e
            exact ⟨fun z => Or.inl ⟨by omega, z.elim (fun w => w.2) (fun w => Or.inl w.2)⟩, fun z => Or.inr ⟨Nat.le_refl _, z.elim (fun w => hy w.2) (fun w => w.2)⟩⟩
          · exact ⟨fun z => z.elim (fun w => Or.inl ⟨by omega, w.2⟩) (fun w => Or.inr ⟨by omega, w.2⟩), fun z => z.elim (fun w => Or.inl ⟨by omega, w.2⟩) (fun w => Or.inr ⟨by omega, w.2⟩)⟩
        refine xF_go o_La_keepGroups [41] 60 (fun K hK => ?_)
        repeat' ((conv => whnf); first | refine ⟨fun h => ?_, fun h => ?_⟩ | refine ⟨?_, ?_⟩ | refine hK _ _ _ _ ?_)
        · exact absurd (nI_lt (b := 24) hk (by decide)) h
        · exact vp_in_nI hk (by decide)
        · exact vp_in_nI hk (by decide)
        · have h0 : ¬ 0 < M1.1 34 (nI k).toNatClampNeg := by assumption
          rw [v34, nI_0lt (by omega)] at h0
          rw [nI_1]
          exact same _ (fun z => absurd (kpt_S z) h0)
        · have h0 : ¬ 0 < M1.1 4 (nI k).toNatClampNeg := by assumption
          rw [v4, nI_0lt (by omega)] at h0
          rw [nI_1]
          exact same _ (fun z => z.elim id (fun w => absurd w.2.1 h0))
        · have h0 := (show ((nI m).toUInt32 >>> ((M1.1 4 (nI k).toNatClampNeg).toUInt32 &&& Int32.toUInt32 31)).toInt32 &&& 1 = 0 from by assumption)
          rw [v4, grp_t m hm _ (by omega)] at h0
          rw [nI_1]
          refine same _ (fun z => z.elim id (fun w => ?_))
          obtain ⟨j, a, b, c⟩ := w.2.2
          have := (hg _ (by omega)).mpr ⟨j, a, b, c⟩
          rw [h0] at this
          cases this
        · exact vp_in_nI hk (by decide)
        · exact Or.inr rfl
        · have h0 := (show ¬ ((nI m).toUInt32 >>> ((M1.1 4 (nI k).toNatClampNeg).toUInt32 &&& Int32.toUInt32 31)).toInt32 &&& 1 = 0 from by assumption)
          rw [v4, grp_t m hm _ (by omega)] at h0
          have h1 : 0 < M1.1 34 (nI k).toNatClampNeg := by assumption
          rw [v34, nI_0lt (by omega)] at h1
          have h2 : 0 < M1.1 4 (nI k).toNatClampNeg := by assumption
          rw [v4, nI_0lt (by omega)] at h2
          have h3 : kpt P V k := Or.inr ⟨h1, h2, (hg _ (by omega)).mp (by cases e : m.testBit (pG P k) with | true => rfl | false => exact absurd e h0)⟩
          rw [nI_1, hcl]
          refine next _ _ ⟨hf.I (by simp), fun j hj => ?_⟩
          rw [xsI_s]
          by_cases e : j = k
          · subst e
            rw [upd_s, tb_t.mpr (Or.inl ⟨by omega, h3⟩)]
            rfl
          · rw [upd_n e]
            refine (hi j hj).trans (congrArg b2 (tb_c ?_))
            exact ⟨fun z => z.elim (fun w => Or.inl ⟨by omega, w.2⟩) (fun w => Or.inr ⟨by omega, w.2⟩), fun z => z.elim (fun w => Or.inl ⟨by omega, w.2⟩) (fun w => Or.inr ⟨by omega, w.2⟩)⟩
      · intro M1 x hI
        obtain ⟨hf, hi⟩ := hI
        refine xF_go o_La_keepGroups [41] 60 (fun K hK => ?_)
        repeat' ((conv => whnf); first | refine ⟨fun h => ?_, fun h => ?_⟩ | refine ⟨?_, ?_⟩ | refine hK _ _ _ _ ?_)
        · refine xF_vret o_La_keepGroups rfl rfl ?_
          refine hQ _ _ ⟨rfl, hf, fun k hk => (hi k hk).trans (congrArg b2 (tb_c ⟨fun z => z.elim (fun w => w.2) (fun w => absurd hk (by omega)), fun z => Or.inl ⟨hk, z⟩⟩))⟩
        all_goals exact absurd (show nI 24 < nI 24 from by assumption) (nI_nlt (by omega) (by omega))
    all_goals exact absurd (show nI 24 < nI 24 from by assumption) (nI_nlt (by omega) (by omega))
theorem cR_z {P : sP} {M : xMe} (h : cR P M) {k : Nat} (hk : k < 24) : M.2 8 k = 0 ↔ ∀ p, p < 64 → pR P k p = none := by
  rw [xbit_zero]
  constructor
  · intro z p hp
    have := (h k hk p hp).1
    rw [z p hp] at this
    cases e : pR P k p with
    | none => rfl
    | some t => rw [e] at this; cases this
  · intro z q hq
    rw [(h k hk q hq).1, z q hq]
    rfl
theorem E_LfindStill (P : sP) (V : sV) (M : xMe) (hR : cR P M) (h36 : c36 36 (kpt P V) M) (h28 : cZ 28 (vWr V) M) (h29 : cZ 29 (vCm V) M) : xE l G y_La_findStill [.ref 30] M (fun r M' => r = none ∧ xfr [37] M M' ∧ c36 37 (stl P V) M') := by
  refine xE_cps (fun Q hQ => ?_)
  refine xE_of [some (.ref 30), none, none] (by decide +kernel) (Nat.le_of_ble_eq_true rfl) rfl ?_
  refine xF_go o_La_findStill [2] 60 (fun K hK => ?_)
  repeat' ((conv => whnf); first | refine ⟨fun h => ?_, fun h => ?_⟩ | refine ⟨?_, ?_⟩ | refine hK _ _ _ _ ?_)
  clear hK K
  refine loopN2 (σ := xMe) (τ := Option Value) 24 (fun k M1 _ => xfr [37] M M1 ∧ ∀ j, j < k → M1.1 37 j = b2 (tb (stl P V j))) (fun k M1 x => xF l G y_La_findStill 2 [some (.ref 30), some (.int (nI k)), x] [] M1 Q) ?_ ?_ 24 0 rfl M none ⟨xfr.rf, fun j hj => absurd hj (Nat.not_lt_zero _)⟩
  · intro k hk M1 x hI next
    obtain ⟨hf, hi⟩ := hI
    have hcl : (nI k).toNatClampNeg = k := nI_clamp (by omega)
    have v36 : M1.1 36 (nI k).toNatClampNeg = b2 (tb (kpt P V k)) := by rw [hcl, (hf 36 (by decide)).1]; exact h36 k hk
    have v28 : M1.1 28 (nI k).toNatClampNeg = b2 (tb (vWr V k)) := by rw [hcl, (hf 28 (by decide)).1]; exact cZ_36 h28 k hk
    have v29 : M1.1 29 (nI k).toNatClampNeg = b2 (tb (vCm V k)) := by rw [hcl, (hf 29 (by decide)).1]; exact cZ_36 h29 k hk
    have v8 : M1.2 8 (nI k).toNatClampNeg = M.2 8 k := by rw [hcl, (hf 8 (by decide)).2]
    have hx := cR_z hR hk
    have go : ∀ (z : Bool) (y : Option Value), (z = true ↔ stl P V k) → xF l G y_La_findStill 75 [some (.ref 30), some (.int (nI k)), y] [.int (b2 z), .int (nI k), .ref 37] M1 Q := by
      intro z y hz
      refine xF_go o_La_findStill [2] 60 (fun K hK => ?_)
      repeat' ((conv => whnf); first | refine ⟨fun h => ?_, fun h => ?_⟩ | refine ⟨?_, ?_⟩ | refine hK _ _ _ _ ?_)
      · exact vp_in_nI hk (by decide)
      · exact b2_01 z
      · rw [nI_1, hcl]
        refine next _ _ ⟨hf.I (by simp), fun j hj => ?_⟩
        rw [xsI_s]
        by_cases e : j = k
        · subst e; rw [upd_s, tb_b hz]
        · rw [upd_n e]; exact hi j (by omega)
    have mid : ∀ z : Bool, (z = true ↔ (vWr V k ∨ ¬ ∀ p, p < 64 → pR P k p = none)) → xF l G y_La_findStill 39 [some (.ref 30), some (.int (nI k)), x] [.int (b2 z)] M1 Q := by
      intro z hz
      refine xF_go o_La_findStill [2, 75] 60 (fun K hK => ?_)
      repeat' ((conv => whnf); first | refine ⟨fun h => ?_, fun h => ?_⟩ | refine ⟨?_, ?_⟩ | refine hK _ _ _ _ ?_)
      · exact vp_in_nI hk (by decide)
      · have h0 : M1.1 36 (nI k).toNatClampNeg = 0 := by assumption
        rw [v36, b2_0, tb_f] at h0
        exact go false _ ⟨fun z => (by cases z), fun z => absurd z.2.1 h0⟩
      · have h0 : ¬ b2 z = 0 := by assumption
        rw [b2_ne, hz] at h0
        exact go false _ ⟨fun z => (by cases z), fun z => h0.elim (fun y => absurd y z.2.2.1) (fun y => absurd z.2.2.2.1 y)⟩
      · exact vp_in_nI hk (by decide)
      · have h0 : ¬ M1.1 29 (nI k).toNatClampNeg = 0 := by assumption
        rw [v29, b2_ne, tb_t] at h0
        exact go false _ ⟨fun z => (by cases z), fun z => absurd h0 z.2.2.2.2⟩
      · have h0 : ¬ M1.1 36 (nI k).toNatClampNeg = 0 := by assumption
        rw [v36, b2_ne, tb_t] at h0
        have h1 : b2 z = 0 := by assumption
        rw [b2_0] at h1
        have h1' : ¬ (vWr V k ∨ ¬ ∀ p, p < 64 → pR P k p = none) := fun y => by rw [hz.mpr y] at h1; cases h1
        have h2 : M1.1 29 (nI k).toNatClampNeg = 0 := by assumption
        rw [v29, b2_0, tb_f] at h2
        exact go true _ ⟨fun _ => ⟨hk, h0, fun y => h1' (Or.inl y), Classical.byContradiction (fun y => h1' (Or.inr y)), h2⟩, fun _ => rfl⟩
    refine xF_go o_La_findStill [2, 39] 60 (fun K hK => ?_)
    repeat' ((conv => whnf); first | refine ⟨fun h => ?_, fun h => ?_⟩ | refine ⟨?_, ?_⟩ | refine hK _ _ _ _ ?_)
    · exact absurd (nI_lt (b := 24) hk (by decide)) h
    · exact vp_in_nI hk (by decide)
    · have h0 : ¬ M1.1 28 (nI k).toNatClampNeg = 0 := by assumption
      rw [v28, b2_ne, tb_t] at h0
      exact mid true ⟨fun _ => Or.inl h0, fun _ => rfl⟩
    · exact vp_in_nI hk (by decide)
    · have h0 : M1.1 28 (nI k).toNatClampNeg = 0 := by assumption
      rw [v28, b2_0, tb_f] at h0
      have h1 : lg_cmp (M1.2 8 (nI k).toNatClampNeg) 0 = 0 := by assumption
      rw [v8, xcmp0, hx] at h1
      exact mid false ⟨fun z => (by cases z), fun z => z.elim (fun y => absurd y h0) (fun y => absurd h1 y)⟩
    · have h1 : ¬ lg_cmp (M1.2 8 (nI k).toNatClampNeg) 0 = 0 := by assumption
      rw [v8, xcmp0, hx] at h1
      exact mid true ⟨fun _ => Or.inr h1, fun _ => rfl⟩
  · intro M1 x hI
    obtain ⟨hf, hi⟩ := hI
    refine xF_go o_La_findStill [2] 60 (fun K hK => ?_)
    repeat' ((conv => whnf); first | refine ⟨fun h => ?_, fun h => ?_⟩ | refine ⟨?_, ?_⟩ | refine hK _ _ _ _ ?_)
    · refine xF_vret o_La_findStill rfl rfl ?_
      exact hQ _ _ ⟨rfl, hf, fun k hk => hi k hk⟩
    all_goals exact absurd (show nI 24 < nI 24 from by assumption) (nI_nlt (by omega) (by omega))
end XL1
