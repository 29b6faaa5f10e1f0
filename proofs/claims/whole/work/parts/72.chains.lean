/-! Chains: shortest chains -/
def pth (E : Nat → Prop) (L : Nat → Nat → Prop) : Nat → Nat → Prop
  | 0, x => E x
  | n + 1, y => ∃ x, x < 36 ∧ pth E L n x ∧ L x y
def isd (E : Nat → Prop) (L : Nat → Nat → Prop) (n x : Nat) : Prop := pth E L n x ∧ ∀ m, m < n → ¬ pth E L m x
def rD (E : Nat → Prop) (L : Nat → Nat → Prop) (x : Nat) (r : Int32) : Prop := (∀ n, isd E L n x → r = nI (n + 1)) ∧ ((∀ n, ¬ pth E L n x) → r = -1)
theorem isd_ex {E : Nat → Prop} {L : Nat → Nat → Prop} {x : Nat} : ∀ n, pth E L n x → ∃ m, m ≤ n ∧ isd E L m x := by
  intro n
  induction n using Nat.strongRecOn with
  | ind n ih =>
    intro h
    by_cases hn : ∃ m, m < n ∧ pth E L m x
    · obtain ⟨m, h1, h2⟩ := hn
      obtain ⟨m', h3, h4⟩ := ih m h1 h2
      exact ⟨m', by omega, h4⟩
    · exact ⟨n, Nat.le_refl _, h, fun m h1 h2 => hn ⟨m, h1, h2⟩⟩
theorem isd_1 {E : Nat → Prop} {L : Nat → Nat → Prop} {x n m : Nat} (h : isd E L n x) (h' : isd E L m x) : n = m := by
  rcases Nat.lt_trichotomy n m with z | z | z
  · exact absurd h.1 (h'.2 n z)
  · exact z
  · exact absurd h'.1 (h.2 m z)
theorem isd_pre {E : Nat → Prop} {L : Nat → Nat → Prop} {n y : Nat} (h : isd E L (n + 1) y) : ∃ x, x < 36 ∧ isd E L n x ∧ L x y := by
  obtain ⟨⟨x, h1, h2, h3⟩, h4⟩ := h
  exact ⟨x, h1, ⟨h2, fun m hm hp => h4 (m + 1) (by omega) ⟨x, h1, hp, h3⟩⟩, h3⟩
theorem isd_dn {E : Nat → Prop} {L : Nat → Nat → Prop} {k : Nat} : ∀ n, (∃ x, x < 64 ∧ isd E L (k + n) x) → ∃ x, x < 64 ∧ isd E L k x := by
  intro n
  induction n with
  | zero => exact fun h => h
  | succ n ih =>
    rintro ⟨y, _, h⟩
    obtain ⟨x, h1, h2, _⟩ := isd_pre h
    exact ih ⟨x, by omega, h2⟩
theorem isd_36 {E : Nat → Prop} {L : Nat → Nat → Prop} {n x : Nat} (hx : x < 36) (h : isd E L n x) : n < 36 := by
  have key : ∀ n, (∃ x, x < 36 ∧ isd E L n x) → n + 1 ≤ sm 36 (fun x => ind (∃ m, m < n + 1 ∧ isd E L m x)) := by
    intro n
    induction n with
    | zero =>
      rintro ⟨x, hx, h⟩
      have := sm_lt (n := 36) (a := fun _ => 0) (b := fun x => ind (∃ m, m < 0 + 1 ∧ isd E L m x)) (fun _ _ => Nat.zero_le _) hx (by show 0 < ind _; rw [ind_t ⟨0, by omega, h⟩]; omega)
      omega
    | succ n ih =>
      rintro ⟨x, hx, h⟩
      obtain ⟨w, h1, h2, _⟩ := isd_pre h
      have h3 := ih ⟨w, h1, h2⟩
      have h4 : sm 36 (fun x => ind (∃ m, m < n + 1 ∧ isd E L m x)) < sm 36 (fun x => ind (∃ m, m < n + 1 + 1 ∧ isd E L m x)) := by
        refine sm_lt (fun i _ => ind_m (fun ⟨m, z1, z2⟩ => ⟨m, by omega, z2⟩)) hx ?_
        rw [ind_t (p := ∃ m, m < n + 1 + 1 ∧ isd E L m x) ⟨n + 1, by omega, h⟩, ind_f (p := ∃ m, m < n + 1 ∧ isd E L m x) (fun ⟨m, z1, z2⟩ => by have := isd_1 h z2; omega)]
        omega
      omega
  have h1 := key n ⟨x, hx, h⟩
  have h2 : sm 36 (fun x => ind (∃ m, m < n + 1 ∧ isd E L m x)) ≤ 36 * 1 := sm_bd (fun i _ => ind_le _)
  omega
section XCH
variable (l : Launch) (G : xG)
theorem L_stepOn (w : Int64) (n : Int32) (M0 : xMe) (Q : Option Value → xMe → Prop) (hQ : ∀ nx, (∀ y, y < 64 → (xbit nx y = true ↔ ∃ x, x < 36 ∧ xbit w x = true ∧ xbit (M0.2 18 x) y = true)) → Q (some (.long nx)) (xsI M0 19 (fun x => if x < 36 ∧ xbit w x = true then n else M0.1 19 x))) : ∀ (m t : Nat), m + t = 36 → ∀ nx, (∀ y, y < 64 → (xbit nx y = true ↔ ∃ x, x < t ∧ xbit w x = true ∧ xbit (M0.2 18 x) y = true)) → xF l G y_Ch_stepOn 6 [some (.ref 17), some (.long w), none, some (.int n), some (.long nx), none, some (.int (nI t))] [] (xsI M0 19 (fun x => if x < t ∧ xbit w x = true then n else M0.1 19 x)) Q := by
  intro m
  induction m with
  | zero =>
    intro t ht nx hnx
    obtain rfl : t = 36 := by omega
    refine xF_go o_Ch_stepOn [6] 60 (fun K hK => ?_)
    repeat' ((conv => whnf); first | refine ⟨fun h => ?_, fun h => ?_⟩ | refine ⟨?_, ?_⟩ | refine hK _ _ _ _ ?_)
    · refine xF_lret o_Ch_stepOn rfl rfl ?_
      exact hQ nx hnx
    all_goals exact absurd (show nI 36 < nI 36 from by assumption) (nI_nlt (by omega) (by omega))
  | succ m ih =>
    intro t ht nx hnx
    have hin : vp_in (nI t) 36 := vp_in_nI (by omega) (by decide)
    refine xF_go o_Ch_stepOn [6] 60 (fun K hK => ?_)
    repeat' ((conv => whnf); first | refine ⟨fun h => ?_, fun h => ?_⟩ | refine ⟨?_, ?_⟩ | refine hK _ _ _ _ ?_)
    · exact absurd (nI_lt (b := 36) (by omega) (by omega)) h
    · have h0 : lg_cmp ((w.toUInt64 >>> ((nI t).toInt64.toUInt64 &&& Int64.toUInt64 63)).toInt64 &&& 1) 0 = 0 := by assumption
      rw [xcmp0, xbit_test w (by omega)] at h0
      rw [nI_1]
      have e := ih (t + 1) (by omega) nx (fun y hy => (hnx y hy).trans ⟨fun ⟨x, z1, z2⟩ => ⟨x, by omega, z2⟩, fun ⟨x, z1, z2, z3⟩ => ⟨x, by
        by_cases ex : x = t
        · rw [ex, h0] at z2; cases z2
        · omega, z2, z3⟩⟩)
      rw [xsI_c (g := fun x => if x < t ∧ xbit w x = true then n else M0.1 19 x)] at e
      · exact e
      · intro x
        by_cases ex : x = t
        · subst ex
          rw [if_neg (fun z => by rw [h0] at z; cases z.2), if_neg (fun z => by omega)]
        · by_cases e2 : x < t ∧ xbit w x = true
          · rw [if_pos e2, if_pos ⟨by omega, e2.2⟩]
          · rw [if_neg e2, if_neg (fun z => e2 ⟨by omega, z.2⟩)]
    · exact hin
    · exact hin
    · have h0 : ¬ lg_cmp ((w.toUInt64 >>> ((nI t).toInt64.toUInt64 &&& Int64.toUInt64 63)).toInt64 &&& 1) 0 = 0 := by assumption
      rw [xcmp0, xbit_test w (by omega)] at h0
      have h1 : xbit w t = true := by
        cases e : xbit w t with
        | true => rfl
        | false => exact absurd e h0
      rw [nI_1, nI_clamp (by omega), xsI_II]
      have e := ih (t + 1) (by omega) (nx ||| M0.2 18 t) (fun y hy => by
        rw [xbit_or, Bool.or_eq_true, hnx y hy]
        constructor
        · rintro (⟨x, z1, z2⟩ | z)
          · exact ⟨x, by omega, z2⟩
          · exact ⟨t, by omega, h1, z⟩
        · rintro ⟨x, z1, z2, z3⟩
          by_cases ex : x = t
          · exact Or.inr (ex ▸ z3)
          · exact Or.inl ⟨x, by omega, z2, z3⟩)
      rw [xsI_c (g := upd (fun x => if x < t ∧ xbit w x = true then n else M0.1 19 x) t n)] at e
      · exact e
      · intro x
        by_cases ex : x = t
        · subst ex
          rw [upd_s, if_pos ⟨by omega, h1⟩]
        · rw [upd_n ex]
          by_cases e2 : x < t ∧ xbit w x = true
          · rw [if_pos e2, if_pos ⟨by omega, e2.2⟩]
          · rw [if_neg e2, if_neg (fun z => e2 ⟨by omega, z.2⟩)]
theorem E_stepOn (w : Int64) (n : Int32) (M : xMe) : xE l G y_Ch_stepOn [.ref 17, .long w, .int n] M (fun r M' => ∃ nx, r = some (.long nx) ∧ (∀ y, y < 64 → (xbit nx y = true ↔ ∃ x, x < 36 ∧ xbit w x = true ∧ xbit (M.2 18 x) y = true)) ∧ M' = xsI M 19 (fun x => if x < 36 ∧ xbit w x = true then n else M.1 19 x)) := by
  refine xE_of [some (.ref 17), some (.long w), none, some (.int n), none, none, none] (by decide +kernel) (Nat.le_of_ble_eq_true rfl) rfl ?_
  refine xF_go o_Ch_stepOn [6] 60 (fun K hK => ?_)
  repeat' ((conv => whnf); first | refine ⟨fun h => ?_, fun h => ?_⟩ | refine ⟨?_, ?_⟩ | refine hK _ _ _ _ ?_)
  have e0 : M = xsI M 19 (fun x => if x < 0 ∧ xbit w x = true then n else M.1 19 x) := (xsI_id (fun i => by rw [if_neg (fun z => by omega)])).symm
  have key := L_stepOn l G w n M (fun r M' => ∃ nx, r = some (.long nx) ∧ (∀ y, y < 64 → (xbit nx y = true ↔ ∃ x, x < 36 ∧ xbit w x = true ∧ xbit (M.2 18 x) y = true)) ∧ M' = xsI M 19 (fun x => if x < 36 ∧ xbit w x = true then n else M.1 19 x)) (fun nx hnx => ⟨nx, rfl, hnx, rfl⟩) 36 0 (by omega) 0 (fun y hy => by
    rw [xbit_0]
    exact ⟨(fun z => by cases z), fun ⟨x, z, _⟩ => by omega⟩)
  rw [← e0] at key
  exact key
/-- chains of up to n things are measured -/
def cDn (E : Nat → Prop) (L : Nat → Nat → Prop) (n : Nat) (M : xMe) : Prop := ∀ x, x < 36 → (∀ m, m < n → isd E L m x → M.1 19 x = nI (m + 1)) ∧ ((¬ ∃ m, m < n ∧ isd E L m x) → M.1 19 x = -1)
theorem L_measure (E : Nat → Prop) (L : Nat → Nat → Prop) (M0 : xMe) (hL : cB 18 36 L M0) (Q : Option Value → xMe → Prop) (hQ : ∀ M, xfr [19] M0 M → (∀ x, x < 36 → rD E L x (M.1 19 x)) → Q none M) : ∀ (m n : Nat), m + n = 36 → ∀ (M : xMe) (w u : Int64), xfr [19] M0 M → (∀ y, y < 64 → (xbit w y = true ↔ isd E L n y)) → (∀ y, y < 64 → (xbit u y = true ↔ ∃ k, k < n + 1 ∧ pth E L k y)) → cDn E L n M → xF l G y_Ch_measure 50 [some (.ref 17), some (.ref 14), some (.long w), none, some (.long u), none, some (.int (nI (n + 1)))] [] M Q := by
  have fin : ∀ n M, xfr [19] M0 M → cDn E L n M → (∀ x, x < 36 → ∀ k, isd E L k x → k < n) → Q none M := by
    intro n M hfr hD hlt
    refine hQ M hfr (fun x hx => ⟨fun k hk => (hD x hx).1 k (hlt x hx k hk) hk, fun hno => (hD x hx).2 (fun ⟨k, _, z⟩ => hno k z.1)⟩)
  intro m
  induction m with
  | zero =>
    intro n hn M w u hfr h1 h2 h3
    obtain rfl : n = 36 := by omega
    refine xF_go o_Ch_measure [50] 60 (fun K hK => ?_)
    repeat' ((conv => whnf); first | refine ⟨fun h => ?_, fun h => ?_⟩ | refine ⟨?_, ?_⟩ | refine hK _ _ _ _ ?_)
    · refine xF_vret o_Ch_measure rfl rfl ?_
      exact fin 36 M hfr h3 (fun x hx k hk => isd_36 hx hk)
    all_goals exact absurd (nI_lt (a := 36) (b := 36 + 1) (by omega) (by omega)) (show ¬ nI 36 < nI (36 + 1) from by assumption)
  | succ m ih =>
    intro n hn M w u hfr h1 h2 h3
    refine xF_go o_Ch_measure [50] 60 (fun K hK => ?_)
    repeat' ((conv => whnf); first | refine ⟨fun h => ?_, fun h => ?_⟩ | refine ⟨?_, ?_⟩ | refine hK _ _ _ _ ?_)
    · exact absurd (show nI 36 < nI (n + 1) from by assumption) (nI_nlt (by omega) (by omega))
    · have h0 : lg_cmp w 0 = 0 := by assumption
      rw [xcmp0, xbit_zero] at h0
      refine xF_vret o_Ch_measure rfl rfl ?_
      refine fin n M hfr h3 (fun x hx k hk => Classical.byContradiction (fun hge => ?_))
      obtain ⟨y, hy, hd⟩ := isd_dn (E := E) (L := L) (k := n) (k - n) ⟨x, by omega, by rw [show n + (k - n) = k by omega]; exact hk⟩
      have := (h1 y hy).mpr hd
      rw [h0 y hy] at this
      cases this
    · refine xF_callV o_Ch_measure [.long w, .int (nI (n + 1))] rfl z_Ch_stepOn i_Ch_stepOn v_Ch_stepOn l_Ch_28 rfl ⟨⟨by decide, by decide⟩, rfl, rfl⟩ (Nat.le_of_ble_eq_true rfl) rfl rfl rfl (E_stepOn l G w (nI (n + 1)) M) ?_
      rintro v M' ⟨nx, rfl, hnx, rfl⟩
      clear hK K
      refine xF_go o_Ch_measure [50] 60 (fun K hK => ?_)
      repeat' ((conv => whnf); first | refine ⟨fun h => ?_, fun h => ?_⟩ | refine ⟨?_, ?_⟩ | refine hK _ _ _ _ ?_)
      rw [nI_1]
      have hfront : ∀ y, y < 64 → (xbit (nx &&& (u ^^^ -1)) y = true ↔ isd E L (n + 1) y) := by
        intro y hy
        rw [xbit_and, xbit_not _ hy, Bool.and_eq_true, hnx y hy]
        constructor
        · rintro ⟨⟨x, z1, z2, z3⟩, z4⟩
          rw [(hfr 18 (by decide)).2] at z3
          refine ⟨⟨x, z1, ((h1 x (by omega)).mp z2).1, (hL x z1 y hy).mp z3⟩, fun k hk hp => ?_⟩
          rw [(h2 y hy).mpr ⟨k, hk, hp⟩] at z4
          cases z4
        · intro hd
          obtain ⟨x, z1, z2, z3⟩ := isd_pre hd
          refine ⟨⟨x, z1, (h1 x (by omega)).mpr z2, by rw [(hfr 18 (by decide)).2]; exact (hL x z1 y hy).mpr z3⟩, ?_⟩
          cases e : xbit u y with
          | false => rfl
          | true =>
            obtain ⟨k, hk, hp⟩ := (h2 y hy).mp e
            exact absurd hp (hd.2 k hk)
      refine ih (n + 1) (by omega) _ _ _ (hfr.I (by simp)) hfront (fun y hy => ?_) (fun x hx => ?_)
      · rw [xbit_or, Bool.or_eq_true, h2 y hy, hfront y hy]
        constructor
        · rintro (⟨k, z1, z2⟩ | z)
          · exact ⟨k, by omega, z2⟩
          · exact ⟨n + 1, by omega, z.1⟩
        · rintro ⟨k, z1, z2⟩
          by_cases e : ∃ k, k < n + 1 ∧ pth E L k y
          · exact Or.inl e
          · have : k = n + 1 := by
              by_cases e2 : k < n + 1
              · exact absurd ⟨k, e2, z2⟩ e
              · omega
            subst this
            exact Or.inr ⟨z2, fun k' hk' hp => e ⟨k', hk', hp⟩⟩
      · show (∀ k, k < n + 1 → isd E L k x → (if x < 36 ∧ xbit w x = true then nI (n + 1) else M.1 19 x) = nI (k + 1)) ∧ ((¬ ∃ k, k < n + 1 ∧ isd E L k x) → (if x < 36 ∧ xbit w x = true then nI (n + 1) else M.1 19 x) = -1)
        by_cases hb : xbit w x = true
        · rw [if_pos ⟨hx, hb⟩]
          have hd := (h1 x (by omega)).mp hb
          exact ⟨fun k _ hk => by rw [isd_1 hd hk], fun z => absurd ⟨n, by omega, hd⟩ z⟩
        · rw [if_neg (fun z => hb z.2)]
          refine ⟨fun k hk hd => (h3 x hx).1 k ?_ hd, fun z => (h3 x hx).2 (fun ⟨k, z1, z2⟩ => z ⟨k, by omega, z2⟩)⟩
          by_cases e : k = n
          · exact absurd ((h1 x (by omega)).mpr (e ▸ hd)) hb
          · omega
theorem L_front (P : sP) (M0 : xMe) (hE : cE P M0) (Q : Option Value → xMe → Prop) (hQ : ∀ w x, (∀ y, y < 64 → (xbit w y = true ↔ y < 12 ∧ pE P y = true)) → xF l G y_Ch_measure 44 [some (.ref 17), some (.ref 14), some (.long w), none, x, none, none] [] M0 Q) : ∀ (m f : Nat), m + f = 12 → ∀ w, (∀ y, y < 64 → (xbit w y = true ↔ y < f ∧ pE P y = true)) → xF l G y_Ch_measure 13 [some (.ref 17), some (.ref 14), some (.long w), none, some (.int (nI f)), none, none] [] M0 Q := by
  intro m
  induction m with
  | zero =>
    intro f hf w hw
    obtain rfl : f = 12 := by omega
    refine xF_go o_Ch_measure [13, 44] 60 (fun K hK => ?_)
    repeat' ((conv => whnf); first | refine ⟨fun h => ?_, fun h => ?_⟩ | refine ⟨?_, ?_⟩ | refine hK _ _ _ _ ?_)
    · exact hQ w _ hw
    all_goals exact absurd (show nI 12 < nI 12 from by assumption) (nI_nlt (by omega) (by omega))
  | succ m ih =>
    intro f hf w hw
    have hcl : (nI f).toNatClampNeg = f := nI_clamp (by omega)
    have hent : M0.1 14 (nI f).toNatClampNeg = b2 (pE P f) := by rw [hcl]; exact hE f (by omega)
    refine xF_go o_Ch_measure [13, 44] 60 (fun K hK => ?_)
    repeat' ((conv => whnf); first | refine ⟨fun h => ?_, fun h => ?_⟩ | refine ⟨?_, ?_⟩ | refine hK _ _ _ _ ?_)
    · exact absurd (nI_lt (b := 12) (by omega) (by omega)) h
    · exact vp_in_nI (by show _ < 12; omega) (by decide)
    · have h0 : M0.1 14 (nI f).toNatClampNeg = 0 := by assumption
      rw [hent] at h0
      have hpe : ¬ pE P f = true := fun z => by rw [z] at h0; exact absurd h0 (by decide)
      rw [nI_1]
      refine ih (f + 1) (by omega) _ (fun y hy => ?_)
      rw [xbit_or, xbit_0, Bool.or_false, hw y hy]
      constructor
      · exact fun z => ⟨by omega, z.2⟩
      · intro z
        by_cases e : y = f
        · exact absurd (e ▸ z.2) hpe
        · exact ⟨by omega, z.2⟩
    · have h0 : ¬ M0.1 14 (nI f).toNatClampNeg = 0 := by assumption
      rw [hent] at h0
      have hpe : pE P f = true := by
        cases e : pE P f with
        | true => rfl
        | false => rw [e] at h0; exact absurd rfl h0
      rw [nI_1]
      refine ih (f + 1) (by omega) _ (fun y hy => ?_)
      rw [xbit_or, xbit_1 (by omega), Bool.or_eq_true, decide_eq_true_iff, hw y hy]
      constructor
      · rintro (z | z)
        · exact ⟨by omega, z.2⟩
        · exact ⟨by omega, z ▸ hpe⟩
      · intro z
        by_cases e : y = f
        · exact Or.inr e
        · exact Or.inl ⟨by omega, z.2⟩
def ent (P : sP) (x : Nat) : Prop := x < 12 ∧ pE P x = true
theorem E_measure (P : sP) (L : Nat → Nat → Prop) (M : xMe) (hE : cE P M) (hL : cB 18 36 L M) : xE l G y_Ch_measure [.ref 17, .ref 14] M (fun r M' => r = none ∧ xfr [19] M M' ∧ ∀ x, x < 36 → rD (ent P) L x (M'.1 19 x)) := by
  refine xE_of [some (.ref 17), some (.ref 14), none, none, none, none, none] (by decide +kernel) (Nat.le_of_ble_eq_true rfl) rfl ?_
  refine xF_go o_Ch_measure [13] 60 (fun K hK => ?_)
  repeat' ((conv => whnf); first | refine ⟨fun h => ?_, fun h => ?_⟩ | refine ⟨?_, ?_⟩ | refine hK _ _ _ _ ?_)
  refine xF_callS o_Ch_measure [.ref 19, .int (-1)] rfl z_JA_fill1 s_JA_fill1 l_Ch_25 rfl ⟨⟨by decide, by decide⟩, rfl, rfl⟩ (Nat.le_of_ble_eq_true rfl) rfl (E_fill1 l G 19 (by simp) (-1) M) ?_
  rintro v M1 ⟨rfl, rfl⟩
  clear hK K
  have hfr1 : xfr [19] M (xsI M 19 (fun i => if i < xtl 19 then -1 else M.1 19 i)) := xfr.rf.I (by simp)
  refine xF_go o_Ch_measure [13] 60 (fun K hK => ?_)
  repeat' ((conv => whnf); first | refine ⟨fun h => ?_, fun h => ?_⟩ | refine ⟨?_, ?_⟩ | refine hK _ _ _ _ ?_)
  refine L_front l G P _ (show cE P (xsI M 19 _) from hE) _ ?_ 12 0 (by omega) 0 (fun y hy => by rw [xbit_0]; exact ⟨(fun z => by cases z), fun z => by omega⟩)
  clear hK K
  intro w x hw
  refine xF_go o_Ch_measure [50] 60 (fun K hK => ?_)
  repeat' ((conv => whnf); first | refine ⟨fun h => ?_, fun h => ?_⟩ | refine ⟨?_, ?_⟩ | refine hK _ _ _ _ ?_)
  refine L_measure l G (ent P) L _ (show cB 18 36 L (xsI M 19 _) from hL) _ (fun M2 hfr2 hD => ⟨rfl, hfr1.tr hfr2 (fun _ z => z), hD⟩) 36 0 (by omega) _ w w xfr.rf (fun y hy => ?_) (fun y hy => ?_) (fun x hx => ⟨fun k hk => by omega, fun _ => if_pos hx⟩)
  · rw [hw y hy]
    exact ⟨fun z => ⟨z, fun k hk => by omega⟩, fun z => z.1⟩
  · rw [hw y hy]
    constructor
    · exact fun z => ⟨0, by omega, z⟩
    · rintro ⟨k, z1, z2⟩
      obtain rfl : k = 0 := by omega
      exact z2
end XCH
