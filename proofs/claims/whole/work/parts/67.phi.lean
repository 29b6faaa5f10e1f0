/-! how often a function's places can be taken on in one go -/
theorem tkq_mpc {P : sP} (hw : wP P) {V V' : sV} {f i : Nat} {q : Nat × Int32 × Int32 × Int32} (hf : f < 12) (hv : vN q) (ht : tkq P V f i q V') : mpc V V' := by
  have hpl : ∀ x, place P f x < 41 := fun x => place_lt hw hf x
  have hq12 := vN_le hv
  obtain ⟨o, a, b, c⟩ := q
  replace hq12 : o < 12 := hq12
  match o, hq12, hv, ht with
  | 0, _, _, ht => cases ht; exact mpc_add hf (hpl _)
  | 1, _, _, ht => cases ht; exact mpc_add hf (hpl _)
  | 2, _, _, ht => cases ht; exact mpc_add hf (hpl _)
  | 7, _, _, ht => cases ht; exact mpc_add hf (hpl _)
  | 8, _, _, ht => cases ht; exact mpc_add hf (by omega)
  | 9, _, _, ht => cases ht; exact mpc_add hf (hpl _)
  | 10, _, _, ht => cases ht; exact (mpc_aux (V' := vComp V (ix b) (ix c)) rfl).tr (mpc_add hf (hpl _))
  | 3, _, _, ht =>
    rcases ht with ⟨_, ht⟩ | ⟨_, ht⟩
    · cases ht; exact mpc_aux rfl
    · cases ht; exact (mpc_aux (V' := vLoad V f (ix b) _) rfl).tr (mpc_add hf (hpl _))
  | 4, _, hv, ht =>
    obtain ⟨k0, hk0, x0, ek0⟩ := vT_n hv.1
    have hk24 : ix a < 24 := by rw [ek0]; exact hk0
    have h64 := (hw.1 _ hk24).1
    rcases ht with ⟨_, ht⟩ | ⟨_, ht⟩
    · cases ht; exact mpc_aux rfl
    · cases ht; exact (mpc_store hw hk24 (fun p z => by have : p < pS P (ix a) := z.1; omega)).tr (mpc_add hf (hpl _))
  | 5, _, hv, ht =>
    obtain ⟨g0, hg0, x0, eg0⟩ := vF_n hv.1
    have h12 : ix a < 12 := by rw [eg0]; exact hg0
    obtain ⟨V1, e1, ht⟩ := ht
    have h1 : mpc V V1 := by
      rw [e1]
      exact (mpc_aux (V' := vLnk V f (ix a)) rfl).tr (mpc_add h12 (place_lt hw h12 0))
    rcases ht with ⟨_, ht⟩ | ⟨_, ht⟩
    · cases ht; exact h1.tr (mpc_add hf (hpl _))
    · cases ht; exact h1
  | 6, _, _, ht =>
    obtain ⟨V1, h1, h2⟩ := ht
    have h1' : mpc V V1 := by
      rcases h1 with ⟨_, e⟩ | ⟨_, e⟩
      · rw [e]; exact mpc_add hf (hpl _)
      · rw [e]; exact mpc_aux rfl
    rcases h2 with ⟨_, e⟩ | ⟨_, e⟩
    · rw [e]; exact h1'.tr (mpc_add hf (hpl _))
    · rw [e]; exact h1'
  | 11, _, _, ht =>
    rcases ht with ⟨_, ht⟩ | ⟨_, ht⟩
    · cases ht; exact mpc_aux rfl
    · cases ht; exact (mpc_aux (V' := vFollow P V f (ix b) _) rfl).tr (mpc_add hf (hpl _))
  | o + 12, hq, _, _ => omega
/-- a place taken on: what is unset falls, or nothing new waits -/
theorem tk_mpc {P : sP} (hw : wP P) {V V' : sV} {f i : Nat} (hf : f < 12) (hW : vW V f i) (hr : i < (pC P f).length ∨ i = 40) (ht : tk P (clr V f i) f i V') : TE V' ≤ TE V ∧ (TE V' < TE V ∨ ∀ g j, vW V' g j → vW V g j ∧ ¬ (g = f ∧ j = i)) := by
  unfold tk at ht
  cases hq : (pC P f)[i]? with
  | none =>
    rw [hq] at ht
    replace ht : V' = vWake P (clr V f i) f := ht
    have hlen : (pC P f).length ≤ i := List.getElem?_eq_none_iff.mp hq
    have hi40 : i = 40 := hr.resolve_left (by omega)
    subst hi40
    subst ht
    have h1 : sm 12 (fun f' => sm 41 (fun j => un4 (vWake P (clr V f 40) f) f' j)) = sm 12 (fun f' => sm 41 (fun j => un4 V f' j)) := rfl
    have h2 : unY (vWake P (clr V f 40) f) = unY V := rfl
    have hle : ∀ g, g < 12 → un4 (vWake P (clr V f 40) f) g 40 + ind (vW (vWake P (clr V f 40) f) g 40) ≤ un4 V g 40 + ind (vW V g 40) := by
      intro g hg
      have e : un4 (vWake P (clr V f 40) f) g 40 = un4 V g 40 := rfl
      have e2 : ind (vW (vWake P (clr V f 40) f) g 40) ≤ ind (vW V g 40) := ind_m (fun z => z.elim (fun z => z.1) (fun z => absurd z.1 (site_40 hw hg)))
      omega
    have h3 : sm 12 (fun g => un4 (vWake P (clr V f 40) f) g 40 + ind (vW (vWake P (clr V f 40) f) g 40)) < sm 12 (fun g => un4 V g 40 + ind (vW V g 40)) := by
      refine sm_lt hle hf ?_
      have e : un4 (vWake P (clr V f 40) f) f 40 = un4 V f 40 := rfl
      have e2 : ind (vW (vWake P (clr V f 40) f) f 40) = 0 := ind_f (fun z => z.elim (fun z => z.2 ⟨rfl, rfl⟩) (fun z => absurd z.1 (site_40 hw hf)))
      have e3 : ind (vW V f 40) = 1 := ind_t hW
      omega
    have : TE (vWake P (clr V f 40) f) < TE V := by
      unfold TE
      omega
    exact ⟨Nat.le_of_lt this, Or.inl this⟩
  | some q =>
    rw [hq] at ht
    replace ht : tkq P (clr V f i) f i q V' := ht
    have hl := (hw.2.2.2.1 f hf).1
    have hlt : i < (pC P f).length := (List.getElem?_eq_some_iff.mp hq).1
    have hv : vN q := (hw.2.2.2.1 f hf).2 q (List.mem_of_getElem? hq)
    have h0 : TE (clr V f i) = TE V := by
      have h1 : sm 12 (fun f' => sm 41 (fun j => un4 (clr V f i) f' j)) = sm 12 (fun f' => sm 41 (fun j => un4 V f' j)) := rfl
      have h2 : unY (clr V f i) = unY V := rfl
      have h3 : sm 12 (fun g => un4 (clr V f i) g 40 + ind (vW (clr V f i) g 40)) = sm 12 (fun g => un4 V g 40 + ind (vW V g 40)) := by
        refine sm_c (fun g hg => ?_)
        have e : un4 (clr V f i) g 40 = un4 V g 40 := rfl
        have e2 : ind (vW (clr V f i) g 40) = ind (vW V g 40) := Nat.le_antisymm (ind_m (fun z => z.1)) (ind_m (fun z => ⟨z, fun e => by omega⟩))
        omega
      unfold TE
      omega
    obtain ⟨m1, m2⟩ := tkq_mpc hw hf hv ht
    rw [h0] at m1 m2
    exact ⟨m1, m2⟩
def isO (P : sP) (f i o : Nat) : Prop := ∃ q, (pC P f)[i]? = some q ∧ q.1 = o
theorem isO_1 {P : sP} {f i o o' : Nat} (h : isO P f i o) (h' : isO P f i o') : o = o' := by
  obtain ⟨q, h1, h2⟩ := h
  obtain ⟨q', h1', h2'⟩ := h'
  rw [h1] at h1'
  cases h1'
  exact h2.symm.trans h2'
noncomputable def nS (P : sP) (f : Nat) : Nat := sm 41 (fun i => ind (isO P f i 4))
noncomputable def nL (P : sP) (f : Nat) : Nat := sm 41 (fun i => ind (isO P f i 3 ∨ isO P f i 11))
noncomputable def nC (P : sP) (f : Nat) : Nat := sm 41 (fun i => ind (isO P f i 5))
noncomputable def wt (P : sP) (f i : Nat) : Nat := 1 + ind (isO P f i 4) * nL P f + ind (i = 40) * nC P f
noncomputable def phi (P : sP) (V : sV) (f : Nat) : Nat := sm 41 (fun i => wt P f i * (un4 V f i + ind (vW V f i)))
theorem sq_bd : ∀ s, s < 42 → s * (41 - s) ≤ 420 := by decide
theorem phi_bd (P : sP) (V : sV) (f : Nat) : phi P V f ≤ 514550 := by
  have h1 : phi P V f ≤ sm 41 (fun i => wt P f i * 1025) := sm_le (fun i _ => Nat.mul_le_mul_left _ (by have := un4_bd V f i; have := ind_le (vW V f i); omega))
  have e1 : sm 41 (fun i => ind (isO P f i 4) * nL P f) = nS P f * nL P f := sm_mul
  have e3 : sm 41 (fun i => ind (i = 40)) = 1 := by
    rw [sm_c (b := fun i => if i = 40 then 1 else 0) (fun i _ => by
      by_cases e : i = 40
      · rw [ind_t e]; exact (if_pos e).symm
      · rw [ind_f e]; exact (if_neg e).symm)]
    rfl
  have e2 : sm 41 (fun i => ind (i = 40) * nC P f) = nC P f := by
    rw [sm_mul, e3, Nat.one_mul]
  have e4 : sm 41 (fun _ => 1) = 41 := rfl
  have h2 : sm 41 (fun i => wt P f i) = 41 + nS P f * nL P f + nC P f := by
    have : sm 41 (fun i => wt P f i) = sm 41 (fun i => (1 + ind (isO P f i 4) * nL P f) + ind (i = 40) * nC P f) := rfl
    rw [this, sm_add (a := fun i => 1 + ind (isO P f i 4) * nL P f), sm_add (a := fun _ => 1), e1, e2, e4]
  rw [sm_mul, h2] at h1
  have h3 : nC P f ≤ 41 := sm_bd (n := 41) (c := 1) (fun i _ => ind_le _)
  have h4 : nS P f + nL P f ≤ 41 := by
    have : nS P f + nL P f = sm 41 (fun i => ind (isO P f i 4) + ind (isO P f i 3 ∨ isO P f i 11)) := sm_add.symm
    rw [this]
    refine sm_bd (n := 41) (c := 1) (fun i _ => ?_)
    by_cases e : isO P f i 4
    · rw [ind_t e, ind_f (fun z => z.elim (fun z => absurd (isO_1 e z) (by decide)) (fun z => absurd (isO_1 e z) (by decide)))]
      exact Nat.le_refl _
    · rw [ind_f e]
      have := ind_le (isO P f i 3 ∨ isO P f i 11)
      omega
  have h5 : nS P f * nL P f ≤ 420 := Nat.le_trans (Nat.mul_le_mul_left _ (show nL P f ≤ 41 - nS P f by omega)) (sq_bd _ (by omega))
  omega
theorem phi_add {P : sP} {V : sV} {f g j : Nat} {X : Nat → Nat → Prop} : phi P (vAdd V g j X) f ≤ phi P V f := by
  refine sm_le (fun i _ => Nat.mul_le_mul_left _ ?_)
  have hle : un4 (vAdd V g j X) f i ≤ un4 V f i := un4_le (fun _ _ _ _ => Or.inl)
  by_cases e : f = g ∧ i = j ∧ vGrew V g j X
  · obtain ⟨rfl, rfl, r, hr, v, hv, z1, z2⟩ := e
    have hlt : un4 (vAdd V f i X) f i < un4 V f i := un4_lt (fun _ _ _ _ => Or.inl) hr hv (Or.inr ⟨rfl, rfl, z1⟩) z2
    have := ind_le (vW (vAdd V f i X) f i)
    omega
  · have h4 : ind (vW (vAdd V g j X) f i) ≤ ind (vW V f i) := ind_m (fun z => z.elim id (fun z => absurd z e))
    omega
theorem phi_aux {P : sP} {V V' : sV} {f : Nat} (h : (vS V', vW V') = (vS V, vW V)) : phi P V' f = phi P V f := by
  obtain ⟨e1, e2⟩ := by simpa only [Prod.mk.injEq] using h
  unfold phi un4
  rw [e1, e2]
theorem phi_more {P : sP} {V V' : sV} {f : Nat} {A : Nat → Prop} (hS : vS V' = vS V) (hW : ∀ i, vW V' f i → vW V f i ∨ A i) (h1 : ∀ i, A i → wt P f i = 1) : phi P V' f ≤ phi P V f + sm 41 (fun i => ind (A i)) := by
  have : phi P V f + sm 41 (fun i => ind (A i)) = sm 41 (fun i => wt P f i * (un4 V f i + ind (vW V f i)) + ind (A i)) := sm_add.symm
  rw [this]
  refine sm_le (fun i _ => ?_)
  have e : un4 V' f i = un4 V f i := by unfold un4; rw [hS]
  by_cases ha : A i
  · rw [h1 i ha, ind_t ha, e]
    have := ind_le (vW V' f i)
    omega
  · have h4 : ind (vW V' f i) ≤ ind (vW V f i) := ind_m (fun z => (hW i z).resolve_right ha)
    have := Nat.mul_le_mul_left (wt P f i) (show un4 V' f i + ind (vW V' f i) ≤ un4 V f i + ind (vW V f i) by omega)
    omega
theorem wt_1 {P : sP} (hw : wP P) {f i o : Nat} (hf : f < 12) (h : isO P f i o) (ho : ¬ o = 4) : wt P f i = 1 := by
  obtain ⟨q, hq, _⟩ := id h
  have := (List.getElem?_eq_some_iff.mp hq).1
  have := (hw.2.2.2.1 f hf).1
  unfold wt
  rw [ind_f (fun z => ho (isO_1 h z)), ind_f (p := i = 40) (by omega)]
  omega
theorem phi_store {P : sP} (hw : wP P) {V : sV} {f k : Nat} {pl Z : Nat → Prop} (hf : f < 12) : phi P (vStore P V k pl Z) f ≤ phi P V f + nL P f := by
  refine phi_more (A := fun i => isO P f i 3 ∨ isO P f i 11) rfl (fun i z => ?_) (fun i z => z.elim (fun z => wt_1 hw hf z (by decide)) (fun z => wt_1 hw hf z (by decide)))
  rcases z with z | ⟨_, z, _⟩
  · exact Or.inl z
  · right
    have key : ∀ w, 12 ≤ w → site P w f i → isO P f i 3 ∨ isO P f i 11 := by
      rintro w hw12 ⟨q, hq, e⟩
      have hv : vN q := (hw.2.2.2.1 f hf).2 q (List.mem_of_getElem? hq)
      unfold waker at e
      by_cases h5 : q.1 = 5
      · rw [if_pos h5] at e
        obtain ⟨o, a, b, c⟩ := q
        replace h5 : o = 5 := h5
        subst h5
        obtain ⟨g0, hg0, x0, eg0⟩ := vF_n hv.1
        have e' : ix a = w := Option.some.inj e
        have : ix a < 12 := by rw [eg0]; exact hg0
        omega
      · rw [if_neg h5] at e
        by_cases h3 : q.1 = 3
        · exact Or.inl ⟨q, hq, h3⟩
        · rw [if_neg h3] at e
          by_cases h11 : q.1 = 11
          · exact Or.inr ⟨q, hq, h11⟩
          · rw [if_neg h11] at e
            cases e
    exact z.elim (key _ (by omega)) (key _ (by omega))
theorem phi_wake {P : sP} (hw : wP P) {V : sV} {f : Nat} (hf : f < 12) : phi P (vWake P V f) f ≤ phi P V f + nC P f := by
  refine phi_more (A := fun i => isO P f i 5) rfl (fun i z => ?_) (fun i z => wt_1 hw hf z (by decide))
  rcases z with z | ⟨⟨q, hq, e⟩, _⟩
  · exact Or.inl z
  · right
    unfold waker at e
    by_cases h5 : q.1 = 5
    · exact ⟨q, hq, h5⟩
    · rw [if_neg h5] at e
      by_cases h3 : q.1 = 3
      · rw [if_pos h3] at e
        have := Option.some.inj e
        omega
      · rw [if_neg h3] at e
        by_cases h11 : q.1 = 11
        · rw [if_pos h11] at e
          have := Option.some.inj e
          omega
        · rw [if_neg h11] at e
          cases e
theorem sm_sub {n c : Nat} {a b : Nat → Nat} (h : ∀ i, i < n → a i ≤ b i) {k : Nat} (hk : k < n) (hc : a k + c ≤ b k) : sm n a + c ≤ sm n b := by
  induction n with
  | zero => omega
  | succ n ih =>
    have h1 := h n (by omega)
    show sm n a + a n + c ≤ sm n b + b n
    by_cases e : k = n
    · subst e
      have := sm_le (n := k) (a := a) (b := b) (fun i hi => h i (by omega))
      omega
    · have := ih (fun i hi => h i (by omega)) (by omega)
      omega
theorem phi_clr {P : sP} {V : sV} {f i : Nat} (hi : i < 41) (hW : vW V f i) : phi P (clr V f i) f + wt P f i ≤ phi P V f := by
  refine sm_sub (fun j _ => Nat.mul_le_mul_left _ ?_) hi ?_
  · have e : un4 (clr V f i) f j = un4 V f j := rfl
    have : ind (vW (clr V f i) f j) ≤ ind (vW V f j) := ind_m (fun z => z.1)
    omega
  · have e : un4 (clr V f i) f i = un4 V f i := rfl
    rw [e, ind_f (p := vW (clr V f i) f i) (fun z => z.2 ⟨rfl, rfl⟩), ind_t hW, Nat.mul_add, Nat.mul_add]
    omega
theorem tkq_phi {P : sP} (hw : wP P) {V V' : sV} {f i : Nat} {q : Nat × Int32 × Int32 × Int32} (hf : f < 12) (hv : vN q) (ht : tkq P V f i q V') : phi P V' f ≤ phi P V f + ind (q.1 = 4) * nL P f := by
  have hq12 := vN_le hv
  obtain ⟨o, a, b, c⟩ := q
  replace hq12 : o < 12 := hq12
  match o, hq12, hv, ht with
  | 0, _, _, ht => cases ht; exact Nat.le_trans phi_add (Nat.le_add_right _ _)
  | 1, _, _, ht => cases ht; exact Nat.le_trans phi_add (Nat.le_add_right _ _)
  | 2, _, _, ht => cases ht; exact Nat.le_trans phi_add (Nat.le_add_right _ _)
  | 7, _, _, ht => cases ht; exact Nat.le_trans phi_add (Nat.le_add_right _ _)
  | 8, _, _, ht => cases ht; exact Nat.le_trans phi_add (Nat.le_add_right _ _)
  | 9, _, _, ht => cases ht; exact Nat.le_trans phi_add (Nat.le_add_right _ _)
  | 10, _, _, ht => cases ht; exact Nat.le_trans phi_add (Nat.le_trans (Nat.le_of_eq (phi_aux rfl)) (Nat.le_add_right _ _))
  | 3, _, _, ht =>
    rcases ht with ⟨_, ht⟩ | ⟨_, ht⟩
    · cases ht; exact Nat.le_add_right _ _
    · cases ht; exact Nat.le_trans phi_add (Nat.le_trans (Nat.le_of_eq (phi_aux rfl)) (Nat.le_add_right _ _))
  | 4, _, hv, ht =>
    rcases ht with ⟨_, ht⟩ | ⟨_, ht⟩
    · cases ht; exact Nat.le_add_right _ _
    · cases ht
      refine Nat.le_trans phi_add (Nat.le_trans (phi_store hw hf) ?_)
      rw [ind_t rfl]
      omega
  | 5, _, hv, ht =>
    obtain ⟨V1, e1, ht⟩ := ht
    have h1 : phi P V1 f ≤ phi P V f := by
      rw [e1]
      exact Nat.le_trans phi_add (Nat.le_of_eq (phi_aux rfl))
    rcases ht with ⟨_, ht⟩ | ⟨_, ht⟩
    · cases ht; exact Nat.le_trans phi_add (Nat.le_trans h1 (Nat.le_add_right _ _))
    · cases ht; exact Nat.le_trans h1 (Nat.le_add_right _ _)
  | 6, _, _, ht =>
    obtain ⟨V1, h1, h2⟩ := ht
    have h1' : phi P V1 f ≤ phi P V f := by
      rcases h1 with ⟨_, e⟩ | ⟨_, e⟩
      · rw [e]; exact phi_add
      · rw [e]; exact Nat.le_refl _
    rcases h2 with ⟨_, e⟩ | ⟨_, e⟩
    · rw [e]; exact Nat.le_trans phi_add (Nat.le_trans h1' (Nat.le_add_right _ _))
    · rw [e]; exact Nat.le_trans h1' (Nat.le_add_right _ _)
  | 11, _, _, ht =>
    rcases ht with ⟨_, ht⟩ | ⟨_, ht⟩
    · cases ht; exact Nat.le_add_right _ _
    · cases ht; exact Nat.le_trans phi_add (Nat.le_trans (Nat.le_of_eq (phi_aux rfl)) (Nat.le_add_right _ _))
  | o + 12, hq, _, _ => omega
theorem tk_phi {P : sP} (hw : wP P) {V V' : sV} {f i : Nat} (hf : f < 12) (hW : vW V f i) (hr : i < (pC P f).length ∨ i = 40) (ht : tk P (clr V f i) f i V') : phi P V' f < phi P V f := by
  have hl := (hw.2.2.2.1 f hf).1
  have hc := phi_clr (P := P) (by omega) hW
  unfold tk at ht
  cases hq : (pC P f)[i]? with
  | none =>
    rw [hq] at ht
    replace ht : V' = vWake P (clr V f i) f := ht
    have hlen : (pC P f).length ≤ i := List.getElem?_eq_none_iff.mp hq
    have hi40 : i = 40 := hr.resolve_left (by omega)
    subst hi40
    subst ht
    have h1 := phi_wake (V := clr V f 40) hw hf
    have h2 : wt P f 40 = 1 + nC P f := by
      unfold wt
      rw [ind_f (p := isO P f 40 4) (fun ⟨q, z, _⟩ => by rw [hq] at z; cases z), ind_t rfl]
      omega
    omega
  | some q =>
    rw [hq] at ht
    replace ht : tkq P (clr V f i) f i q V' := ht
    have hv : vN q := (hw.2.2.2.1 f hf).2 q (List.mem_of_getElem? hq)
    have h1 := tkq_phi hw hf hv ht
    have h2 : 1 + ind (q.1 = 4) * nL P f ≤ wt P f i := by
      unfold wt
      have : ind (q.1 = 4) * nL P f ≤ ind (isO P f i 4) * nL P f := Nat.mul_le_mul_right _ (ind_m (fun z => ⟨q, hq, z⟩))
      omega
    omega
