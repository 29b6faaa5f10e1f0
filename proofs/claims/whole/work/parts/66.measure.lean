/-! the invariant, and what falls at each piece of work -/
def Inv (P : sP) (V : sV) : Prop := bas P V ∧ ini P V ∧ i4 P V (fun _ _ => False) ∧ ∀ Z, cls P Z → sub P V Z
def clr (V : sV) (f i : Nat) : sV := (vS V, vY V, vC V, fun g j => vW V g j ∧ ¬ (g = f ∧ j = i), V.2.2.2.2)
theorem bas_clr {P : sP} {V : sV} {f i : Nat} (h : bas P V) : bas P (clr V f i) := ⟨h.1, fun g j z => h.2.1 g j z.1, h.2.2⟩
theorem tk_inv {P : sP} (hw : wP P) {V V' : sV} (h : Inv P V) {f i : Nat} (hf : f < 12) (hWi : vW V f i) (ht : tk P (clr V f i) f i V') : Inv P V' := by
  obtain ⟨hb, hi, h4, hs⟩ := h
  have hc : vC V f i := hb.2.1 f i hWi
  have hb0 : bas P (clr V f i) := bas_clr hb
  unfold tk at ht
  cases hq : (pC P f)[i]? with
  | none =>
    rw [hq] at ht
    replace ht : V' = vWake P (clr V f i) f := ht
    have hlen : (pC P f).length ≤ i := by
      have := List.getElem?_eq_none_iff.mp hq
      exact this
    have hi40 : i = 40 := (hb.1 f i hc).2.resolve_left (by omega)
    subst ht
    refine ⟨⟨hb.1, fun g j z => ?_, hb.2.2⟩, hi, fun g hg j q hqj hcj hn _ => ?_, hs⟩
    · rcases z with z | z
      · exact hb.2.1 g j z.1
      · exact z.2
    · have hlg := (hw.2.2.2.1 g hg).1
      have hjl : j < (pC P g).length := (List.getElem?_eq_some_iff.mp hqj).1
      have hns : ¬ site P f g j := fun z => hn (Or.inr ⟨z, hcj⟩)
      have hnw : ¬ vW V g j := fun z => hn (Or.inl ⟨z, fun e => by omega⟩)
      obtain ⟨⟨a1, a2, a3⟩, a4⟩ := h4 g hg j q hqj hcj hnw (fun z => z)
      refine ⟨⟨a1, fun e z => ?_, a3⟩, a4⟩
      rcases a2 e z with z2 | z2
      · left
        refine Or.inl ⟨z2, fun e2 => hns ⟨q, hqj, ?_⟩⟩
        unfold waker
        rw [if_pos e, e2.1]
      · exact Or.inr z2
  | some q =>
    rw [hq] at ht
    replace ht : tkq P (clr V f i) f i q V' := ht
    have hl := (hw.2.2.2.1 f hf).1
    have hlt : i < (pC P f).length := (List.getElem?_eq_some_iff.mp hq).1
    obtain ⟨g1, g2, g3, g4⟩ := tkq_ok hw hb0 hf hq hc ht
    have h40 : i4 P (clr V f i) (fun g j => g = f ∧ j = i) := by
      intro g hg j q' hq' hcj hn hx
      have hnw : ¬ vW V g j := fun z => hn ⟨z, hx⟩
      obtain ⟨⟨a1, a2, a3⟩, a4⟩ := h4 g hg j q' hq' hcj hnw (fun z => z)
      refine ⟨⟨a1, fun e z => ?_, a3⟩, a4⟩
      rcases a2 e z with z2 | z2
      · exact Or.inl ⟨z2, fun e => by omega⟩
      · exact Or.inr z2
    have h41 := i4_pc hw g1 h40
    refine ⟨g2, ini_pc g1 hi, fun g hg j q' hq' hcj hn _ => ?_, fun Z hz => g3 Z hz (hs Z hz)⟩
    by_cases e : g = f ∧ j = i
    · obtain ⟨rfl, rfl⟩ := e
      rw [hq] at hq'
      cases hq'
      exact g4 hn
    · exact h41 g hg j q' hq' hcj hn e
noncomputable def ind (p : Prop) : Nat := @ite Nat p (Classical.propDecidable p) 1 0
theorem ind_t {p : Prop} (h : p) : ind p = 1 := if_pos h
theorem ind_f {p : Prop} (h : ¬ p) : ind p = 0 := if_neg h
theorem ind_le (p : Prop) : ind p ≤ 1 := by
  by_cases h : p
  · rw [ind_t h]; exact Nat.le_refl _
  · rw [ind_f h]; omega
theorem ind_m {p q : Prop} (h : p → q) : ind p ≤ ind q := by
  by_cases hp : p
  · rw [ind_t hp, ind_t (h hp)]; exact Nat.le_refl _
  · rw [ind_f hp]; omega
def sm : Nat → (Nat → Nat) → Nat
  | 0, _ => 0
  | n + 1, h => sm n h + h n
theorem sm_le {n : Nat} {a b : Nat → Nat} (h : ∀ i, i < n → a i ≤ b i) : sm n a ≤ sm n b := by
  induction n with
  | zero => exact Nat.le_refl _
  | succ n ih =>
    have := ih (fun i hi => h i (by omega))
    have := h n (by omega)
    show sm n a + a n ≤ sm n b + b n
    omega
theorem sm_lt {n : Nat} {a b : Nat → Nat} (h : ∀ i, i < n → a i ≤ b i) {k : Nat} (hk : k < n) (hlt : a k < b k) : sm n a < sm n b := by
  induction n with
  | zero => omega
  | succ n ih =>
    have h1 := h n (by omega)
    show sm n a + a n < sm n b + b n
    by_cases e : k = n
    · subst e
      have := sm_le (n := k) (a := a) (b := b) (fun i hi => h i (by omega))
      omega
    · have := ih (fun i hi => h i (by omega)) (by omega)
      omega
theorem sm_c {n : Nat} {a b : Nat → Nat} (h : ∀ i, i < n → a i = b i) : sm n a = sm n b := Nat.le_antisymm (sm_le (fun i hi => Nat.le_of_eq (h i hi))) (sm_le (fun i hi => Nat.le_of_eq (h i hi).symm))
theorem sm_bd {n c : Nat} {a : Nat → Nat} (h : ∀ i, i < n → a i ≤ c) : sm n a ≤ n * c := by
  induction n with
  | zero => show 0 ≤ _; omega
  | succ n ih =>
    have := ih (fun i hi => h i (by omega))
    have := h n (by omega)
    show sm n a + a n ≤ _
    rw [Nat.succ_mul]
    omega
theorem sm_add {n : Nat} {a b : Nat → Nat} : sm n (fun i => a i + b i) = sm n a + sm n b := by
  induction n with
  | zero => rfl
  | succ n ih =>
    show sm n (fun i => a i + b i) + (a n + b n) = sm n a + a n + (sm n b + b n)
    rw [ih]; omega
theorem sm_mul {n c : Nat} {a : Nat → Nat} : sm n (fun i => a i * c) = sm n a * c := by
  induction n with
  | zero => show 0 = 0 * c; omega
  | succ n ih =>
    show sm n (fun i => a i * c) + a n * c = (sm n a + a n) * c
    rw [ih, Nat.add_mul]
/-- how many values a place's registers may still come to have -/
noncomputable def un4 (V : sV) (f i : Nat) : Nat := sm 4 (fun r => sm 256 (fun v => ind (¬ vS V f i r v)))
theorem un4_le {V V' : sV} {f i : Nat} (h : ∀ r, r < 4 → ∀ v, v < 256 → vS V f i r v → vS V' f i r v) : un4 V' f i ≤ un4 V f i := sm_le (fun r hr => sm_le (fun v hv => ind_m (fun z z2 => z (h r hr v hv z2))))
theorem un4_lt {V V' : sV} {f i : Nat} (h : ∀ r, r < 4 → ∀ v, v < 256 → vS V f i r v → vS V' f i r v) {r v : Nat} (hr : r < 4) (hv : v < 256) (h1 : vS V' f i r v) (h2 : ¬ vS V f i r v) : un4 V' f i < un4 V f i := by
  refine sm_lt (fun r hr => sm_le (fun v hv => ind_m (fun z z2 => z (h r hr v hv z2)))) hr (sm_lt (fun v hv => ind_m (fun z z2 => z (h r hr v hv z2))) hv ?_)
  rw [ind_f (fun z => z h1), ind_t h2]
  omega
theorem un4_bd (V : sV) (f i : Nat) : un4 V f i ≤ 1024 := sm_bd (n := 4) (c := 256) (fun r hr => sm_bd (n := 256) (c := 1) (fun v hv => ind_le _))
noncomputable def unY (V : sV) : Nat := sm 24 (fun k => sm 64 (fun p => sm 256 (fun v => ind (¬ vY V k p v))))
theorem unY_bd (V : sV) : unY V ≤ 393216 := sm_bd (n := 24) (c := 16384) (fun k hk => sm_bd (n := 64) (c := 256) (fun r hr => sm_bd (n := 256) (c := 1) (fun v hv => ind_le _)))
noncomputable def TE (V : sV) : Nat := sm 12 (fun f => sm 41 (fun i => un4 V f i)) + unY V + sm 12 (fun f => un4 V f 40 + ind (vW V f 40))
theorem TE_bd (V : sV) : TE V ≤ 909324 := by
  have h1 : sm 12 (fun f => sm 41 (fun i => un4 V f i)) ≤ 12 * 41984 := sm_bd (fun f _ => sm_bd (n := 41) (c := 1024) (fun i _ => un4_bd V f i))
  have h2 := unY_bd V
  have h3 : sm 12 (fun f => un4 V f 40 + ind (vW V f 40)) ≤ 12 * 1025 := sm_bd (fun f _ => by have := un4_bd V f 40; have := ind_le (vW V f 40); omega)
  unfold TE
  omega
def mpc (V V' : sV) : Prop := TE V' ≤ TE V ∧ (TE V' < TE V ∨ ∀ g j, vW V' g j → vW V g j)
theorem mpc.tr {V V' V'' : sV} (h : mpc V V') (h' : mpc V' V'') : mpc V V'' := by
  refine ⟨Nat.le_trans h'.1 h.1, ?_⟩
  rcases h'.2 with z | z
  · exact Or.inl (Nat.lt_of_lt_of_le z h.1)
  · rcases h.2 with y | y
    · exact Or.inl (Nat.lt_of_le_of_lt h'.1 y)
    · exact Or.inr (fun g j w => y g j (z g j w))
theorem mpc_aux {V V' : sV} (h : (vS V', vY V', vW V') = (vS V, vY V, vW V)) : mpc V V' := by
  obtain ⟨e1, e2, e3⟩ := by simpa only [Prod.mk.injEq] using h
  have : TE V' = TE V := by
    unfold TE un4 unY
    rw [e1, e2, e3]
  refine ⟨Nat.le_of_eq this, Or.inr ?_⟩
  rw [e3]
  exact fun _ _ z => z
theorem mpc_add {V : sV} {f j : Nat} {X : Nat → Nat → Prop} (hf : f < 12) (hj : j < 41) : mpc V (vAdd V f j X) := by
  have hle : ∀ g i, un4 (vAdd V f j X) g i ≤ un4 V g i := fun g i => un4_le (fun _ _ _ _ => Or.inl)
  by_cases hg : vGrew V f j X
  · obtain ⟨r, hr, v, hv, z1, z2⟩ := id hg
    have hlt : un4 (vAdd V f j X) f j < un4 V f j := un4_lt (fun _ _ _ _ => Or.inl) hr hv (Or.inr ⟨rfl, rfl, z1⟩) z2
    have h1 : sm 12 (fun f' => sm 41 (fun i => un4 (vAdd V f j X) f' i)) < sm 12 (fun f' => sm 41 (fun i => un4 V f' i)) := sm_lt (fun g _ => sm_le (fun i _ => hle g i)) hf (sm_lt (fun i _ => hle f i) hj hlt)
    have h2 : unY (vAdd V f j X) = unY V := rfl
    have h3 : sm 12 (fun g => un4 (vAdd V f j X) g 40 + ind (vW (vAdd V f j X) g 40)) ≤ sm 12 (fun g => un4 V g 40 + ind (vW V g 40)) := by
      refine sm_le (fun g _ => ?_)
      by_cases e : g = f ∧ 40 = j
      · obtain ⟨rfl, rfl⟩ := e
        have := ind_le (vW (vAdd V g 40 X) g 40)
        omega
      · have h4 : ind (vW (vAdd V f j X) g 40) ≤ ind (vW V g 40) := ind_m (fun z => z.elim id (fun z => absurd ⟨z.1, z.2.1⟩ e))
        have := hle g 40
        omega
    have : TE (vAdd V f j X) < TE V := by
      unfold TE
      omega
    exact ⟨Nat.le_of_lt this, Or.inl this⟩
  · have hW : ∀ g i, vW (vAdd V f j X) g i → vW V g i := fun g i z => z.elim id (fun z => absurd z.2.2 hg)
    refine ⟨?_, Or.inr hW⟩
    have h1 : sm 12 (fun f' => sm 41 (fun i => un4 (vAdd V f j X) f' i)) ≤ sm 12 (fun f' => sm 41 (fun i => un4 V f' i)) := sm_le (fun g _ => sm_le (fun i _ => hle g i))
    have h2 : unY (vAdd V f j X) = unY V := rfl
    have h3 : sm 12 (fun g => un4 (vAdd V f j X) g 40 + ind (vW (vAdd V f j X) g 40)) ≤ sm 12 (fun g => un4 V g 40 + ind (vW V g 40)) := sm_le (fun g _ => by
      have h4 : ind (vW (vAdd V f j X) g 40) ≤ ind (vW V g 40) := ind_m (hW g 40)
      have := hle g 40
      omega)
    unfold TE
    omega
theorem site_40 {P : sP} (hw : wP P) {w f : Nat} (hf : f < 12) : ¬ site P w f 40 := by
  rintro ⟨q, hq, _⟩
  have := (List.getElem?_eq_some_iff.mp hq).1
  have := (hw.2.2.2.1 f hf).1
  omega
theorem mpc_store {P : sP} (hw : wP P) {V : sV} {k : Nat} {pl Z : Nat → Prop} (hk : k < 24) (hpl : ∀ p, pl p → p < 64) : mpc V (vStore P V k pl Z) := by
  have h3 : sm 12 (fun g => un4 (vStore P V k pl Z) g 40 + ind (vW (vStore P V k pl Z) g 40)) ≤ sm 12 (fun g => un4 V g 40 + ind (vW V g 40)) := by
    refine sm_le (fun g hg => ?_)
    have h4 : ind (vW (vStore P V k pl Z) g 40) ≤ ind (vW V g 40) := ind_m (fun z => z.elim id (fun z => absurd z.2.1 (fun z => z.elim (site_40 hw hg) (site_40 hw hg))))
    have h5 : un4 (vStore P V k pl Z) g 40 = un4 V g 40 := rfl
    omega
  have h1 : sm 12 (fun f' => sm 41 (fun i => un4 (vStore P V k pl Z) f' i)) = sm 12 (fun f' => sm 41 (fun i => un4 V f' i)) := rfl
  have hY : ∀ k' p v, ind (¬ vY (vStore P V k pl Z) k' p v) ≤ ind (¬ vY V k' p v) := fun k' p v => ind_m (fun z z2 => z (Or.inl z2))
  by_cases hg : vStoreG V k pl Z
  · obtain ⟨p, hp, v, hv, z1, z2⟩ := id hg
    have h2 : unY (vStore P V k pl Z) < unY V := by
      refine sm_lt (fun k _ => sm_le (fun p _ => sm_le (fun v _ => hY k p v))) hk (sm_lt (fun p _ => sm_le (fun v _ => hY k p v)) (hpl p hp) (sm_lt (fun v _ => hY k p v) hv ?_))
      rw [ind_f (fun z => z (Or.inr ⟨rfl, hp, z1⟩)), ind_t z2]
      omega
    have : TE (vStore P V k pl Z) < TE V := by
      unfold TE
      omega
    exact ⟨Nat.le_of_lt this, Or.inl this⟩
  · have h2 : unY (vStore P V k pl Z) ≤ unY V := sm_le (fun k _ => sm_le (fun p _ => sm_le (fun v _ => hY k p v)))
    refine ⟨?_, Or.inr (fun g i z => z.elim id (fun z => absurd z.1 hg))⟩
    unfold TE
    omega
