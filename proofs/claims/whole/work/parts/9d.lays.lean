/-! What is kept and how it is laid, as mathematics; a loop's rule -/
theorem loopN {σ : Type} (n : Nat) (I R : Nat → σ → Prop) (hs : ∀ k, k < n → ∀ s, I k s → (∀ s', I (k + 1) s' → R (k + 1) s') → R k s) (he : ∀ s, I n s → R n s) : ∀ (m k : Nat), m + k = n → ∀ s, I k s → R k s := by
  intro m
  induction m with
  | zero =>
    intro k hk s hi
    obtain rfl : k = n := by omega
    exact he s hi
  | succ m ih =>
    intro k hk s hi
    exact hs k (by omega) s hi (fun s' h' => ih (k + 1) (by omega) s' h')
/-- truth as a Bool -/
noncomputable def tb (p : Prop) : Bool := @decide p (Classical.propDecidable p)
theorem tb_t {p : Prop} : tb p = true ↔ p := by
  unfold tb
  exact @decide_eq_true_iff p (Classical.propDecidable p)
theorem tb_f {p : Prop} : tb p = false ↔ ¬ p := by
  have h := @tb_t p
  cases e : tb p with
  | true => exact ⟨fun z => (by cases z), fun z => absurd (h.mp e) z⟩
  | false => exact ⟨fun _ y => (by rw [h.mpr y] at e; cases e), fun _ => rfl⟩
theorem tb_c {p q : Prop} (h : p ↔ q) : tb p = tb q := by rw [propext h]
theorem tb_b {b : Bool} {p : Prop} (h : b = true ↔ p) : b = tb p := by
  cases b with
  | true => exact (tb_t.mpr (h.mp rfl)).symm
  | false => exact (tb_f.mpr (fun z => by have := h.mpr z; cases this)).symm
theorem b2_ne {b : Bool} : ¬ b2 b = 0 ↔ b = true := by cases b <;> decide
/-- the least below n -/
noncomputable def lst (p : Nat → Prop) : Nat → Option Nat
  | 0 => none
  | n + 1 => match lst p n with
    | some i => some i
    | none => if tb (p n) then some n else none
theorem lst_none {p : Nat → Prop} : ∀ n, lst p n = none ↔ ∀ i, i < n → ¬ p i := by
  intro n
  induction n with
  | zero => exact ⟨fun _ i hi => absurd hi (Nat.not_lt_zero _), fun _ => rfl⟩
  | succ n ih =>
    unfold lst
    cases h : lst p n with
    | some j =>
      refine ⟨fun z => (by cases z), fun z => ?_⟩
      have := ih.mpr (fun i hi => z i (by omega))
      rw [h] at this
      cases this
    | none =>
      have h1 := ih.mp h
      by_cases e : p n
      · refine ⟨fun z => ?_, fun z => absurd e (z n (by omega))⟩
        simp [tb_t.mpr e] at z
      · simp only [tb_f.mpr e]
        refine ⟨fun _ i hi => ?_, fun _ => rfl⟩
        rcases Nat.lt_succ_iff_lt_or_eq.mp hi with q | q
        · exact h1 i q
        · rw [q]; exact e
theorem lst_some {p : Nat → Prop} : ∀ n i, lst p n = some i ↔ i < n ∧ p i ∧ ∀ j, j < i → ¬ p j := by
  intro n
  induction n with
  | zero => exact fun i => ⟨fun z => (by cases z), fun z => absurd z.1 (Nat.not_lt_zero _)⟩
  | succ n ih =>
    intro i
    unfold lst
    cases h : lst p n with
    | some j =>
      have hj := (ih j).mp h
      constructor
      · intro z
        cases z
        exact ⟨by omega, hj.2⟩
      · rintro ⟨z1, z2, z3⟩
        have e : j = i := by
          rcases Nat.lt_trichotomy j i with q | q | q
          · exact absurd hj.2.1 (z3 j q)
          · exact q
          · exact absurd z2 (hj.2.2 i q)
        show some j = some i
        rw [e]
    | none =>
      have h1 := (lst_none n).mp h
      by_cases e : p n
      · simp only [tb_t.mpr e]
        constructor
        · intro z
          have : n = i := by simpa using z
          subst this
          exact ⟨by omega, e, h1⟩
        · rintro ⟨z1, z2, z3⟩
          have : i = n := by
            rcases Nat.lt_succ_iff_lt_or_eq.mp z1 with q | q
            · exact absurd z2 (h1 i q)
            · exact q
          simp [this]
      · simp only [tb_f.mpr e]
        refine ⟨fun z => by simp at z, ?_⟩
        rintro ⟨z1, z2, z3⟩
        rcases Nat.lt_succ_iff_lt_or_eq.mp z1 with q | q
        · exact absurd z2 (h1 i q)
        · rw [q] at z2; exact absurd z2 e
theorem lst_1 {p : Nat → Prop} {n : Nat} : lst p (n + 1) = match lst p n with
    | some i => some i
    | none => if tb (p n) then some n else none := rfl
/-- what is kept -/
def kp0 (P : sP) (V : sV) (k : Nat) : Prop := 0 < pS P k ∧ (pV P k = true ∨ ∃ p, p < 64 ∧ vRd V k p)
def kpt (P : sP) (V : sV) (k : Nat) : Prop := kp0 P V k ∨ (0 < pS P k ∧ 0 < pG P k ∧ ∃ j, j < 24 ∧ kp0 P V j ∧ pG P j = pG P k)
/-- what is still -/
def stl (P : sP) (V : sV) (k : Nat) : Prop := k < 24 ∧ kpt P V k ∧ ¬ vWr V k ∧ (∀ p, p < 64 → pR P k p = none) ∧ ¬ vCm V k
def ens (P : sP) (y x : Nat) : Prop := pS P x ≤ pS P y ∧ ∀ p, p < pS P x → pO P y (pS P y - pS P x + p) = pO P x p
def alk (P : sP) (T : Nat → Prop) (i k : Nat) : Prop := T i ∧ T k ∧ pS P i = pS P k ∧ ens P i k
theorem ens_tr {P : sP} {a b c : Nat} (h : pS P a = pS P b) (h2 : pS P b = pS P c) (h3 : ens P a b) (h4 : ens P b c) : ens P a c := by
  refine ⟨by omega, fun p hp => ?_⟩
  have e1 := h3.2 p (by omega)
  have e2 := h4.2 p hp
  rw [show pS P a - pS P c + p = pS P a - pS P b + p by omega, e1, ← e2]
  congr 1
  omega
theorem ens_sy {P : sP} {a b : Nat} (h : pS P a = pS P b) (h3 : ens P a b) : ens P b a := by
  refine ⟨by omega, fun p hp => ?_⟩
  have e1 := h3.2 p (by omega)
  rw [show pS P b - pS P a + p = p by omega]
  rw [show pS P a - pS P b + p = p by omega] at e1
  exact e1.symm
theorem alk_tr {P : sP} {T : Nat → Prop} {a b c : Nat} (h : alk P T a b) (h' : alk P T b c) : alk P T a c := ⟨h.1, h'.2.1, h.2.2.1.trans h'.2.2.1, ens_tr h.2.2.1 h'.2.2.1 h.2.2.2 h'.2.2.2⟩
theorem alk_sy {P : sP} {T : Nat → Prop} {a b : Nat} (h : alk P T a b) : alk P T b a := ⟨h.2.1, h.1, h.2.2.1.symm, ens_sy h.2.2.1 h.2.2.2⟩
/-- which one stands for it -/
noncomputable def sfr (P : sP) (T : Nat → Prop) (k : Nat) : Option Nat := lst (fun i => alk P T i k) k
/-- the greatest align of those alike, up to n -/
noncomputable def amx (P : sP) (T : Nat → Prop) (k : Nat) : Nat → Nat
  | 0 => pA P k
  | n + 1 => if tb (k < n ∧ alk P T k n) then max (amx P T k n) (pA P n) else amx P T k n
noncomputable def aln (P : sP) (T : Nat → Prop) (k : Nat) : Nat := if (sfr P T k).isNone then amx P T k 24 else pA P k
/-- stands still -/
def sts (P : sP) (T : Nat → Prop) (k : Nat) : Prop := T k ∧ sfr P T k = none
def fit (P : sP) (T : Nat → Prop) (o : Nat → Option Nat) (x y : Nat) : Prop := sts P T y ∧ o y = none ∧ pS P x < pS P y ∧ ens P y x ∧ aln P T y % aln P T x = 0 ∧ (pS P y - pS P x) % aln P T x = 0
noncomputable def oun (P : sP) (T : Nat → Prop) : Nat → Nat → Option Nat
  | 0 => fun _ => none
  | n + 1 => un (oun P T n) n (if tb (sts P T n ∧ ¬ ∃ t, t < 24 ∧ oun P T n t = some n) then lst (fit P T (oun P T n) n) 24 else none)
noncomputable def ouf (P : sP) (T : Nat → Prop) : Nat → Option Nat := oun P T 24
noncomputable def bls (P : sP) (K T : Nat → Prop) : Nat → List Nat
  | 0 => []
  | n + 1 => if tb (K n ∧ sfr P T n = none ∧ ouf P T n = none) then bls P K T n ++ [n] else bls P K T n
theorem sfr_none {P : sP} {T : Nat → Prop} {k : Nat} : sfr P T k = none ↔ ∀ i, i < k → ¬ alk P T i k := lst_none k
theorem sfr_some {P : sP} {T : Nat → Prop} {k i : Nat} : sfr P T k = some i ↔ i < k ∧ alk P T i k ∧ ∀ j, j < i → ¬ alk P T j k := lst_some k i
/-- the one that stands for another stands itself -/
theorem sfr_st {P : sP} {T : Nat → Prop} {k i : Nat} (h : sfr P T k = some i) : sts P T i := by
  obtain ⟨h1, h2, h3⟩ := sfr_some.mp h
  exact ⟨h2.1, sfr_none.mpr (fun j hj z => h3 j hj (alk_tr z h2))⟩
theorem sfr_T {P : sP} {T : Nat → Prop} {k i : Nat} (h : sfr P T k = some i) : T k := (sfr_some.mp h).2.1.2.1
theorem oun_hi {P : sP} {T : Nat → Prop} : ∀ n k, n ≤ k → oun P T n k = none := by
  intro n
  induction n with
  | zero => intro k _; rfl
  | succ n ih =>
    intro k hk
    show un _ _ _ _ = none
    rw [un_n (by omega)]
    exact ih k (by omega)
theorem oun_lo {P : sP} {T : Nat → Prop} {k : Nat} : ∀ n, k < n → oun P T n k = oun P T (k + 1) k := by
  intro n
  induction n with
  | zero => intro h; omega
  | succ n ih =>
    intro h
    by_cases e : k = n
    · rw [e]
    · show un _ _ _ _ = _
      rw [un_n e]
      exact ih (by omega)
theorem oun_at {P : sP} {T : Nat → Prop} {k : Nat} : oun P T (k + 1) k = if tb (sts P T k ∧ ¬ ∃ t, t < 24 ∧ oun P T k t = some k) then lst (fit P T (oun P T k) k) 24 else none := un_s
theorem oun_some {P : sP} {T : Nat → Prop} {k y : Nat} (h : oun P T (k + 1) k = some y) : sts P T k ∧ (¬ ∃ t, t < 24 ∧ oun P T k t = some k) ∧ y < 24 ∧ fit P T (oun P T k) k y := by
  rw [oun_at] at h
  by_cases e : sts P T k ∧ ¬ ∃ t, t < 24 ∧ oun P T k t = some k
  · rw [if_pos (tb_t.mpr e)] at h
    obtain ⟨a, b, _⟩ := (lst_some 24 y).mp h
    exact ⟨e.1, e.2, a, b⟩
  · rw [if_neg (by rw [tb_f.mpr e]; decide)] at h
    cases h
theorem ouf_some {P : sP} {T : Nat → Prop} {k y : Nat} (hk : k < 24) (h : ouf P T k = some y) : sts P T k ∧ y < 24 ∧ sts P T y ∧ pS P k < pS P y ∧ ens P y k ∧ ouf P T y = none := by
  unfold ouf at h
  rw [oun_lo 24 hk] at h
  have h0 := h
  obtain ⟨a, b, c, d⟩ := oun_some h
  refine ⟨a, c, d.1, d.2.2.1, d.2.2.2.1, ?_⟩
  unfold ouf
  rw [oun_lo 24 c]
  have hne : y ≠ k := fun z => by rw [z] at d; exact absurd d.2.2.1 (Nat.lt_irrefl _)
  rcases Nat.lt_or_gt_of_ne hne with q | q
  · rw [← oun_lo (n := k) q]
    exact d.2.1
  · cases e : oun P T (y + 1) y with
    | none => rfl
    | some z =>
      have := (oun_some e).2.1
      exact absurd ⟨k, hk, by rw [oun_lo y q]; exact h0⟩ this
theorem amx_one {P : sP} {T : Nat → Prop} (hA : ∀ j, T j → pA P j = 1 ∨ pA P j = 2 ∨ pA P j = 4 ∨ pA P j = 8) {k : Nat} (hk : pA P k = 1 ∨ pA P k = 2 ∨ pA P k = 4 ∨ pA P k = 8) : ∀ n, amx P T k n = 1 ∨ amx P T k n = 2 ∨ amx P T k n = 4 ∨ amx P T k n = 8 := by
  intro n
  induction n with
  | zero => exact hk
  | succ n ih =>
    unfold amx
    split
    · rename_i h
      have h1 := hA n (tb_t.mp h).2.2.1
      rcases Nat.le_total (amx P T k n) (pA P n) with q | q
      · rw [Nat.max_eq_right q]; exact h1
      · rw [Nat.max_eq_left q]; exact ih
    · exact ih
theorem aln_one {P : sP} (hw : wP P) {T : Nat → Prop} (hT : ∀ j, T j → j < 24 ∧ 0 < pS P j) {k : Nat} (hk : k < 24) (hs : 0 < pS P k) : aln P T k = 1 ∨ aln P T k = 2 ∨ aln P T k = 4 ∨ aln P T k = 8 := by
  unfold aln
  have h0 := (hw.1 k hk).2.2 hs
  split
  · exact amx_one (fun j hj => (hw.1 j (hT j hj).1).2.2 (hT j hj).2) h0 24
  · exact h0
theorem stl_T {P : sP} {V : sV} {k : Nat} (h : stl P V k) : k < 24 ∧ 0 < pS P k := ⟨h.1, by
  rcases h.2.1 with q | q
  · exact q.1
  · exact q.1⟩
theorem kpt_S {P : sP} {V : sV} {k : Nat} (h : kpt P V k) : 0 < pS P k := by
  rcases h with q | q
  · exact q.1
  · exact q.1
