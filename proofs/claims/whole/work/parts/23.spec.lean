/-! The program as told, as a mathematical value; what each side's memory is to it -/
abbrev sP : Type := (Nat → Nat) × (Nat → Nat) × (Nat → Nat) × (Nat → Bool) × (Nat → Nat → Nat) × (Nat → Nat → Option Nat) × (Nat → List (Nat × Int32 × Int32 × Int32)) × (Nat → Bool) × List Nat
abbrev pS (P : sP) : Nat → Nat := P.1
abbrev pA (P : sP) : Nat → Nat := P.2.1
abbrev pG (P : sP) : Nat → Nat := P.2.2.1
abbrev pV (P : sP) : Nat → Bool := P.2.2.2.1
abbrev pO (P : sP) : Nat → Nat → Nat := P.2.2.2.2.1
abbrev pR (P : sP) : Nat → Nat → Option Nat := P.2.2.2.2.2.1
abbrev pC (P : sP) : Nat → List (Nat × Int32 × Int32 × Int32) := P.2.2.2.2.2.2.1
abbrev pE (P : sP) : Nat → Bool := P.2.2.2.2.2.2.2.1
abbrev pI (P : sP) : List Nat := P.2.2.2.2.2.2.2.2
def b2 (b : Bool) : Int32 := if b then 1 else 0
theorem b2_01 (b : Bool) : b2 b = 0 ∨ b2 b = 1 := by cases b <;> decide
theorem b2_0 {b : Bool} : b2 b = 0 ↔ b = false := by cases b <;> decide
/-- an instruction that may be told -/
def vR (a : Int32) : Prop := 0 ≤ a ∧ a < 4
def vT (a : Int32) : Prop := 0 ≤ a ∧ a < 24
def vN (q : Nat × Int32 × Int32 × Int32) : Prop := match q.1 with
  | 0 => vR q.2.1 ∧ (0 ≤ q.2.2.1 ∧ q.2.2.1 ≤ 255) ∧ q.2.2.2 = 0
  | 1 => vR q.2.1 ∧ (-255 ≤ q.2.2.1 ∧ q.2.2.1 ≤ 255) ∧ q.2.2.2 = 0
  | 2 => vR q.2.1 ∧ (0 ≤ q.2.2.1 ∧ q.2.2.1 ≤ 255) ∧ q.2.2.2 = 0
  | 3 => vR q.2.1 ∧ vT q.2.2.1 ∧ vR q.2.2.2
  | 4 => vT q.2.1 ∧ vR q.2.2.1 ∧ vR q.2.2.2
  | 5 => (0 ≤ q.2.1 ∧ q.2.1 < 12) ∧ q.2.2.1 = 0 ∧ q.2.2.2 = 0
  | 6 => vR q.2.1 ∧ (-40 ≤ q.2.2.1 ∧ q.2.2.1 ≤ 40) ∧ q.2.2.2 = 0
  | 7 => vR q.2.1 ∧ q.2.2.1 = 0 ∧ q.2.2.2 = 0
  | 8 => q.2.1 = 0 ∧ q.2.2.1 = 0 ∧ q.2.2.2 = 0
  | 9 => vR q.2.1 ∧ q.2.2.1 = 0 ∧ q.2.2.2 = 0
  | 10 => vR q.2.1 ∧ vT q.2.2.1 ∧ vT q.2.2.2
  | 11 => vR q.2.1 ∧ vT q.2.2.1 ∧ vR q.2.2.2
  | _ => False
/-- well formed -/
def wP (P : sP) : Prop := (∀ k, k < 24 → pS P k ≤ 64 ∧ pG P k ≤ 3 ∧ (0 < pS P k → pA P k = 1 ∨ pA P k = 2 ∨ pA P k = 4 ∨ pA P k = 8)) ∧ (∀ k, k < 24 → ∀ p, p < 64 → pO P k p < 256) ∧ (∀ k, k < 24 → ∀ p, p < 64 → ∀ t, pR P k p = some t → t < 24 ∧ p < pS P k ∧ 0 < pS P t) ∧ (∀ f, f < 12 → (pC P f).length ≤ 40 ∧ ∀ q ∈ pC P f, vN q) ∧ (pI P).length ≤ 200 ∧ ∀ v ∈ pI P, v < 256
/-- the class's memory: cells 1 to 15 -/
def cS (P : sP) (M : xMe) : Prop := ∀ k, k < 24 → M.1 2 k = nI (pS P k) ∧ M.1 3 k = nI (pA P k) ∧ M.1 4 k = nI (pG P k) ∧ M.1 5 k = b2 (pV P k)
def cO (P : sP) (M : xMe) : Prop := ∀ k, k < 24 → ∀ p, p < 64 → M.1 6 (k * 64 + p) = nI (pO P k p)
def cR (P : sP) (M : xMe) : Prop := ∀ k, k < 24 → ∀ p, p < 64 → xbit (M.2 8 k) p = (pR P k p).isSome ∧ ∀ t, pR P k p = some t → M.1 7 (k * 64 + p) = nI t
def cC (P : sP) (M : xMe) : Prop := ∀ f, f < 12 → M.1 9 f = nI (pC P f).length ∧ ∀ i q, (pC P f)[i]? = some q → M.1 10 (f * 40 + i) = nI q.1 ∧ M.1 11 (f * 40 + i) = q.2.1 ∧ M.1 12 (f * 40 + i) = q.2.2.1 ∧ M.1 13 (f * 40 + i) = q.2.2.2
def cE (P : sP) (M : xMe) : Prop := ∀ f, f < 12 → M.1 14 f = b2 (pE P f)
def cI (P : sP) (M : xMe) : Prop := M.1 1 14 = nI (pI P).length ∧ ∀ i v, (pI P)[i]? = some v → M.1 15 i = nI v
def cP (P : sP) (M : xMe) : Prop := cS P M ∧ cO P M ∧ cR P M ∧ cC P M ∧ cE P M ∧ cI P M
/-- only the cells S differ -/
def xfr (S : List Nat) (M M' : xMe) : Prop := ∀ c, c ∉ S → M'.1 c = M.1 c ∧ M'.2 c = M.2 c
theorem xfr.rf {S : List Nat} {M : xMe} : xfr S M M := fun _ _ => ⟨rfl, rfl⟩
theorem xfr.tr {S S' : List Nat} {M M' M'' : xMe} (h : xfr S M M') (h' : xfr S' M' M'') (hs : ∀ c, c ∈ S' → c ∈ S) : xfr S M M'' := fun c hc => ⟨(h' c (fun z => hc (hs c z))).1.trans (h c hc).1, (h' c (fun z => hc (hs c z))).2.trans (h c hc).2⟩
theorem xfr.mono {S S' : List Nat} {M M' : xMe} (h : xfr S M M') (hs : ∀ c, c ∈ S → c ∈ S') : xfr S' M M' := fun c hc => h c (fun z => hc (hs c z))
theorem xfr.I {S : List Nat} {M M' : xMe} {c : Nat} {f : Nat → Int32} (h : xfr S M M') (hc : c ∈ S) : xfr S M (xsI M' c f) := fun d hd => by
  have hne : d ≠ c := fun e => hd (e ▸ hc)
  rw [xsI_1, if_neg hne, xsI_2]
  exact h d hd
theorem xfr.L {S : List Nat} {M M' : xMe} {c : Nat} {f : Nat → Int64} (h : xfr S M M') (hc : c ∈ S) : xfr S M (xsL M' c f) := fun d hd => by
  have hne : d ≠ c := fun e => hd (e ▸ hc)
  rw [xsL_2, if_neg hne, xsL_1]
  exact h d hd
/-- ints that are naturals -/
theorem nI_of24 {x : Int32} (h : 0 ≤ x ∧ x < 24) : ∃ k, k < 24 ∧ x = nI k := by
  rcases pk_ix x (n := 24) (by decide) with q | q | q
  · exact absurd q (Int32.not_lt.mpr h.1)
  · exact absurd q (Int32.not_le.mpr h.2)
  · exact q
theorem nI_ofN {x : Int32} {n : Nat} (hn : n < 2 ^ 31) (h : 0 ≤ x) (h2 : x < nI n) : ∃ k, k < n ∧ x = nI k := by
  rcases pk_ix x (n := n) hn with q | q | q
  · exact absurd q (Int32.not_lt.mpr h)
  · exact absurd q (Int32.not_le.mpr h2)
  · exact q
theorem nI_16 (n : Nat) : nI n * 64 = nI (n * 64) := pk_mul n 64
theorem nI_40 (n : Nat) : nI n * 40 = nI (n * 40) := pk_mul n 40
theorem nI_41 (n : Nat) : nI n * 41 = nI (n * 41) := pk_mul n 41
