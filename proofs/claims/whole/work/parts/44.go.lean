/-! one turn of a run, as a mathematical value -/
abbrev sT : Type := (Nat → Nat) × (Nat → Nat) × (Nat → Nat × Nat) × Nat × Nat × Nat × Nat × List Nat × Nat
abbrev tR (T : sT) : Nat → Nat := T.1
abbrev tM (T : sT) : Nat → Nat := T.2.1
abbrev tK (T : sT) : Nat → Nat × Nat := T.2.2.1
abbrev tN (T : sT) : Nat := T.2.2.2.1
abbrev tF (T : sT) : Nat := T.2.2.2.2.1
abbrev tA (T : sT) : Nat := T.2.2.2.2.2.1
abbrev tI (T : sT) : Nat := T.2.2.2.2.2.2.1
abbrev tO (T : sT) : List Nat := T.2.2.2.2.2.2.2.1
abbrev tD (T : sT) : Nat := T.2.2.2.2.2.2.2.2
def ix (a : Int32) : Nat := a.toNatClampNeg
theorem ix_nI {n : Nat} (h : n < 2 ^ 31) : ix (nI n) = n := nI_clamp h
def un {α : Type} (f : Nat → α) (k : Nat) (x : α) : Nat → α := fun j => if j = k then x else f j
theorem un_s {α : Type} {f : Nat → α} {k : Nat} {x : α} : un f k x k = x := by simp [un]
theorem un_n {α : Type} {f : Nat → α} {k j : Nat} {x : α} (h : j ≠ k) : un f k x j = f j := by simp [un, h]
def tPut (T : sT) (r x : Nat) : sT := (un (tR T) r x, tM T, tK T, tN T, tF T, tA T + 1, tI T, tO T, tD T)
def tTo (T : sT) (a : Nat) : sT := (tR T, tM T, tK T, tN T, tF T, a, tI T, tO T, tD T)
def tDid (T : sT) : sT := (tR T, tM T, tK T, tN T, tF T, tA T, tI T, tO T, tD T + 1)
def tPop (T : sT) : sT := (tR T, tM T, tK T, tN T - 1, (tK T (tN T - 1)).1, (tK T (tN T - 1)).2, tI T, tO T, tD T)
def sCarry (P : sP) (hm : Nat → Option Nat) (T : sT) (q : Nat × Int32 × Int32 × Int32) : Int32 ⊕ sT :=
  match q.1 with
  | 0 => .inr (tPut T (ix q.2.1) (ix q.2.2.1))
  | 1 => .inr (tPut T (ix q.2.1) ((tR T (ix q.2.1) + ix (q.2.2.1 + 255) + 1) % 256))
  | 2 => .inr (tPut T (ix q.2.1) (tR T (ix q.2.1) &&& ix q.2.2.1))
  | 3 => if tR T (ix q.2.2.2) < pS P (ix q.2.2.1) then match hm (ix q.2.2.1) with
    | some a => .inr (tPut T (ix q.2.1) (tM T (a + tR T (ix q.2.2.2))))
    | none => .inl 1 else .inl 1
  | 4 => if tR T (ix q.2.2.1) < pS P (ix q.2.1) then .inr (tTo (match hm (ix q.2.1) with
    | some a => (tR T, un (tM T) (a + tR T (ix q.2.2.1)) (tR T (ix q.2.2.2)), T.2.2)
    | none => T) (tA T + 1)) else .inl 1
  | 5 => if tN T = 15 then .inl 3 else .inr (tR T, tM T, un (tK T) (tN T) (tF T, tA T + 1), tN T + 1, ix q.2.1, 0, tI T, tO T, tD T)
  | 6 => .inr (tTo T (if tR T (ix q.2.1) = 0 then (if tA T + ix (q.2.2.1 + 40) + 1 < 40 then (pC P (tF T)).length else tA T + ix (q.2.2.1 + 40) + 1 - 40) else tA T + 1))
  | 7 => .inr (tR T, tM T, tK T, tN T, tF T, tA T + 1, tI T, tO T ++ [tR T (ix q.2.1)], tD T)
  | 8 => .inr (tTo T (pC P (tF T)).length)
  | 9 => .inr (tPut (tR T, tM T, tK T, tN T, tF T, tA T, (if tI T < (pI P).length then tI T + 1 else tI T), tO T, tD T) (ix q.2.1) ((pI P).getD (tI T) 0))
  | 10 => .inr (tPut T (ix q.2.1) (if ix q.2.2.1 = ix q.2.2.2 ∨ (hm (ix q.2.2.1)).isSome ∧ hm (ix q.2.2.1) = hm (ix q.2.2.2) then 1 else 0))
  | _ => if tR T (ix q.2.2.2) < pS P (ix q.2.2.1) then match pR P (ix q.2.2.1) (tR T (ix q.2.2.2)) with
    | some t => (match hm t with
      | some a => .inr (tPut T (ix q.2.1) (tM T a))
      | none => .inl 1)
    | none => .inl 1 else .inl 1
def wT (P : sP) (T : sT) : Prop := (∀ r, r < 4 → tR T r < 256) ∧ (∀ a, a < 1728 → tM T a < 256) ∧ tN T ≤ 15 ∧ (∀ i, i < tN T → (tK T i).1 < 12 ∧ (tK T i).2 ≤ 40) ∧ tF T < 12 ∧ tA T ≤ 81 ∧ tI T ≤ (pI P).length ∧ (tO T).length ≤ tD T ∧ tD T ≤ 2000
def cT (T : sT) (M : xMe) : Prop := (∀ r, r < 4 → M.1 46 r = nI (tR T r)) ∧ (∀ a, a < 1728 → M.1 44 a = nI (tM T a)) ∧ M.1 43 8 = nI (tN T + 1) ∧ (∀ i, i < tN T → M.1 47 (i + 1) = nI (tK T i).1 ∧ M.1 48 (i + 1) = nI (tK T i).2) ∧ M.1 43 9 = nI (tF T) ∧ M.1 43 10 = nI (tA T) ∧ M.1 43 11 = nI (tI T) ∧ M.1 43 12 = nI (tO T).length ∧ (∀ i v, i < 100 → (tO T)[i]? = some v → M.1 49 i = nI v) ∧ M.1 43 13 = nI (tD T) ∧ M.1 43 7 = 1
/-- the post of an instruction -/
def qCarry (P : sP) (hm : Nat → Option Nat) (T : sT) (q : Nat × Int32 × Int32 × Int32) (M : xMe) (v : Option Value) (M' : xMe) : Prop := match sCarry P hm T q with
  | .inl r => v = some (.int r) ∧ M' = M ∧ ¬ r = -1
  | .inr T' => v = some (.int (-1)) ∧ cT T' M' ∧ xfr [43, 44, 46, 47, 48, 49] M M'
theorem nI_and : ∀ a, a < 256 → ∀ b, b < 256 → (nI a &&& nI b : Int32) = nI (a &&& b) := by
  intro a ha b hb
  show Int32.ofNat a &&& Int32.ofNat b = Int32.ofNat (a &&& b)
  apply Int32.toBitVec_inj.mp
  rw [Int32.toBitVec_and]
  show BitVec.ofNat 32 a &&& BitVec.ofNat 32 b = BitVec.ofNat 32 (a &&& b)
  rw [BitVec.ofNat_and]
theorem cT_put {T : sT} {M : xMe} (h : cT T M) {r x : Nat} (hr : r < 4) : cT (tPut T r x) (mPut M r (nI x)) := by
  obtain ⟨h1, h2, h3, h4, h5, h6, h7, h8, h9, h10, h11⟩ := h
  refine ⟨fun r' hr' => ?_, h2, h3, h4, h5, ?_, h7, h8, h9, h10, h11⟩
  · show upd (M.1 46) r (nI x) r' = nI (un (tR T) r x r')
    by_cases e : r' = r
    · subst e; rw [upd_s, un_s]
    · rw [upd_n e, un_n e]; exact h1 r' hr'
  · show M.1 43 10 + 1 = nI (tA T + 1)
    rw [h6, nI_1]
theorem mPut_fr {M : xMe} {r : Nat} {x : Int32} : xfr [43, 44, 46, 47, 48, 49] M (mPut M r x) := (xfr.rf.I (by simp)).I (by simp)
/-- what an instruction's operands are -/
theorem vR_n {a : Int32} (h : vR a) : ∃ r, r < 4 ∧ a = nI r ∧ ix a = r := by
  obtain ⟨r, h1, h2⟩ := nI_ofN (n := 4) (by decide) h.1 h.2
  exact ⟨r, h1, h2, by rw [h2, ix_nI (by omega)]⟩
theorem vT_n {a : Int32} (h : vT a) : ∃ r, r < 24 ∧ a = nI r ∧ ix a = r := by
  obtain ⟨r, h1, h2⟩ := nI_ofN (n := 24) (by decide) h.1 h.2
  exact ⟨r, h1, h2, by rw [h2, ix_nI (by omega)]⟩
theorem vO_n {a : Int32} (h : 0 ≤ a ∧ a ≤ 255) : ∃ r, r < 256 ∧ a = nI r ∧ ix a = r := by
  obtain ⟨r, h1, h2⟩ := nI_ofN (x := a) (n := 256) (by decide) h.1 (by show a < 256; grind)
  exact ⟨r, h1, h2, by rw [h2, ix_nI (by omega)]⟩
theorem vD_n {a : Int32} (h : -255 ≤ a ∧ a ≤ 255) : ∃ r, r < 511 ∧ a = nI r - 255 ∧ ix (a + 255) = r := by
  obtain ⟨r, h1, h2⟩ := nI_ofN (x := a + 255) (n := 511) (by decide) (by grind) (by show a + 255 < 511; grind)
  exact ⟨r, h1, by grind, by rw [h2, ix_nI (by omega)]⟩
theorem vK_n {a : Int32} (h : -40 ≤ a ∧ a ≤ 40) : ∃ r, r < 81 ∧ a = nI r - 40 ∧ ix (a + 40) = r := by
  obtain ⟨r, h1, h2⟩ := nI_ofN (x := a + 40) (n := 81) (by decide) (by grind) (by show a + 40 < 81; grind)
  exact ⟨r, h1, by grind, by rw [h2, ix_nI (by omega)]⟩
theorem vF_n {a : Int32} (h : 0 ≤ a ∧ a < 12) : ∃ r, r < 12 ∧ a = nI r ∧ ix a = r := by
  obtain ⟨r, h1, h2⟩ := nI_ofN (n := 12) (by decide) h.1 h.2
  exact ⟨r, h1, h2, by rw [h2, ix_nI (by omega)]⟩
theorem vN_le {q : Nat × Int32 × Int32 × Int32} (h : vN q) : q.1 < 12 := by
  obtain ⟨o, a, b, c⟩ := q
  match o, h with
  | 0, _ | 1, _ | 2, _ | 3, _ | 4, _ | 5, _ | 6, _ | 7, _ | 8, _ | 9, _ | 10, _ | 11, _ => exact Nat.le_of_ble_eq_true rfl
  | o + 12, h => exact h.elim
