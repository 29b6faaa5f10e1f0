/-! turns to the end -/
def sTurn (P : sP) (hm : Nat → Option Nat) (T : sT) : Int32 ⊕ sT := match (pC P (tF T))[tA T]? with
  | none => if tN T = 0 then .inl 0 else .inr (tPop T)
  | some q => if tD T = 2000 then .inl 2 else match sCarry P hm T q with
    | .inl r => .inl r
    | .inr T' => .inr (tDid T')
def sEnd (P : sP) (hm : Nat → Option Nat) : Nat → sT → Int32 × sT
  | 0, T => (2, T)
  | n + 1, T => match sTurn P hm T with
    | .inl r => (r, T)
    | .inr T' => sEnd P hm n T'
def tMu (T : sT) : Nat := 2 * (2000 - tD T) + tN T
def wH (P : sP) (hm : Nat → Option Nat) : Prop := ∀ k, k < 24 → ∀ a, hm k = some a → a + pS P k ≤ 1728 ∧ a < 1728
theorem cH_w {P : sP} {hm : Nat → Option Nat} {M : xMe} (h : cH P hm M) : wH P hm := fun k hk a e => (h k hk).2 a e
theorem un_lt {f : Nat → Nat} {k x n m : Nat} (h : ∀ r, r < n → f r < m) (hx : x < m) : ∀ r, r < n → un f k x r < m := by
  intro r hr
  unfold un
  split
  · exact hx
  · exact h r hr
theorem tPut_w {P : sP} {T : sT} {r x : Nat} (h : wT P T) (ha : tA T ≤ 39) (hx : x < 256) : wT P (tPut T r x) := by
  obtain ⟨w1, w2, w3, w4, w5, w6, w7, w8, w9⟩ := h
  exact ⟨un_lt w1 hx, w2, w3, w4, w5, by show tA T + 1 ≤ 81; omega, w7, w8, w9⟩
theorem and_lt256 {a b : Nat} (h : b < 256) : a &&& b < 256 := Nat.lt_of_le_of_lt Nat.and_le_right h
theorem tDid_w {P : sP} {T : sT} (hd : tD T < 2000) (h : wT P T) : wT P (tDid T) := by
  obtain ⟨w1, w2, w3, w4, w5, w6, w7, w8, w9⟩ := h
  exact ⟨w1, w2, w3, w4, w5, w6, w7, by show (tO T).length ≤ tD T + 1; omega, by show tD T + 1 ≤ 2000; omega⟩
/-- an instruction keeps what is well formed -/
theorem sCarry_w {P : sP} {hm : Nat → Option Nat} {T T' : sT} {q : Nat × Int32 × Int32 × Int32} (hw : wP P) (hH : wH P hm) (h : wT P T) (hd : tD T < 2000) (hq : (pC P (tF T))[tA T]? = some q) (e : sCarry P hm T q = .inr T') : wT P (tDid T') ∧ tD T' = tD T ∧ tN T' ≤ tN T + 1 ∧ (tO T').length ≤ (tO T).length + 1 := by
  have h0 := h
  obtain ⟨w1, w2, w3, w4, w5, w6, w7, w8, w9⟩ := h
  obtain ⟨hl40, hv⟩ := hw.2.2.2.1 (tF T) w5
  have hlt : tA T < (pC P (tF T)).length := (List.getElem?_eq_some_iff.mp hq).1
  have hvq : vN q := hv q (List.mem_of_getElem? hq)
  have hq12 := vN_le hvq
  obtain ⟨o, a, b, c⟩ := q
  replace hq12 : o < 12 := hq12
  match o, hq12, hvq, e with
  | 0, _, hvq, e =>
    obtain ⟨ra, hra, rfl, era⟩ := vR_n hvq.1
    obtain ⟨vb, hvb, rfl, evb⟩ := vO_n hvq.2.1
    cases e
    refine ⟨tDid_w hd <| tPut_w h0 (by omega) (by show ix (nI vb) < 256; rw [evb]; exact hvb), rfl, Nat.le_succ _, Nat.le_succ _⟩
  | 1, _, hvq, e =>
    cases e
    exact ⟨tDid_w hd <| tPut_w h0 (by omega) (Nat.mod_lt _ (by decide)), rfl, Nat.le_succ _, Nat.le_succ _⟩
  | 2, _, hvq, e =>
    obtain ⟨vb, hvb, rfl, evb⟩ := vO_n hvq.2.1
    cases e
    exact ⟨tDid_w hd <| tPut_w h0 (by omega) (and_lt256 (by show ix (nI vb) < 256; rw [evb]; exact hvb)), rfl, Nat.le_succ _, Nat.le_succ _⟩
  | 3, _, hvq, e =>
    obtain ⟨k, hk, rfl, ek⟩ := vT_n hvq.2.1
    obtain ⟨rc, hrc, rfl, erc⟩ := vR_n hvq.2.2
    replace e : (if tR T (ix (nI rc)) < pS P (ix (nI k)) then match hm (ix (nI k)) with
      | some a' => .inr (tPut T (ix a) (tM T (a' + tR T (ix (nI rc)))))
      | none => .inl 1 else .inl 1 : Int32 ⊕ sT) = .inr T' := e
    split at e
    · split at e
      · rename_i x hx
        cases e
        have := hH (ix (nI k)) (by show ix (nI k) < 24; rw [ek]; exact hk) x hx
        exact ⟨tDid_w hd <| tPut_w h0 (by omega) (w2 _ (by omega)), rfl, Nat.le_succ _, Nat.le_succ _⟩
      · cases e
    · cases e
  | 4, _, hvq, e =>
    obtain ⟨rc, hrc, rfl, erc⟩ := vR_n hvq.2.2
    replace e : (if tR T (ix b) < pS P (ix a) then .inr (tTo (match hm (ix a) with
    | some a' => (tR T, un (tM T) (a' + tR T (ix b)) (tR T (ix (nI rc))), T.2.2)
    | none => T) (tA T + 1)) else .inl 1 : Int32 ⊕ sT) = .inr T' := e
    split at e
    · cases hh : hm (ix a) with
      | none =>
        rw [hh] at e
        cases e
        exact ⟨tDid_w hd ⟨w1, w2, w3, w4, w5, by show tA T + 1 ≤ 81; omega, w7, w8, w9⟩, rfl, Nat.le_succ _, Nat.le_succ _⟩
      | some x =>
        rw [hh] at e
        cases e
        refine ⟨tDid_w hd ⟨w1, un_lt w2 (w1 _ (by show ix (nI rc) < 4; rw [erc]; exact hrc)), w3, w4, w5, by show tA T + 1 ≤ 81; omega, w7, w8, w9⟩, rfl, Nat.le_succ _, Nat.le_succ _⟩
    · cases e
  | 5, _, hvq, e =>
    obtain ⟨g, hg, rfl, eg⟩ := vF_n hvq.1
    replace e : (if tN T = 15 then .inl 3 else .inr (tR T, tM T, un (tK T) (tN T) (tF T, tA T + 1), tN T + 1, ix (nI g), 0, tI T, tO T, tD T) : Int32 ⊕ sT) = .inr T' := e
    split at e
    · cases e
    · cases e
      refine ⟨tDid_w hd ⟨w1, w2, by show tN T + 1 ≤ 15; omega, fun i hi => ?_, by show ix (nI g) < 12; rw [eg]; exact hg, Nat.zero_le _, w7, w8, w9⟩, rfl, Nat.le_refl _, Nat.le_succ _⟩
      show (un (tK T) (tN T) (tF T, tA T + 1) i).1 < 12 ∧ (un (tK T) (tN T) (tF T, tA T + 1) i).2 ≤ 40
      by_cases e2 : i = tN T
      · rw [e2, un_s]; exact ⟨w5, by show tA T + 1 ≤ 40; omega⟩
      · rw [un_n e2]; exact w4 i (by have : i < tN T + 1 := hi; omega)
  | 6, _, hvq, e =>
    obtain ⟨vb, hvb, rfl, evb⟩ := vK_n hvq.2.1
    cases e
    refine ⟨tDid_w hd ⟨w1, w2, w3, w4, w5, ?_, w7, w8, w9⟩, rfl, Nat.le_succ _, Nat.le_succ _⟩
    show (if tR T (ix a) = 0 then (if tA T + ix (nI vb - 40 + 40) + 1 < 40 then (pC P (tF T)).length else tA T + ix (nI vb - 40 + 40) + 1 - 40) else tA T + 1) ≤ 81
    rw [evb]
    split
    · split <;> omega
    · omega
  | 7, _, hvq, e =>
    cases e
    have hlen : (tO T ++ [tR T (ix a)]).length = (tO T).length + 1 := by rw [List.length_append]; rfl
    exact ⟨⟨w1, w2, w3, w4, w5, by show tA T + 1 ≤ 81; omega, w7, by show (tO T ++ [tR T (ix a)]).length ≤ tD T + 1; omega, by show tD T + 1 ≤ 2000; omega⟩, rfl, Nat.le_succ _, Nat.le_of_eq hlen⟩
  | 8, _, hvq, e =>
    cases e
    exact ⟨tDid_w hd ⟨w1, w2, w3, w4, w5, by show (pC P (tF T)).length ≤ 81; omega, w7, w8, w9⟩, rfl, Nat.le_succ _, Nat.le_succ _⟩
  | 9, _, hvq, e =>
    cases e
    refine ⟨tDid_w hd <| tPut_w (T := (tR T, tM T, tK T, tN T, tF T, tA T, (if tI T < (pI P).length then tI T + 1 else tI T), tO T, tD T)) ⟨w1, w2, w3, w4, w5, w6, ?_, w8, w9⟩ (by show tA T ≤ 39; omega) ?_, rfl, Nat.le_succ _, Nat.le_succ _⟩
    · show (if tI T < (pI P).length then tI T + 1 else tI T) ≤ (pI P).length
      split <;> omega
    · rw [List.getD_eq_getElem?_getD]
      cases hh : (pI P)[tI T]? with
      | none => decide
      | some v => exact hw.2.2.2.2.2 v (List.mem_of_getElem? hh)
  | 10, _, hvq, e =>
    cases e
    exact ⟨tDid_w hd <| tPut_w h0 (by omega) (by split <;> decide), rfl, Nat.le_succ _, Nat.le_succ _⟩
  | 11, _, hvq, e =>
    obtain ⟨k, hk, rfl, ek⟩ := vT_n hvq.2.1
    obtain ⟨rc, hrc, rfl, erc⟩ := vR_n hvq.2.2
    replace e : (if tR T (ix (nI rc)) < pS P (ix (nI k)) then match pR P (ix (nI k)) (tR T (ix (nI rc))) with
    | some t => (match hm t with
      | some x => .inr (tPut T (ix a) (tM T x))
      | none => .inl 1)
    | none => .inl 1 else .inl 1 : Int32 ⊕ sT) = .inr T' := e
    split at e
    · rename_i hlt2
      split at e
      · rename_i t ht
        split at e
        · rename_i x hx
          cases e
          rw [show ix (nI k) = k from ek] at ht hlt2
          have ht2 := hw.2.2.1 k hk _ (by have := (hw.1 k hk).1; omega) t ht
          have := hH t ht2.1 x hx
          exact ⟨tDid_w hd <| tPut_w h0 (by omega) (w2 _ this.2), rfl, Nat.le_succ _, Nat.le_succ _⟩
        · cases e
      · cases e
    · cases e
  | o + 12, hq, _, _ => omega
theorem sTurn_w {P : sP} {hm : Nat → Option Nat} {T T' : sT} (hw : wP P) (hH : wH P hm) (h : wT P T) (e : sTurn P hm T = .inr T') : wT P T' ∧ tMu T' < tMu T := by
  unfold sTurn at e
  cases hq : (pC P (tF T))[tA T]? with
  | none =>
    rw [hq] at e
    replace e : (if tN T = 0 then .inl 0 else .inr (tPop T) : Int32 ⊕ sT) = .inr T' := e
    obtain ⟨w1, w2, w3, w4, w5, w6, w7, w8, w9⟩ := h
    split at e
    · cases e
    · cases e
      have := w4 (tN T - 1) (by omega)
      refine ⟨⟨w1, w2, by show tN T - 1 ≤ 15; omega, fun i hi => w4 i (by have : i < tN T - 1 := hi; omega), this.1, by show (tK T (tN T - 1)).2 ≤ 81; omega, w7, w8, w9⟩, ?_⟩
      show 2 * (2000 - tD T) + (tN T - 1) < 2 * (2000 - tD T) + tN T
      omega
  | some q =>
    rw [hq] at e
    replace e : (if tD T = 2000 then .inl 2 else match sCarry P hm T q with
    | .inl r => .inl r
    | .inr T' => .inr (tDid T') : Int32 ⊕ sT) = .inr T' := e
    have w9 := h.2.2.2.2.2.2.2.2
    split at e
    · cases e
    · cases hc : sCarry P hm T q with
      | inl r => rw [hc] at e; cases e
      | inr T1 =>
        rw [hc] at e
        cases e
        obtain ⟨c1, c2, c3, c4⟩ := sCarry_w hw hH h (by omega) hq hc
        refine ⟨c1, ?_⟩
        show 2 * (2000 - (tD T1 + 1)) + tN T1 < 2 * (2000 - tD T) + tN T
        omega
theorem sEnd_mu {P : sP} {hm : Nat → Option Nat} (hw : wP P) (hH : wH P hm) : ∀ (n m : Nat) (T : sT), wT P T → tMu T < n → tMu T < m → sEnd P hm n T = sEnd P hm m T := by
  intro n
  induction n with
  | zero => intro m T _ h; omega
  | succ n ih =>
    intro m T h h1 h2
    cases m with
    | zero => omega
    | succ m =>
      show (match sTurn P hm T with | .inl r => (r, T) | .inr T' => sEnd P hm n T') = (match sTurn P hm T with | .inl r => (r, T) | .inr T' => sEnd P hm m T')
      cases e : sTurn P hm T with
      | inl r => rfl
      | inr T' =>
        obtain ⟨c1, c2⟩ := sTurn_w hw hH h e
        exact ih m T' c1 (by omega) (by omega)
/-- what is told of a run -/
def xOf (Z : Int32 × sT) : sX := (true, tO Z.2, tD Z.2, (if Z.1 = 0 then none else some (tF Z.2)), (if Z.1 = 0 then none else some (tA Z.2)))
theorem sEnd_w {P : sP} {hm : Nat → Option Nat} (hw : wP P) (hH : wH P hm) : ∀ (n : Nat) (T : sT), wT P T → wT P (sEnd P hm n T).2 := by
  intro n
  induction n with
  | zero => intro T h; exact h
  | succ n ih =>
    intro T h
    show wT P (match sTurn P hm T with | .inl r => (r, T) | .inr T' => sEnd P hm n T').2
    cases e : sTurn P hm T with
    | inl r => exact h
    | inr T' => exact ih T' (sTurn_w hw hH h e).1
theorem xOf_w {P : sP} {Z : Int32 × sT} (h : wT P Z.2) : wX (xOf Z) := ⟨Nat.le_trans h.2.2.2.2.2.2.2.1 h.2.2.2.2.2.2.2.2, fun z => by cases z⟩
