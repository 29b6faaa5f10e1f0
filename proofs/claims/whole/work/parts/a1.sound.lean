/-! the sets are sound for runs over laid memory -/
def rFr (P : sP) (V : sV) (T : sT) (d : Nat) : Prop := ∃ i q, (tK T d).2 = i + 1 ∧ (tK T d).1 < 12 ∧ (pC P (tK T d).1)[i]? = some q ∧ q.1 = 5 ∧ vC V (tK T d).1 i ∧ ix q.2.1 = (if d + 1 = tN T then tF T else (tK T (d + 1)).1)
def rInv (P : sP) (V : sV) (hm : Nat → Option Nat) (T : sT) : Prop := (vC V (tF T) (pos P (tF T) (tA T)) ∧ ∀ r, r < 4 → vS V (tF T) (pos P (tF T) (tA T)) r (tR T r)) ∧ (∀ d, d < tN T → rFr P V T d) ∧ ∀ k, k < 24 → ∀ a, hm k = some a → ∀ p, p < pS P k → vY V k p (tM T (a + p))
/-- homes that fit the sets -/
def rHm (P : sP) (V : sV) (hm : Nat → Option Nat) : Prop := (∀ k, k < 24 → kpt P V k → ∃ a, hm k = some a) ∧ (∀ k k' a a' p p', k < 24 → k' < 24 → k' ≠ k → ¬ stl P V k → hm k = some a → hm k' = some a' → p < pS P k → p' < pS P k' → a + p ≠ a' + p') ∧ ∀ k, k < 24 → ∀ a, hm k = some a → 0 < pS P k
theorem pos_place {P : sP} {f : Nat} (hl : (pC P f).length ≤ 40) {n : Nat} (hn : n < 2 ^ 30) : place P f (nI n) = pos P f n := by
  unfold pos
  by_cases e : n < (pC P f).length
  · rw [if_pos e]; exact place_in hl e
  · rw [if_neg e]
    exact place_out (Or.inr (fun z => e ((nI_ltI (by omega) (by omega)).mp z)))
theorem pos_end {P : sP} {f n : Nat} (h : (pC P f).length ≤ n) : pos P f n = 40 := by
  unfold pos
  rw [if_neg (by omega)]
theorem pos_in {P : sP} {f n : Nat} (h : n < (pC P f).length) : pos P f n = n := by
  unfold pos
  rw [if_pos h]
/-- a register is set and the next instruction is come to -/
theorem rInv_put {P : sP} {V : sV} {hm : Nat → Option Nat} {T : sT} (hw : wP P) (hc : cls P V) (hwT : wT P T) {q : Nat × Int32 × Int32 × Int32} (hq : (pC P (tF T))[tA T]? = some q) (h : rInv P V hm T) {ra x : Nat} {Z : Nat → Prop} (he : eg P V (tF T) (tA T) q (tF T) (place P (tF T) (nI (tA T) + 1)) (rs (vS V (tF T) (tA T)) ra Z)) (hx : Z x) (hx2 : x < 256) : rInv P V hm (tPut T ra x) := by
  obtain ⟨⟨h1, h2⟩, h3, h4⟩ := h
  have hf := hwT.2.2.2.2.1
  have hl := (hw.2.2.2.1 (tF T) hf).1
  have hlt : tA T < (pC P (tF T)).length := (List.getElem?_eq_some_iff.mp hq).1
  rw [pos_in hlt] at h1 h2
  obtain ⟨t1, t2⟩ := (hc.2 (tF T) hf (tA T) q hq h1).1 _ _ _ he
  rw [nI_1, pos_place hl (by omega)] at t1 t2
  refine ⟨⟨t1, fun r hr => ?_⟩, h3, h4⟩
  show vS V (tF T) (pos P (tF T) (tA T + 1)) r (un (tR T) ra x r)
  by_cases e : r = ra
  · subst e
    rw [un_s]
    exact t2 r hr x hx2 (Or.inl ⟨rfl, hx⟩)
  · rw [un_n e]
    exact t2 r hr _ (hwT.1 r hr) (Or.inr ⟨e, h2 r hr⟩)
/-- nothing but the place changes -/
theorem rInv_to {P : sP} {V : sV} {hm : Nat → Option Nat} {T : sT} (hw : wP P) (hwT : wT P T) (h : rInv P V hm T) {n j : Nat} (hj : pos P (tF T) n = j) (ht : tgt V (tF T) j (vS V (tF T) (pos P (tF T) (tA T)))) : rInv P V hm (tTo T n) := by
  obtain ⟨⟨h1, h2⟩, h3, h4⟩ := h
  subst hj
  exact ⟨⟨ht.1, fun r hr => ht.2 r hr _ (hwT.1 r hr) (h2 r hr)⟩, h3, h4⟩
theorem rInv_did {P : sP} {V : sV} {hm : Nat → Option Nat} {T : sT} (h : rInv P V hm T) : rInv P V hm (tDid T) := h
theorem rInv_safe {P : sP} {V : sV} {hm : Nat → Option Nat} {T : sT} (hw : wP P) (hV : fin P V) (hh : rHm P V hm) (hwT : wT P T) (h : rInv P V hm T) : safe P hm T := by
  intro q hq
  obtain ⟨⟨h1, h2⟩, h3, h4⟩ := h
  have hf := hwT.2.2.2.2.1
  have hlt : tA T < (pC P (tF T)).length := (List.getElem?_eq_some_iff.mp hq).1
  rw [pos_in hlt] at h1 h2
  have hv : vN q := (hw.2.2.2.1 (tF T) hf).2 q (List.mem_of_getElem? hq)
  have hx := (hV.2.2.1 (tF T) hf (tA T) q hq h1).1
  have keep : ∀ k p, vRd V k p → ∃ a, hm k = some a := by
    intro k p z
    obtain ⟨z1, z2⟩ := rd_lt hw hV z
    have := (hw.1 k z1).1
    exact hh.1 k z1 (Or.inl ⟨by omega, Or.inr ⟨p, by omega, z⟩⟩)
  obtain ⟨o, a, b, c⟩ := q
  refine ⟨fun h3 hp => ?_, fun h11 hp t ht => ?_⟩
  · replace h3 : o = 3 := h3
    subst h3
    obtain ⟨rc, hrc, _, erc⟩ := vR_n hv.2.2
    refine keep _ (tR T (ix c)) (hx _ _ (Or.inl ⟨rfl, rfl, hp, h2 _ ?_⟩))
    show ix c < 4
    have : ix c = rc := erc
    omega
  · replace h11 : o = 11 := h11
    subst h11
    obtain ⟨rc, hrc, _, erc⟩ := vR_n hv.2.2
    obtain ⟨kb, hkb, _, ekb⟩ := vT_n hv.2.1
    have hs64 := (hw.1 (ix b) (by have : ix b = kb := ekb; omega)).1
    replace hp : tR T (ix c) < pS P (ix b) := hp
    refine keep t 0 (hx _ _ (Or.inr (Or.inr ⟨rfl, rfl, tR T (ix c), by omega, h2 _ ?_, ht⟩)))
    show ix c < 4
    have : ix c = rc := erc
    omega
theorem rInv_step {P : sP} {V : sV} {hm : Nat → Option Nat} {T T' : sT} (hw : wP P) (hV : fin P V) (hh : rHm P V hm) (hH : wH P hm) (hwT : wT P T) {q : Nat × Int32 × Int32 × Int32} (hq : (pC P (tF T))[tA T]? = some q) (h : rInv P V hm T) (hin : ∀ v, v ∈ pI P → v < 256) (e : sCarry P hm T q = .inr T') : rInv P V hm T' := by
  have hc := hV.1
  have h0 := h
  obtain ⟨⟨h1, h2⟩, h3, h4⟩ := h
  have hf := hwT.2.2.2.2.1
  have hl := (hw.2.2.2.1 (tF T) hf).1
  have hlt : tA T < (pC P (tF T)).length := (List.getElem?_eq_some_iff.mp hq).1
  rw [pos_in hlt] at h1 h2
  have hv : vN q := (hw.2.2.2.1 (tF T) hf).2 q (List.mem_of_getElem? hq)
  obtain ⟨g1, g2, g3⟩ := hc.2 (tF T) hf (tA T) q hq h1
  obtain ⟨x1, x2, x3, x4⟩ := hV.2.2.1 (tF T) hf (tA T) q hq h1
  have nextp : place P (tF T) (nI (tA T) + 1) = pos P (tF T) (tA T + 1) := by rw [nI_1, pos_place hl (by omega)]
  have posT : pos P (tF T) (tA T) = tA T := pos_in hlt
  have hwR := hwT.1
  obtain ⟨o, a, b, c⟩ := q
  match o, hv with
  | 0, hv =>
    obtain ⟨vb, hvb, _, evb⟩ := vO_n hv.2.1
    replace e : Sum.inr (tPut T (ix a) (ix b)) = (Sum.inr T' : Int32 ⊕ sT) := e
    cases e
    exact rInv_put hw hc hwT hq h0 (Z := fun v => v = ix b) ⟨rfl, rfl, rfl⟩ rfl (by have : ix b = vb := evb; omega)
  | 1, hv =>
    obtain ⟨ra, hra, _, era⟩ := vR_n hv.1
    replace era : ix a = ra := era
    replace e : Sum.inr (tPut T (ix a) ((tR T (ix a) + ix (b + 255) + 1) % 256)) = (Sum.inr T' : Int32 ⊕ sT) := e
    cases e
    exact rInv_put hw hc hwT hq h0 (Z := fun v => ∃ u, u < 256 ∧ vS V (tF T) (tA T) (ix a) u ∧ (u + ix (b + 255) + 1) % 256 = v) ⟨rfl, rfl, rfl⟩ ⟨tR T (ix a), hwR _ (by omega), h2 _ (by omega), rfl⟩ (Nat.mod_lt _ (by omega))
  | 2, hv =>
    obtain ⟨ra, hra, _, era⟩ := vR_n hv.1
    replace era : ix a = ra := era
    obtain ⟨vb, hvb, _, evb⟩ := vO_n hv.2.1
    replace evb : ix b = vb := evb
    replace e : Sum.inr (tPut T (ix a) (tR T (ix a) &&& ix b)) = (Sum.inr T' : Int32 ⊕ sT) := e
    cases e
    exact rInv_put hw hc hwT hq h0 (Z := fun v => ∃ u, u < 256 ∧ vS V (tF T) (tA T) (ix a) u ∧ u &&& ix b = v) ⟨rfl, rfl, rfl⟩ ⟨tR T (ix a), hwR _ (by omega), h2 _ (by omega), rfl⟩ (and_lt256 (by omega))
  | 3, hv =>
    obtain ⟨k, hk, _, ek⟩ := vT_n hv.2.1
    replace ek : ix b = k := ek
    obtain ⟨rc, hrc, _, erc⟩ := vR_n hv.2.2
    replace erc : ix c = rc := erc
    replace e : (if tR T (ix c) < pS P (ix b) then match hm (ix b) with
      | some a' => (Sum.inr (tPut T (ix a) (tM T (a' + tR T (ix c)))) : Int32 ⊕ sT)
      | none => Sum.inl 1 else Sum.inl 1) = Sum.inr T' := e
    by_cases hp : tR T (ix c) < pS P (ix b)
    · rw [if_pos hp] at e
      cases hh2 : hm (ix b) with
      | none => rw [hh2] at e; cases e
      | some a' =>
        rw [hh2] at e
        cases e
        have hS := h2 (ix c) (by omega)
        have hY := h4 (ix b) (by omega) a' hh2 _ hp
        exact rInv_put hw hc hwT hq h0 (Z := fun v => ∃ p, (p < pS P (ix b) ∧ vS V (tF T) (tA T) (ix c) p) ∧ vY V (ix b) p v) ⟨⟨_, hp, hS⟩, rfl, rfl, rfl⟩ ⟨_, ⟨hp, hS⟩, hY⟩ (hwT.2.1 _ (by have := (hH (ix b) (by omega) a' hh2).1; omega))
    · rw [if_neg hp] at e
      cases e
  | 4, hv =>
    obtain ⟨k, hk, _, ek⟩ := vT_n hv.1
    replace ek : ix a = k := ek
    obtain ⟨rb, hrb, _, erb⟩ := vR_n hv.2.1
    replace erb : ix b = rb := erb
    obtain ⟨rc, hrc, _, erc⟩ := vR_n hv.2.2
    replace erc : ix c = rc := erc
    replace e : (if tR T (ix b) < pS P (ix a) then (Sum.inr (tTo (match hm (ix a) with
      | some x => (tR T, un (tM T) (x + tR T (ix b)) (tR T (ix c)), T.2.2)
      | none => T) (tA T + 1)) : Int32 ⊕ sT) else Sum.inl 1) = Sum.inr T' := e
    by_cases hp : tR T (ix b) < pS P (ix a)
    · rw [if_pos hp] at e
      have hS := h2 (ix b) (by omega)
      have ht := g1 (tF T) (place P (tF T) (nI (tA T) + 1)) (vS V (tF T) (tA T)) ⟨⟨_, hp, hS⟩, rfl, rfl, rfl⟩
      rw [nextp] at ht
      cases hh2 : hm (ix a) with
      | none =>
        rw [hh2] at e
        cases e
        exact ⟨⟨ht.1, fun r hr => ht.2 r hr _ (hwR r hr) (h2 r hr)⟩, h3, h4⟩
      | some x =>
        rw [hh2] at e
        cases e
        refine ⟨⟨ht.1, fun r hr => ht.2 r hr _ (hwR r hr) (h2 r hr)⟩, h3, fun k' hk' a' ha' p' hp' => ?_⟩
        show vY V k' p' (un (tM T) (x + tR T (ix b)) (tR T (ix c)) (a' + p'))
        by_cases ekk : k' = ix a
        · subst ekk
          have : a' = x := by rw [hh2] at ha'; cases ha'; rfl
          subst this
          by_cases epp : p' = tR T (ix b)
          · subst epp
            rw [un_s]
            exact g3 rfl _ hp hS _ (hwR (ix c) (by omega)) (h2 (ix c) (by omega))
          · rw [un_n (by omega)]
            exact h4 _ hk' _ ha' p' hp'
        · have hns : ¬ stl P V (ix a) := fun z => z.2.2.1 (x2 _ ⟨rfl, rfl, _, hp, hS⟩)
          rw [un_n (fun z => hh.2.1 (ix a) k' x a' _ p' (by omega) hk' ekk hns hh2 ha' hp hp' z.symm)]
          exact h4 k' hk' a' ha' p' hp'
    · rw [if_neg hp] at e
      cases e
  | 5, hv =>
    obtain ⟨g, hg, _, eg'⟩ := vF_n hv.1
    replace eg' : ix a = g := eg'
    replace e : (if tN T = 15 then (Sum.inl 3 : Int32 ⊕ sT) else Sum.inr (tR T, tM T, un (tK T) (tN T) (tF T, tA T + 1), tN T + 1, ix a, 0, tI T, tO T, tD T)) = Sum.inr T' := e
    by_cases h15 : tN T = 15
    · rw [if_pos h15] at e
      cases e
    · rw [if_neg h15] at e
      cases e
      have ht := g1 (ix a) (place P (ix a) 0) (vS V (tF T) (tA T)) ⟨rfl, rfl, rfl⟩
      rw [show place P (ix a) 0 = pos P (ix a) 0 from pos_place (n := 0) (hw.2.2.2.1 (ix a) (by omega)).1 (by omega)] at ht
      refine ⟨⟨ht.1, fun r hr => ht.2 r hr _ (hwR r hr) (h2 r hr)⟩, fun d hd => ?_, h4⟩
      replace hd : d < tN T + 1 := hd
      by_cases ed : d = tN T
      · subst ed
        refine ⟨tA T, (5, a, b, c), ?_, ?_, ?_, rfl, ?_, ?_⟩
        · show (un (tK T) (tN T) (tF T, tA T + 1) (tN T)).2 = _
          rw [un_s]
        · show (un (tK T) (tN T) (tF T, tA T + 1) (tN T)).1 < 12
          rw [un_s]; exact hf
        · show (pC P (un (tK T) (tN T) (tF T, tA T + 1) (tN T)).1)[tA T]? = _
          rw [un_s]; exact hq
        · show vC V (un (tK T) (tN T) (tF T, tA T + 1) (tN T)).1 (tA T)
          rw [un_s]; exact h1
        · show ix a = if tN T + 1 = tN T + 1 then ix a else _
          rw [if_pos rfl]
      · obtain ⟨i, q, r1, r2, r3, r4, r5, r6⟩ := h3 d (by omega)
        refine ⟨i, q, ?_, ?_, ?_, r4, ?_, ?_⟩
        · show (un (tK T) (tN T) (tF T, tA T + 1) d).2 = _
          rw [un_n ed]; exact r1
        · show (un (tK T) (tN T) (tF T, tA T + 1) d).1 < 12
          rw [un_n ed]; exact r2
        · show (pC P (un (tK T) (tN T) (tF T, tA T + 1) d).1)[i]? = _
          rw [un_n ed]; exact r3
        · show vC V (un (tK T) (tN T) (tF T, tA T + 1) d).1 i
          rw [un_n ed]; exact r5
        · show ix q.2.1 = if d + 1 = tN T + 1 then ix a else (un (tK T) (tN T) (tF T, tA T + 1) (d + 1)).1
          rw [if_neg (by omega), r6]
          by_cases ed2 : d + 1 = tN T
          · rw [if_pos ed2, ed2, un_s]
          · rw [if_neg ed2, un_n ed2]
  | 6, hv =>
    obtain ⟨ra, hra, _, era⟩ := vR_n hv.1
    replace era : ix a = ra := era
    obtain ⟨r, hr, eb, er⟩ := vK_n hv.2.1
    replace eb : b = nI r - 40 := eb
    replace er : ix (b + 40) = r := er
    replace e : (Sum.inr (tTo T (if tR T (ix a) = 0 then (if tA T + ix (b + 40) + 1 < 40 then (pC P (tF T)).length else tA T + ix (b + 40) + 1 - 40) else tA T + 1)) : Int32 ⊕ sT) = Sum.inr T' := e
    cases e
    by_cases hz : tR T (ix a) = 0
    · rw [if_pos hz]
      have hS := h2 (ix a) (by omega)
      rw [hz] at hS
      have ht := g1 (tF T) (place P (tF T) (nI (tA T) + b + 1)) (rs (vS V (tF T) (tA T)) (ix a) (fun v => v = 0)) (Or.inl ⟨hS, rfl, rfl, rfl⟩)
      have ep : place P (tF T) (nI (tA T) + b + 1) = pos P (tF T) (if tA T + ix (b + 40) + 1 < 40 then (pC P (tF T)).length else tA T + ix (b + 40) + 1 - 40) := by
        rw [er]
        have e1 : nI (tA T) + b + 1 = nI (tA T + r + 1) - nI 40 := by
          rw [eb, ← nI_1, ← nI_add]
          show nI (tA T) + (nI r - 40) + 1 = nI (tA T) + nI r + 1 - 40
          grind
        rw [e1]
        by_cases hlt40 : tA T + r + 1 < 40
        · rw [if_pos hlt40, pos_end (Nat.le_refl _)]
          exact place_out (Or.inl (pk_sneg (by omega) hlt40))
        · rw [if_neg hlt40, show (nI (tA T + r + 1) - nI 40 : Int32) = nI (tA T + r + 1 - 40) from pk_sub (by omega)]
          exact pos_place hl (by omega)
      rw [ep] at ht
      refine ⟨⟨ht.1, fun r' hr' => ?_⟩, h3, h4⟩
      refine ht.2 r' hr' _ (hwR r' hr') ?_
      by_cases e2 : r' = ix a
      · exact Or.inl ⟨e2, by rw [e2]; exact hz⟩
      · exact Or.inr ⟨e2, h2 r' hr'⟩
    · rw [if_neg hz]
      have ht := g1 (tF T) (place P (tF T) (nI (tA T) + 1)) (rs (vS V (tF T) (tA T)) (ix a) (fun v => ¬ v = 0 ∧ vS V (tF T) (tA T) (ix a) v)) (Or.inr ⟨⟨tR T (ix a), hwR (ix a) (by omega), hz, h2 (ix a) (by omega)⟩, rfl, rfl, rfl⟩)
      rw [nextp] at ht
      refine ⟨⟨ht.1, fun r' hr' => ?_⟩, h3, h4⟩
      refine ht.2 r' hr' _ (hwR r' hr') ?_
      by_cases e2 : r' = ix a
      · exact Or.inl ⟨e2, by rw [e2]; exact ⟨hz, h2 _ (by omega)⟩⟩
      · exact Or.inr ⟨e2, h2 r' hr'⟩
  | 7, hv =>
    replace e : (Sum.inr (tR T, tM T, tK T, tN T, tF T, tA T + 1, tI T, tO T ++ [tR T (ix a)], tD T) : Int32 ⊕ sT) = Sum.inr T' := e
    cases e
    have ht := g1 (tF T) (place P (tF T) (nI (tA T) + 1)) (vS V (tF T) (tA T)) ⟨rfl, rfl, rfl⟩
    rw [nextp] at ht
    exact ⟨⟨ht.1, fun r hr => ht.2 r hr _ (hwR r hr) (h2 r hr)⟩, h3, h4⟩
  | 8, hv =>
    replace e : (Sum.inr (tTo T (pC P (tF T)).length) : Int32 ⊕ sT) = Sum.inr T' := e
    cases e
    have ht := g1 (tF T) 40 (vS V (tF T) (tA T)) ⟨rfl, rfl, rfl⟩
    rw [← pos_end (P := P) (f := tF T) (Nat.le_refl _)] at ht
    exact ⟨⟨ht.1, fun r hr => ht.2 r hr _ (hwR r hr) (h2 r hr)⟩, h3, h4⟩
  | 9, hv =>
    replace e : (Sum.inr (tPut (tR T, tM T, tK T, tN T, tF T, tA T, (if tI T < (pI P).length then tI T + 1 else tI T), tO T, tD T) (ix a) ((pI P).getD (tI T) 0)) : Int32 ⊕ sT) = Sum.inr T' := e
    cases e
    have hx : (pI P).getD (tI T) 0 < 256 := by
      rw [List.getD_eq_getElem?_getD]
      cases e2 : (pI P)[tI T]? with
      | none => show (0 : Nat) < 256; omega
      | some v => exact hin v (List.mem_of_getElem? e2)
    exact rInv_put hw hc hwT hq h0 (Z := fun _ => True) ⟨rfl, rfl, rfl⟩ trivial hx
  | 10, hv =>
    obtain ⟨k, hk, _, ek⟩ := vT_n hv.2.1
    replace ek : ix b = k := ek
    obtain ⟨k2, hk2, _, ek2⟩ := vT_n hv.2.2
    replace ek2 : ix c = k2 := ek2
    replace e : (Sum.inr (tPut T (ix a) (if ix b = ix c ∨ (hm (ix b)).isSome ∧ hm (ix b) = hm (ix c) then 1 else 0)) : Int32 ⊕ sT) = Sum.inr T' := e
    cases e
    by_cases hbc : ix b = ix c
    · rw [if_pos (Or.inl hbc)]
      exact rInv_put hw hc hwT hq h0 (Z := fun v => (ix b = ix c ∧ v = 1) ∨ (¬ ix b = ix c ∧ v = 0)) ⟨rfl, rfl, rfl⟩ (Or.inl ⟨hbc, rfl⟩) (by omega)
    · have hno : ¬ (ix b = ix c ∨ (hm (ix b)).isSome ∧ hm (ix b) = hm (ix c)) := by
        rintro (z | y)
        · exact hbc z
        · obtain ⟨x, hx⟩ := Option.isSome_iff_exists.mp y.1
          have hx2 := y.2
          rw [hx] at hx2
          have hns : ¬ stl P V (ix b) := fun z => z.2.2.2.2 (x3 _ ⟨rfl, hbc, Or.inl rfl⟩)
          exact hh.2.1 (ix b) (ix c) x x 0 0 (by omega) (by omega) (fun z => hbc z.symm) hns hx hx2.symm (hh.2.2 _ (by omega) x hx) (hh.2.2 _ (by omega) x hx2.symm) rfl
      rw [if_neg hno]
      exact rInv_put hw hc hwT hq h0 (Z := fun v => (ix b = ix c ∧ v = 1) ∨ (¬ ix b = ix c ∧ v = 0)) ⟨rfl, rfl, rfl⟩ (Or.inr ⟨hbc, rfl⟩) (by omega)
  | 11, hv =>
    obtain ⟨k, hk, _, ek⟩ := vT_n hv.2.1
    replace ek : ix b = k := ek
    obtain ⟨rc, hrc, _, erc⟩ := vR_n hv.2.2
    replace erc : ix c = rc := erc
    replace e : (if tR T (ix c) < pS P (ix b) then match pR P (ix b) (tR T (ix c)) with
      | some t => (match hm t with
        | some a' => (Sum.inr (tPut T (ix a) (tM T a')) : Int32 ⊕ sT)
        | none => Sum.inl 1)
      | none => Sum.inl 1 else Sum.inl 1) = Sum.inr T' := e
    by_cases hp : tR T (ix c) < pS P (ix b)
    · rw [if_pos hp] at e
      have hs64 := (hw.1 (ix b) (by omega)).1
      cases hr : pR P (ix b) (tR T (ix c)) with
      | none => rw [hr] at e; cases e
      | some t =>
        rw [hr] at e
        obtain ⟨t1, t2, t3⟩ := hw.2.2.1 (ix b) (by omega) (tR T (ix c)) (by omega) t hr
        cases hh2 : hm t with
        | none =>
          replace e : (match hm t with
            | some a' => (Sum.inr (tPut T (ix a) (tM T a')) : Int32 ⊕ sT)
            | none => Sum.inl 1) = Sum.inr T' := e
          rw [hh2] at e
          cases e
        | some a' =>
          replace e : (match hm t with
            | some a' => (Sum.inr (tPut T (ix a) (tM T a')) : Int32 ⊕ sT)
            | none => Sum.inl 1) = Sum.inr T' := e
          rw [hh2] at e
          cases e
          have hS := h2 (ix c) (by omega)
          have hY := h4 t t1 a' hh2 0 t3
          rw [Nat.add_zero] at hY
          have hi : (pR P (ix b) (tR T (ix c))).isSome := by rw [hr]; rfl
          exact rInv_put hw hc hwT hq h0 (Z := fun v => ∃ p, (p < 64 ∧ vS V (tF T) (tA T) (ix c) p ∧ (pR P (ix b) p).isSome) ∧ ∃ t, pR P (ix b) p = some t ∧ vY V t 0 v) ⟨⟨_, by omega, hS, hi⟩, rfl, rfl, rfl⟩ ⟨_, ⟨by omega, hS, hi⟩, t, hr, hY⟩ (hwT.2.1 _ (hH t t1 a' hh2).2)
    · rw [if_neg hp] at e
      cases e
  | o + 12, hv => exact hv.elim
theorem rInv_turn {P : sP} {V : sV} {hm : Nat → Option Nat} {T T' : sT} (hw : wP P) (hV : fin P V) (hh : rHm P V hm) (hH : wH P hm) (hwT : wT P T) (h : rInv P V hm T) (e : sTurn P hm T = .inr T') : rInv P V hm T' := by
  have hf := hwT.2.2.2.2.1
  cases hq : (pC P (tF T))[tA T]? with
  | none =>
    rw [sTurn_o hq] at e
    by_cases h0 : tN T = 0
    · rw [if_pos h0] at e
      cases e
    · rw [if_neg h0] at e
      cases e
      obtain ⟨⟨h1, h2⟩, h3, h4⟩ := h
      have hge : (pC P (tF T)).length ≤ tA T := List.getElem?_eq_none_iff.mp hq
      rw [pos_end hge] at h1 h2
      obtain ⟨i, q, r1, r2, r3, r4, r5, r6⟩ := h3 (tN T - 1) (by omega)
      rw [if_pos (by omega)] at r6
      have hok := (hV.1.2 _ r2 i q r3 r5).2.1 r4 (by rw [r6]; exact h1)
      have ht := hok.elim (fun z => z.elim) id
      have hl := (hw.2.2.2.1 _ r2).1
      have hlt : i < (pC P (tK T (tN T - 1)).1).length := (List.getElem?_eq_some_iff.mp r3).1
      rw [nI_1, pos_place hl (by omega), ← r1, r6] at ht
      refine ⟨⟨ht.1, fun r hr => ht.2 r hr _ (hwT.1 r hr) (h2 r hr)⟩, fun d hd => ?_, h4⟩
      replace hd : d < tN T - 1 := hd
      obtain ⟨i', q', s1, s2, s3, s4, s5, s6⟩ := h3 d (by omega)
      refine ⟨i', q', s1, s2, s3, s4, s5, ?_⟩
      rw [s6, if_neg (by omega)]
      show _ = if d + 1 = tN T - 1 then (tK T (tN T - 1)).1 else (tK T (d + 1)).1
      by_cases ed : d + 1 = tN T - 1
      · rw [if_pos ed, ed]
      · rw [if_neg ed]
  | some q =>
    rw [sTurn_i hq] at e
    by_cases h2 : tD T = 2000
    · rw [if_pos h2] at e
      cases e
    · rw [if_neg h2] at e
      cases ec : sCarry P hm T q with
      | inl r => rw [ec] at e; cases e
      | inr T1 =>
        rw [ec] at e
        cases e
        exact rInv_did (rInv_step hw hV hh hH hwT hq h hw.2.2.2.2.2 ec)
theorem rInv_sSafe {P : sP} {V : sV} {hm : Nat → Option Nat} (hw : wP P) (hV : fin P V) (hh : rHm P V hm) (hH : wH P hm) : ∀ (n : Nat) (T : sT), wT P T → rInv P V hm T → sSafe P hm n T := by
  intro n
  induction n with
  | zero => intro T _ _; exact trivial
  | succ n ih =>
    intro T hT h
    refine ⟨rInv_safe hw hV hh hT h, ?_⟩
    cases e : sTurn P hm T with
    | inl r => exact trivial
    | inr T' => exact ih T' (sTurn_w hw hH hT e).1 (rInv_turn hw hV hh hH hT h e)
/-- a run over laid memory begins well -/
theorem rInv_0 {P : sP} (hw : wP P) {V : sV} (hV : fin P V) {R : List Nat} (hR : isR P V R) {e : Nat} (he : e < 12) (hpe : pE P e = true) : rInv P V (ad2 P (stl P V) R) (t0 (oct (aln P (stl P V)) (pS P) (pO P) 0 R (fun _ => 0)) e) := by
  have ht := hV.1.1.1 e he hpe
  rw [show place P e 0 = pos P e 0 from pos_place (n := 0) (hw.2.2.2.1 e he).1 (by omega)] at ht
  refine ⟨⟨ht.1, fun r hr => ht.2 r hr 0 (by omega) rfl⟩, fun d hd => absurd hd (Nat.not_lt_zero _), fun k hk a ha p hp => ?_⟩
  show vY V k p (oct (aln P (stl P V)) (pS P) (pO P) 0 R (fun _ => 0) (a + p))
  rw [laid_at hw hR hk ha hp]
  exact hV.1.1.2 k hk p hp
theorem rHm_2 {P : sP} (hw : wP P) {V : sV} {R : List Nat} (hR : isR P V R) : rHm P V (ad2 P (stl P V) R) := ⟨fun k hk h => (ad2_kept hw hR hk).mpr h, fun k k' a a' p p' hk hk' hne hns ha ha' hp hp' => laid_dis hw hR hk hk' hne hns ha ha' hp hp', fun k hk a ha => kpt_S ((ad2_kept hw hR hk).mp ⟨a, ha⟩)⟩
