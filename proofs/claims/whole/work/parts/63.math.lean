/-! the sets worked out: the mathematics. Rules, closed values, a worklist's invariant -/
def tgt (V : sV) (f j : Nat) (X : Nat → Nat → Prop) : Prop := vC V f j ∧ ∀ r, r < 4 → ∀ v, v < 256 → X r v → vS V f j r v
/-- where a state goes from an instruction (returns from calls aside) -/
def eg (P : sP) (V : sV) (f i : Nat) (q : Nat × Int32 × Int32 × Int32) (g j : Nat) (X : Nat → Nat → Prop) : Prop :=
  match q.1 with
  | 0 => g = f ∧ j = place P f (nI i + 1) ∧ X = rs (vS V f i) (ix q.2.1) (fun v => v = ix q.2.2.1)
  | 1 => g = f ∧ j = place P f (nI i + 1) ∧ X = rs (vS V f i) (ix q.2.1) (fun v => ∃ u, u < 256 ∧ vS V f i (ix q.2.1) u ∧ (u + ix (q.2.2.1 + 255) + 1) % 256 = v)
  | 2 => g = f ∧ j = place P f (nI i + 1) ∧ X = rs (vS V f i) (ix q.2.1) (fun v => ∃ u, u < 256 ∧ vS V f i (ix q.2.1) u ∧ u &&& ix q.2.2.1 = v)
  | 3 => (∃ p, p < pS P (ix q.2.2.1) ∧ vS V f i (ix q.2.2.2) p) ∧ g = f ∧ j = place P f (nI i + 1) ∧ X = rs (vS V f i) (ix q.2.1) (fun v => ∃ p, (p < pS P (ix q.2.2.1) ∧ vS V f i (ix q.2.2.2) p) ∧ vY V (ix q.2.2.1) p v)
  | 4 => (∃ p, p < pS P (ix q.2.1) ∧ vS V f i (ix q.2.2.1) p) ∧ g = f ∧ j = place P f (nI i + 1) ∧ X = vS V f i
  | 5 => g = ix q.2.1 ∧ j = place P (ix q.2.1) 0 ∧ X = vS V f i
  | 6 => (vS V f i (ix q.2.1) 0 ∧ g = f ∧ j = place P f (nI i + q.2.2.1 + 1) ∧ X = rs (vS V f i) (ix q.2.1) (fun v => v = 0)) ∨ ((∃ v, v < 256 ∧ ¬ v = 0 ∧ vS V f i (ix q.2.1) v) ∧ g = f ∧ j = place P f (nI i + 1) ∧ X = rs (vS V f i) (ix q.2.1) (fun v => ¬ v = 0 ∧ vS V f i (ix q.2.1) v))
  | 7 => g = f ∧ j = place P f (nI i + 1) ∧ X = vS V f i
  | 8 => g = f ∧ j = 40 ∧ X = vS V f i
  | 9 => g = f ∧ j = place P f (nI i + 1) ∧ X = rs (vS V f i) (ix q.2.1) (fun _ => True)
  | 10 => g = f ∧ j = place P f (nI i + 1) ∧ X = rs (vS V f i) (ix q.2.1) (fun v => (ix q.2.2.1 = ix q.2.2.2 ∧ v = 1) ∨ (¬ ix q.2.2.1 = ix q.2.2.2 ∧ v = 0))
  | _ => (∃ p, p < 64 ∧ vS V f i (ix q.2.2.2) p ∧ (pR P (ix q.2.2.1) p).isSome) ∧ g = f ∧ j = place P f (nI i + 1) ∧ X = rs (vS V f i) (ix q.2.1) (fun v => ∃ p, (p < 64 ∧ vS V f i (ix q.2.2.2) p ∧ (pR P (ix q.2.2.1) p).isSome) ∧ ∃ t, pR P (ix q.2.2.1) p = some t ∧ vY V t 0 v)
/-- the consequences of one instruction; a call's return may be put off -/
def okg (P : sP) (V : sV) (esc : Nat → Prop) (f i : Nat) (q : Nat × Int32 × Int32 × Int32) : Prop :=
  (∀ g j X, eg P V f i q g j X → tgt V g j X) ∧ (q.1 = 5 → vC V (ix q.2.1) 40 → esc (ix q.2.1) ∨ tgt V f (place P f (nI i + 1)) (vS V (ix q.2.1) 40)) ∧ (q.1 = 4 → ∀ p, p < pS P (ix q.2.1) → vS V f i (ix q.2.2.1) p → ∀ v, v < 256 → vS V f i (ix q.2.2.2) v → vY V (ix q.2.1) p v)
def rdq (P : sP) (V : sV) (f i : Nat) (q : Nat × Int32 × Int32 × Int32) (k p : Nat) : Prop := (q.1 = 3 ∧ k = ix q.2.2.1 ∧ p < pS P k ∧ vS V f i (ix q.2.2.2) p) ∨ (q.1 = 11 ∧ k = ix q.2.2.1 ∧ p < 64 ∧ vS V f i (ix q.2.2.2) p ∧ (pR P k p).isSome) ∨ (q.1 = 11 ∧ p = 0 ∧ ∃ p', p' < 64 ∧ vS V f i (ix q.2.2.2) p' ∧ pR P (ix q.2.2.1) p' = some k)
def wrq (P : sP) (V : sV) (f i : Nat) (q : Nat × Int32 × Int32 × Int32) (k : Nat) : Prop := q.1 = 4 ∧ k = ix q.2.1 ∧ ∃ p, p < pS P k ∧ vS V f i (ix q.2.2.1) p
def cmq (q : Nat × Int32 × Int32 × Int32) (k : Nat) : Prop := q.1 = 10 ∧ ¬ ix q.2.2.1 = ix q.2.2.2 ∧ (k = ix q.2.2.1 ∨ k = ix q.2.2.2)
def lkq (P : sP) (V : sV) (f i : Nat) (q : Nat × Int32 × Int32 × Int32) (x y : Nat) : Prop := (q.1 = 5 ∧ x = f ∧ y = ix q.2.1) ∨ (q.1 = 3 ∧ x = f ∧ y = 12 + ix q.2.2.1 ∧ ∃ p, p < pS P (ix q.2.2.1) ∧ vS V f i (ix q.2.2.2) p) ∨ (q.1 = 11 ∧ x = f ∧ y = 12 + ix q.2.2.1 ∧ ∃ p, p < 64 ∧ vS V f i (ix q.2.2.2) p ∧ (pR P (ix q.2.2.1) p).isSome) ∨ (q.1 = 11 ∧ x = 12 + ix q.2.2.1 ∧ ∃ p t, p < 64 ∧ vS V f i (ix q.2.2.2) p ∧ pR P (ix q.2.2.1) p = some t ∧ y = 12 + t)
def okx (P : sP) (V : sV) (f i : Nat) (q : Nat × Int32 × Int32 × Int32) : Prop := (∀ k p, rdq P V f i q k p → vRd V k p) ∧ (∀ k, wrq P V f i q k → vWr V k) ∧ (∀ k, cmq q k → vCm V k) ∧ (∀ x y, lkq P V f i q x y → vLk V x y)
def ini (P : sP) (V : sV) : Prop := (∀ f, f < 12 → pE P f = true → tgt V f (place P f 0) (fun _ v => v = 0)) ∧ (∀ k, k < 24 → ∀ p, p < pS P k → vY V k p (pO P k p))
def cls (P : sP) (V : sV) : Prop := ini P V ∧ ∀ f, f < 12 → ∀ i q, (pC P f)[i]? = some q → vC V f i → okg P V (fun _ => False) f i q
def gxs (P : sP) (Z : sV) (R : Nat → Nat → (Nat × Int32 × Int32 × Int32) → Prop) : Prop := ∃ f i q, f < 12 ∧ (pC P f)[i]? = some q ∧ vC Z f i ∧ R f i q
def sub (P : sP) (V Z : sV) : Prop := (∀ f i, vC V f i → vC Z f i) ∧ (∀ f, f < 12 → ∀ i, i < 41 → ∀ r, r < 4 → ∀ v, v < 256 → vS V f i r v → vS Z f i r v) ∧ (∀ k, k < 24 → ∀ p, p < pS P k → ∀ v, v < 256 → vY V k p v → vY Z k p v) ∧ (∀ k p, vRd V k p → gxs P Z (fun f i q => rdq P Z f i q k p)) ∧ (∀ k, vWr V k → gxs P Z (fun f i q => wrq P Z f i q k)) ∧ (∀ k, vCm V k → gxs P Z (fun _ _ q => cmq q k)) ∧ (∀ x y, vLk V x y → gxs P Z (fun f i q => lkq P Z f i q x y))
/-- what stands at any time -/
def bas (P : sP) (V : sV) : Prop := (∀ f i, vC V f i → f < 12 ∧ (i < (pC P f).length ∨ i = 40)) ∧ (∀ f i, vW V f i → vC V f i) ∧ (∀ f, f < 12 → ∀ i, i < 41 → ∀ r, r < 4 → ∀ v, v < 256 → vS V f i r v → vC V f i) ∧ (∀ f i, vC V f i → ∀ r, r < 4 → ∃ v, v < 256 ∧ vS V f i r v) ∧ (∀ k, k < 24 → ∀ p, p < pS P k → ∃ v, v < 256 ∧ vY V k p v)
/-- an edge's set grows with what it is made of -/
theorem rs_mono {st st' : Nat → Nat → Prop} {a : Nat} {Z Z' : Nat → Prop} (h1 : ∀ r, r < 4 → ∀ v, v < 256 → st r v → st' r v) (h2 : ∀ v, v < 256 → Z v → Z' v) : ∀ r, r < 4 → ∀ v, v < 256 → rs st a Z r v → rs st' a Z' r v := by
  intro r hr v hv z
  rcases z with z | z
  · exact Or.inl ⟨z.1, h2 v hv z.2⟩
  · exact Or.inr ⟨z.1, h1 r hr v hv z.2⟩
theorem eg_mono {P : sP} (hw : wP P) {U W : sV} {f i : Nat} {q : Nat × Int32 × Int32 × Int32} (hv : vN q) (hS : ∀ r, r < 4 → ∀ v, v < 256 → vS U f i r v → vS W f i r v) (hL : q.1 = 3 → ∀ p, p < pS P (ix q.2.2.1) → ∀ v, v < 256 → vY U (ix q.2.2.1) p v → vY W (ix q.2.2.1) p v) (hF : q.1 = 11 → ∀ t, t < 24 → 0 < pS P t → ∀ v, v < 256 → vY U t 0 v → vY W t 0 v) {g j : Nat} {X : Nat → Nat → Prop} (h : eg P U f i q g j X) : ∃ X', eg P W f i q g j X' ∧ ∀ r, r < 4 → ∀ v, v < 256 → X r v → X' r v := by
  have hq12 := vN_le hv
  obtain ⟨o, a, b, c⟩ := q
  replace hq12 : o < 12 := hq12
  match o, hq12, hv, hL, hF, h with
  | 0, _, hv, _, _, h =>
    obtain ⟨rfl, rfl, rfl⟩ := h
    exact ⟨_, ⟨rfl, rfl, rfl⟩, rs_mono hS (fun _ _ z => z)⟩
  | 1, _, hv, _, _, h =>
    obtain ⟨rfl, rfl, rfl⟩ := h
    obtain ⟨ra, hra, e1, era⟩ := vR_n hv.1
    refine ⟨_, ⟨rfl, rfl, rfl⟩, rs_mono hS (fun v hv ⟨u, z1, z2, z3⟩ => ⟨u, z1, hS _ (by show ix a < 4; rw [era]; exact hra) u z1 z2, z3⟩)⟩
  | 2, _, hv, _, _, h =>
    obtain ⟨rfl, rfl, rfl⟩ := h
    obtain ⟨ra, hra, e1, era⟩ := vR_n hv.1
    refine ⟨_, ⟨rfl, rfl, rfl⟩, rs_mono hS (fun v hv ⟨u, z1, z2, z3⟩ => ⟨u, z1, hS _ (by show ix a < 4; rw [era]; exact hra) u z1 z2, z3⟩)⟩
  | 3, _, hv, hL, _, h =>
    obtain ⟨⟨p0, hp0⟩, rfl, rfl, rfl⟩ := h
    obtain ⟨k, hk, e1, ek⟩ := vT_n hv.2.1
    obtain ⟨rc, hrc, e2, erc⟩ := vR_n hv.2.2
    have h4 : ix c < 4 := by rw [erc]; exact hrc
    have h64 : pS P (ix b) ≤ 64 := (hw.1 (ix b) (by rw [ek]; exact hk)).1
    refine ⟨_, ⟨⟨p0, hp0.1, hS _ h4 p0 (by have : p0 < pS P (ix b) := hp0.1; omega) hp0.2⟩, rfl, rfl, rfl⟩, rs_mono hS (fun v hv ⟨p, z1, z2⟩ => ⟨p, ⟨z1.1, hS _ h4 p (by have : p < pS P (ix b) := z1.1; omega) z1.2⟩, hL rfl p z1.1 v hv z2⟩)⟩
  | 4, _, hv, _, _, h =>
    obtain ⟨⟨p0, hp0⟩, rfl, rfl, rfl⟩ := h
    obtain ⟨k, hk, e1, ek⟩ := vT_n hv.1
    obtain ⟨rb, hrb, e2, erb⟩ := vR_n hv.2.1
    have h64 : pS P (ix a) ≤ 64 := (hw.1 (ix a) (by rw [ek]; exact hk)).1
    refine ⟨_, ⟨⟨p0, hp0.1, hS _ (by show ix b < 4; rw [erb]; exact hrb) p0 (by have : p0 < pS P (ix a) := hp0.1; omega) hp0.2⟩, rfl, rfl, rfl⟩, hS⟩
  | 5, _, hv, _, _, h =>
    obtain ⟨rfl, rfl, rfl⟩ := h
    exact ⟨_, ⟨rfl, rfl, rfl⟩, hS⟩
  | 6, _, hv, _, _, h =>
    obtain ⟨ra, hra, e1, era⟩ := vR_n hv.1
    have h4 : ix a < 4 := by rw [era]; exact hra
    rcases h with ⟨h0, rfl, rfl, rfl⟩ | ⟨⟨v0, z1, z2, z3⟩, rfl, rfl, rfl⟩
    · exact ⟨_, Or.inl ⟨hS _ h4 0 (by omega) h0, rfl, rfl, rfl⟩, rs_mono hS (fun _ _ z => z)⟩
    · exact ⟨_, Or.inr ⟨⟨v0, z1, z2, hS _ h4 v0 z1 z3⟩, rfl, rfl, rfl⟩, rs_mono hS (fun v hv z => ⟨z.1, hS _ h4 v hv z.2⟩)⟩
  | 7, _, hv, _, _, h =>
    obtain ⟨rfl, rfl, rfl⟩ := h
    exact ⟨_, ⟨rfl, rfl, rfl⟩, hS⟩
  | 8, _, hv, _, _, h =>
    obtain ⟨rfl, rfl, rfl⟩ := h
    exact ⟨_, ⟨rfl, rfl, rfl⟩, hS⟩
  | 9, _, hv, _, _, h =>
    obtain ⟨rfl, rfl, rfl⟩ := h
    exact ⟨_, ⟨rfl, rfl, rfl⟩, rs_mono hS (fun _ _ z => z)⟩
  | 10, _, hv, _, _, h =>
    obtain ⟨rfl, rfl, rfl⟩ := h
    exact ⟨_, ⟨rfl, rfl, rfl⟩, rs_mono hS (fun _ _ z => z)⟩
  | 11, _, hv, _, hF, h =>
    obtain ⟨⟨p0, z1, z2, z3⟩, rfl, rfl, rfl⟩ := h
    obtain ⟨k, hk, e1, ek⟩ := vT_n hv.2.1
    obtain ⟨rc, hrc, e2, erc⟩ := vR_n hv.2.2
    have h4 : ix c < 4 := by rw [erc]; exact hrc
    refine ⟨_, ⟨⟨p0, z1, hS _ h4 p0 (by omega) z2, z3⟩, rfl, rfl, rfl⟩, rs_mono hS (fun v hv ⟨p, y1, t, y2, y3⟩ => ⟨p, ⟨y1.1, hS _ h4 p (by have := y1.1; omega) y1.2.1, y1.2.2⟩, t, y2, ?_⟩)⟩
    have ht := hw.2.2.1 (ix b) (by rw [ek]; exact hk) p y1.1 t y2
    exact hF rfl t ht.1 ht.2.2 v hv y3
  | o + 12, hq, _, _, _, _ => omega
theorem place_ok {P : sP} {f : Nat} {x : Int32} (hl : (pC P f).length ≤ 40) : place P f x < (pC P f).length ∨ place P f x = 40 := by
  unfold place
  split
  · exact Or.inr rfl
  · rename_i h
    have h1 : ¬ x < 0 := fun z => h (Or.inl z)
    have h2 : x < nI (pC P f).length := Classical.byContradiction (fun z => h (Or.inr z))
    obtain ⟨n, hn, e⟩ := nI_ofN (x := x) (n := (pC P f).length) (by omega) (by grind) h2
    rw [e, ix_nI (by omega)]
    exact Or.inl hn
theorem rs_ne {st : Nat → Nat → Prop} {a : Nat} {Z : Nat → Prop} (h1 : ∀ r, r < 4 → ∃ v, v < 256 ∧ st r v) (h2 : ∃ v, v < 256 ∧ Z v) : ∀ r, r < 4 → ∃ v, v < 256 ∧ rs st a Z r v := by
  intro r hr
  by_cases e : r = a
  · obtain ⟨v, hv, z⟩ := h2
    exact ⟨v, hv, Or.inl ⟨e, z⟩⟩
  · obtain ⟨v, hv, z⟩ := h1 r hr
    exact ⟨v, hv, Or.inr ⟨e, z⟩⟩
/-- an edge leads to a place that is there, with sets that aren't empty -/
theorem eg_ok {P : sP} (hw : wP P) {V : sV} (hb : bas P V) {f i : Nat} {q : Nat × Int32 × Int32 × Int32} (hf : f < 12) (hv : vN q) (hc : vC V f i) {g j : Nat} {X : Nat → Nat → Prop} (h : eg P V f i q g j X) : g < 12 ∧ (j < (pC P g).length ∨ j = 40) ∧ ∀ r, r < 4 → ∃ v, v < 256 ∧ X r v := by
  have hst := hb.2.2.2.1 f i hc
  have hlf := (hw.2.2.2.1 f hf).1
  have hq12 := vN_le hv
  obtain ⟨o, a, b, c⟩ := q
  replace hq12 : o < 12 := hq12
  match o, hq12, hv, h with
  | 0, _, hv, h =>
    obtain ⟨rfl, rfl, rfl⟩ := h
    obtain ⟨vb, hvb, e1, evb⟩ := vO_n hv.2.1
    exact ⟨hf, place_ok hlf, rs_ne hst ⟨_, by show ix b < 256; rw [evb]; exact hvb, rfl⟩⟩
  | 1, _, hv, h =>
    obtain ⟨rfl, rfl, rfl⟩ := h
    obtain ⟨ra, hra, e1, era⟩ := vR_n hv.1
    obtain ⟨u, hu, z⟩ := hst (ix a) (by rw [era]; exact hra)
    exact ⟨hf, place_ok hlf, rs_ne hst ⟨_, Nat.mod_lt _ (by decide), u, hu, z, rfl⟩⟩
  | 2, _, hv, h =>
    obtain ⟨rfl, rfl, rfl⟩ := h
    obtain ⟨ra, hra, e1, era⟩ := vR_n hv.1
    obtain ⟨u, hu, z⟩ := hst (ix a) (by rw [era]; exact hra)
    exact ⟨hf, place_ok hlf, rs_ne hst ⟨u &&& ix b, Nat.lt_of_le_of_lt Nat.and_le_left hu, u, hu, z, rfl⟩⟩
  | 3, _, hv, h =>
    obtain ⟨⟨p0, hp0⟩, rfl, rfl, rfl⟩ := h
    obtain ⟨k, hk, e1, ek⟩ := vT_n hv.2.1
    obtain ⟨v, hv2, z⟩ := hb.2.2.2.2 (ix b) (by rw [ek]; exact hk) p0 hp0.1
    exact ⟨hf, place_ok hlf, rs_ne hst ⟨v, hv2, p0, hp0, z⟩⟩
  | 4, _, hv, h =>
    obtain ⟨_, rfl, rfl, rfl⟩ := h
    exact ⟨hf, place_ok hlf, hst⟩
  | 5, _, hv, h =>
    obtain ⟨rfl, rfl, rfl⟩ := h
    obtain ⟨k, hk, e1, ek⟩ := vF_n hv.1
    have h12 : ix a < 12 := by rw [ek]; exact hk
    exact ⟨h12, place_ok (hw.2.2.2.1 _ h12).1, hst⟩
  | 6, _, hv, h =>
    rcases h with ⟨h0, rfl, rfl, rfl⟩ | ⟨⟨v0, z1, z2, z3⟩, rfl, rfl, rfl⟩
    · exact ⟨hf, place_ok hlf, rs_ne hst ⟨0, by omega, rfl⟩⟩
    · exact ⟨hf, place_ok hlf, rs_ne hst ⟨v0, z1, z2, z3⟩⟩
  | 7, _, hv, h =>
    obtain ⟨rfl, rfl, rfl⟩ := h
    exact ⟨hf, place_ok hlf, hst⟩
  | 8, _, hv, h =>
    obtain ⟨rfl, rfl, rfl⟩ := h
    exact ⟨hf, Or.inr rfl, hst⟩
  | 9, _, hv, h =>
    obtain ⟨rfl, rfl, rfl⟩ := h
    exact ⟨hf, place_ok hlf, rs_ne hst ⟨0, by omega, trivial⟩⟩
  | 10, _, hv, h =>
    obtain ⟨rfl, rfl, rfl⟩ := h
    refine ⟨hf, place_ok hlf, rs_ne hst ?_⟩
    by_cases e : ix b = ix c
    · exact ⟨1, by omega, Or.inl ⟨e, rfl⟩⟩
    · exact ⟨0, by omega, Or.inr ⟨e, rfl⟩⟩
  | 11, _, hv, h =>
    obtain ⟨⟨p0, z1, z2, z3⟩, rfl, rfl, rfl⟩ := h
    obtain ⟨k, hk, e1, ek⟩ := vT_n hv.2.1
    obtain ⟨t, ht⟩ := Option.isSome_iff_exists.mp z3
    have ht2 := hw.2.2.1 (ix b) (by rw [ek]; exact hk) p0 z1 t ht
    obtain ⟨v, hv2, z⟩ := hb.2.2.2.2 t ht2.1 0 ht2.2.2
    exact ⟨hf, place_ok hlf, rs_ne hst ⟨v, hv2, p0, ⟨z1, z2, z3⟩, t, ht, z⟩⟩
  | o + 12, hq, _, _ => omega
