/-! the reference's run: one instruction -/
def mfr (M M' : xMe) : Prop := xfr [50, 64, 65, 66, 67, 68] M M' ∧ ∀ s, s ∉ [20, 21, 22, 23, 24] → M'.1 50 s = M.1 50 s
theorem mfr.rf {M : xMe} : mfr M M := ⟨xfr.rf, fun _ _ => rfl⟩
theorem mfr.tr {M M' M'' : xMe} (h : mfr M M') (h' : mfr M' M'') : mfr M M'' := ⟨h.1.tr h'.1 (fun _ z => z), fun s hs => (h'.2 s hs).trans (h.2 s hs)⟩
theorem mfr.I {M M' : xMe} {c : Nat} {f : Nat → Int32} (h : mfr M M') (hc : c ∈ [64, 65, 66, 67, 68]) : mfr M (xsI M' c f) := by
  refine ⟨h.1.I (List.mem_cons_of_mem _ hc), fun s hs => ?_⟩
  rw [xsI_1, if_neg (fun z => by subst z; revert hc; decide)]
  exact h.2 s hs
theorem mfr.F {M M' : xMe} {s : Nat} {x : Int32} (h : mfr M M') (hs : s ∈ [20, 21, 22, 23, 24]) : mfr M (xsI M' 50 (upd (M'.1 50) s x)) := by
  refine ⟨h.1.I (by simp), fun t ht => ?_⟩
  have hne : t ≠ s := fun z => ht (z ▸ hs)
  rw [xsI_s, upd_n hne]
  exact h.2 t ht
theorem mP_fr {P : sP} {S : List Nat} {M M' : xMe} (h : xfr S M M') (hS : ∀ c, c ∈ S → c ∉ [51, 52, 53, 54, 55, 56, 57, 58, 59, 60, 61, 62, 63]) (h50 : M'.1 50 14 = M.1 50 14) (hM : mP P M) : mP P M' := by
  have e : ∀ c, c ∈ [51, 52, 53, 54, 55, 56, 57, 58, 59, 60, 61, 62, 63] → M'.1 c = M.1 c := fun c hc => (h c (fun z => hS c z hc)).1
  obtain ⟨h1, h2, h3, h4, h5, h6⟩ := hM
  refine ⟨?_, ?_, ?_, ?_, ?_, ?_⟩
  · unfold mS; rw [e 51 (by decide), e 52 (by decide), e 53 (by decide), e 56 (by decide)]; exact h1
  · unfold mO; rw [e 54 (by decide)]; exact h2
  · unfold mR; rw [e 55 (by decide)]; exact h3
  · unfold mC; rw [e 57 (by decide), e 58 (by decide), e 59 (by decide), e 60 (by decide), e 61 (by decide)]; exact h4
  · unfold mE; rw [e 62 (by decide)]; exact h5
  · unfold mI; rw [h50, e 63 (by decide)]; exact h6
theorem mfr.P {P : sP} {M M' : xMe} (h : mfr M M') (hM : mP P M) : mP P M' := mP_fr h.1 (by decide) (h.2 14 (by decide)) hM
def mH (P : sP) (hm : Nat → Option Nat) (M : xMe) : Prop := wH P hm ∧ ((M.1 50 25 = 0 ∧ ∀ k, k < 24 → hm k = some (64 * k)) ∨ (¬ M.1 50 25 = 0 ∧ ∀ k, k < 24 → M.1 80 k = b2 (hm k).isSome ∧ ∀ a, hm k = some a → M.1 85 k = nI a))
theorem mfr.H {P : sP} {hm : Nat → Option Nat} {M M' : xMe} (h : mfr M M') (hM : mH P hm M) : mH P hm M' := by
  unfold mH
  rw [h.2 25 (by decide), (h.1 80 (by decide)).1, (h.1 85 (by decide)).1]
  exact hM
theorem mH_at {P : sP} {hm : Nat → Option Nat} {M : xMe} (h : mH P hm M) {k a : Nat} (hk : k < 24) (ha : hm k = some a) (p : Nat) : (if M.1 50 25 = 0 then 64 * nI k + nI p else M.1 85 k + nI p) = nI (a + p) := by
  rcases h.2 with ⟨h1, h2⟩ | ⟨h1, h2⟩
  · rw [if_pos h1, nI_64, nI_add]
    have := h2 k hk
    rw [ha] at this
    cases this
    rfl
  · rw [if_neg h1, (h2 k hk).2 a ha, nI_add]
def mT (T : sT) (M : xMe) : Prop := (∀ r, r < 4 → M.1 65 r = nI (tR T r)) ∧ (∀ a, a < 1728 → M.1 64 a = nI (tM T a)) ∧ (∀ i, i < tN T → M.1 67 i = nI (tK T i).1 ∧ M.1 68 i + 1 = nI (tK T i).2) ∧ M.1 50 20 = nI (tO T).length ∧ (∀ i v, i < 100 → (tO T)[i]? = some v → M.1 66 i = nI v) ∧ M.1 50 21 = nI (tD T) ∧ M.1 50 24 = 1
/-- the locals that stand for a run's state: fed, deep, f, at -/
def mL (P : sP) (T : sT) (F D f A : Int32) : Prop := (∃ g, F = nI g ∧ tI T ≤ g ∧ (tI T < (pI P).length → g = tI T) ∧ g ≤ tD T) ∧ D = nI (tN T) ∧ f = nI (tF T) ∧ (A = nI (tA T) ∨ ((pC P (tF T)).length ≤ tA T ∧ A < 0))
/-- an instruction's locals: fed may be one ahead of the steps -/
def mL' (P : sP) (T : sT) (F D f A : Int32) : Prop := (∃ g, F = nI g ∧ tI T ≤ g ∧ (tI T < (pI P).length → g = tI T) ∧ g ≤ tD T + 1) ∧ D = nI (tN T) ∧ f = nI (tF T) ∧ (A = nI (tA T) ∨ ((pC P (tF T)).length ≤ tA T ∧ A < 0))
def safe (P : sP) (hm : Nat → Option Nat) (T : sT) : Prop := ∀ q, (pC P (tF T))[tA T]? = some q → (q.1 = 3 → tR T (ix q.2.2.2) < pS P (ix q.2.2.1) → ∃ a, hm (ix q.2.2.1) = some a) ∧ (q.1 = 11 → tR T (ix q.2.2.2) < pS P (ix q.2.2.1) → ∀ t, pR P (ix q.2.2.1) (tR T (ix q.2.2.2)) = some t → ∃ a, hm t = some a)
theorem mT_put {T : sT} {M : xMe} (h : mT T M) {r x : Nat} (hr : r < 4) : mT (tPut T r x) (xsI M 65 (upd (M.1 65) r (nI x))) := by
  obtain ⟨h1, h2, h3, h4, h5, h6, h7⟩ := h
  refine ⟨fun r' hr' => ?_, h2, h3, h4, h5, h6, h7⟩
  show upd (M.1 65) r (nI x) r' = nI (un (tR T) r x r')
  by_cases e : r' = r
  · subst e; rw [upd_s, un_s]
  · rw [upd_n e, un_n e]; exact h1 r' hr'
theorem mT_X {T : sT} {M : xMe} {r : Int32} (h : mT T M) (hr : ¬ r = 0) (h22 : M.1 50 22 = nI (tF T)) (h23 : M.1 50 23 = nI (tA T)) : mX (xOf (r, T)) M := by
  obtain ⟨h1, h2, h3, h4, h5, h6, h7⟩ := h
  refine ⟨h7, h4, h5, fun _ => ⟨h6, ?_, ?_⟩⟩
  · show M.1 50 22 = oI (if r = 0 then none else some (tF T))
    rw [if_neg hr]; exact h22
  · show M.1 50 23 = oI (if r = 0 then none else some (tA T))
    rw [if_neg hr]; exact h23
section XGO
variable (l : Launch) (G : xG)
/-- reading and writing by place -/
theorem E_placeN (P : sP) (hm : Nat → Option Nat) (M : xMe) (hH : mH P hm M) (k a p : Nat) (hk : k < 24) (ha : hm k = some a) : xE l G y_Mo_place [.ref 50, .int (nI k), .int (nI p)] M (fun r M' => M' = M ∧ r = some (.int (nI (a + p)))) := by
  refine xE_post (fun v M' hq => ?_) (E_place l G k hk (nI p) M)
  rw [mH_at hH hk ha p] at hq
  exact hq
theorem E_hasN (P : sP) (M : xMe) (hM : mS P M) (hw : wP P) (k p : Nat) (hk : k < 24) (hp : p < 2 ^ 20) : xE l G y_Mo_has [.ref 50, .int (nI k), .int (nI p)] M (fun r M' => M' = M ∧ r = some (.int (b2 (decide (p < pS P k))))) := by
  refine xE_post (fun v M' hq => ?_) (E_has l G P M hM hw (nI k) (nI p))
  obtain ⟨h1, b, h2, hb⟩ := hq
  refine ⟨h1, ?_⟩
  have hs := (hw.1 k hk).1
  have : b = decide (p < pS P k) := by
    rw [Bool.eq_iff_iff, hb, decide_eq_true_iff]
    constructor
    · rintro ⟨j, q, c1, c2, c3, c4⟩
      have e1 := nI_inj (by omega) (by omega) c2
      subst e1
      have e2 := nI_inj (by omega) (by omega) c4
      omega
    · intro h
      exact ⟨k, p, hk, rfl, h, rfl⟩
  rw [← this]
  exact h2
end XGO
