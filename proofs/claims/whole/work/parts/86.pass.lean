/-! the reference's reach: a pass over all places -/
def dne (P : sP) (U0 U : sU) (f i : Nat) : Prop := ∃ Ut Ut', ule U0 Ut ∧ ule Ut Ut' ∧ ule Ut' U ∧ kU P Ut Ut' f i
def pinv (P : sP) (U0 : sU) (f i : Nat) (U : sU) (c : Bool) : Prop := upc U0 U c ∧ (∀ Z, cls P Z → subU P U0 Z → subU P U Z) ∧ (∀ f' i', f' < 12 → i' ≤ (pC P f').length → (f' < f ∨ (f' = f ∧ i' < i)) → uC U0 f' i' → dne P U0 U f' i')
theorem pinv_take {P : sP} (hw : wP P) {U0 U U' : sU} {f i : Nat} {c c' : Bool} (hf : f < 12) (hi : i ≤ (pC P f).length) (h : pinv P U0 f i U c) (hc : uC U f i) (ht : tku P U f i U' c') : pinv P U0 f (i + 1) U' (c || c') := by
  obtain ⟨h1, h2, h3⟩ := h
  have hu := tku_upc hw hf ht
  refine ⟨h1.tr hu, fun Z hz hs => tku_sub hw (h2 Z hz hs) hz hf hi hc ht, fun f' i' hf' hi' hor hc0 => ?_⟩
  by_cases e : f' = f ∧ i' = i
  · obtain ⟨rfl, rfl⟩ := e
    exact ⟨U, U', h1.1, hu.1, ule.rf, tku_k hw hf' ht⟩
  · obtain ⟨Ut, Ut', a1, a2, a3, a4⟩ := h3 f' i' hf' hi' (by omega) hc0
    exact ⟨Ut, Ut', a1, a2, a3.tr hu.1, a4⟩
theorem pinv_skip {P : sP} {U0 U : sU} {f i : Nat} {c : Bool} (h : pinv P U0 f i U c) (hc : ¬ uC U f i) : pinv P U0 f (i + 1) U c := by
  obtain ⟨h1, h2, h3⟩ := h
  refine ⟨h1, h2, fun f' i' hf' hi' hor hc0 => ?_⟩
  by_cases e : f' = f ∧ i' = i
  · obtain ⟨rfl, rfl⟩ := e
    exact absurd (h1.1.1.2.2.1 _ _ hc0) hc
  · exact h3 f' i' hf' hi' (by omega) hc0
theorem pinv_next {P : sP} {U0 U : sU} {f : Nat} {c : Bool} (h : pinv P U0 f ((pC P f).length + 1) U c) : pinv P U0 (f + 1) 0 U c := by
  obtain ⟨h1, h2, h3⟩ := h
  refine ⟨h1, h2, fun f' i' hf' hi' hor hc0 => h3 f' i' hf' hi' ?_ hc0⟩
  by_cases e : f' = f
  · subst e; exact Or.inr ⟨rfl, by omega⟩
  · exact Or.inl (by omega)
def iniU (P : sP) (U : sU) : Prop := (∀ f, f < 12 → pE P f = true → uC U f (atU P f 0) ∧ ∀ r, r < 4 → uS U f (atU P f 0) r 0) ∧ (∀ k, k < 24 → ∀ p, p < pS P k → uY U k p (pO P k p))
section XPA
variable (l : Launch) (G : xG)
theorem L_pass2 (P : sP) (hw : wP P) (U0 : sU) (M0 : xMe) (hP : mP P M0) (f : Nat) (hf : f < 12) (Q : Option Value → xMe → Prop) (hQ : ∀ U c M y, mU U M → mo c M → ufr ufS M0 M → pinv P U0 (f + 1) 0 U c → xF l G y_Mo_reach 306 [some (.ref 50), some (.int (nI f)), y] [] M Q) : ∀ (m i : Nat), m + i = (pC P f).length + 1 → ∀ U c M, mU U M → mo c M → ufr ufS M0 M → pinv P U0 f i U c → xF l G y_Mo_reach 270 [some (.ref 50), some (.int (nI f)), some (.int (nI i))] [] M Q := by
  have hl := (hw.2.2.2.1 f hf).1
  have hcl : (nI f).toNatClampNeg = f := nI_clamp (by omega)
  intro m
  induction m with
  | zero =>
    intro i hi U c M hU hm hfr hp
    obtain rfl : i = (pC P f).length + 1 := by omega
    have hlen : M.1 57 (nI f).toNatClampNeg = nI (pC P f).length := by rw [hcl, (hfr.1 57 (by decide)).1]; exact (hP.2.2.2.1 f hf).1
    refine xF_go o_Mo_reach [270, 306] 60 (fun K hK => ?_)
    repeat' ((conv => whnf); first | refine ⟨fun h => ?_, fun h => ?_⟩ | refine ⟨?_, ?_⟩ | refine hK _ _ _ _ ?_)
    · exact vp_in_nI hf (by decide)
    · exact hQ U c M _ hU hm hfr (pinv_next hp)
    all_goals
      have hlt : ¬ M.1 57 (nI f).toNatClampNeg < nI ((pC P f).length + 1) := by assumption
      rw [hlen, nI_ltI (by omega) (by omega)] at hlt
      omega
  | succ m ih =>
    intro i hi U c M hU hm hfr hp
    have hlen : M.1 57 (nI f).toNatClampNeg = nI (pC P f).length := by rw [hcl, (hfr.1 57 (by decide)).1]; exact (hP.2.2.2.1 f hf).1
    have ek : 41 * nI f + nI i = nI (41 * f + i) := by rw [nI_41', nI_add]
    obtain ⟨b, hb1, hb2⟩ := hU.2.2.2.1 f hf i (by omega)
    refine xF_go o_Mo_reach [270, 306] 60 (fun K hK => ?_)
    repeat' ((conv => whnf); first | refine ⟨fun h => ?_, fun h => ?_⟩ | refine ⟨?_, ?_⟩ | refine hK _ _ _ _ ?_)
    · exact vp_in_nI hf (by decide)
    · have hlt : M.1 57 (nI f).toNatClampNeg < nI i := by assumption
      rw [hlen, nI_ltI (by omega) (by omega)] at hlt
      omega
    · rw [ek]; exact vp_in_nI (N := 492) (by omega) (by decide)
    · have h0 : M.1 72 (41 * nI f + nI i).toNatClampNeg = 0 := by assumption
      rw [ek, nI_clamp (by omega), hb1] at h0
      have hno : ¬ uC U f i := fun z => by rw [hb2.mpr z] at h0; exact absurd h0 (by decide)
      rw [nI_1]
      exact ih (i + 1) (by omega) U c M hU hm hfr (pinv_skip hp hno)
    · have h0 : ¬ M.1 72 (41 * nI f + nI i).toNatClampNeg = 0 := by assumption
      rw [ek, nI_clamp (by omega), hb1] at h0
      have hbt : b = true := by
        cases b with
        | true => rfl
        | false => exact absurd rfl h0
      refine xF_callV o_Mo_reach [.int (nI f), .int (nI i)] rfl z_Mo_takes i_Mo_takes v_Mo_takes l_Mo_248 rfl ⟨⟨by decide, by decide⟩, rfl, rfl⟩ (Nat.le_of_ble_eq_true rfl) rfl rfl rfl (E_takes l G P hw U c M (hfr.P (by decide) hP) hU hm f i hf (by omega)) ?_
      rintro v M2 ⟨rfl, ⟨U', c', ht, hU', hm'⟩, hfr2⟩
      clear hK K
      refine xF_go o_Mo_reach [270, 306] 60 (fun K hK => ?_)
      repeat' ((conv => whnf); first | refine ⟨fun h => ?_, fun h => ?_⟩ | refine ⟨?_, ?_⟩ | refine hK _ _ _ _ ?_)
      rw [nI_1]
      exact ih (i + 1) (by omega) U' (c || c') M2 hU' hm' (hfr.tr hfr2 (fun _ z => z)) (pinv_take hw hf (by omega) hp (hb2.mp hbt) ht)
theorem L_pass1 (P : sP) (hw : wP P) (U0 : sU) (M0 : xMe) (hP : mP P M0) (Q : Option Value → xMe → Prop) (hQ : ∀ U c M y x, mU U M → mo c M → ufr ufS M0 M → pinv P U0 12 0 U c → xF l G y_Mo_reach 312 [some (.ref 50), y, x] [] M Q) : ∀ (m f : Nat), m + f = 12 → ∀ U c M y, mU U M → mo c M → ufr ufS M0 M → pinv P U0 f 0 U c → xF l G y_Mo_reach 262 [some (.ref 50), some (.int (nI f)), y] [] M Q := by
  intro m
  induction m with
  | zero =>
    intro f hf U c M y hU hm hfr hp
    obtain rfl : f = 12 := by omega
    refine xF_go o_Mo_reach [270, 312] 60 (fun K hK => ?_)
    repeat' ((conv => whnf); first | refine ⟨fun h => ?_, fun h => ?_⟩ | refine ⟨?_, ?_⟩ | refine hK _ _ _ _ ?_)
    · exact hQ U c M _ _ hU hm hfr hp
    all_goals exact absurd (show nI 12 < nI 12 from by assumption) (nI_nlt (by omega) (by omega))
  | succ m ih =>
    intro f hf U c M y hU hm hfr hp
    refine xF_go o_Mo_reach [270, 312] 60 (fun K hK => ?_)
    repeat' ((conv => whnf); first | refine ⟨fun h => ?_, fun h => ?_⟩ | refine ⟨?_, ?_⟩ | refine hK _ _ _ _ ?_)
    · exact absurd (nI_lt (b := 12) (by omega) (by omega)) h
    · clear hK K
      refine L_pass2 l G P hw U0 M0 hP f (by omega) Q ?_ ((pC P f).length + 1) 0 (by omega) U c M hU hm hfr hp
      intro U2 c2 M2 y2 hU2 hm2 hfr2 hp2
      refine xF_go o_Mo_reach [262] 60 (fun K hK => ?_)
      repeat' ((conv => whnf); first | refine ⟨fun h => ?_, fun h => ?_⟩ | refine ⟨?_, ?_⟩ | refine hK _ _ _ _ ?_)
      rw [nI_1]
      exact ih (f + 1) (by omega) U2 c2 M2 _ hU2 hm2 hfr2 hp2
/-- passes until nothing more is found -/
theorem L_while (P : sP) (hw : wP P) (M0 : xMe) (hP : mP P M0) (Q : Option Value → xMe → Prop) (hQ : ∀ U0 U M, mU U M → ufr ufS M0 M → pinv P U0 12 0 U false → (∀ Z, cls P Z → subU P U0 Z) → iniU P U0 → Q none M) : ∀ (n : Nat) (U : sU) (M : xMe) (b : Bool) (y x : Option Value), mU U M → mo b M → ufr ufS M0 M → (∀ Z, cls P Z → subU P U Z) → iniU P U → (b = true → MU U < n) → (b = false → ∃ U0, pinv P U0 12 0 U false ∧ (∀ Z, cls P Z → subU P U0 Z) ∧ iniU P U0) → xF l G y_Mo_reach 248 [some (.ref 50), y, x] [] M Q := by
  intro n
  induction n with
  | zero =>
    intro U M b y x hU hm hfr hs hi hn hb
    have hbf : b = false := by
      cases b with
      | false => rfl
      | true => exact absurd (hn rfl) (Nat.not_lt_zero _)
    obtain ⟨U0, g1, g2, g3⟩ := hb hbf
    rw [hbf] at hm
    refine xF_go o_Mo_reach [262] 60 (fun K hK => ?_)
    repeat' ((conv => whnf); first | refine ⟨fun h => ?_, fun h => ?_⟩ | refine ⟨?_, ?_⟩ | refine hK _ _ _ _ ?_)
    · refine xF_vret o_Mo_reach rfl rfl ?_
      exact hQ U0 U M hU hfr g1 g2 g3
    all_goals
      have h0 : ¬ M.1 50 39 = 0 := by assumption
      rw [hm] at h0
      exact absurd rfl h0
  | succ n ih =>
    intro U M b y x hU hm hfr hs hi hn hb
    refine xF_go o_Mo_reach [262] 60 (fun K hK => ?_)
    repeat' ((conv => whnf); first | refine ⟨fun h => ?_, fun h => ?_⟩ | refine ⟨?_, ?_⟩ | refine hK _ _ _ _ ?_)
    · have h0 : M.1 50 39 = 0 := by assumption
      rw [hm] at h0
      have hbf : b = false := by
        cases b with
        | false => rfl
        | true => exact absurd h0 (by decide)
      obtain ⟨U0, g1, g2, g3⟩ := hb hbf
      refine xF_vret o_Mo_reach rfl rfl ?_
      exact hQ U0 U M hU hfr g1 g2 g3
    · exact Or.inl rfl
    · have h0 : ¬ M.1 50 39 = 0 := by assumption
      rw [hm] at h0
      have hbt : b = true := by
        cases b with
        | true => rfl
        | false => exact absurd rfl h0
      clear hK K
      have hfr1 : ufr ufS M0 (xsI M 50 (upd (M.1 50) 39 0)) := hfr.F
      refine L_pass1 l G P hw U M0 hP Q ?_ 12 0 (by omega) U false _ _ (mU_fr (S := [50]) (xfr.rf.I (by simp)) (by decide) hU) rfl hfr1 ⟨upc_rf ule.rf usm.rf, fun _ _ z => z, fun f' i' _ _ hor => by omega⟩
      intro U2 c2 M2 y2 x2 hU2 hm2 hfr2 hp2
      have hi2 : iniU P U2 := by
        obtain ⟨⟨a1, a2, a3, a4, a5⟩, _⟩ := hp2.1.1
        refine ⟨fun f hf he => ?_, fun k hk p hp => a2 k p _ (hi.2 k hk p hp)⟩
        obtain ⟨t1, t2⟩ := hi.1 f hf he
        exact ⟨a3 _ _ t1, fun r hr => a1 _ _ _ _ (t2 r hr)⟩
      refine xF_go o_Mo_reach [248] 60 (fun K hK => ?_)
      repeat' ((conv => whnf); first | refine ⟨fun h => ?_, fun h => ?_⟩ | refine ⟨?_, ?_⟩ | refine hK _ _ _ _ ?_)
      refine ih U2 M2 c2 _ _ hU2 hm2 hfr2 (fun Z hz => hp2.2.1 Z hz (hs Z hz)) hi2 (fun e => ?_) (fun e => ⟨U, by rw [e] at hp2; exact hp2, hs, hi⟩)
      have := MU_lt hp2.1.1 (hp2.1.2.mp e)
      have := hn hbt
      omega
end XPA
