/-! the reference's reach: what it holds, its smallest methods -/
abbrev sU : Type := (Nat → Nat → Nat → Nat → Prop) × (Nat → Nat → Nat → Prop) × (Nat → Nat → Prop) × (Nat → Nat → Nat → Prop) × (Nat → Prop) × (Nat → Nat → Prop) × (Nat → Nat → Prop) × (Nat → Prop) × (Nat → Prop)
abbrev uS (U : sU) : Nat → Nat → Nat → Nat → Prop := U.1
abbrev uY (U : sU) : Nat → Nat → Nat → Prop := U.2.1
abbrev uC (U : sU) : Nat → Nat → Prop := U.2.2.1
abbrev uB (U : sU) : Nat → Nat → Nat → Prop := U.2.2.2.1
abbrev uR (U : sU) : Nat → Prop := U.2.2.2.2.1
abbrev uRd (U : sU) : Nat → Nat → Prop := U.2.2.2.2.2.1
abbrev uFo (U : sU) : Nat → Nat → Prop := U.2.2.2.2.2.2.1
abbrev uWr (U : sU) : Nat → Prop := U.2.2.2.2.2.2.2.1
abbrev uCm (U : sU) : Nat → Prop := U.2.2.2.2.2.2.2.2
def m69 (S : Nat → Nat → Nat → Nat → Prop) (M : xMe) : Prop := ∀ f, f < 12 → ∀ i, i < 41 → ∀ r, r < 4 → ∀ v, v < 256 → (sHas (M.2 69) (16 * (41 * f + i) + 4 * r) v = true ↔ S f i r v)
def m70 (Y : Nat → Nat → Nat → Prop) (M : xMe) : Prop := ∀ k, k < 24 → ∀ p, p < 64 → ∀ v, v < 256 → (sHas (M.2 70) (4 * (64 * k + p)) v = true ↔ Y k p v)
def m71 (B : Nat → Nat → Nat → Prop) (M : xMe) : Prop := ∀ f, f < 12 → ∀ r, r < 4 → ∀ v, v < 256 → (sHas (M.2 71) (16 * f + 4 * r) v = true ↔ B f r v)
def m72 (C : Nat → Nat → Prop) (M : xMe) : Prop := ∀ f, f < 12 → ∀ i, i < 41 → ∃ b, M.1 72 (41 * f + i) = b2 b ∧ (b = true ↔ C f i)
def m73 (R : Nat → Prop) (M : xMe) : Prop := ∀ f, f < 12 → ∃ b, M.1 73 f = b2 b ∧ (b = true ↔ R f)
def mKP (c : Nat) (X : Nat → Nat → Prop) (M : xMe) : Prop := ∀ k, k < 24 → ∀ p, p < 64 → ∃ b, M.1 c (64 * k + p) = b2 b ∧ (b = true ↔ X k p)
def mU (U : sU) (M : xMe) : Prop := m69 (uS U) M ∧ m70 (uY U) M ∧ m71 (uB U) M ∧ m72 (uC U) M ∧ m73 (uR U) M ∧ mKP 74 (uRd U) M ∧ mKP 75 (uFo U) M ∧ cZ 76 (uWr U) M ∧ cZ 77 (uCm U) M
theorem mU_fr {U : sU} {S : List Nat} {M M' : xMe} (h : xfr S M M') (hS : ∀ c, c ∈ S → c ∉ [69, 70, 71, 72, 73, 74, 75, 76, 77]) (hU : mU U M) : mU U M' := by
  have e : ∀ c, c ∈ [69, 70, 71, 72, 73, 74, 75, 76, 77] → M'.1 c = M.1 c ∧ M'.2 c = M.2 c := fun c hc => h c (fun z => hS c z hc)
  obtain ⟨h1, h2, h3, h4, h5, h6, h7, h8, h9⟩ := hU
  refine ⟨?_, ?_, ?_, ?_, ?_, ?_, ?_, ?_, ?_⟩
  · unfold m69; rw [(e 69 (by decide)).2]; exact h1
  · unfold m70; rw [(e 70 (by decide)).2]; exact h2
  · unfold m71; rw [(e 71 (by decide)).2]; exact h3
  · unfold m72; rw [(e 72 (by decide)).1]; exact h4
  · unfold m73; rw [(e 73 (by decide)).1]; exact h5
  · unfold mKP; rw [(e 74 (by decide)).1]; exact h6
  · unfold mKP; rw [(e 75 (by decide)).1]; exact h7
  · unfold cZ; rw [(e 76 (by decide)).1]; exact h8
  · unfold cZ; rw [(e 77 (by decide)).1]; exact h9
/-- what is at hand: the states of the place taken, the set made, whether more is found -/
def nw (N : Nat → Nat → Prop) (M : xMe) : Prop := ∀ r, r < 4 → ∀ v, v < 256 → (sHas (M.2 78) (4 * r) v = true ↔ N r v)
def stZ (Z : Nat → Prop) (M : xMe) : Prop := ∀ v, v < 256 → (sHas (M.2 79) 0 v = true ↔ Z v)
def mo (m : Bool) (M : xMe) : Prop := M.1 50 39 = b2 m
def ufr (S : List Nat) (M M' : xMe) : Prop := xfr (50 :: S) M M' ∧ ∀ s, s ≠ 39 → M'.1 50 s = M.1 50 s
theorem ufr.rf {S : List Nat} {M : xMe} : ufr S M M := ⟨xfr.rf, fun _ _ => rfl⟩
theorem ufr.tr {S S' : List Nat} {M M' M'' : xMe} (h : ufr S M M') (h' : ufr S' M' M'') (hs : ∀ c, c ∈ S' → c ∈ S) : ufr S M M'' := ⟨h.1.tr h'.1 (fun c hc => by
  rcases List.mem_cons.mp hc with z | z
  · exact List.mem_cons.mpr (Or.inl z)
  · exact List.mem_cons.mpr (Or.inr (hs c z))), fun s hs => (h'.2 s hs).trans (h.2 s hs)⟩
theorem ufr.I {S : List Nat} {M M' : xMe} {c : Nat} {f : Nat → Int32} (h : ufr S M M') (hc : c ∈ S) (h5 : ¬ c = 50) : ufr S M (xsI M' c f) := by
  refine ⟨h.1.I (List.mem_cons_of_mem _ hc), fun s hs => ?_⟩
  rw [xsI_1, if_neg (fun z => h5 z.symm)]
  exact h.2 s hs
theorem ufr.L {S : List Nat} {M M' : xMe} {c : Nat} {f : Nat → Int64} (h : ufr S M M') (hc : c ∈ S) : ufr S M (xsL M' c f) := ⟨h.1.L (List.mem_cons_of_mem _ hc), fun s hs => h.2 s hs⟩
theorem ufr.F {S : List Nat} {M M' : xMe} {x : Int32} (h : ufr S M M') : ufr S M (xsI M' 50 (upd (M'.1 50) 39 x)) := by
  refine ⟨h.1.I (by simp), fun s hs => ?_⟩
  rw [xsI_s, upd_n hs]
  exact h.2 s hs
theorem ufr.P {P : sP} {S : List Nat} {M M' : xMe} (h : ufr S M M') (hS : ∀ c, c ∈ S → c ∉ [51, 52, 53, 54, 55, 56, 57, 58, 59, 60, 61, 62, 63]) (hM : mP P M) : mP P M' := by
  refine mP_fr h.1 (fun c hc => ?_) (h.2 14 (by decide)) hM
  rcases List.mem_cons.mp hc with z | z
  · rw [z]; decide
  · exact hS c z
def uAdd (U : sU) (f j : Nat) (X : Nat → Nat → Prop) : sU := (fun f' i r v => uS U f' i r v ∨ (f' = f ∧ i = j ∧ X r v), uY U, fun f' i => uC U f' i ∨ (f' = f ∧ i = j), U.2.2.2)
def uGw (U : sU) (f j : Nat) (X : Nat → Nat → Prop) : Prop := ¬ uC U f j ∨ ∃ r, r < 4 ∧ ∃ v, v < 256 ∧ X r v ∧ ¬ uS U f j r v
def uRet (U : sU) (f : Nat) (X : Nat → Nat → Prop) : sU := (uS U, uY U, uC U, fun f' r v => uB U f' r v ∨ (f' = f ∧ X r v), fun f' => uR U f' ∨ f' = f, U.2.2.2.2.2)
def uRw (U : sU) (f : Nat) (X : Nat → Nat → Prop) : Prop := ¬ uR U f ∨ ∃ r, r < 4 ∧ ∃ v, v < 256 ∧ X r v ∧ ¬ uB U f r v
/-- rows joined by words -/
def oRow (f : Nat → Int64) (t : Nat) (g : Nat → Int64) (n : Nat) : Nat → Int64 := fun j => if t ≤ j ∧ j < t + n then f j ||| g (j - t) else f j
def oGr (f : Nat → Int64) (t : Nat) (g : Nat → Int64) (n : Nat) : Bool := decide (∃ w, w < n ∧ ¬ f (t + w) ||| g w = f (t + w))
theorem sHas_row (f g : Nat → Int64) (t : Nat) {r v : Nat} (hr : r < 4) (hv : v < 256) : sHas (oRow f t g 16) (t + 4 * r) v = (sHas f (t + 4 * r) v || sHas g (4 * r) v) := by
  unfold sHas oRow
  rw [if_pos (by omega), xbit_or, show t + 4 * r + v / 64 - t = 4 * r + v / 64 by omega]
theorem sHas_row_o (f g : Nat → Int64) (t : Nat) {t' v : Nat} (hv : v < 256) (h : t + 16 ≤ t' ∨ t' + 4 ≤ t) : sHas (oRow f t g 16) t' v = sHas f t' v := by
  unfold sHas oRow
  rw [if_neg (by omega)]
theorem oGr_iff (f g : Nat → Int64) (t : Nat) : oGr f t g 16 = true ↔ ∃ r, r < 4 ∧ ∃ v, v < 256 ∧ sHas g (4 * r) v = true ∧ sHas f (t + 4 * r) v = false := by
  unfold oGr
  rw [decide_eq_true_iff]
  constructor
  · rintro ⟨w, hw, h⟩
    have : ∃ q, q < 64 ∧ ¬ xbit (f (t + w) ||| g w) q = xbit (f (t + w)) q := by
      refine Classical.byContradiction (fun hn => h (xbit_ext (fun q hq => Classical.byContradiction (fun z => hn ⟨q, hq, z⟩))))
    obtain ⟨q, hq, hb⟩ := this
    rw [xbit_or] at hb
    refine ⟨w / 4, by omega, 64 * (w % 4) + q, by omega, ?_, ?_⟩
    · unfold sHas
      rw [show 4 * (w / 4) + (64 * (w % 4) + q) / 64 = w by omega, show (64 * (w % 4) + q) % 64 = q by omega]
      cases e : xbit (g w) q with
      | true => rfl
      | false => rw [e, Bool.or_false] at hb; exact absurd rfl hb
    · unfold sHas
      rw [show t + 4 * (w / 4) + (64 * (w % 4) + q) / 64 = t + w by omega, show (64 * (w % 4) + q) % 64 = q by omega]
      cases e : xbit (f (t + w)) q with
      | false => rfl
      | true => rw [e, Bool.true_or] at hb; exact absurd rfl hb
  · rintro ⟨r, hr, v, hv, h1, h2⟩
    refine ⟨4 * r + v / 64, by omega, fun z => ?_⟩
    have := congrArg (fun x => xbit x (v % 64)) z
    simp only [xbit_or] at this
    unfold sHas at h1 h2
    rw [← Nat.add_assoc] at this
    rw [h1, h2] at this
    cases this
theorem oGr_s (f g : Nat → Int64) (t n : Nat) : oGr f t g (n + 1) = (oGr f t g n || decide (¬ f (t + n) ||| g n = f (t + n))) := by
  unfold oGr
  rw [Bool.eq_iff_iff]
  simp only [decide_eq_true_iff, Bool.or_eq_true]
  constructor
  · rintro ⟨w, hw, h⟩
    by_cases e : w = n
    · subst e; exact Or.inr h
    · exact Or.inl ⟨w, by omega, h⟩
  · rintro (⟨w, hw, h⟩ | h)
    · exact ⟨w, by omega, h⟩
    · exact ⟨n, by omega, h⟩
theorem oGr_0 (f g : Nat → Int64) (t : Nat) : oGr f t g 0 = false := decide_eq_false (fun ⟨_, h, _⟩ => absurd h (Nat.not_lt_zero _))
theorem oRow_s (f g : Nat → Int64) (t n : Nat) : oRow f t g (n + 1) = vp_updL (oRow f t g n) (t + n) (oRow f t g n (t + n) ||| g n) := by
  funext j
  unfold vp_updL oRow
  by_cases e : j = t + n
  · subst e
    rw [if_pos (by omega), if_pos rfl, if_neg (by omega), show t + n - t = n by omega]
  · rw [if_neg e]
    by_cases e2 : t ≤ j ∧ j < t + n
    · rw [if_pos (by omega), if_pos e2]
    · rw [if_neg (by omega), if_neg e2]
theorem oRow_n (f g : Nat → Int64) (t n : Nat) : oRow f t g n (t + n) = f (t + n) := if_neg (by omega)
theorem oRow_0 (f g : Nat → Int64) (t : Nat) : oRow f t g 0 = f := by
  funext j
  exact if_neg (by omega)
def atU (P : sP) (f : Nat) (x : Int32) : Nat := if x < 0 ∨ nI (pC P f).length < x then (pC P f).length else ix x
section XM6
variable (l : Launch) (G : xG)
theorem L_comes (k : Nat) (hk : k < 492) (f x at_ : Int32) (M0 : xMe) (m0 : Bool) (Q : Option Value → xMe → Prop) (hQ : Q none (xsI (xsL M0 69 (oRow (M0.2 69) (16 * k) (M0.2 78) 16)) 50 (upd (M0.1 50) 39 (b2 (m0 || oGr (M0.2 69) (16 * k) (M0.2 78) 16))))) : ∀ (m w : Nat), m + w = 16 → ∀ y, xF l G y_Mo_comes 70 [some (.ref 50), some (.int f), some (.int x), some (.int at_), some (.int (nI k)), some (.int (nI w)), y, none] [] (xsI (xsL M0 69 (oRow (M0.2 69) (16 * k) (M0.2 78) w)) 50 (upd (M0.1 50) 39 (b2 (m0 || oGr (M0.2 69) (16 * k) (M0.2 78) w)))) Q := by
  have hmem : ∀ (F : Nat → Int64) (z : Int32) (F' : Nat → Int64) (z' : Int32), xsL (xsI (xsI (xsL M0 69 F) 50 (upd (M0.1 50) 39 z)) 50 (upd (upd (M0.1 50) 39 z) 39 z')) 69 F' = xsI (xsL M0 69 F') 50 (upd (M0.1 50) 39 z') := by
    intro F z F' z'
    refine Prod.ext ?_ ?_
    · funext c i
      show (if c = 50 then upd (upd (M0.1 50) 39 z) 39 z' else if c = 50 then _ else M0.1 c) i = (if c = 50 then upd (M0.1 50) 39 z' else M0.1 c) i
      by_cases e : c = 50
      · rw [if_pos e, if_pos e]
        unfold upd
        by_cases e2 : i = 39
        · rw [if_pos e2, if_pos e2]
        · rw [if_neg e2, if_neg e2, if_neg e2]
      · rw [if_neg e, if_neg e, if_neg e]
    · funext c i
      show (if c = 69 then F' else if c = 69 then F else M0.2 c) i = (if c = 69 then F' else M0.2 c) i
      by_cases e : c = 69
      · rw [if_pos e, if_pos e]
      · rw [if_neg e, if_neg e, if_neg e]
  intro m
  induction m with
  | zero =>
    intro w hw y
    obtain rfl : w = 16 := by omega
    refine xF_go o_Mo_comes [70] 60 (fun K hK => ?_)
    repeat' ((conv => whnf); first | refine ⟨fun h => ?_, fun h => ?_⟩ | refine ⟨?_, ?_⟩ | refine hK _ _ _ _ ?_)
    · refine xF_vret o_Mo_comes rfl rfl ?_
      exact hQ
    all_goals exact absurd (show nI 16 < nI 16 from by assumption) (nI_nlt (by omega) (by omega))
  | succ m ih =>
    intro w hw y
    have e16 : 16 * nI k + nI w = nI (16 * k + w) := by rw [show 16 * nI k = nI (16 * k) from pk_mul 16 k, nI_add]
    have i1 : vp_in (16 * nI k + nI w) 7872 := by rw [e16]; exact vp_in_nI (by omega) (by decide)
    have c1 : (16 * nI k + nI w).toNatClampNeg = 16 * k + w := by rw [e16, nI_clamp (by omega)]
    have c2 : (nI w).toNatClampNeg = w := nI_clamp (by omega)
    have i2 : vp_in (nI w) 16 := vp_in_nI (by omega) (by decide)
    have hih := ih (w + 1) (by omega)
    generalize hF : oRow (M0.2 69) (16 * k) (M0.2 78) w = F at *
    have f1 : F (16 * k + w) = M0.2 69 (16 * k + w) := by rw [← hF]; exact oRow_n _ _ _ _
    have es : oRow (M0.2 69) (16 * k) (M0.2 78) (w + 1) = vp_updL F (16 * k + w) (F (16 * k + w) ||| M0.2 78 w) := by rw [oRow_s, hF]
    rw [es, oGr_s, ← Bool.or_assoc] at hih
    have fin : ∀ (z' : Int32), z' = b2 (m0 || oGr (M0.2 69) (16 * k) (M0.2 78) w || decide (¬ M0.2 69 (16 * k + w) ||| M0.2 78 w = M0.2 69 (16 * k + w))) → ∀ y, xF l G y_Mo_comes 70 [some (.ref 50), some (.int f), some (.int x), some (.int at_), some (.int (nI k)), some (.int (nI (w + 1))), y, none] [] (xsL (xsI (xsI (xsL M0 69 F) 50 (upd (M0.1 50) 39 (b2 (m0 || oGr (M0.2 69) (16 * k) (M0.2 78) w)))) 50 (upd (upd (M0.1 50) 39 (b2 (m0 || oGr (M0.2 69) (16 * k) (M0.2 78) w))) 39 z')) 69 (vp_updL F (16 * k + w) (F (16 * k + w) ||| M0.2 78 w))) Q := by
      intro z' hz y
      rw [hmem, hz]
      exact hih y
    refine xF_go o_Mo_comes [70] 60 (fun K hK => ?_)
    repeat' ((conv => whnf); first | refine ⟨fun h => ?_, fun h => ?_⟩ | refine ⟨?_, ?_⟩ | refine hK _ _ _ _ ?_)
    · exact absurd (nI_lt (b := 16) (by omega) (by omega)) h
    · exact i1
    · exact i2
    · exact Or.inr rfl
    · exact i1
    · have h0 : ¬ b2 (m0 || oGr (M0.2 69) (16 * k) (M0.2 78) w) = 0 := by assumption
      have ht : (m0 || oGr (M0.2 69) (16 * k) (M0.2 78) w) = true := by
        cases e : (m0 || oGr (M0.2 69) (16 * k) (M0.2 78) w) with
        | true => rfl
        | false => rw [e] at h0; exact absurd rfl h0
      rw [nI_1, c1, c2]
      exact fin 1 (by rw [ht, Bool.true_or]; rfl) _
    · exact i1
    · exact Or.inl rfl
    · exact i1
    · have h0 : b2 (m0 || oGr (M0.2 69) (16 * k) (M0.2 78) w) = 0 := by assumption
      have hf : (m0 || oGr (M0.2 69) (16 * k) (M0.2 78) w) = false := by
        cases e : (m0 || oGr (M0.2 69) (16 * k) (M0.2 78) w) with
        | false => rfl
        | true => rw [e] at h0; exact absurd h0 (by decide)
      have h1 : lg_cmp (F (16 * nI k + nI w).toNatClampNeg ||| M0.2 78 (nI w).toNatClampNeg) (F (16 * nI k + nI w).toNatClampNeg) = 0 := by assumption
      rw [c1, c2, xcmp0, f1] at h1
      rw [nI_1, c1, c2]
      exact fin 0 (by rw [hf, Bool.false_or, decide_eq_false (fun z => z h1)]; rfl) _
    · exact Or.inr rfl
    · exact i1
    · have h0 : b2 (m0 || oGr (M0.2 69) (16 * k) (M0.2 78) w) = 0 := by assumption
      have hf : (m0 || oGr (M0.2 69) (16 * k) (M0.2 78) w) = false := by
        cases e : (m0 || oGr (M0.2 69) (16 * k) (M0.2 78) w) with
        | false => rfl
        | true => rw [e] at h0; exact absurd h0 (by decide)
      have h1 : ¬ lg_cmp (F (16 * nI k + nI w).toNatClampNeg ||| M0.2 78 (nI w).toNatClampNeg) (F (16 * nI k + nI w).toNatClampNeg) = 0 := by assumption
      rw [c1, c2, xcmp0, f1] at h1
      rw [nI_1, c1, c2]
      exact fin 1 (by rw [hf, Bool.false_or, decide_eq_true h1]; rfl) _
theorem atU_in {n : Nat} {x : Int32} (hl : n ≤ 40) (h : ¬ (x < 0 ∨ nI n < x)) : ∃ k, k ≤ n ∧ x = nI k := by
  have h1 : ¬ x < 0 := fun z => h (Or.inl z)
  have h2 : ¬ nI n < x := fun z => h (Or.inr z)
  have h3 : x < nI (n + 1) := by
    have e : nI (n + 1) = nI n + 1 := (nI_1 _).symm
    have := nI_pos' (n := n) (by omega)
    have h40 : nI n ≤ 40 := by
      have := nI_nlt (a := 40) (b := n) (by omega) (by omega)
      have e40 : nI 40 = 40 := rfl
      rw [e40] at this
      grind
    grind
  obtain ⟨k, hk, e⟩ := nI_ofN (x := x) (n := n + 1) (by omega) (by grind) h3
  exact ⟨k, by omega, e⟩
theorem atU_le {P : sP} {f : Nat} {x : Int32} (hl : (pC P f).length ≤ 40) : atU P f x ≤ (pC P f).length := by
  unfold atU
  split
  · exact Nat.le_refl _
  · rename_i h
    obtain ⟨k, hk, e⟩ := atU_in hl h
    rw [e, ix_nI (by omega)]
    exact hk
theorem E_comes (P : sP) (hw : wP P) (U : sU) (N : Nat → Nat → Prop) (m : Bool) (M : xMe) (hP : mP P M) (hU : mU U M) (hN : nw N M) (hm : mo m M) (f : Nat) (hf : f < 12) (x : Int32) : xE l G y_Mo_comes [.ref 50, .int (nI f), .int x] M (fun v M' => v = none ∧ mU (uAdd U f (atU P f x) N) M' ∧ (∃ b, mo (m || b) M' ∧ (b = true ↔ uGw U f (atU P f x) N)) ∧ ufr [69, 72] M M') := by
  have hl := (hw.2.2.2.1 f hf).1
  have hat := atU_le (P := P) (f := f) (x := x) hl
  have hcl : (nI f).toNatClampNeg = f := nI_clamp (by omega)
  have hlen : M.1 57 (nI f).toNatClampNeg = nI (pC P f).length := by rw [hcl]; exact (hP.2.2.2.1 f hf).1
  have hat2 : ∃ y, y = nI (atU P f x) ∧ ((x < 0 ∨ nI (pC P f).length < x) → y = nI (pC P f).length) ∧ (¬ (x < 0 ∨ nI (pC P f).length < x) → y = x) := by
    refine ⟨_, rfl, fun z => ?_, fun z => ?_⟩
    · unfold atU; rw [if_pos z]
    · unfold atU
      rw [if_neg z]
      obtain ⟨k, hk, e⟩ := atU_in hl z
      rw [e, ix_nI (by omega)]
  obtain ⟨y, hy, hy1, hy2⟩ := hat2
  generalize atU P f x = j at *
  obtain ⟨h1, h2, h3, h4, h5, h6, h7, h8, h9⟩ := hU
  have ek : 41 * nI f + nI j = nI (41 * f + j) := by rw [nI_41', nI_add]
  have i1 : vp_in (41 * nI f + nI j) 492 := by rw [ek]; exact vp_in_nI (by omega) (by decide)
  obtain ⟨b0, hb0, hb1⟩ := h4 f hf j (by omega)
  have main : ∀ z : Int32, (∃ b, z = b2 (m || b) ∧ (b = true ↔ ¬ uC U f j)) → xF l G y_Mo_comes 56 [some (.ref 50), some (.int (nI f)), some (.int x), some (.int (nI j)), some (.int (41 * nI f + nI j)), none, none, none] [.int z, .ref 50] M (fun v M' => v = none ∧ mU (uAdd U f j N) M' ∧ (∃ b, mo (m || b) M' ∧ (b = true ↔ uGw U f j N)) ∧ ufr [69, 72] M M') := by
    rintro z ⟨b, hz, hbc⟩
    rw [ek]
    refine xF_go o_Mo_comes [70] 60 (fun K hK => ?_)
    repeat' ((conv => whnf); first | refine ⟨fun h => ?_, fun h => ?_⟩ | refine ⟨?_, ?_⟩ | refine hK _ _ _ _ ?_)
    · rw [hz]; exact b2_01 _
    · exact vp_in_nI (N := 492) (by omega) (by decide)
    · exact Or.inr rfl
    · rw [nI_clamp (by omega), hz]
      clear hK K
      have hmem : xsI (xsI M 50 (upd (M.1 50) 39 (b2 (m || b)))) 72 (upd (M.1 72) (41 * f + j) 1) = xsI (xsL (xsI (xsI M 50 (upd (M.1 50) 39 (b2 (m || b)))) 72 (upd (M.1 72) (41 * f + j) 1)) 69 (oRow (M.2 69) (16 * (41 * f + j)) (M.2 78) 0)) 50 (upd (upd (M.1 50) 39 (b2 (m || b))) 39 (b2 (m || b || oGr (M.2 69) (16 * (41 * f + j)) (M.2 78) 0))) := by
        rw [oRow_0, oGr_0, Bool.or_false]
        refine Prod.ext ?_ ?_
        · funext c i
          show (if c = 72 then upd (M.1 72) (41 * f + j) 1 else if c = 50 then upd (M.1 50) 39 (b2 (m || b)) else M.1 c) i = (if c = 50 then upd (upd (M.1 50) 39 (b2 (m || b))) 39 (b2 (m || b)) else if c = 72 then upd (M.1 72) (41 * f + j) 1 else if c = 50 then upd (M.1 50) 39 (b2 (m || b)) else M.1 c) i
          by_cases e : c = 50
          · subst e
            rw [if_neg (by decide), if_pos rfl, if_pos rfl]
            unfold upd
            by_cases e2 : i = 39
            · rw [if_pos e2, if_pos e2]
            · rw [if_neg e2, if_neg e2]
          · rw [if_neg e, if_neg e]
        · funext c i
          show M.2 c i = (if c = 69 then M.2 69 else M.2 c) i
          by_cases e : c = 69
          · rw [if_pos e, e]
          · rw [if_neg e]
      have key := L_comes l G (41 * f + j) (by omega) (nI f) x (nI j) (xsI (xsI M 50 (upd (M.1 50) 39 (b2 (m || b)))) 72 (upd (M.1 72) (41 * f + j) 1)) (m || b) (fun v M' => v = none ∧ mU (uAdd U f j N) M' ∧ (∃ b, mo (m || b) M' ∧ (b = true ↔ uGw U f j N)) ∧ ufr [69, 72] M M') ?_ 16 0 (by omega) none
      · have key2 : xF l G y_Mo_comes 70 [some (.ref 50), some (.int (nI f)), some (.int x), some (.int (nI j)), some (.int (nI (41 * f + j))), some (.int (nI 0)), none, none] [] (xsI (xsL (xsI (xsI M 50 (upd (M.1 50) 39 (b2 (m || b)))) 72 (upd (M.1 72) (41 * f + j) 1)) 69 (oRow (M.2 69) (16 * (41 * f + j)) (M.2 78) 0)) 50 (upd (upd (M.1 50) 39 (b2 (m || b))) 39 (b2 (m || b || oGr (M.2 69) (16 * (41 * f + j)) (M.2 78) 0)))) (fun v M' => v = none ∧ mU (uAdd U f j N) M' ∧ (∃ b, mo (m || b) M' ∧ (b = true ↔ uGw U f j N)) ∧ ufr [69, 72] M M') := key
        rw [← hmem] at key2
        exact key2
      · refine ⟨rfl, ⟨?_, h2, h3, ?_, h5, h6, h7, h8, h9⟩, ⟨b || oGr (M.2 69) (16 * (41 * f + j)) (M.2 78) 16, ?_, ?_⟩, ?_⟩
        · intro f' hf' i hi r hr v hv
          show sHas (oRow (M.2 69) (16 * (41 * f + j)) (M.2 78) 16) (16 * (41 * f' + i) + 4 * r) v = true ↔ (uS U f' i r v ∨ (f' = f ∧ i = j ∧ N r v))
          by_cases e : f' = f ∧ i = j
          · obtain ⟨rfl, rfl⟩ := e
            rw [sHas_row _ _ _ hr hv, Bool.or_eq_true, h1 f' hf' i hi r hr v hv, hN r hr v hv]
            simp
          · rw [sHas_row_o _ _ _ hv (by omega), h1 f' hf' i hi r hr v hv]
            exact ⟨Or.inl, fun z => z.elim id (fun z => absurd ⟨z.1, z.2.1⟩ e)⟩
        · intro f' hf' i hi
          show ∃ b, upd (M.1 72) (41 * f + j) 1 (41 * f' + i) = b2 b ∧ (b = true ↔ (uC U f' i ∨ (f' = f ∧ i = j)))
          by_cases e : f' = f ∧ i = j
          · obtain ⟨rfl, rfl⟩ := e
            exact ⟨true, by rw [upd_s]; rfl, fun _ => Or.inr ⟨rfl, rfl⟩, fun _ => rfl⟩
          · obtain ⟨c, e1, e2⟩ := h4 f' hf' i hi
            exact ⟨c, by rw [upd_n (by omega)]; exact e1, e2.trans ⟨Or.inl, fun z => z.elim id (fun z => absurd z e)⟩⟩
        · show b2 (m || b || oGr (M.2 69) (16 * (41 * f + j)) (M.2 78) 16) = b2 (m || (b || oGr (M.2 69) (16 * (41 * f + j)) (M.2 78) 16))
          rw [Bool.or_assoc]
        · rw [Bool.or_eq_true, hbc, oGr_iff]
          refine or_congr Iff.rfl ⟨fun ⟨r, hr, v, hv, z1, z2⟩ => ⟨r, hr, v, hv, (hN r hr v hv).mp z1, fun z => ?_⟩, fun ⟨r, hr, v, hv, z1, z2⟩ => ⟨r, hr, v, hv, (hN r hr v hv).mpr z1, ?_⟩⟩
          · rw [(h1 f hf j (by omega) r hr v hv).mpr z] at z2
            cases z2
          · cases e : sHas (M.2 69) (16 * (41 * f + j) + 4 * r) v with
            | false => rfl
            | true => exact absurd ((h1 f hf j (by omega) r hr v hv).mp e) z2
        · exact (((ufr.rf.F).I (by simp) (by decide)).L (by simp)).F
  have mid : xF l G y_Mo_comes 24 [some (.ref 50), some (.int (nI f)), some (.int x), none, none, none, none, none] [.int (nI j)] M (fun v M' => v = none ∧ mU (uAdd U f j N) M' ∧ (∃ b, mo (m || b) M' ∧ (b = true ↔ uGw U f j N)) ∧ ufr [69, 72] M M') := by
    refine xF_go o_Mo_comes [56] 60 (fun K hK => ?_)
    repeat' ((conv => whnf); first | refine ⟨fun h => ?_, fun h => ?_⟩ | refine ⟨?_, ?_⟩ | refine hK _ _ _ _ ?_)
    · have h0 : ¬ M.1 50 39 = 0 := by assumption
      rw [hm] at h0
      have hmt : m = true := by
        cases m with
        | true => rfl
        | false => exact absurd rfl h0
      subst hmt
      refine main 1 ?_
      by_cases hc : uC U f j
      · exact ⟨false, rfl, (fun z => by cases z), fun z => absurd hc z⟩
      · exact ⟨true, rfl, fun _ => hc, fun _ => rfl⟩
    · exact i1
    · have h0 : M.1 50 39 = 0 := by assumption
      rw [hm] at h0
      have hmf : m = false := by
        cases m with
        | false => rfl
        | true => exact absurd h0 (by decide)
      have hc0 : ¬ M.1 72 (41 * nI f + nI j).toNatClampNeg = 0 := by assumption
      rw [ek, nI_clamp (by omega), hb0] at hc0
      have hbt : b0 = true := by
        cases b0 with
        | true => rfl
        | false => exact absurd rfl hc0
      subst hmf
      exact main 0 ⟨false, rfl, (fun z => by cases z), fun z => absurd (hb1.mp hbt) z⟩
    · have h0 : M.1 50 39 = 0 := by assumption
      rw [hm] at h0
      have hmf : m = false := by
        cases m with
        | false => rfl
        | true => exact absurd h0 (by decide)
      have hc0 : M.1 72 (41 * nI f + nI j).toNatClampNeg = 0 := by assumption
      rw [ek, nI_clamp (by omega), hb0] at hc0
      subst hmf
      refine main 1 ⟨true, rfl, fun _ z => ?_, fun _ => rfl⟩
      rw [hb1.mpr z] at hc0
      exact absurd hc0 (by decide)
  refine xE_of [some (.ref 50), some (.int (nI f)), some (.int x), none, none, none, none, none] (by decide +kernel) (Nat.le_of_ble_eq_true rfl) rfl ?_
  refine xF_go o_Mo_comes [24] 60 (fun K hK => ?_)
  repeat' ((conv => whnf); first | refine ⟨fun h => ?_, fun h => ?_⟩ | refine ⟨?_, ?_⟩ | refine hK _ _ _ _ ?_)
  · exact vp_in_nI hf (by decide)
  · have h0 : x < 0 := by assumption
    rw [hlen, ← hy1 (Or.inl h0), hy]
    exact mid
  · exact vp_in_nI hf (by decide)
  · have h0 : ¬ x < 0 := by assumption
    have h10 : ¬ M.1 57 (nI f).toNatClampNeg < x := by assumption
    rw [hlen] at h10
    rw [hy] at hy2
    rw [← hy2 (fun z => z.elim h0 h10)] at mid ⊢
    exact mid
  · exact vp_in_nI hf (by decide)
  · have h10 : M.1 57 (nI f).toNatClampNeg < x := by assumption
    rw [hlen] at h10
    rw [hlen, ← hy1 (Or.inr h10), hy]
    exact mid
end XM6
