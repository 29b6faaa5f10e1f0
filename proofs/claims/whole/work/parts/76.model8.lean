/-! the reference's reach: loads -/
def uLoad (U : sU) (k : Nat) (pl : Nat → Prop) : sU := (uS U, uY U, uC U, uB U, uR U, fun k' p => uRd U k' p ∨ (k' = k ∧ pl p), uFo U, uWr U, uCm U)
def uFoll (P : sP) (U : sU) (k : Nat) (pl : Nat → Prop) : sU := (uS U, uY U, uC U, uB U, uR U, fun k' p => uRd U k' p ∨ (k' = k ∧ pl p) ∨ (p = 0 ∧ ∃ p', pl p' ∧ pR P k p' = some k'), fun k' p => uFo U k' p ∨ (k' = k ∧ pl p), uWr U, uCm U)
def uStore (U : sU) (k : Nat) (pl : Nat → Prop) (Z : Nat → Prop) : sU := (uS U, fun k' p v => uY U k' p v ∨ (k' = k ∧ pl p ∧ Z v), uC U, uB U, uR U, uRd U, uFo U, fun k' => uWr U k' ∨ (k' = k ∧ ∃ p, pl p), uCm U)
def jn (f g : Nat → Int64) (t n : Nat) : Nat → Int64 := fun j => if j < n then f j ||| g (t + j) else f j
theorem sHas_jn (f g : Nat → Int64) (t : Nat) {v : Nat} (hv : v < 256) : sHas (jn f g t 4) 0 v = (sHas f 0 v || sHas g t v) := by
  unfold sHas jn
  rw [if_pos (by omega), xbit_or, Nat.zero_add]
theorem jn_0 (f g : Nat → Int64) (t : Nat) : jn f g t 0 = f := by
  funext j
  exact if_neg (by omega)
theorem jn_s (f g : Nat → Int64) (t n : Nat) : jn f g t (n + 1) = vp_updL (jn f g t n) n (jn f g t n n ||| g (t + n)) := by
  funext j
  unfold vp_updL jn
  by_cases e : j = n
  · subst e
    rw [if_pos (by omega), if_pos rfl, if_neg (by omega)]
  · rw [if_neg e]
    by_cases e2 : j < n
    · rw [if_pos (by omega), if_pos e2]
    · rw [if_neg (by omega), if_neg e2]
theorem mKP_iff {c : Nat} {X X' : Nat → Nat → Prop} {M : xMe} (h : mKP c X M) (hx : ∀ a, a < 24 → ∀ b, b < 64 → (X a b ↔ X' a b)) : mKP c X' M := fun a ha b hb => by
  obtain ⟨z, e1, e2⟩ := h a ha b hb
  exact ⟨z, e1, e2.trans (hx a ha b hb)⟩
theorem mKP_set {c : Nat} {X : Nat → Nat → Prop} {M : xMe} (h : mKP c X M) {k p : Nat} (hk : k < 24) (hp : p < 64) : mKP c (fun a b => X a b ∨ (a = k ∧ b = p)) (xsI M c (upd (M.1 c) (64 * k + p) 1)) := by
  intro a ha b hb
  rw [xsI_s]
  by_cases e : a = k ∧ b = p
  · obtain ⟨rfl, rfl⟩ := e
    exact ⟨true, by rw [upd_s]; rfl, fun _ => Or.inr ⟨rfl, rfl⟩, fun _ => rfl⟩
  · obtain ⟨z, e1, e2⟩ := h a ha b hb
    exact ⟨z, by rw [upd_n (by omega)]; exact e1, e2.trans ⟨Or.inl, fun y => y.elim id (fun y => absurd y e)⟩⟩
theorem four_n (r : Nat) : 4 * nI r = nI (4 * r) := pk_mul 4 r
theorem may_n (k p w : Nat) : 4 * (64 * nI k + nI p) + nI w = nI (4 * (64 * k + p) + w) := by rw [nI_64, nI_add, four_n, nI_add]
theorem ufr.mono {S S' : List Nat} {M M' : xMe} (h : ufr S M M') (hs : ∀ c, c ∈ S → c ∈ S') : ufr S' M M' := ⟨h.1.mono (fun c hc => by
  rcases List.mem_cons.mp hc with z | z
  · exact List.mem_cons.mpr (Or.inl z)
  · exact List.mem_cons.mpr (Or.inr (hs c z))), h.2⟩
section XM8
variable (l : Launch) (G : xG)
theorem L_ldw (k p : Nat) (hk : k < 24) (hp : p < 64) (q s : Int32) (M0 : xMe) (Q : Option Value → xMe → Prop) (hQ : ∀ y, xF l G y_Mo_loads 93 [some (.ref 50), some (.int (nI k)), some (.int q), some (.int s), some (.int (nI p)), y] [] (xsL M0 79 (jn (M0.2 79) (M0.2 70) (4 * (64 * k + p)) 4)) Q) : ∀ (m w : Nat), m + w = 4 → xF l G y_Mo_loads 54 [some (.ref 50), some (.int (nI k)), some (.int q), some (.int s), some (.int (nI p)), some (.int (nI w))] [] (xsL M0 79 (jn (M0.2 79) (M0.2 70) (4 * (64 * k + p)) w)) Q := by
  intro m
  induction m with
  | zero =>
    intro w hw
    obtain rfl : w = 4 := by omega
    refine xF_go o_Mo_loads [54, 93] 60 (fun K hK => ?_)
    repeat' ((conv => whnf); first | refine ⟨fun h => ?_, fun h => ?_⟩ | refine ⟨?_, ?_⟩ | refine hK _ _ _ _ ?_)
    · exact hQ _
    all_goals exact absurd (show nI 4 < nI 4 from by assumption) (nI_nlt (by omega) (by omega))
  | succ m ih =>
    intro w hw
    have hih := ih (w + 1) (by omega)
    rw [jn_s] at hih
    refine xF_go o_Mo_loads [54, 93] 60 (fun K hK => ?_)
    repeat' ((conv => whnf); first | refine ⟨fun h => ?_, fun h => ?_⟩ | refine ⟨?_, ?_⟩ | refine hK _ _ _ _ ?_)
    · exact absurd (nI_lt (b := 4) (by omega) (by omega)) h
    · exact vp_in_nI (N := 4) (by omega) (by decide)
    · rw [may_n]; exact vp_in_nI (N := 6144) (by omega) (by decide)
    · exact vp_in_nI (N := 4) (by omega) (by decide)
    · rw [may_n, nI_1, nI_clamp (n := w) (by omega), nI_clamp (by omega), xsL_LL]
      exact hih
theorem L_loads (P : sP) (hw : wP P) (N : Nat → Nat → Prop) (Y R0 : Nat → Nat → Nat → Prop) (k q : Nat) (hk : k < 24) (hq : q < 4) (Rd : Nat → Nat → Prop) (M0 : xMe) (hS : mS P M0) (hN : nw N M0) (hY : m70 Y M0) (Q : Option Value → xMe → Prop) (hQ : ∀ M (b : Bool), ufr [74, 79] M0 M → M.1 50 = M0.1 50 → (b = true ↔ ∃ p, p < pS P k ∧ N q p) → mKP 74 (fun k' p => Rd k' p ∨ (k' = k ∧ p < pS P k ∧ N q p)) M → stZ (fun v => ∃ p, (p < pS P k ∧ N q p) ∧ Y k p v) M → Q (some (.int (b2 b))) M) : ∀ (m p : Nat), m + p = pS P k → ∀ M (b : Bool) y, ufr [74, 79] M0 M → M.1 50 = M0.1 50 → (b = true ↔ ∃ x, x < p ∧ N q x) → mKP 74 (fun k' x => Rd k' x ∨ (k' = k ∧ x < p ∧ N q x)) M → stZ (fun v => ∃ x, x < p ∧ N q x ∧ Y k x v) M → xF l G y_Mo_loads 9 [some (.ref 50), some (.int (nI k)), some (.int (nI q)), some (.int (b2 b)), some (.int (nI p)), y] [] M Q := by
  have hs64 := (hw.1 k hk).1
  have hcl : (nI k).toNatClampNeg = k := nI_clamp (by omega)
  intro m
  induction m with
  | zero =>
    intro p hp M b y hfr h50 hb hR hZ
    obtain rfl : p = pS P k := by omega
    have hsz : M.1 51 (nI k).toNatClampNeg = nI (pS P k) := by rw [hcl, (hfr.1 51 (by decide)).1]; exact (hS k hk).1
    refine xF_go o_Mo_loads [9] 60 (fun K hK => ?_)
    repeat' ((conv => whnf); first | refine ⟨fun h => ?_, fun h => ?_⟩ | refine ⟨?_, ?_⟩ | refine hK _ _ _ _ ?_)
    · exact vp_in_nI hk (by decide)
    · show xF l G y_Mo_loads 100 _ [.int (b2 b)] M _
      refine xF_zret o_Mo_loads rfl rfl (b2_01 _) ?_
      refine hQ M b hfr h50 hb hR (fun v hv => (hZ v hv).trans ⟨fun ⟨x, z1, z2, z3⟩ => ⟨x, ⟨z1, z2⟩, z3⟩, fun ⟨x, z1, z3⟩ => ⟨x, z1.1, z1.2, z3⟩⟩)
    all_goals
      have hlt : nI (pS P k) < M.1 51 (nI k).toNatClampNeg := by assumption
      rw [hsz, nI_ltI (by omega) (by omega)] at hlt
      omega
  | succ m ih =>
    intro p hp M b y hfr h50 hb hR hZ
    have hsz : M.1 51 (nI k).toNatClampNeg = nI (pS P k) := by rw [hcl, (hfr.1 51 (by decide)).1]; exact (hS k hk).1
    have hp' : p < pS P k := by omega
    have e64 : 64 * nI k + nI p = nI (64 * k + p) := by rw [nI_64, nI_add]
    refine xF_go o_Mo_loads [9, 54] 60 (fun K hK => ?_)
    repeat' ((conv => whnf); first | refine ⟨fun h => ?_, fun h => ?_⟩ | refine ⟨?_, ?_⟩ | refine hK _ _ _ _ ?_)
    · exact vp_in_nI hk (by decide)
    · have hlt : ¬ nI p < M.1 51 (nI k).toNatClampNeg := by assumption
      rw [hsz, nI_ltI (by omega) (by omega)] at hlt
      omega
    · rw [four_n]
      refine xF_callV o_Mo_loads [.ref 78, .int (nI (4 * q)), .int (nI p)] rfl z_Mo_hasValue i_Mo_hasValue v_Mo_hasValue l_Mo_214 rfl ⟨⟨by decide, by decide⟩, rfl, rfl⟩ (Nat.le_of_ble_eq_true rfl) rfl rfl rfl (E_hasValue l G 78 (by simp) (4 * q) p (by omega) (by show _ < 16; omega) M) ?_
      rintro v M1 ⟨rfl, rfl⟩
      clear hK K
      have hnp : sHas (M1.2 78) (4 * q) p = true ↔ N q p := by
        rw [(hfr.1 78 (by decide)).2]
        exact hN q hq p (by omega)
      cases hh : sHas (M1.2 78) (4 * q) p with
      | false =>
        have hno : ¬ N q p := fun z => by rw [hnp.mpr z] at hh; cases hh
        refine xF_go o_Mo_loads [9, 54] 60 (fun K hK => ?_)
        repeat' ((conv => whnf); first | refine ⟨fun h => ?_, fun h => ?_⟩ | refine ⟨?_, ?_⟩ | refine hK _ _ _ _ ?_)
        all_goals first | exact absurd rfl (show ¬ b2 false = 0 from by assumption) | skip
        rw [nI_1]
        have hx : ∀ (A : Nat → Prop), (∃ x, x < p ∧ N q x ∧ A x) ↔ ∃ x, x < p + 1 ∧ N q x ∧ A x := by
          intro A
          constructor
          · rintro ⟨x, z1, z2⟩
            exact ⟨x, by omega, z2⟩
          · rintro ⟨x, z1, z2, z3⟩
            by_cases e : x = p
            · exact absurd (e ▸ z2) hno
            · exact ⟨x, by omega, z2, z3⟩
        refine ih (p + 1) (by omega) M1 b _ hfr h50 (hb.trans ?_) (mKP_iff hR (fun a _ x _ => or_congr Iff.rfl (and_congr Iff.rfl ⟨fun z => ⟨by omega, z.2⟩, fun z => ⟨?_, z.2⟩⟩))) (fun v hv => (hZ v hv).trans (hx _))
        · have := hx (fun _ => True)
          simp only [and_true] at this
          exact this
        · by_cases e : x = p
          · exact absurd (e ▸ z.2) hno
          · omega
      | true =>
        have hyes : N q p := hnp.mp hh
        refine xF_go o_Mo_loads [9, 54] 60 (fun K hK => ?_)
        repeat' ((conv => whnf); first | refine ⟨fun h => ?_, fun h => ?_⟩ | refine ⟨?_, ?_⟩ | refine hK _ _ _ _ ?_)
        · exact absurd (show b2 true = 0 from by assumption) (by decide)
        · rw [e64]; exact vp_in_nI (N := 1536) (by omega) (by decide)
        · exact Or.inr rfl
        · rw [e64, nI_clamp (by omega)]
          clear hK K
          have e0 : xsI M1 74 (upd (M1.1 74) (64 * k + p) 1) = xsL (xsI M1 74 (upd (M1.1 74) (64 * k + p) 1)) 79 (jn (M1.2 79) (M1.2 70) (4 * (64 * k + p)) 0) := by
            rw [jn_0]
            exact (xsL_id (fun i => rfl)).symm
          have key := L_ldw l G k p hk (by omega) (nI q) 1 (xsI M1 74 (upd (M1.1 74) (64 * k + p) 1)) Q ?_ 4 0 (by omega)
          · have key2 : xF l G y_Mo_loads 54 [some (.ref 50), some (.int (nI k)), some (.int (nI q)), some (.int 1), some (.int (nI p)), some (.int (nI 0))] [] (xsL (xsI M1 74 (upd (M1.1 74) (64 * k + p) 1)) 79 (jn (M1.2 79) (M1.2 70) (4 * (64 * k + p)) 0)) Q := key
            rw [← e0] at key2
            exact key2
          · intro y'
            refine xF_go o_Mo_loads [9] 60 (fun K hK => ?_)
            repeat' ((conv => whnf); first | refine ⟨fun h => ?_, fun h => ?_⟩ | refine ⟨?_, ?_⟩ | refine hK _ _ _ _ ?_)
            rw [nI_1]
            refine ih (p + 1) (by omega) _ true _ ((hfr.I (by simp) (by decide)).L (by simp)) h50 ⟨fun _ => ⟨p, by omega, hyes⟩, fun _ => rfl⟩ ?_ ?_
            · refine mKP_iff (mKP_set hR hk (show p < 64 by omega)) (fun a _ x _ => ?_)
              constructor
              · rintro ((z | z) | ⟨rfl, rfl⟩)
                · exact Or.inl z
                · exact Or.inr ⟨z.1, by omega, z.2.2⟩
                · exact Or.inr ⟨rfl, by omega, hyes⟩
              · rintro (z | z)
                · exact Or.inl (Or.inl z)
                · by_cases e : x = p
                  · exact Or.inr ⟨z.1, e⟩
                  · exact Or.inl (Or.inr ⟨z.1, by omega, z.2.2⟩)
            · intro v hv
              show sHas (jn (M1.2 79) (M1.2 70) (4 * (64 * k + p)) 4) 0 v = true ↔ _
              rw [sHas_jn _ _ _ hv, Bool.or_eq_true, hZ v hv, (hfr.1 70 (by decide)).2, hY k hk p (by omega) v hv]
              constructor
              · rintro (⟨x, z1, z2⟩ | z)
                · exact ⟨x, by omega, z2⟩
                · exact ⟨p, by omega, hyes, z⟩
              · rintro ⟨x, z1, z2, z3⟩
                by_cases e : x = p
                · exact Or.inr (e ▸ z3)
                · exact Or.inl ⟨x, by omega, z2, z3⟩
theorem E_loads (P : sP) (hw : wP P) (U : sU) (N : Nat → Nat → Prop) (m : Bool) (M : xMe) (hS : mS P M) (hU : mU U M) (hN : nw N M) (hm : mo m M) (k q : Nat) (hk : k < 24) (hq : q < 4) : xE l G y_Mo_loads [.ref 50, .int (nI k), .int (nI q)] M (fun v M' => ∃ b, v = some (.int (b2 b)) ∧ (b = true ↔ ∃ p, p < pS P k ∧ N q p) ∧ mU (uLoad U k (fun p => p < pS P k ∧ N q p)) M' ∧ nw N M' ∧ mo m M' ∧ stZ (fun v => ∃ p, (p < pS P k ∧ N q p) ∧ uY U k p v) M' ∧ ufr [74, 79] M M') := by
  obtain ⟨h1, h2, h3, h4, h5, h6, h7, h8, h9⟩ := hU
  refine xE_of [some (.ref 50), some (.int (nI k)), some (.int (nI q)), none, none, none] (by decide +kernel) (Nat.le_of_ble_eq_true rfl) rfl ?_
  refine xF_go o_Mo_loads [9] 60 (fun K hK => ?_)
  repeat' ((conv => whnf); first | refine ⟨fun h => ?_, fun h => ?_⟩ | refine ⟨?_, ?_⟩ | refine hK _ _ _ _ ?_)
  refine xF_callV o_Mo_loads [] rfl z_Mo_empty i_Mo_empty v_Mo_empty l_Mo_211 rfl ⟨⟨by decide, by decide⟩, rfl, rfl⟩ (Nat.le_of_ble_eq_true rfl) rfl rfl rfl (E_empty l G M) ?_
  rintro v M1 ⟨rfl, hZ, hfr, he⟩
  clear hK K
  refine xF_go o_Mo_loads [9] 60 (fun K hK => ?_)
  repeat' ((conv => whnf); first | refine ⟨fun h => ?_, fun h => ?_⟩ | refine ⟨?_, ?_⟩ | refine hK _ _ _ _ ?_)
  have e78 : nw N M1 := by unfold nw; rw [(hfr.1 78 (by decide)).2]; exact hN
  refine L_loads l G P hw N (uY U) (fun _ _ _ => True) k q hk hq (uRd U) M1 (by unfold mS; rw [he]; exact hS) e78 (by unfold m70; rw [(hfr.1 70 (by decide)).2]; exact h2) _ ?_ (pS P k) 0 (by omega) M1 false _ ufr.rf rfl ⟨(fun z => by cases z), fun ⟨x, z, _⟩ => by omega⟩ (mKP_iff (X := uRd U) (by unfold mKP; rw [he]; exact h6) (fun a _ x _ => ⟨Or.inl, fun z => z.elim id (fun z => by omega)⟩)) (fun v hv => (hZ v hv).trans ⟨False.elim, fun ⟨x, z, _⟩ => by omega⟩)
  intro M2 b hfr2 h50 hb hR hZ2
  have hfr' : ufr [74, 79] M M2 := (hfr.mono (by simp)).tr hfr2 (fun _ z => z)
  refine ⟨b, rfl, hb, ⟨?_, ?_, ?_, ?_, ?_, hR, ?_, ?_, ?_⟩, ?_, ?_, hZ2, hfr'⟩
  · unfold m69; rw [(hfr'.1 69 (by decide)).2]; exact h1
  · show m70 (uY U) M2; unfold m70; rw [(hfr'.1 70 (by decide)).2]; exact h2
  · unfold m71; rw [(hfr'.1 71 (by decide)).2]; exact h3
  · unfold m72; rw [(hfr'.1 72 (by decide)).1]; exact h4
  · unfold m73; rw [(hfr'.1 73 (by decide)).1]; exact h5
  · unfold mKP; rw [(hfr'.1 75 (by decide)).1]; exact h7
  · unfold cZ; rw [(hfr'.1 76 (by decide)).1]; exact h8
  · unfold cZ; rw [(hfr'.1 77 (by decide)).1]; exact h9
  · unfold nw; rw [(hfr'.1 78 (by decide)).2]; exact hN
  · unfold mo; rw [h50, he]; exact hm
end XM8
