/-! the reference's reach: takes, its loops -/
def uComp (U : sU) (a b : Nat) : sU := (uS U, uY U, uC U, uB U, uR U, uRd U, uFo U, uWr U, fun k => uCm U k ∨ (¬ a = b ∧ (k = a ∨ k = b)))
/-- an instruction's work ahead of the next place: what is held, what is at hand, whether it goes on, whether more was found -/
def tkm (P : sP) (U : sU) (f i : Nat) (q : Nat × Int32 × Int32 × Int32) (U1 : sU) (N : Nat → Nat → Prop) (b c : Bool) : Prop :=
  match q.1 with
  | 0 => U1 = U ∧ N = rs (uS U f i) (ix q.2.1) (fun v => v = ix q.2.2.1) ∧ b = true ∧ c = false
  | 1 => U1 = U ∧ N = rs (uS U f i) (ix q.2.1) (fun v => ∃ u, u < 256 ∧ uS U f i (ix q.2.1) u ∧ (u + ix (q.2.2.1 + 255) + 1) % 256 = v) ∧ b = true ∧ c = false
  | 2 => U1 = U ∧ N = rs (uS U f i) (ix q.2.1) (fun v => ∃ u, u < 256 ∧ uS U f i (ix q.2.1) u ∧ u &&& ix q.2.2.1 = v) ∧ b = true ∧ c = false
  | 3 => U1 = uLoad U (ix q.2.2.1) (fun p => p < pS P (ix q.2.2.1) ∧ uS U f i (ix q.2.2.2) p) ∧ N = rs (uS U f i) (ix q.2.1) (fun v => ∃ p, (p < pS P (ix q.2.2.1) ∧ uS U f i (ix q.2.2.2) p) ∧ uY U (ix q.2.2.1) p v) ∧ (b = true ↔ ∃ p, p < pS P (ix q.2.2.1) ∧ uS U f i (ix q.2.2.2) p) ∧ c = false
  | 4 => U1 = uStore U (ix q.2.1) (fun p => p < pS P (ix q.2.1) ∧ uS U f i (ix q.2.2.1) p) (uS U f i (ix q.2.2.2)) ∧ N = uS U f i ∧ (b = true ↔ ∃ p, p < pS P (ix q.2.1) ∧ uS U f i (ix q.2.2.1) p) ∧ (c = true ↔ ∃ p, (p < pS P (ix q.2.1) ∧ uS U f i (ix q.2.2.1) p) ∧ ∃ v, v < 256 ∧ uS U f i (ix q.2.2.2) v ∧ ¬ uY U (ix q.2.1) p v)
  | 5 => U1 = uAdd U (ix q.2.1) (atU P (ix q.2.1) 0) (uS U f i) ∧ N = uB U (ix q.2.1) ∧ (b = true ↔ uR U (ix q.2.1)) ∧ (c = true ↔ uGw U (ix q.2.1) (atU P (ix q.2.1) 0) (uS U f i))
  | 6 => ((uS U f i (ix q.2.1) 0 ∧ U1 = uAdd U f (atU P f (nI i + q.2.2.1 + 1)) (rs (uS U f i) (ix q.2.1) (fun v => v = 0)) ∧ (c = true ↔ uGw U f (atU P f (nI i + q.2.2.1 + 1)) (rs (uS U f i) (ix q.2.1) (fun v => v = 0)))) ∨ (¬ uS U f i (ix q.2.1) 0 ∧ U1 = U ∧ c = false)) ∧ N = rs (uS U f i) (ix q.2.1) (fun v => ¬ v = 0 ∧ uS U f i (ix q.2.1) v) ∧ (b = true ↔ ∃ v, v < 256 ∧ ¬ v = 0 ∧ uS U f i (ix q.2.1) v)
  | 7 => U1 = U ∧ N = uS U f i ∧ b = true ∧ c = false
  | 9 => U1 = U ∧ N = rs (uS U f i) (ix q.2.1) (fun _ => True) ∧ b = true ∧ c = false
  | 10 => U1 = uComp U (ix q.2.2.1) (ix q.2.2.2) ∧ N = rs (uS U f i) (ix q.2.1) (fun v => (ix q.2.2.1 = ix q.2.2.2 ∧ v = 1) ∨ (¬ ix q.2.2.1 = ix q.2.2.2 ∧ v = 0)) ∧ b = true ∧ c = false
  | 11 => U1 = uFoll P U (ix q.2.2.1) (fun p => p < 64 ∧ uS U f i (ix q.2.2.2) p ∧ (pR P (ix q.2.2.1) p).isSome) ∧ N = rs (uS U f i) (ix q.2.1) (fun v => ∃ p, (p < 64 ∧ uS U f i (ix q.2.2.2) p ∧ (pR P (ix q.2.2.1) p).isSome) ∧ ∃ t, pR P (ix q.2.2.1) p = some t ∧ uY U t 0 v) ∧ (b = true ↔ ∃ p, p < 64 ∧ uS U f i (ix q.2.2.2) p ∧ (pR P (ix q.2.2.1) p).isSome) ∧ c = false
  | _ => False
/-- a place taken -/
def tku (P : sP) (U : sU) (f i : Nat) (U' : sU) (c : Bool) : Prop :=
  (((pC P f).length = i ∨ ∃ q, (pC P f)[i]? = some q ∧ q.1 = 8) ∧ U' = uRet U f (uS U f i) ∧ (c = true ↔ uRw U f (uS U f i))) ∨ (∃ q U1 N b c1, (pC P f)[i]? = some q ∧ ¬ q.1 = 8 ∧ tkm P U f i q U1 N b c1 ∧ ((b = true ∧ U' = uAdd U1 f (atU P f (nI i + 1)) N ∧ ∃ c2, c = (c1 || c2) ∧ (c2 = true ↔ uGw U1 f (atU P f (nI i + 1)) N)) ∨ (b = false ∧ U' = U1 ∧ c = c1)))
section XTA
variable (l : Launch) (G : xG)
theorem E_MputZ (Z : Nat → Prop) (M : xMe) (hZ : stZ Z M) (v : Nat) (hv : v < 256) : xE l G y_Mo_put [.ref 50, .int (nI v)] M (fun r M' => r = none ∧ stZ (fun u => Z u ∨ u = v) M' ∧ ufr [79] M M' ∧ M'.1 = M.1) := by
  refine xE_post (fun r M' hq => ?_) (E_Mput l G v hv M)
  obtain ⟨h1, h2⟩ := hq
  refine ⟨h1, fun u hu => ?_, by rw [h2]; exact ufr.rf.L (by simp), by rw [h2]; rfl⟩
  have := sHas_upd (M.2 79) 0 hv hu
  rw [Nat.zero_add] at this
  rw [h2, xsL_2, if_pos rfl, this, Bool.or_eq_true, decide_eq_true_iff, hZ u hu]
theorem L_tk1 (k : Nat) (hk : k < 492) (f i : Int32) (M0 : xMe) (Q : Option Value → xMe → Prop) (hQ : ∀ y, xF l G y_Mo_takes 42 [some (.ref 50), some (.int f), some (.int i), some (.int (nI k)), y, none, none, none, none] [] (xsL M0 78 (rowIn (M0.2 78) 0 16 (fun w => M0.2 69 (16 * k + w)))) Q) : ∀ (m w : Nat), m + w = 16 → xF l G y_Mo_takes 10 [some (.ref 50), some (.int f), some (.int i), some (.int (nI k)), some (.int (nI w)), none, none, none, none] [] (xsL M0 78 (rowIn (M0.2 78) 0 w (fun w => M0.2 69 (16 * k + w)))) Q := by
  intro m
  induction m with
  | zero =>
    intro w hw
    obtain rfl : w = 16 := by omega
    refine xF_go o_Mo_takes [10, 42] 60 (fun K hK => ?_)
    repeat' ((conv => whnf); first | refine ⟨fun h => ?_, fun h => ?_⟩ | refine ⟨?_, ?_⟩ | refine hK _ _ _ _ ?_)
    · exact hQ _
    all_goals exact absurd (show nI 16 < nI 16 from by assumption) (nI_nlt (by omega) (by omega))
  | succ m ih =>
    intro w hw
    have hih := ih (w + 1) (by omega)
    have e16 : 16 * nI k + nI w = nI (16 * k + w) := by rw [show 16 * nI k = nI (16 * k) from pk_mul 16 k, nI_add]
    rw [rowIn_s, Nat.zero_add] at hih
    refine xF_go o_Mo_takes [10, 42] 60 (fun K hK => ?_)
    repeat' ((conv => whnf); first | refine ⟨fun h => ?_, fun h => ?_⟩ | refine ⟨?_, ?_⟩ | refine hK _ _ _ _ ?_)
    · exact absurd (nI_lt (b := 16) (by omega) (by omega)) h
    · rw [e16]; exact vp_in_nI (N := 7872) (by omega) (by decide)
    · exact vp_in_nI (N := 16) (by omega) (by decide)
    · rw [e16, nI_1, nI_clamp (n := w) (by omega), nI_clamp (by omega), xsL_LL]
      exact hih
theorem L_tk5 (g : Nat) (hg : g < 12) (f i k b c s : Int32) (M0 : xMe) (Q : Option Value → xMe → Prop) (hQ : ∀ y, xF l G y_Mo_takes 351 [some (.ref 50), some (.int f), some (.int i), some (.int k), some (.int (nI g)), some (.int b), some (.int c), some (.int s), y] [] (xsL M0 78 (rowIn (M0.2 78) 0 16 (fun w => M0.2 71 (16 * g + w)))) Q) : ∀ (m w : Nat), m + w = 16 → xF l G y_Mo_takes 318 [some (.ref 50), some (.int f), some (.int i), some (.int k), some (.int (nI g)), some (.int b), some (.int c), some (.int s), some (.int (nI w))] [] (xsL M0 78 (rowIn (M0.2 78) 0 w (fun w => M0.2 71 (16 * g + w)))) Q := by
  intro m
  induction m with
  | zero =>
    intro w hw
    obtain rfl : w = 16 := by omega
    refine xF_go o_Mo_takes [318, 351] 60 (fun K hK => ?_)
    repeat' ((conv => whnf); first | refine ⟨fun h => ?_, fun h => ?_⟩ | refine ⟨?_, ?_⟩ | refine hK _ _ _ _ ?_)
    · exact hQ _
    all_goals exact absurd (show nI 16 < nI 16 from by assumption) (nI_nlt (by omega) (by omega))
  | succ m ih =>
    intro w hw
    have hih := ih (w + 1) (by omega)
    have e16 : 16 * nI g + nI w = nI (16 * g + w) := by rw [show 16 * nI g = nI (16 * g) from pk_mul 16 g, nI_add]
    rw [rowIn_s, Nat.zero_add] at hih
    refine xF_go o_Mo_takes [318, 351] 60 (fun K hK => ?_)
    repeat' ((conv => whnf); first | refine ⟨fun h => ?_, fun h => ?_⟩ | refine ⟨?_, ?_⟩ | refine hK _ _ _ _ ?_)
    · exact absurd (nI_lt (b := 16) (by omega) (by omega)) h
    · rw [e16]; exact vp_in_nI (N := 192) (by omega) (by decide)
    · exact vp_in_nI (N := 16) (by omega) (by decide)
    · rw [e16, nI_1, nI_clamp (n := w) (by omega), nI_clamp (by omega), xsL_LL]
      exact hih
theorem L_tk9 (r : Nat) (hr : r < 4) (f i k b c s : Int32) (M0 : xMe) (Q : Option Value → xMe → Prop) (hQ : ∀ y, xF l G y_Mo_takes 399 [some (.ref 50), some (.int f), some (.int i), some (.int k), some (.int (nI r)), some (.int b), some (.int c), some (.int s), y] [] (xsL M0 78 (rowIn (M0.2 78) (4 * r) 4 (fun _ => -1))) Q) : ∀ (m w : Nat), m + w = 4 → xF l G y_Mo_takes 372 [some (.ref 50), some (.int f), some (.int i), some (.int k), some (.int (nI r)), some (.int b), some (.int c), some (.int s), some (.int (nI w))] [] (xsL M0 78 (rowIn (M0.2 78) (4 * r) w (fun _ => -1))) Q := by
  intro m
  induction m with
  | zero =>
    intro w hw
    obtain rfl : w = 4 := by omega
    refine xF_go o_Mo_takes [372, 399] 60 (fun K hK => ?_)
    repeat' ((conv => whnf); first | refine ⟨fun h => ?_, fun h => ?_⟩ | refine ⟨?_, ?_⟩ | refine hK _ _ _ _ ?_)
    · exact hQ _
    all_goals exact absurd (show nI 4 < nI 4 from by assumption) (nI_nlt (by omega) (by omega))
  | succ m ih =>
    intro w hw
    have hih := ih (w + 1) (by omega)
    have e2 : 4 * nI r + nI w = nI (4 * r + w) := by rw [four_n, nI_add]
    rw [rowIn_s] at hih
    refine xF_go o_Mo_takes [372, 399] 60 (fun K hK => ?_)
    repeat' ((conv => whnf); first | refine ⟨fun h => ?_, fun h => ?_⟩ | refine ⟨?_, ?_⟩ | refine hK _ _ _ _ ?_)
    · exact absurd (nI_lt (b := 4) (by omega) (by omega)) h
    · rw [e2]; exact vp_in_nI (N := 16) (by omega) (by decide)
    · rw [e2, nI_1, nI_clamp (by omega), xsL_LL]
      exact hih
/-- each value's sum or mask -/
theorem L_tk2 (P : sP) (N : Nat → Nat → Prop) (r : Nat) (hr : r < 4) (f i b c s : Int32) (kk : Nat) (hkk : kk < 492) (o : Nat) (ho : o = 1 ∨ o = 2) (img : Nat → Nat) (himg : ∀ v, v < 256 → img v < 256 ∧ (o = 1 → (nI v + b + 256) &&& 255 = nI (img v)) ∧ (o = 2 → nI v &&& b = nI (img v))) (M0 : xMe) (hN : nw N M0) (hop : M0.1 58 kk = nI o) (Q : Option Value → xMe → Prop) (hQ : ∀ M y, ufr [79] M0 M → M.1 = M0.1 → stZ (fun u => ∃ x, x < 256 ∧ N r x ∧ img x = u) M → xF l G y_Mo_takes 256 [some (.ref 50), some (.int f), some (.int i), some (.int (nI kk)), some (.int (nI r)), some (.int b), some (.int c), some (.int s), y] [] M Q) : ∀ (m v : Nat), m + v = 256 → ∀ M, ufr [79] M0 M → M.1 = M0.1 → stZ (fun u => ∃ x, x < v ∧ N r x ∧ img x = u) M → xF l G y_Mo_takes 190 [some (.ref 50), some (.int f), some (.int i), some (.int (nI kk)), some (.int (nI r)), some (.int b), some (.int c), some (.int s), some (.int (nI v))] [] M Q := by
  intro m
  induction m with
  | zero =>
    intro v hv M hfr h1 hZ
    obtain rfl : v = 256 := by omega
    refine xF_go o_Mo_takes [190, 256] 60 (fun K hK => ?_)
    repeat' ((conv => whnf); first | refine ⟨fun h => ?_, fun h => ?_⟩ | refine ⟨?_, ?_⟩ | refine hK _ _ _ _ ?_)
    · exact hQ M _ hfr h1 hZ
    all_goals exact absurd (show nI 256 < nI 256 from by assumption) (nI_nlt (by omega) (by omega))
  | succ m ih =>
    intro v hv M hfr h1 hZ
    have hk58 : M.1 58 (nI kk).toNatClampNeg = nI o := by rw [nI_clamp (by omega), h1]; exact hop
    obtain ⟨g1, g2, g3⟩ := himg v (by omega)
    refine xF_go o_Mo_takes [190, 256] 60 (fun K hK => ?_)
    repeat' ((conv => whnf); first | refine ⟨fun h => ?_, fun h => ?_⟩ | refine ⟨?_, ?_⟩ | refine hK _ _ _ _ ?_)
    · exact absurd (nI_lt (b := 256) (by omega) (by omega)) h
    · rw [four_n]
      refine xF_callV o_Mo_takes [.ref 78, .int (nI (4 * r)), .int (nI v)] rfl z_Mo_hasValue i_Mo_hasValue v_Mo_hasValue l_Mo_214 rfl ⟨⟨by decide, by decide⟩, rfl, rfl⟩ (Nat.le_of_ble_eq_true rfl) rfl rfl rfl (E_hasValue l G 78 (by simp) (4 * r) v (by omega) (by show _ < 16; omega) M) ?_
      rintro w M1 ⟨rfl, rfl⟩
      clear hK K
      have hnp : sHas (M1.2 78) (4 * r) v = true ↔ N r v := by
        rw [(hfr.1 78 (by decide)).2]
        exact hN r hr v (by omega)
      cases hh : sHas (M1.2 78) (4 * r) v with
      | false =>
        have hno : ¬ N r v := fun z => by rw [hnp.mpr z] at hh; cases hh
        refine xF_go o_Mo_takes [190, 256] 60 (fun K hK => ?_)
        repeat' ((conv => whnf); first | refine ⟨fun h => ?_, fun h => ?_⟩ | refine ⟨?_, ?_⟩ | refine hK _ _ _ _ ?_)
        all_goals first | exact absurd rfl (show ¬ b2 false = 0 from by assumption) | skip
        rw [nI_1]
        refine ih (v + 1) (by omega) M1 hfr h1 (fun u hu => (hZ u hu).trans ⟨fun ⟨x, z1, z2⟩ => ⟨x, by omega, z2⟩, fun ⟨x, z1, z2⟩ => ⟨x, ?_, z2⟩⟩)
        by_cases e : x = v
        · exact absurd (e ▸ z2.1) hno
        · omega
      | true =>
        have hyes := hnp.mp hh
        have fin : ∀ M2, stZ (fun u => (∃ x, x < v ∧ N r x ∧ img x = u) ∨ u = img v) M2 → ufr [79] M1 M2 → M2.1 = M1.1 → xF l G y_Mo_takes 250 [some (.ref 50), some (.int f), some (.int i), some (.int (nI kk)), some (.int (nI r)), some (.int b), some (.int c), some (.int s), some (.int (nI v))] [] M2 Q := by
          intro M2 hZ2 hfr2 h2
          refine xF_go o_Mo_takes [190] 60 (fun K hK => ?_)
          repeat' ((conv => whnf); first | refine ⟨fun h => ?_, fun h => ?_⟩ | refine ⟨?_, ?_⟩ | refine hK _ _ _ _ ?_)
          rw [nI_1]
          refine ih (v + 1) (by omega) M2 (hfr.tr hfr2 (fun _ z => z)) (h2.trans h1) (fun u hu => (hZ2 u hu).trans ?_)
          constructor
          · rintro (⟨x, z1, z2⟩ | z)
            · exact ⟨x, by omega, z2⟩
            · exact ⟨v, by omega, hyes, z.symm⟩
          · rintro ⟨x, z1, z2, z3⟩
            by_cases e : x = v
            · exact Or.inr (by rw [← z3, e])
            · exact Or.inl ⟨x, by omega, z2, z3⟩
        refine xF_go o_Mo_takes [190, 250, 256] 60 (fun K hK => ?_)
        repeat' ((conv => whnf); first | refine ⟨fun h => ?_, fun h => ?_⟩ | refine ⟨?_, ?_⟩ | refine hK _ _ _ _ ?_)
        · exact absurd (show b2 true = 0 from by assumption) (by decide)
        · exact vp_in_nI (N := 492) hkk (by decide)
        · have h0 : ¬ M1.1 58 (nI kk).toNatClampNeg = nI 1 := by assumption
          rw [hk58] at h0
          have ho2 : o = 2 := ho.resolve_left (fun z => h0 (by rw [z]))
          rw [g3 ho2]
          refine xF_callV o_Mo_takes [.int (nI (img v))] rfl z_Mo_put i_Mo_put v_Mo_put l_Mo_222 rfl ⟨⟨by decide, by decide⟩, rfl, rfl⟩ (Nat.le_of_ble_eq_true rfl) rfl rfl rfl (E_MputZ l G _ M1 hZ (img v) g1) ?_
          rintro w M2 ⟨rfl, hZ2, hfr2, h2⟩
          exact fin M2 hZ2 hfr2 h2
        · have h0 : M1.1 58 (nI kk).toNatClampNeg = nI 1 := by assumption
          rw [hk58] at h0
          have ho1 : o = 1 := nI_inj (by omega) (by decide) h0
          rw [g2 ho1]
          refine xF_callV o_Mo_takes [.int (nI (img v))] rfl z_Mo_put i_Mo_put v_Mo_put l_Mo_222 rfl ⟨⟨by decide, by decide⟩, rfl, rfl⟩ (Nat.le_of_ble_eq_true rfl) rfl rfl rfl (E_MputZ l G _ M1 hZ (img v) g1) ?_
          rintro w M2 ⟨rfl, hZ2, hfr2, h2⟩
          exact fin M2 hZ2 hfr2 h2
end XTA
