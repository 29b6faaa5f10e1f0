/-! the reference: next, bytesOf, tries -/
theorem ene_map {A S B : Nat → Nat} : ∀ (p : List Nat) (e : Nat), ene A S e (p.map B) = ene (fun i => A (B i)) (fun i => S (B i)) e p
  | [], _ => rfl
  | b :: t, e => ene_map t _
/-- rows of c numbers below c, each once -/
def okp (c : Nat) (p : List Nat) : Prop := p.length = c ∧ (∀ x, x ∈ p → x < c) ∧ p.Nodup
theorem okp_oks {c : Nat} {p : List Nat} : okp c p ↔ oks c (fun _ => False) p := by
  constructor
  · rintro ⟨h1, h2, h3⟩
    refine ⟨h3, fun x => ⟨fun z => ⟨h2 x z, fun y => y⟩, fun z => Classical.byContradiction (fun y => ?_)⟩⟩
    have a := List.Nodup.length_le_of_subset (l₁ := x :: p) (l₂ := List.range c) (List.nodup_cons.mpr ⟨y, h3⟩) (fun w hw => by
      rw [List.mem_range]
      rcases List.mem_cons.mp hw with e | e
      · rw [e]; exact z.1
      · exact h2 w e)
    rw [List.length_cons, List.length_range] at a
    omega
  · rintro h
    refine ⟨?_, fun x hx => ((h.2 x).mp hx).1, h.1⟩
    rw [oks_len p h]
    have : ∀ n, lft (fun _ => False) n = n := by
      intro n
      induction n with
      | zero => rfl
      | succ n ih =>
        show lft (fun _ => False) n + (if tb False = true then 0 else 1) = n + 1
        rw [ih, if_nt (fun z => z)]
    exact this _
theorem oks_range (c : Nat) : oks c (fun _ => False) (List.range c) := ⟨List.nodup_range, fun x => by rw [List.mem_range]; exact ⟨fun z => ⟨z, fun y => y⟩, fun z => z.1⟩⟩
/-- the best of those below n -/
def bts1 (A S : Nat → Nat) (c n : Nat) (p : List Nat) : Prop := okp c p ∧ enc c p < n ∧ ∀ q, okp c q → enc c q < n → ene A S 0 p < ene A S 0 q ∨ (ene A S 0 p = ene A S 0 q ∧ enc c p ≤ enc c q)
theorem pow7 : ∀ c, c ≤ 7 → c ^ c ≤ 823543 := by decide
theorem pow7' : ∀ c, c ≤ 7 → ∀ i, i ≤ c → c ^ i ≤ 823543 := by decide
section XMT
variable (l : Launch) (G : xG)
theorem E_Mnext (e a : Nat) (ha : one8 a) (he : e < 2048) (M : xMe) : xE l G y_Mo_next [.int (nI e), .int (nI a)] M (fun r M' => M' = M ∧ r = some (.int (nI (nx e a)))) := by
  have h8 : 0 < a ∧ a ≤ 8 := by rcases ha with rfl | rfl | rfl | rfl <;> omega
  have hle := nx_ge (e := e) ha
  have e1 : nI e + nI a - 1 = nI (e + a - 1) := by
    rw [nI_add]
    exact pk_sub (b := 1) (by omega)
  refine xE_of [some (.int (nI e)), some (.int (nI a))] (by decide +kernel) (Nat.le_of_ble_eq_true rfl) rfl ?_
  refine xF_go o_Mo_next [] 60 (fun K hK => ?_)
  repeat' ((conv => whnf); first | refine ⟨fun h => ?_, fun h => ?_⟩ | refine ⟨?_, ?_⟩ | refine hK _ _ _ _ ?_)
  · intro z
    have : a = 0 := nI_inj (b := 0) (by omega) (by omega) z
    omega
  · refine xF_iret o_Mo_next rfl rfl ?_
    refine ⟨rfl, ?_⟩
    rw [e1, pk_div (by omega) h8.1 (by omega), pk_mul]
    rfl
theorem E_MbytesOf (A S : Nat → Nat) (R : List Nat) (hR : R.length ≤ 24) (hk : ∀ k, k ∈ R → k < 24 ∧ one8 (A k) ∧ S k ≤ 64) (M : xMe) (h56 : M.1 50 56 = nI R.length) (h93 : ∀ i x, R[i]? = some x → M.1 93 i = nI x) (hS : ∀ k, k < 24 → M.1 51 k = nI (S k) ∧ M.1 88 k = nI (A k)) : xE l G y_Mo_bytesOf [.ref 50] M (fun r M' => M' = M ∧ r = some (.int (nI (ene A S 0 R)))) := by
  refine xE_cps (fun Q hQ => ?_)
  have loop : ∀ (t pre : List Nat), R = pre ++ t → xF l G y_Mo_bytesOf 4 [some (.ref 50), some (.int (nI (ene A S 0 pre))), some (.int (nI pre.length))] [] M Q := by
    intro t
    induction t with
    | nil =>
      intro pre eR
      rw [List.append_nil] at eR
      subst eR
      refine xF_go o_Mo_bytesOf [4] 60 (fun K hK => ?_)
      repeat' ((conv => whnf); first | refine ⟨fun h => ?_, fun h => ?_⟩ | refine ⟨?_, ?_⟩ | refine hK _ _ _ _ ?_)
      · refine xF_iret o_Mo_bytesOf rfl rfl ?_
        exact hQ _ _ ⟨rfl, rfl⟩
      all_goals
        have h0 := (show nI R.length < M.1 50 56 from by assumption)
        rw [h56, nI_ltI (by omega) (by omega)] at h0
        omega
    | cons b t ih =>
      intro pre eR
      have hlen : R.length = pre.length + (t.length + 1) := by rw [eR, List.length_append, List.length_cons]
      obtain ⟨b1, b2', b3⟩ := hk b (by rw [eR]; simp)
      have hle := ene_le (A := A) (S := S) pre 0 (fun c hc => (hk c (by rw [eR]; simp [hc])).2)
      have hge := nx_ge (e := ene A S 0 pre) b2'
      have hcn : (nI pre.length).toNatClampNeg = pre.length := nI_clamp (by omega)
      have hcb : (nI b).toNatClampNeg = b := nI_clamp (by omega)
      have v93 : M.1 93 (nI pre.length).toNatClampNeg = nI b := by
        rw [hcn]
        refine h93 _ _ ?_
        rw [eR, List.getElem?_append_right (Nat.le_refl _), Nat.sub_self]
        rfl
      refine xF_go o_Mo_bytesOf [4] 60 (fun K hK => ?_)
      repeat' ((conv => whnf); first | refine ⟨fun h => ?_, fun h => ?_⟩ | refine ⟨?_, ?_⟩ | refine hK _ _ _ _ ?_)
      · have h0 := (show ¬ nI pre.length < M.1 50 56 from by assumption)
        rw [h56, nI_ltI (by omega) (by omega)] at h0
        omega
      · exact vp_in_nI (by show _ < 24; omega) (by decide)
      · rw [v93]; exact vp_in_nI b1 (by decide)
      · rw [v93, hcb, (hS b b1).2]
        refine xF_callS o_Mo_bytesOf [.int (nI (ene A S 0 pre)), .int (nI (A b))] rfl z_Mo_next s_Mo_next l_Mo_270 rfl ⟨⟨by decide, by decide⟩, rfl, rfl⟩ (Nat.le_of_ble_eq_true rfl) rfl (E_Mnext l G (ene A S 0 pre) (A b) b2' (by omega) M) ?_
        rintro v M' ⟨eM, rfl⟩; obtain rfl := eM.symm
        clear hK K
        refine xF_go o_Mo_bytesOf [4] 60 (fun K hK => ?_)
        repeat' ((conv => whnf); first | refine ⟨fun h => ?_, fun h => ?_⟩ | refine ⟨?_, ?_⟩ | refine hK _ _ _ _ ?_)
        · exact vp_in_nI (by show _ < 24; omega) (by decide)
        · rw [v93]; exact vp_in_nI b1 (by decide)
        · rw [v93, hcb, (hS b b1).1, nI_add, nI_1]
          have := ih (pre ++ [b]) (by rw [eR, List.append_assoc]; rfl)
          rw [ene_app, List.length_append] at this
          exact this
  refine xE_of [some (.ref 50), none, none] (by decide +kernel) (Nat.le_of_ble_eq_true rfl) rfl ?_
  refine xF_go o_Mo_bytesOf [4] 60 (fun K hK => ?_)
  repeat' ((conv => whnf); first | refine ⟨fun h => ?_, fun h => ?_⟩ | refine ⟨?_, ?_⟩ | refine hK _ _ _ _ ?_)
  exact loop R [] rfl
theorem E_Mtries (A0 S0 : Nat → Nat) (Bl : List Nat) (hc : Bl.length ≤ 7) (hB : ∀ k, k ∈ Bl → k < 24 ∧ one8 (A0 k) ∧ S0 k ≤ 64) (M : xMe) (h92 : m92 92 Bl M) (hS : ∀ k, k < 24 → M.1 51 k = nI (S0 k) ∧ M.1 88 k = nI (A0 k)) : xE l G y_Mo_tries [.ref 50] M (fun r M' => r = none ∧ vfr [93, 94, 95] [58] M M' ∧ ∃ p, fst1 (fun i => A0 (Bl.getD i 0)) (fun i => S0 (Bl.getD i 0)) Bl.length (fun _ => False) 0 p ∧ p.length = Bl.length ∧ ∀ i x, p[i]? = some x → M'.1 94 i = nI (Bl.getD x 0)) := by
  refine xE_cps (fun Q hQ => ?_)
  generalize ec : Bl.length = c at hc
  generalize eB : (fun i => Bl.getD i 0) = B
  have eB' : ∀ i, Bl.getD i 0 = B i := fun i => by rw [← eB]
  generalize eA : (fun i => A0 (Bl.getD i 0)) = A at hQ
  generalize eS : (fun i => S0 (Bl.getD i 0)) = S at hQ
  have eA' : (fun i => A0 (B i)) = A := by rw [← eA, ← eB]
  have eS' : (fun i => S0 (B i)) = S := by rw [← eS, ← eB]
  have gB : ∀ i, i < c → Bl[i]? = some (B i) := fun i hi => by
    rw [← eB' i, List.getD_eq_getElem?_getD, List.getElem?_eq_getElem (by omega)]
    rfl
  have mB : ∀ i, i < c → B i ∈ Bl := fun i hi => List.mem_of_getElem? (gB i hi)
  have v92 : ∀ i, i < c → M.1 92 i = nI (B i) := fun i hi => h92.2 i _ (gB i hi)
  have v56 : M.1 50 56 = nI c := by rw [← ec]; exact h92.1
  have pc7 := pow7 c hc
  -- the end
  have done : ∀ M1 y3 y4 y5 y6 p, vfr [93, 94, 95] [58] M M1 → bts1 A S c (c ^ c) p → (∀ i x, p[i]? = some x → M1.1 94 i = nI (B x)) → xF l G y_Mo_tries 216 [some (.ref 50), some (.int (nI (c ^ c))), some (.int (nI (c ^ c))), y3, y4, y5, y6] [] M1 Q := by
    intro M1 y3 y4 y5 y6 p f1 h1 h2
    refine xF_vret o_Mo_tries rfl rfl ?_
    refine hQ _ _ ⟨rfl, f1, p, ?_, ?_, fun i x hx => ?_⟩
    · rw [ec]
      refine ⟨okp_oks.mp h1.1, fun q hq => ?_⟩
      have hq' := okp_oks.mpr hq
      have := enc_lt q hq'.2.1
      rw [hq'.1] at this
      exact h1.2.2 q hq' this
    · rw [ec]; exact h1.1.1
    · rw [eB' x]; exact h2 i x hx
  -- one number after the other
  have main : xF l G y_Mo_tries 25 [some (.ref 50), some (.int (nI (c ^ c))), some (.int (nI c)), none, none, none, none] [] M Q := by
    refine xF_go o_Mo_tries [32] 60 (fun K hK => ?_)
    repeat' ((conv => whnf); first | refine ⟨fun h => ?_, fun h => ?_⟩ | refine ⟨?_, ?_⟩ | refine hK _ _ _ _ ?_)
    clear hK K
    refine loopN2 (σ := xMe) (τ := (Option Value × Option Value) × Option Value × Option Value) (c ^ c) (fun n M1 _ => vfr [93, 94, 95] [58] M M1 ∧ ((M1.1 50 58 = -1 ∧ ∀ q, okp c q → ¬ enc c q < n) ∨ ∃ p, bts1 A S c n p ∧ M1.1 50 58 = nI (ene A S 0 p) ∧ ∀ i x, p[i]? = some x → M1.1 94 i = nI (B x))) (fun n M1 y => xF l G y_Mo_tries 32 [some (.ref 50), some (.int (nI (c ^ c))), some (.int (nI n)), y.1.1, y.1.2, y.2.1, y.2.2] [] M1 Q) ?_ ?_ (c ^ c) 0 rfl _ ((none, none), none, none) ⟨vfr.rf.F (by simp), Or.inl ⟨rfl, fun q _ => Nat.not_lt_zero _⟩⟩
    · intro n hn M1 y hI next
      obtain ⟨⟨y3, y4⟩, y5, y6⟩ := y
      obtain ⟨f1, i1⟩ := hI
      show xF l G y_Mo_tries 32 [some (.ref 50), some (.int (nI (c ^ c))), some (.int (nI n)), y3, y4, y5, y6] [] M1 Q
      have w56 : M1.1 50 56 = nI c := by rw [f1.2 56 (by decide)]; exact v56
      -- the number is read
      have read : ∀ M2 s (w3 : Int32) z5 z6, vfr [93, 95] [] M1 M2 → s.length = c → (∀ x, x ∈ s → x < c) → enc c s = n → (∀ i x, s[i]? = some x → M2.1 93 i = nI (B x)) → xF l G y_Mo_tries 146 [some (.ref 50), some (.int (nI (c ^ c))), some (.int (nI n)), some (.int w3), some (.int (b2 (tb s.Nodup))), z5, z6] [] M2 Q := by
        intro M2 s w3 z5 z6 f2 s1 s2 s3 s4
        have f2' : vfr [93, 94, 95] [58] M M2 := f1.tr f2 (by decide) (by decide)
        have w58 : M2.1 50 58 = M1.1 50 58 := f2.2 58 (by simp)
        have w94 : M2.1 94 = M1.1 94 := f2.at (by decide)
        have u56 : M2.1 50 56 = nI c := by rw [f2'.2 56 (by decide)]; exact v56
        have uS : ∀ k, k < 24 → M2.1 51 k = nI (S0 k) ∧ M2.1 88 k = nI (A0 k) := by
          rw [f2'.at (by decide), f2'.at (by decide)]
          exact hS
        have skip : (s.Nodup → ∃ p, bts1 A S c n p ∧ M1.1 50 58 = nI (ene A S 0 p) ∧ (∀ i x, p[i]? = some x → M1.1 94 i = nI (B x)) ∧ ¬ ene A S 0 s < ene A S 0 p) → ∀ z3 z4 z5 z6, xF l G y_Mo_tries 210 [some (.ref 50), some (.int (nI (c ^ c))), some (.int (nI n)), z3, z4, z5, z6] [] M2 Q := by
          intro hsk z3 z4 z5 z6
          refine xF_go o_Mo_tries [32] 60 (fun K hK => ?_)
          repeat' ((conv => whnf); first | refine ⟨fun h => ?_, fun h => ?_⟩ | refine ⟨?_, ?_⟩ | refine hK _ _ _ _ ?_)
          rw [nI_1]
          refine next _ ((_, _), _, _) ⟨f2', ?_⟩
          rw [w58, w94]
          have hstep : ∀ q, okp c q → enc c q < n + 1 → enc c q < n ∨ q = s := by
            intro q hq hlt
            rcases Nat.lt_succ_iff_lt_or_eq.mp hlt with z | z
            · exact Or.inl z
            · exact Or.inr (enc_inj q s (by rw [hq.1, s1]) hq.2.1 s2 (by rw [z, s3]))
          by_cases hnd : s.Nodup
          · obtain ⟨p, p1, p2, p3, p4⟩ := hsk hnd
            refine Or.inr ⟨p, ⟨p1.1, Nat.lt_succ_of_lt p1.2.1, fun q hq hlt => ?_⟩, p2, p3⟩
            rcases hstep q hq hlt with z | z
            · exact p1.2.2 q hq z
            · rw [z]
              have := p1.2.1
              omega
          · rcases i1 with ⟨j1, j2⟩ | ⟨p, p1, p2, p3⟩
            · refine Or.inl ⟨j1, fun q hq hlt => ?_⟩
              rcases hstep q hq hlt with z | z
              · exact j2 q hq z
              · exact hnd (z ▸ hq.2.2)
            · refine Or.inr ⟨p, ⟨p1.1, Nat.lt_succ_of_lt p1.2.1, fun q hq hlt => ?_⟩, p2, p3⟩
              rcases hstep q hq hlt with z | z
              · exact p1.2.2 q hq z
              · exact absurd (z ▸ hq.2.2) hnd
        by_cases hnd : s.Nodup
        · rw [tb_t.mpr hnd]
          have hokp : okp c s := ⟨s1, s2, hnd⟩
          -- bytes of this order
          have hR : (s.map B).length ≤ 24 := by rw [List.length_map, s1]; omega
          have hRk : ∀ k, k ∈ s.map B → k < 24 ∧ one8 (A0 k) ∧ S0 k ≤ 64 := by
            intro k hk
            obtain ⟨x, x1, rfl⟩ := List.mem_map.mp hk
            exact hB _ (mB x (s2 x x1))
          have h93 : ∀ i x, (s.map B)[i]? = some x → M2.1 93 i = nI x := by
            intro i x hx
            rw [List.getElem?_map] at hx
            cases e : s[i]? with
            | none => rw [e] at hx; cases hx
            | some y =>
              rw [e] at hx
              cases hx
              exact s4 i y e
          have ebytes : ene A0 S0 0 (s.map B) = ene A S 0 s := by rw [ene_map, eA', eS']
          have hble : ene A S 0 s ≤ 497 := by
            rw [← ebytes]
            have := ene_le (A := A0) (S := S0) (s.map B) 0 (fun k hk => (hRk k hk).2)
            rw [List.length_map, s1] at this
            omega
          have eby := E_MbytesOf l G A0 S0 (s.map B) hR hRk M2 (by rw [List.length_map, s1]; exact u56) h93 uS
          rw [ebytes] at eby
          -- it is the best so far
          have take : (∀ q, okp c q → enc c q < n → ene A S 0 s < ene A S 0 q) → ∀ z5 z6, xF l G y_Mo_tries 170 [some (.ref 50), some (.int (nI (c ^ c))), some (.int (nI n)), some (.int w3), some (.int (b2 true)), z5, z6] [] M2 Q := by
            intro hbest z5 z6
            refine xF_go o_Mo_tries [32] 60 (fun K hK => ?_)
            repeat' ((conv => whnf); first | refine ⟨fun h => ?_, fun h => ?_⟩ | refine ⟨?_, ?_⟩ | refine hK _ _ _ _ ?_)
            refine xF_callV o_Mo_tries [] rfl z_Mo_bytesOf i_Mo_bytesOf v_Mo_bytesOf l_Mo_276 rfl ⟨⟨by decide, by decide⟩, rfl, rfl⟩ (Nat.le_of_ble_eq_true rfl) rfl rfl rfl eby ?_
            rintro v M' ⟨eM, rfl⟩; obtain rfl := eM.symm
            clear hK K
            refine xF_go o_Mo_tries [32, 181] 60 (fun K hK => ?_)
            repeat' ((conv => whnf); first | refine ⟨fun h => ?_, fun h => ?_⟩ | refine ⟨?_, ?_⟩ | refine hK _ _ _ _ ?_)
            clear hK K
            refine loopN (σ := xMe) c (fun i M3 => vfr [93, 94, 95] [58] M M3 ∧ M3.1 50 58 = nI (ene A S 0 s) ∧ M3.1 93 = M2.1 93 ∧ ∀ j x, j < i → s[j]? = some x → M3.1 94 j = nI (B x)) (fun i M3 => xF l G y_Mo_tries 181 [some (.ref 50), some (.int (nI (c ^ c))), some (.int (nI n)), some (.int w3), some (.int (b2 true)), some (.int (nI i)), z6] [] M3 Q) ?_ ?_ c 0 rfl _ ⟨f2'.F (by simp), rfl, rfl, fun j x hj => absurd hj (Nat.not_lt_zero _)⟩
            · intro i hi M3 hI3 next3
              obtain ⟨f3, k58, k93, k94⟩ := hI3
              have hci : (nI i).toNatClampNeg = i := nI_clamp (by omega)
              have k56 : M3.1 50 56 = nI c := by rw [f3.2 56 (by decide)]; exact v56
              refine xF_go o_Mo_tries [32, 181] 60 (fun K hK => ?_)
              repeat' ((conv => whnf); first | refine ⟨fun h => ?_, fun h => ?_⟩ | refine ⟨?_, ?_⟩ | refine hK _ _ _ _ ?_)
              · have h0 := (show ¬ nI i < M3.1 50 56 from by assumption)
                rw [k56, nI_ltI (by omega) (by omega)] at h0
                omega
              · exact vp_in_nI (by show _ < 24; omega) (by decide)
              · exact vp_in_nI (by show _ < 24; omega) (by decide)
              · rw [nI_1, hci]
                refine next3 _ ⟨f3.I (by simp) (by decide), k58, k93, fun j x hj hx => ?_⟩
                rw [xsI_s]
                by_cases e : j = i
                · subst e
                  rw [upd_s, k93]
                  exact s4 j x hx
                · rw [upd_n e]
                  exact k94 j x (by omega) hx
            · intro M3 hI3
              obtain ⟨f3, k58, k93, k94⟩ := hI3
              have k56 : M3.1 50 56 = nI c := by rw [f3.2 56 (by decide)]; exact v56
              refine xF_go o_Mo_tries [32, 181] 60 (fun K hK => ?_)
              repeat' ((conv => whnf); first | refine ⟨fun h => ?_, fun h => ?_⟩ | refine ⟨?_, ?_⟩ | refine hK _ _ _ _ ?_)
              · rw [nI_1]
                refine next _ ((_, _), _, _) ⟨f3, Or.inr ⟨s, ⟨hokp, by omega, fun q hq hlt => ?_⟩, k58, fun i x hx => k94 i x ?_ hx⟩⟩
                · rcases Nat.lt_succ_iff_lt_or_eq.mp hlt with z | z
                  · exact Or.inl (hbest q hq z)
                  · have : q = s := enc_inj q s (by rw [hq.1, s1]) hq.2.1 s2 (by rw [z, s3])
                    rw [this]
                    exact Or.inr ⟨rfl, Nat.le_refl _⟩
                · have := (List.getElem?_eq_some_iff.mp hx).1
                  omega
              all_goals
                have h0 := (show nI c < M3.1 50 56 from by assumption)
                rw [k56, nI_ltI (by omega) (by omega)] at h0
                omega
          refine xF_go o_Mo_tries [32, 170, 210] 60 (fun K hK => ?_)
          repeat' ((conv => whnf); first | refine ⟨fun h => ?_, fun h => ?_⟩ | refine ⟨?_, ?_⟩ | refine hK _ _ _ _ ?_)
          · exact absurd (show b2 true = 0 from by assumption) (by decide)
          · have h0 := (show M2.1 50 58 = -1 from by assumption)
            rw [w58] at h0
            refine take (fun q hq hlt => ?_) _ _
            rcases i1 with ⟨j1, j2⟩ | ⟨p, p1, p2, p3⟩
            · exact absurd hlt (j2 q hq)
            · rw [h0] at p2
              exact absurd (p2 ▸ nI_pos' (n := ene A S 0 p) (by
                have := ene_le (A := A) (S := S) p 0 (fun k hk => by
                  rw [← eA', ← eS']
                  exact (hB _ (mB k (p1.1.2.1 k hk))).2)
                have := p1.1.1
                omega)) (by decide)
          · have h0 := (show ¬ M2.1 50 58 = -1 from by assumption)
            rw [w58] at h0
            refine xF_callV o_Mo_tries [] rfl z_Mo_bytesOf i_Mo_bytesOf v_Mo_bytesOf l_Mo_276 rfl ⟨⟨by decide, by decide⟩, rfl, rfl⟩ (Nat.le_of_ble_eq_true rfl) rfl rfl rfl eby ?_
            rintro v M' ⟨eM, rfl⟩; obtain rfl := eM.symm
            clear hK K
            rcases i1 with ⟨j1, j2⟩ | ⟨p, p1, p2, p3⟩
            · exact absurd j1 h0
            · have hple : ene A S 0 p ≤ 497 := by
                have := ene_le (A := A) (S := S) p 0 (fun k hk => by
                  rw [← eA', ← eS']
                  exact (hB _ (mB k (p1.1.2.1 k hk))).2)
                have := p1.1.1
                omega
              refine xF_go o_Mo_tries [32, 170, 210] 60 (fun K hK => ?_)
              repeat' ((conv => whnf); first | refine ⟨fun h => ?_, fun h => ?_⟩ | refine ⟨?_, ?_⟩ | refine hK _ _ _ _ ?_)
              · have h1 := (show ¬ nI (ene A S 0 s) < M2.1 50 58 from by assumption)
                rw [w58, p2, nI_ltI (by omega) (by omega)] at h1
                exact skip (fun _ => ⟨p, p1, p2, p3, h1⟩) _ _ _ _
              · have h1 := (show nI (ene A S 0 s) < M2.1 50 58 from by assumption)
                rw [w58, p2, nI_ltI (by omega) (by omega)] at h1
                refine take (fun q hq hlt => ?_) _ _
                have := p1.2.2 q hq hlt
                omega
        · rw [tb_f.mpr hnd]
          refine xF_go o_Mo_tries [32, 170, 210] 60 (fun K hK => ?_)
          repeat' ((conv => whnf); first | refine ⟨fun h => ?_, fun h => ?_⟩ | refine ⟨?_, ?_⟩ | refine hK _ _ _ _ ?_)
          · exact skip (fun z => absurd z hnd) _ _ _ _
          all_goals exact absurd rfl (show ¬ b2 false = 0 from by assumption)
      -- digits from the last on
      have digits : ∀ (m : Nat), m ≤ c → ∀ (M2 : xMe) (s : List Nat) (rest : Nat) (z6 : Option Value), vfr [93, 95] [] M1 M2 → s.length + m = c → (∀ x, x ∈ s → x < c) → n = rest * c ^ s.length + enc c s → (∀ i x, s[i]? = some x → M2.1 93 (m + i) = nI (B x)) → (∀ x, x < c → M2.1 95 x = b2 (tb (x ∈ s))) → xF l G y_Mo_tries 76 [some (.ref 50), some (.int (nI (c ^ c))), some (.int (nI n)), some (.int (nI rest)), some (.int (b2 (tb s.Nodup))), some (.int (nI m - 1)), z6] [] M2 Q := by
        intro m
        induction m with
        | zero =>
          intro hm M2 s rest z6 f2 s1 s2 s3 s4 s5
          refine xF_go o_Mo_tries [76, 146] 60 (fun K hK => ?_)
          repeat' ((conv => whnf); first | refine ⟨fun h => ?_, fun h => ?_⟩ | refine ⟨?_, ?_⟩ | refine hK _ _ _ _ ?_)
          · have hsl : s.length = c := by omega
            rw [hsl] at s3
            have hr0 : rest = 0 := by
              rcases Nat.eq_zero_or_pos rest with z | z
              · exact z
              · have : 1 * c ^ c ≤ rest * c ^ c := Nat.mul_le_mul_right _ z
                omega
            refine read M2 s _ _ _ f2 hsl s2 (by rw [hr0] at s3; omega) (fun i x hx => ?_)
            have := s4 i x hx
            rw [Nat.zero_add] at this
            exact this
          all_goals exact absurd (show (nI 0 - 1 : Int32) < 0 from by decide) (by assumption)
        | succ m ih =>
          intro hm M2 s rest z6 f2 s1 s2 s3 s4 s5
          have f2' : vfr [93, 94, 95] [58] M M2 := f1.tr f2 (by decide) (by decide)
          have u56 : M2.1 50 56 = nI c := by rw [f2'.2 56 (by decide)]; exact v56
          have hc0 : 0 < c := by omega
          have hcs : 1 ≤ c ^ s.length := Nat.one_le_pow _ _ hc0
          have hrest : rest ≤ 823543 := by
            have : rest * 1 ≤ rest * c ^ s.length := Nat.mul_le_mul_left _ hcs
            omega
          have hmod : rest % c < c := Nat.mod_lt _ hc0
          have em : nI (m + 1) - 1 = nI m := pk_sub (b := 1) (by omega)
          have hcm : (nI m).toNatClampNeg = m := nI_clamp (by omega)
          have hck : (nI (rest % c)).toNatClampNeg = rest % c := nI_clamp (by omega)
          have erem : nI rest - nI rest / nI c * nI c = nI (rest % c) := pk_rem (by omega) hc0 (by omega)
          have ediv : nI rest / nI c = nI (rest / c) := pk_div (by omega) hc0 (by omega)
          have hnz : ¬ M2.1 50 56 = 0 := by
            rw [u56]
            intro z
            have : c = 0 := nI_inj (b := 0) (by omega) (by omega) z
            omega
          have v95 : M2.1 95 (rest % c) = b2 (tb (rest % c ∈ s)) := s5 _ hmod
          have w92 : M2.1 92 (rest % c) = nI (B (rest % c)) := by rw [f2'.at (by decide)]; exact v92 _ hmod
          have enew : n = rest / c * c ^ (rest % c :: s).length + enc c (rest % c :: s) := by
            rw [List.length_cons]
            show n = rest / c * c ^ (s.length + 1) + ((rest % c) * c ^ s.length + enc c s)
            rw [Nat.pow_succ, s3]
            have h1 : rest * c ^ s.length = (c * (rest / c) + rest % c) * c ^ s.length := by rw [Nat.div_add_mod]
            rw [h1, Nat.add_mul]
            have h2 : c * (rest / c) * c ^ s.length = rest / c * (c ^ s.length * c) := by
              rw [Nat.mul_comm c (rest / c), Nat.mul_assoc, Nat.mul_comm c (c ^ s.length)]
            omega
          have go : ∀ z : Bool, (z = true ↔ (rest % c :: s).Nodup) → xF l G y_Mo_tries 116 [some (.ref 50), some (.int (nI (c ^ c))), some (.int (nI n)), some (.int (nI (rest / c))), some (.int (b2 (tb s.Nodup))), some (.int (nI m)), some (.int (nI (rest % c)))] [.int (b2 z)] M2 Q := by
            intro z hz
            refine xF_go o_Mo_tries [76] 60 (fun K hK => ?_)
            repeat' ((conv => whnf); first | refine ⟨fun h => ?_, fun h => ?_⟩ | refine ⟨?_, ?_⟩ | refine hK _ _ _ _ ?_)
            · exact vp_in_nI (by show _ < 24; omega) (by decide)
            · exact Or.inr rfl
            · exact vp_in_nI (by show _ < 24; omega) (by decide)
            · exact vp_in_nI (by show _ < 24; omega) (by decide)
            · rw [hck, hcm, show (xsI M2 95 (upd (M2.1 95) (rest % c) 1)).1 92 = M2.1 92 from rfl, show (xsI M2 95 (upd (M2.1 95) (rest % c) 1)).1 93 = M2.1 93 from rfl, w92, show nI m + -1 = nI m - 1 by grind, tb_b hz]
              refine ih (by omega) _ (rest % c :: s) (rest / c) _ ((f2.I (by simp) (by decide)).I (by simp) (by decide)) (by rw [List.length_cons]; omega) (fun x hx => ?_) enew (fun i x hx => ?_) (fun x hx => ?_)
              · rcases List.mem_cons.mp hx with e | e
                · rw [e]; exact hmod
                · exact s2 x e
              · show upd (M2.1 93) m (nI (B (rest % c))) (m + i) = nI (B x)
                cases i with
                | zero =>
                  simp at hx
                  rw [Nat.add_zero, upd_s, hx]
                | succ i =>
                  rw [upd_n (by omega), show m + (i + 1) = m + 1 + i by omega]
                  exact s4 i x hx
              · show upd (M2.1 95) (rest % c) 1 x = _
                by_cases e : x = rest % c
                · rw [e, upd_s, tb_t.mpr List.mem_cons_self]
                  rfl
                · rw [upd_n e, s5 x hx]
                  exact congrArg b2 (tb_c ⟨List.mem_cons_of_mem _, fun w => (List.mem_cons.mp w).elim (fun v => absurd v e) id⟩)
          rw [em]
          refine xF_go o_Mo_tries [76, 116, 146] 60 (fun K hK => ?_)
          repeat' ((conv => whnf); first | refine ⟨fun h => ?_, fun h => ?_⟩ | refine ⟨?_, ?_⟩ | refine hK _ _ _ _ ?_)
          · exact absurd (show nI m < 0 from by assumption) (nI_pos (by omega))
          · exact hnz
          · exact hnz
          · have h0 : b2 (tb s.Nodup) = 0 := by assumption
            rw [b2_0, tb_f] at h0
            rw [u56, erem, ediv]
            exact go false ⟨fun z => (by cases z), fun z => absurd (List.nodup_cons.mp z).2 h0⟩
          · rw [u56, erem]; exact vp_in_nI (by show _ < 24; omega) (by decide)
          · have h0 := (show ¬ M2.1 95 (M2.1 50 56 |> fun w => nI rest - nI rest / w * w).toNatClampNeg = 0 from by assumption)
            replace h0 : ¬ M2.1 95 (nI rest - nI rest / M2.1 50 56 * M2.1 50 56).toNatClampNeg = 0 := h0
            rw [u56, erem, hck, v95, b2_ne, tb_t] at h0
            rw [u56, erem, ediv]
            exact go false ⟨fun z => (by cases z), fun z => absurd h0 (List.nodup_cons.mp z).1⟩
          · have h0 := (show M2.1 95 (nI rest - nI rest / M2.1 50 56 * M2.1 50 56).toNatClampNeg = 0 from by assumption)
            rw [u56, erem, hck, v95, b2_0, tb_f] at h0
            have h1 : ¬ b2 (tb s.Nodup) = 0 := by assumption
            rw [b2_ne, tb_t] at h1
            rw [u56, erem, ediv]
            exact go true ⟨fun _ => List.nodup_cons.mpr ⟨h0, h1⟩, fun _ => rfl⟩
      refine xF_go o_Mo_tries [32, 45, 216] 60 (fun K hK => ?_)
      repeat' ((conv => whnf); first | refine ⟨fun h => ?_, fun h => ?_⟩ | refine ⟨?_, ?_⟩ | refine hK _ _ _ _ ?_)
      · exact absurd (nI_lt (b := c ^ c) hn (by omega)) h
      · clear hK K
        refine loopN (σ := xMe) c (fun i M2 => vfr [93, 95] [] M1 M2 ∧ ∀ j, j < i → M2.1 95 j = 0) (fun i M2 => xF l G y_Mo_tries 45 [some (.ref 50), some (.int (nI (c ^ c))), some (.int (nI n)), some (.int (nI n)), some (.int (b2 true)), some (.int (nI i)), y6] [] M2 Q) ?_ ?_ c 0 rfl M1 ⟨vfr.rf, fun j hj => absurd hj (Nat.not_lt_zero _)⟩
        · intro i hi M2 hI2 next2
          obtain ⟨f2, g2⟩ := hI2
          have u56 : M2.1 50 56 = nI c := by rw [f2.2 56 (by simp)]; exact w56
          have hci : (nI i).toNatClampNeg = i := nI_clamp (by omega)
          refine xF_go o_Mo_tries [45, 76] 60 (fun K hK => ?_)
          repeat' ((conv => whnf); first | refine ⟨fun h => ?_, fun h => ?_⟩ | refine ⟨?_, ?_⟩ | refine hK _ _ _ _ ?_)
          · have h0 := (show ¬ nI i < M2.1 50 56 from by assumption)
            rw [u56, nI_ltI (by omega) (by omega)] at h0
            omega
          · exact vp_in_nI (by show _ < 24; omega) (by decide)
          · exact Or.inl rfl
          · rw [nI_1, hci]
            refine next2 _ ⟨f2.I (by simp) (by decide), fun j hj => ?_⟩
            rw [xsI_s]
            by_cases e : j = i
            · rw [e, upd_s]
            · rw [upd_n e]; exact g2 j (by omega)
        · intro M2 hI2
          obtain ⟨f2, g2⟩ := hI2
          have u56 : M2.1 50 56 = nI c := by rw [f2.2 56 (by simp)]; exact w56
          refine xF_go o_Mo_tries [45, 76] 60 (fun K hK => ?_)
          repeat' ((conv => whnf); first | refine ⟨fun h => ?_, fun h => ?_⟩ | refine ⟨?_, ?_⟩ | refine hK _ _ _ _ ?_)
          · rw [u56]
            have := digits c (Nat.le_refl _) M2 [] n y6 f2 (by simp) (fun x hx => by simp at hx) (by show n = n * c ^ 0 + 0; rw [Nat.pow_zero]; omega) (fun i x hx => by simp at hx) (fun x hx => by rw [g2 x hx, tb_f.mpr (by simp)]; rfl)
            rw [tb_t.mpr List.nodup_nil] at this
            exact this
          all_goals
            have h0 := (show nI c < M2.1 50 56 from by assumption)
            rw [u56, nI_ltI (by omega) (by omega)] at h0
            omega
    · intro M1 y hI
      obtain ⟨⟨y3, y4⟩, y5, y6⟩ := y
      obtain ⟨f1, i1⟩ := hI
      show xF l G y_Mo_tries 32 [some (.ref 50), some (.int (nI (c ^ c))), some (.int (nI (c ^ c))), y3, y4, y5, y6] [] M1 Q
      refine xF_go o_Mo_tries [32, 45, 216] 60 (fun K hK => ?_)
      repeat' ((conv => whnf); first | refine ⟨fun h => ?_, fun h => ?_⟩ | refine ⟨?_, ?_⟩ | refine hK _ _ _ _ ?_)
      · rcases i1 with ⟨j1, j2⟩ | ⟨p, p1, p2, p3⟩
        · have hr := okp_oks.mpr (oks_range c)
          have := enc_lt (List.range c) hr.2.1
          rw [hr.1] at this
          exact absurd this (j2 _ hr)
        · exact done M1 _ _ _ _ p f1 p1 p3
      all_goals exact absurd (show nI (c ^ c) < nI (c ^ c) from by assumption) (nI_nlt (by omega) (by omega))
  refine xE_of [some (.ref 50), none, none, none, none, none, none] (by decide +kernel) (Nat.le_of_ble_eq_true rfl) rfl ?_
  refine xF_go o_Mo_tries [4] 60 (fun K hK => ?_)
  repeat' ((conv => whnf); first | refine ⟨fun h => ?_, fun h => ?_⟩ | refine ⟨?_, ?_⟩ | refine hK _ _ _ _ ?_)
  clear hK K
  refine loopN (σ := Unit) c (fun _ _ => True) (fun i _ => xF l G y_Mo_tries 4 [some (.ref 50), some (.int (nI (c ^ i))), some (.int (nI i)), none, none, none, none] [] M Q) ?_ ?_ c 0 rfl () trivial
  · intro i hi _ _ next
    refine xF_go o_Mo_tries [4, 25] 60 (fun K hK => ?_)
    repeat' ((conv => whnf); first | refine ⟨fun h => ?_, fun h => ?_⟩ | refine ⟨?_, ?_⟩ | refine hK _ _ _ _ ?_)
    · have h0 := (show ¬ nI i < M.1 50 56 from by assumption)
      rw [v56, nI_ltI (by omega) (by omega)] at h0
      omega
    · rw [v56, pk_mul, nI_1]
      exact next () trivial
  · intro _ _
    refine xF_go o_Mo_tries [4, 25] 60 (fun K hK => ?_)
    repeat' ((conv => whnf); first | refine ⟨fun h => ?_, fun h => ?_⟩ | refine ⟨?_, ?_⟩ | refine hK _ _ _ _ ?_)
    · exact main
    all_goals
      have h0 := (show nI c < M.1 50 56 from by assumption)
      rw [v56, nI_ltI (by omega) (by omega)] at h0
      omega
end XMT
