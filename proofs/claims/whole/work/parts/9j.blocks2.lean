/-! BlockOrder: choose, arrange -/
/-- the choice -/
def chs (A S : Nat → Nat) (c m e b : Nat) : Prop := (b < c ∧ ¬ bts m b) ∧ ∃ v, mns A S c (bts m) e v ∧ ned A S e b + mnv A S c (lad (bts m) b) (nx e (A b) + S b) = v ∧ ∀ b', b' < b → ¬ bts m b' → ¬ ned A S e b' + mnv A S c (lad (bts m) b') (nx e (A b') + S b') = v
set_option maxRecDepth 20000 in
theorem ac_BO : xAC y_BO_arrange.1.cls 18 := ⟨xtbm (List.mem_of_getElem? (i := 839) rfl) rfl, xtbm (List.mem_of_getElem? (i := 500) rfl) rfl, xtbm (List.mem_of_getElem? (i := 499) rfl) rfl, xtbm (List.mem_of_getElem? (i := 93) rfl) rfl⟩
section XB2
variable (l : Launch) (G : xG)
theorem E_choose (A0 S0 A S B : Nat → Nat) (c : Nat) (hc : c ≤ 7) (hA : ∀ x, x < c → one8 (A x)) (hS : ∀ x, x < c → S x ≤ 64) (M : xMe) (hM : c32 A0 S0 A S B c M) (hF : ∀ m, m < 2 ^ c → fwt A S c m M) (m e : Nat) (hm : m < 2 ^ c - 1) (he : e < 1900) : xE l G y_BO_choose [.ref 31, .int (nI m), .int (nI e), .int (nI c), .ref 34, .ref 35] M (fun r M' => M' = M ∧ ∃ b, r = some (.int (nI b)) ∧ chs A S c m e b) := by
  refine xE_cps (fun Q hQ => ?_)
  have h2 : 2 ^ c ≤ 128 := Nat.pow_le_pow_right (n := 2) (by omega) hc
  obtain ⟨v, v1, v2⟩ := hF m (by omega) (e % 8) (by omega)
  have hv : mns A S c (bts m) e v := mns_8 hA (by omega) v1
  have hvle := mns_le hA hS hc hv
  have fw : ∀ b, b < c → ∀ e, mns A S c (lad (bts m) b) e (mnv A S c (lad (bts m) b) e) ∧ M.1 33 ((m ||| 2 ^ b) * 8 + e % 8) = nI (mnv A S c (lad (bts m) b) e) := fun b hb e => fwt_at hA (hF _ (or_lt (by omega) hb))
  have e8 : nI m * 8 + (nI e - nI e / 8 * 8) = nI (m * 8 + e % 8) := by
    show nI m * nI 8 + (nI e - nI e / nI 8 * nI 8) = _
    rw [pk_mul, pk_rem (by omega) (by decide) (by decide), nI_add]
  -- one of them needs just the fewest
  have hex : ∃ b, b < c ∧ ¬ bts m b ∧ ned A S e b + mnv A S c (lad (bts m) b) (nx e (A b) + S b) = v := by
    obtain ⟨⟨p, q1, q2⟩, q3⟩ := hv
    cases p with
    | nil =>
      obtain ⟨x, x1, x2⟩ := bts_ex hm
      exact absurd (oks_nil.mp q1 x x1) x2
    | cons b t =>
      obtain ⟨⟨hb, hL⟩, ht⟩ := oks_cons.mp q1
      refine ⟨b, hb, hL, ?_⟩
      obtain ⟨⟨⟨p', r1, r2⟩, r3⟩, _⟩ := fw b hb (nx e (A b) + S b)
      have a1 := r3 t ht
      replace q2 : ene A S (nx e (A b) + S b) t = e + v := q2
      have a2 := q3 (b :: p') (oks_cons.mpr ⟨⟨hb, hL⟩, r1⟩)
      replace a2 : e + v ≤ ene A S (nx e (A b) + S b) p' := a2
      have hge := (nx_ge (e := e) (hA b hb)).1
      unfold ned
      omega
  refine xE_of [some (.ref 31), some (.int (nI m)), some (.int (nI e)), some (.int (nI c)), some (.ref 34), some (.ref 35), none, none, none] (by decide +kernel) (Nat.le_of_ble_eq_true rfl) rfl ?_
  refine xF_go o_BO_choose [19] 60 (fun K hK => ?_)
  repeat' ((conv => whnf); first | refine ⟨fun h => ?_, fun h => ?_⟩ | refine ⟨?_, ?_⟩ | refine hK _ _ _ _ ?_)
  · decide
  · rw [e8]; exact vp_in_nI (by show _ < 1024; omega) (by decide)
  · rw [e8, nI_clamp (by omega), v2]
    clear hK K
    refine loopN (σ := Option Value) c (fun n _ => ∀ b', b' < n → ¬ bts m b' → ¬ ned A S e b' + mnv A S c (lad (bts m) b') (nx e (A b') + S b') = v) (fun n x => xF l G y_BO_choose 19 [some (.ref 31), some (.int (nI m)), some (.int (nI e)), some (.int (nI c)), some (.ref 34), some (.ref 35), some (.int (nI v)), some (.int (nI n)), x] [] M Q) ?_ ?_ c 0 rfl none (fun b hb => absurd hb (Nat.not_lt_zero _))
    · intro n hn x hI next
      have on : ∀ y, (¬ bts m n → ¬ ned A S e n + mnv A S c (lad (bts m) n) (nx e (A n) + S n) = v) → xF l G y_BO_choose 66 [some (.ref 31), some (.int (nI m)), some (.int (nI e)), some (.int (nI c)), some (.ref 34), some (.ref 35), some (.int (nI v)), some (.int (nI n)), y] [] M Q := by
        intro y hy
        refine xF_go o_BO_choose [19] 60 (fun K hK => ?_)
        repeat' ((conv => whnf); first | refine ⟨fun h => ?_, fun h => ?_⟩ | refine ⟨?_, ?_⟩ | refine hK _ _ _ _ ?_)
        rw [nI_1]
        refine next _ (fun b' hb' hnb => ?_)
        by_cases z : b' = n
        · subst z; exact hy hnb
        · exact hI b' (by omega) hnb
      refine xF_go o_BO_choose [19, 66] 60 (fun K hK => ?_)
      repeat' ((conv => whnf); first | refine ⟨fun h => ?_, fun h => ?_⟩ | refine ⟨?_, ?_⟩ | refine hK _ _ _ _ ?_)
      · exact absurd (nI_lt (b := c) hn (by omega)) h
      · have h0 := (show ¬ ((nI m).toUInt32 >>> ((nI n).toUInt32 &&& Int32.toUInt32 31)).toInt32 &&& 1 = 0 from by assumption)
        rw [bt_7 m (by omega) n (by omega)] at h0
        refine on _ (fun z => absurd ?_ z)
        unfold bts
        cases e : m.testBit n with
        | true => rfl
        | false => exact absurd e h0
      · exact absurd rfl (show ¬ (0 : Int32) = 0 from by assumption)
      · exact absurd (show (1 : Int32) = 0 from by assumption) (by decide)
      · have h0 := (show ((nI m).toUInt32 >>> ((nI n).toUInt32 &&& Int32.toUInt32 31)).toInt32 &&& 1 = 0 from by assumption)
        rw [bt_7 m (by omega) n (by omega)] at h0
        have hb : ¬ bts m n := by
          unfold bts
          rw [h0]
          decide
        obtain ⟨w1, w2⟩ := fw n hn (nx e (A n) + S n)
        have hwle := mns_le hA hS hc w1
        have hge := nx_ge (e := e) (hA n hn)
        have hSn := hS n hn
        have hned : ned A S e n ≤ 71 := by unfold ned; omega
        refine xF_callV o_BO_choose [.int (nI m), .int (nI e), .int (nI n), .ref 34, .ref 35] rfl z_BO_need i_BO_need v_BO_need l_BO_37 rfl ⟨⟨by decide, by decide⟩, rfl, rfl⟩ (Nat.le_of_ble_eq_true rfl) rfl rfl rfl (E_need l G A0 S0 A S B c hc hA hS M hM m e n _ (by omega) he hn w2) ?_
        rintro v M' ⟨eM, rfl⟩; obtain rfl := eM.symm
        clear hK K
        refine xF_go o_BO_choose [19, 66] 60 (fun K hK => ?_)
        repeat' ((conv => whnf); first | refine ⟨fun h => ?_, fun h => ?_⟩ | refine ⟨?_, ?_⟩ | refine hK _ _ _ _ ?_)
        · have h1 := (show ¬ nI (ned A S e n + mnv A S c (lad (bts m) n) (nx e (A n) + S n)) = nI v from by assumption)
          exact on _ (fun _ z => h1 (by rw [z]))
        · have h1 := (show nI (ned A S e n + mnv A S c (lad (bts m) n) (nx e (A n) + S n)) = nI v from by assumption)
          refine xF_iret o_BO_choose rfl rfl ?_
          exact hQ _ _ ⟨rfl, n, rfl, ⟨hn, hb⟩, v, hv, nI_inj (by omega) (by omega) h1, hI⟩
    · intro x hI
      obtain ⟨b, b1, b2, b3⟩ := hex
      exact absurd b3 (hI b b1 b2)
theorem E_arrange (A0 S0 : Nat → Nat) (Bl : List Nat) (hc : Bl.length ≤ 7) (hB : ∀ k, k ∈ Bl → k < 24 ∧ one8 (A0 k) ∧ S0 k ≤ 64) (M : xMe) (hM : ∀ k, k < 24 → M.1 34 k = nI (S0 k) ∧ M.1 35 k = nI (A0 k)) (h41 : ∀ i k, Bl[i]? = some k → M.1 41 i = nI k) : xE l G y_BO_arrange [.ref 31, .ref 41, .int (nI Bl.length), .ref 34, .ref 35] M (fun r M' => r = none ∧ xfr [32, 33, 41] M M' ∧ ∃ p, fst1 (fun i => A0 (Bl.getD i 0)) (fun i => S0 (Bl.getD i 0)) Bl.length (fun _ => False) 0 p ∧ p.length = Bl.length ∧ ∀ i x, p[i]? = some x → M'.1 41 i = nI (Bl.getD x 0)) := by
  refine xE_cps (fun Q hQ => ?_)
  generalize ec : Bl.length = c at hc
  generalize eB : (fun i => Bl.getD i 0) = B
  have eB' : ∀ i, Bl.getD i 0 = B i := fun i => by rw [← eB]
  generalize eA : (fun i => A0 (Bl.getD i 0)) = A at hQ
  generalize eS : (fun i => S0 (Bl.getD i 0)) = S at hQ
  have eA' : ∀ i, A i = A0 (B i) := fun i => by rw [← eA, ← eB]
  have eS' : ∀ i, S i = S0 (B i) := fun i => by rw [← eS, ← eB]
  have gB : ∀ i, i < c → Bl[i]? = some (B i) := fun i hi => by
    rw [← eB' i, List.getD_eq_getElem?_getD, List.getElem?_eq_getElem (by omega)]
    rfl
  have mB : ∀ i, i < c → B i ∈ Bl := fun i hi => List.mem_of_getElem? (gB i hi)
  have hA : ∀ x, x < c → one8 (A x) := fun x hx => by rw [eA']; exact (hB _ (mB x hx)).2.1
  have hS : ∀ x, x < c → S x ≤ 64 := fun x hx => by rw [eS']; exact (hB _ (mB x hx)).2.2
  have h2 : 2 ^ c ≤ 128 := Nat.pow_le_pow_right (n := 2) (by omega) hc
  refine xE_of [some (.ref 31), some (.ref 41), some (.int (nI c)), some (.ref 34), some (.ref 35), none, none, none, none, none] (by decide +kernel) (Nat.le_of_ble_eq_true rfl) rfl ?_
  refine xF_go o_BO_arrange [] 60 (fun K hK => ?_)
  repeat' ((conv => whnf); first | refine ⟨fun h => ?_, fun h => ?_⟩ | refine ⟨?_, ?_⟩ | refine hK _ _ _ _ ?_)
  refine xF_copyi o_BO_arrange rfl ac_BO rfl rfl (by decide) (by decide) 0 0 c rfl rfl rfl (by show 0 + c ≤ 24; omega) (by show 0 + c ≤ 7; omega) ⟨by decide, by decide, by omega⟩ (Nat.le_of_ble_eq_true rfl) (by decide) ?_
  generalize hM1 : xsI M 32 _ = M1
  have f1 : xfr [32] M M1 := by
    rw [← hM1]
    exact xfr.rf.I (by simp)
  have hM2 : c32 A0 S0 A S B c M1 := by
    refine ⟨fun i hi => ⟨(hB _ (mB i hi)).1, ?_, eA' i, eS' i⟩, fun k hk => ?_⟩
    · rw [← hM1, xsI_s, pk_cpy_in (by omega) (by omega), show 0 + (i - 0) = i by omega]
      exact h41 i _ (gB i hi)
    · rw [(f1 34 (by decide)).1, (f1 35 (by decide)).1]
      exact hM k hk
  clear hM1 hK K
  refine xF_go o_BO_arrange [] 60 (fun K hK => ?_)
  repeat' ((conv => whnf); first | refine ⟨fun h => ?_, fun h => ?_⟩ | refine ⟨?_, ?_⟩ | refine hK _ _ _ _ ?_)
  refine xF_callV o_BO_arrange [.int (nI c), .ref 34, .ref 35] rfl z_BO_measure i_BO_measure v_BO_measure l_BO_24 rfl ⟨⟨by decide, by decide⟩, rfl, rfl⟩ (Nat.le_of_ble_eq_true rfl) rfl rfl rfl (E_measureB l G A0 S0 A S B c hc hA hS M1 hM2) ?_
  rintro v M2 ⟨rfl, f2, hF⟩
  have f12 : xfr [32, 33, 41] M M2 := (f1.mono (by simp)).tr f2 (by simp)
  have hM3 : c32 A0 S0 A S B c M2 := c32_fr f2 (by decide) hM2
  clear hK K
  refine xF_go o_BO_arrange [28] 60 (fun K hK => ?_)
  repeat' ((conv => whnf); first | refine ⟨fun h => ?_, fun h => ?_⟩ | refine ⟨?_, ?_⟩ | refine hK _ _ _ _ ?_)
  clear hK K
  refine loopN2 (σ := xMe) (τ := (Nat × Nat) × Option Value × Option Value) c (fun n M4 t => xfr [41] M2 M4 ∧ t.1.1 < 2 ^ c ∧ lft (bts t.1.1) c = c - n ∧ t.1.2 ≤ 71 * n ∧ ∃ pre : List Nat, pre.length = n ∧ (∀ i x, pre[i]? = some x → M4.1 41 i = nI (B x)) ∧ ∀ s, fst1 A S c (bts t.1.1) t.1.2 s → fst1 A S c (fun _ => False) 0 (pre ++ s)) (fun n M4 t => xF l G y_BO_arrange 28 [some (.ref 31), some (.ref 41), some (.int (nI c)), some (.ref 34), some (.ref 35), some (.int (nI t.1.1)), some (.int (nI t.1.2)), some (.int (nI n)), t.2.1, t.2.2] [] M4 Q) ?_ ?_ c 0 rfl M2 ((0, 0), none, none) ⟨xfr.rf, Nat.two_pow_pos c, ?_, Nat.le_refl _, [], rfl, fun i x z => (by simp at z), fun s hs => ?_⟩
  · intro n hn M4 t hI next
    obtain ⟨⟨m, e⟩, x8, x9⟩ := t
    obtain ⟨g1, g2, g3, g4, pre, p1, p2, p3⟩ := hI
    replace g2 : m < 2 ^ c := g2
    replace g3 : lft (bts m) c = c - n := g3
    replace g4 : e ≤ 71 * n := g4
    replace p3 : ∀ s, fst1 A S c (bts m) e s → fst1 A S c (fun _ => False) 0 (pre ++ s) := p3
    have hM4 : c32 A0 S0 A S B c M4 := c32_fr g1 (by decide) hM3
    have hF4 : ∀ m, m < 2 ^ c → fwt A S c m M4 := fun m hm r hr => by
      obtain ⟨w, w1, w2⟩ := hF m hm r hr
      exact ⟨w, w1, by rw [(g1 33 (by decide)).1]; exact w2⟩
    have hmlt : m < 2 ^ c - 1 := by
      rcases Nat.lt_or_eq_of_le (show m ≤ 2 ^ c - 1 by omega) with q | q
      · exact q
      · have := (lft_0 (L := bts m) c).mpr (fun x hx => by rw [q]; exact bts_full hx)
        omega
    show xF l G y_BO_arrange 28 [some (.ref 31), some (.ref 41), some (.int (nI c)), some (.ref 34), some (.ref 35), some (.int (nI m)), some (.int (nI e)), some (.int (nI n)), x8, x9] [] M4 Q
    refine xF_go o_BO_arrange [28] 60 (fun K hK => ?_)
    repeat' ((conv => whnf); first | refine ⟨fun h => ?_, fun h => ?_⟩ | refine ⟨?_, ?_⟩ | refine hK _ _ _ _ ?_)
    · exact absurd (nI_lt (b := c) hn (by omega)) h
    · refine xF_callV o_BO_arrange [.int (nI m), .int (nI e), .int (nI c), .ref 34, .ref 35] rfl z_BO_choose i_BO_choose v_BO_choose l_BO_28 rfl ⟨⟨by decide, by decide⟩, rfl, rfl⟩ (Nat.le_of_ble_eq_true rfl) rfl rfl rfl (E_choose l G A0 S0 A S B c hc hA hS M4 hM4 hF4 m e hmlt (by omega)) ?_
      rintro w M' ⟨eM, b, rfl, ⟨hb, hnb⟩, v, v1, v2, v3⟩; obtain rfl := eM.symm
      clear hK K
      obtain ⟨b1, b2', b3, b4⟩ := hM4.1 b hb
      obtain ⟨b5, b6⟩ := hM4.2 (B b) b1
      have hcb : (nI b).toNatClampNeg = b := nI_clamp (by omega)
      have hcB : (nI (B b)).toNatClampNeg = B b := nI_clamp (by omega)
      have hcn : (nI n).toNatClampNeg = n := nI_clamp (by omega)
      have v32 : M4.1 32 (nI b).toNatClampNeg = nI (B b) := by rw [hcb]; exact b2'
      have v35 : M4.1 35 (nI (B b)).toNatClampNeg = nI (A b) := by rw [hcB, b6, b3]
      have v34 : M4.1 34 (nI (B b)).toNatClampNeg = nI (S b) := by rw [hcB, b5, b4]
      have hge := nx_ge (e := e) (hA b hb)
      have hSb := hS b hb
      refine xF_go o_BO_arrange [28] 60 (fun K hK => ?_)
      repeat' ((conv => whnf); first | refine ⟨fun h => ?_, fun h => ?_⟩ | refine ⟨?_, ?_⟩ | refine hK _ _ _ _ ?_)
      · exact vp_in_nI (by show b < 7; omega) (by decide)
      · exact vp_in_nI (by show n < 24; omega) (by decide)
      · rw [v32]; exact vp_in_nI b1 (by decide)
      · rw [v32, hcn]
        rw [show (xsI M4 41 (upd (M4.1 41) n (nI (B b)))).1 35 = M4.1 35 from rfl, v35]
        refine xF_callS o_BO_arrange [.int (nI e), .int (nI (A b))] rfl z_BO_gap s_BO_gap l_BO_32 rfl ⟨⟨by decide, by decide⟩, rfl, rfl⟩ (Nat.le_of_ble_eq_true rfl) rfl (E_gap l G (nI e) (nI (A b)) _) ?_
        rintro w M5 ⟨rfl, rfl⟩
        rw [gap_n (hA b hb) (by omega)]
        clear hK K
        refine xF_go o_BO_arrange [28] 60 (fun K hK => ?_)
        repeat' ((conv => whnf); first | refine ⟨fun h => ?_, fun h => ?_⟩ | refine ⟨?_, ?_⟩ | refine hK _ _ _ _ ?_)
        · exact vp_in_nI b1 (by decide)
        · rw [show (xsI M4 41 (upd (M4.1 41) n (nI (B b)))).1 34 = M4.1 34 from rfl, v34, nI_1, nI_add, nI_add, or_7 m (by omega) b (by omega), show e + (nx e (A b) - e + S b) = nx e (A b) + S b by omega]
          refine next _ ((m ||| 2 ^ b, nx e (A b) + S b), _, _) ⟨g1.I (by simp), or_lt g2 hb, ?_, ?_, pre ++ [b], by simp [p1], fun i x hx => ?_, fun s hs => ?_⟩
          · show lft (bts (m ||| 2 ^ b)) c = c - (n + 1)
            rw [bts_or]
            have := lft_lad (L := bts m) hnb c
            rw [if_pos hb] at this
            omega
          · show nx e (A b) + S b ≤ 71 * (n + 1)
            omega
          · rw [xsI_s]
            by_cases z : i = n
            · subst z
              rw [List.getElem?_append_right (by omega)] at hx
              simp [p1] at hx
              rw [upd_s, hx]
            · rw [upd_n z]
              refine p2 i x ?_
              have hlt : i < (pre ++ [b]).length := (List.getElem?_eq_some_iff.mp hx).1
              rw [List.getElem?_append_left (by simp [p1] at hlt; omega)] at hx
              exact hx
          · replace hs : fst1 A S c (bts (m ||| 2 ^ b)) (nx e (A b) + S b) s := hs
            rw [bts_or] at hs
            have := p3 (b :: s) (fst1_step hA ⟨hb, hnb⟩ v1 (fun b => mnv A S c (lad (bts m) b) (nx e (A b) + S b)) (fun b' hb' hnb' => (fwt_at hA (hF4 _ (or_lt g2 hb'))).1) v2 v3 hs)
            rw [List.append_assoc]
            exact this
  · intro M4 t hI
    obtain ⟨⟨m, e⟩, x8, x9⟩ := t
    obtain ⟨g1, g2, g3, g4, pre, p1, p2, p3⟩ := hI
    replace g3 : lft (bts m) c = c - c := g3
    replace p3 : ∀ s, fst1 A S c (bts m) e s → fst1 A S c (fun _ => False) 0 (pre ++ s) := p3
    show xF l G y_BO_arrange 28 [some (.ref 31), some (.ref 41), some (.int (nI c)), some (.ref 34), some (.ref 35), some (.int (nI m)), some (.int (nI e)), some (.int (nI c)), x8, x9] [] M4 Q
    refine xF_go o_BO_arrange [28] 60 (fun K hK => ?_)
    repeat' ((conv => whnf); first | refine ⟨fun h => ?_, fun h => ?_⟩ | refine ⟨?_, ?_⟩ | refine hK _ _ _ _ ?_)
    · refine xF_vret o_BO_arrange rfl rfl ?_
      have hp := p3 [] (fst1_all ((lft_0 c).mp (by omega)))
      rw [List.append_nil] at hp
      refine hQ _ _ ⟨rfl, f12.tr g1 (by simp), pre, ?_, ?_, fun i x hx => ?_⟩
      · rw [ec]; exact hp
      · rw [ec]; exact p1
      · rw [eB' x]; exact p2 i x hx
    all_goals exact absurd (show nI c < nI c from by assumption) (nI_nlt (by omega) (by omega))
  · show lft (bts 0) c = c - 0
    have : ∀ n, lft (bts 0) n = n := by
      intro n
      induction n with
      | zero => rfl
      | succ n ih =>
        show lft (bts 0) n + (if tb (bts 0 n) = true then 0 else 1) = n + 1
        rw [ih, if_neg]
        rw [tb_t]
        unfold bts
        simp
    rw [this]
    rfl
  · replace hs : fst1 A S c (bts 0) 0 s := hs
    have e0 : bts 0 = fun _ => False := by
      funext x
      apply propext
      unfold bts
      simp
    rw [e0] at hs
    exact hs
end XB2
