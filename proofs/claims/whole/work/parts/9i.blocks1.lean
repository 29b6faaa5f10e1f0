/-! BlockOrder: need, measure -/
theorem gap_d : ∀ b, b < 4 → ∀ q, q < 32 → ∀ r, r < 64 → ((-(nI (64 * q + r))) &&& (nI (2 ^ b) - 1) : Int32) = nI ((64 * q + r + 2 ^ b - 1) / 2 ^ b * 2 ^ b - (64 * q + r)) := by decide +kernel
theorem gap_n {a e : Nat} (ha : one8 a) (he : e < 2048) : ((-(nI e)) &&& (nI a - 1) : Int32) = nI (nx e a - e) := by
  have h1 : 64 * (e / 64) + e % 64 = e := by omega
  have h2 : e / 64 < 32 := by omega
  have h3 : e % 64 < 64 := by omega
  have key := fun b hb => gap_d b hb (e / 64) h2 (e % 64) h3
  rw [h1] at key
  unfold nx
  rcases ha with rfl | rfl | rfl | rfl
  · exact key 0 (by decide)
  · exact key 1 (by decide)
  · exact key 2 (by decide)
  · exact key 3 (by decide)
theorem nx_sub {a e s : Nat} (ha : one8 a) : nx e a - e + s = nx e a + s - e := by
  have := (nx_ge (e := e) ha).1
  omega
theorem or_7 : ∀ m, m < 128 → ∀ b, b < 7 → (nI m ||| ((1 : Int32) <<< (nI b &&& 31))) = nI (m ||| 2 ^ b) := by decide +kernel
theorem sh_7 : ∀ b, b < 8 → ((1 : Int32) <<< (nI b &&& 31)) = nI (2 ^ b) := by decide +kernel
theorem bt_7 : ∀ m, m < 128 → ∀ b, b < 7 → ((((nI m).toUInt32 >>> ((nI b).toUInt32 &&& Int32.toUInt32 31)).toInt32 &&& 1 = 0) ↔ m.testBit b = false) := by decide +kernel
/-- the numbers laid, by bits -/
def bts (m : Nat) (x : Nat) : Prop := m.testBit x = true
theorem bts_or (m b : Nat) : bts (m ||| 2 ^ b) = lad (bts m) b := by
  funext x
  unfold bts lad
  rw [Nat.testBit_or, Nat.testBit_two_pow]
  apply propext
  rw [Bool.or_eq_true, decide_eq_true_iff]
  exact ⟨fun z => z.imp id Eq.symm, fun z => z.imp id Eq.symm⟩
theorem bts_all {c m : Nat} (hm : m < 2 ^ c) (h : ∀ x, x < c → bts m x) : m = 2 ^ c - 1 := by
  apply Nat.eq_of_testBit_eq
  intro i
  rw [Nat.testBit_two_pow_sub_one]
  by_cases e : i < c
  · rw [decide_eq_true e]
    exact h i e
  · rw [decide_eq_false e]
    exact Nat.testBit_lt_two_pow (Nat.lt_of_lt_of_le hm (Nat.pow_le_pow_right (by omega) (by omega)))
theorem bts_full {c x : Nat} (hx : x < c) : bts (2 ^ c - 1) x := by
  unfold bts
  rw [Nat.testBit_two_pow_sub_one]
  exact decide_eq_true hx
theorem or_gt {m b : Nat} (h : ¬ bts m b) : m < m ||| 2 ^ b := by
  have h1 : m ≤ m ||| 2 ^ b := Nat.left_le_or
  rcases Nat.lt_or_eq_of_le h1 with q | q
  · exact q
  · exfalso
    apply h
    have h2 : bts (m ||| 2 ^ b) b := by
      rw [bts_or]
      exact Or.inr rfl
    rw [← q] at h2
    exact h2
theorem or_lt {c m b : Nat} (hm : m < 2 ^ c) (hb : b < c) : m ||| 2 ^ b < 2 ^ c := Nat.or_lt_two_pow hm (Nat.pow_lt_pow_right (by omega) hb)
theorem bts_ex {c m : Nat} (h : m < 2 ^ c - 1) : ∃ x, x < c ∧ ¬ bts m x := by
  apply Classical.byContradiction
  intro z
  have := bts_all (c := c) (m := m) (by omega) (fun x hx => Classical.byContradiction (fun y => z ⟨x, hx, y⟩))
  omega
/-- the fewest, as a number -/
noncomputable def mnv (A S : Nat → Nat) (n : Nat) (L : Nat → Prop) (e : Nat) : Nat := @Classical.epsilon Nat ⟨0⟩ (fun m => mns A S n L e m)
theorem mnv_ok {A S : Nat → Nat} {n : Nat} {L : Nat → Prop} {e m : Nat} (h : mns A S n L e m) : mnv A S n L e = m := mns_1 (@Classical.epsilon_spec Nat (fun m => mns A S n L e m) ⟨m, h⟩) h
theorem mns_le {A S : Nat → Nat} {n : Nat} {L : Nat → Prop} {e m : Nat} (hA : ∀ x, x < n → one8 (A x)) (hS : ∀ x, x < n → S x ≤ 64) (hn : n ≤ 7) (h : mns A S n L e m) : m ≤ 497 := by
  obtain ⟨⟨p, h1, h2⟩, h3⟩ := h
  have a := ene_le (A := A) (S := S) p e (fun b hb => ⟨hA b ((h1.2 b).mp hb).1, hS b ((h1.2 b).mp hb).1⟩)
  have b := oks_len p h1
  have c := lft_le (L := L) n
  omega
/-- the room holds the fewest for the set m -/
def fwt (A S : Nat → Nat) (c m : Nat) (M : xMe) : Prop := ∀ r, r < 8 → ∃ w, mns A S c (bts m) r w ∧ M.1 33 (m * 8 + r) = nI w
/-- blocks as they were listed -/
def c32 (A0 S0 A S : Nat → Nat) (B : Nat → Nat) (c : Nat) (M : xMe) : Prop := (∀ i, i < c → B i < 24 ∧ M.1 32 i = nI (B i) ∧ A i = A0 (B i) ∧ S i = S0 (B i)) ∧ (∀ k, k < 24 → M.1 34 k = nI (S0 k) ∧ M.1 35 k = nI (A0 k))
theorem c32_fr {A0 S0 A S B : Nat → Nat} {c : Nat} {M M' : xMe} {Z : List Nat} (h : xfr Z M M') (hZ : 32 ∉ Z ∧ 34 ∉ Z ∧ 35 ∉ Z) (hM : c32 A0 S0 A S B c M) : c32 A0 S0 A S B c M' := by
  unfold c32
  rw [(h 32 hZ.1).1, (h 34 hZ.2.1).1, (h 35 hZ.2.2).1]
  exact hM
section XB1
variable (l : Launch) (G : xG)
theorem E_need (A0 S0 A S B : Nat → Nat) (c : Nat) (hc : c ≤ 7) (hA : ∀ x, x < c → one8 (A x)) (hS : ∀ x, x < c → S x ≤ 64) (M : xMe) (hM : c32 A0 S0 A S B c M) (m e b w : Nat) (hm : m < 2 ^ c) (he : e < 1900) (hb : b < c) (hw : M.1 33 ((m ||| 2 ^ b) * 8 + (nx e (A b) + S b) % 8) = nI w) : xE l G y_BO_need [.ref 31, .int (nI m), .int (nI e), .int (nI b), .ref 34, .ref 35] M (fun r M' => M' = M ∧ r = some (.int (nI (ned A S e b + w)))) := by
  have h2 : 2 ^ c ≤ 128 := Nat.pow_le_pow_right (n := 2) (by omega) hc
  obtain ⟨b1, b2', b3, b4⟩ := hM.1 b hb
  obtain ⟨b5, b6⟩ := hM.2 (B b) b1
  have hcb : (nI b).toNatClampNeg = b := nI_clamp (by omega)
  have hcB : (nI (B b)).toNatClampNeg = B b := nI_clamp (by omega)
  have v32 : M.1 32 (nI b).toNatClampNeg = nI (B b) := by rw [hcb]; exact b2'
  have v35 : M.1 35 (nI (B b)).toNatClampNeg = nI (A b) := by rw [hcB, b6, b3]
  have v34 : M.1 34 (nI (B b)).toNatClampNeg = nI (S b) := by rw [hcB, b5, b4]
  have hge := nx_ge (e := e) (hA b hb)
  have hSb := hS b hb
  have hor := or_lt hm hb
  refine xE_of [some (.ref 31), some (.int (nI m)), some (.int (nI e)), some (.int (nI b)), some (.ref 34), some (.ref 35), none, none] (by decide +kernel) (Nat.le_of_ble_eq_true rfl) rfl ?_
  refine xF_go o_BO_need [] 60 (fun K hK => ?_)
  repeat' ((conv => whnf); first | refine ⟨fun h => ?_, fun h => ?_⟩ | refine ⟨?_, ?_⟩ | refine hK _ _ _ _ ?_)
  · exact vp_in_nI (by show b < 7; omega) (by decide)
  · rw [v32]; exact vp_in_nI b1 (by decide)
  · rw [v32, v35]
    refine xF_callS o_BO_need [.int (nI e), .int (nI (A b))] rfl z_BO_gap s_BO_gap l_BO_32 rfl ⟨⟨by decide, by decide⟩, rfl, rfl⟩ (Nat.le_of_ble_eq_true rfl) rfl (E_gap l G (nI e) (nI (A b)) M) ?_
    rintro v M' ⟨eM, rfl⟩; obtain rfl := eM.symm
    rw [gap_n (hA b hb) (by omega)]
    clear hK K
    have e1 : nI (nx e (A b) - e) + M.1 34 (nI (B b)).toNatClampNeg = nI (ned A S e b) := by
      rw [v34, nI_add, nx_sub (hA b hb)]
      rfl
    have e2 : nI e + nI (ned A S e b) = nI (nx e (A b) + S b) := by
      rw [nI_add]
      congr 1
      unfold ned
      omega
    have e3 : (nI m ||| (1 : Int32) <<< (nI b &&& 31)) * 8 + (nI (nx e (A b) + S b) - nI (nx e (A b) + S b) / 8 * 8) = nI ((m ||| 2 ^ b) * 8 + (nx e (A b) + S b) % 8) := by
      show (nI m ||| (1 : Int32) <<< (nI b &&& 31)) * nI 8 + (nI (nx e (A b) + S b) - nI (nx e (A b) + S b) / nI 8 * nI 8) = _
      rw [or_7 m (by omega) b (by omega), pk_mul, pk_rem (by omega) (by decide) (by decide), nI_add]
    refine xF_go o_BO_need [] 60 (fun K hK => ?_)
    repeat' ((conv => whnf); first | refine ⟨fun h => ?_, fun h => ?_⟩ | refine ⟨?_, ?_⟩ | refine hK _ _ _ _ ?_)
    · exact vp_in_nI b1 (by decide)
    · decide
    · rw [e1, e2, e3]
      exact vp_in_nI (by show _ < 1024; omega) (by decide)
    · rw [e1, e2, e3, nI_clamp (by omega), hw]
      refine xF_iret o_BO_need rfl rfl ?_
      exact ⟨rfl, by rw [nI_add]⟩
/-- the fewest of the blocks below n, or far -/
def bst (A S : Nat → Nat) (c m r n : Nat) (v : Nat) : Prop := (∀ b, b < n → ¬ bts m b → v ≤ ned A S r b + mnv A S c (lad (bts m) b) (nx r (A b) + S b)) ∧ ((v = 1000000 ∧ ∀ b, b < n → bts m b) ∨ ∃ b, b < n ∧ ¬ bts m b ∧ v = ned A S r b + mnv A S c (lad (bts m) b) (nx r (A b) + S b))
theorem fwt_at {A S : Nat → Nat} {c m b e : Nat} (hA : ∀ x, x < c → one8 (A x)) {M : xMe} (h : fwt A S c (m ||| 2 ^ b) M) : mns A S c (lad (bts m) b) e (mnv A S c (lad (bts m) b) e) ∧ M.1 33 ((m ||| 2 ^ b) * 8 + e % 8) = nI (mnv A S c (lad (bts m) b) e) := by
  obtain ⟨w, h1, h2⟩ := h (e % 8) (by omega)
  rw [bts_or] at h1
  have h3 := mns_8 (e' := e) hA (by omega) h1
  rw [mnv_ok h3]
  exact ⟨h3, h2⟩
theorem E_measureB (A0 S0 A S B : Nat → Nat) (c : Nat) (hc : c ≤ 7) (hA : ∀ x, x < c → one8 (A x)) (hS : ∀ x, x < c → S x ≤ 64) (M : xMe) (hM : c32 A0 S0 A S B c M) : xE l G y_BO_measure [.ref 31, .int (nI c), .ref 34, .ref 35] M (fun r M' => r = none ∧ xfr [33] M M' ∧ ∀ m, m < 2 ^ c → fwt A S c m M') := by
  refine xE_cps (fun Q hQ => ?_)
  have h2 : 2 ^ c ≤ 128 := Nat.pow_le_pow_right (n := 2) (by omega) hc
  have h1 : 1 ≤ 2 ^ c := Nat.one_le_two_pow
  have eall : (1 : Int32) <<< (nI c &&& 31) - 1 = nI (2 ^ c - 1) := by
    rw [sh_7 c (by omega)]
    exact pk_sub (b := 1) h1
  refine xE_of [some (.ref 31), some (.int (nI c)), some (.ref 34), some (.ref 35), none, none, none, none, none] (by decide +kernel) (Nat.le_of_ble_eq_true rfl) rfl ?_
  refine xF_go o_BO_measure [10, 43, 51, 65, 106] 60 (fun K hK => ?_)
  repeat' ((conv => whnf); first | refine ⟨fun h => ?_, fun h => ?_⟩ | refine ⟨?_, ?_⟩ | refine hK _ _ _ _ ?_)
  rw [eall]
  clear hK K
  -- the sets above m are measured: go on below
  have outer : ∀ (m : Nat), m < 2 ^ c → ∀ (M1 : xMe) (x6 x7 x8 : Option Value), xfr [33] M M1 → (∀ m', m ≤ m' → m' < 2 ^ c → fwt A S c m' M1) → xF l G y_BO_measure 43 [some (.ref 31), some (.int (nI c)), some (.ref 34), some (.ref 35), some (.int (nI (2 ^ c - 1))), some (.int (nI m - 1)), x6, x7, x8] [] M1 Q := by
    intro m
    induction m with
    | zero =>
      intro hm M1 x6 x7 x8 hf hI
      refine xF_go o_BO_measure [10, 43, 51, 65, 106] 60 (fun K hK => ?_)
      repeat' ((conv => whnf); first | refine ⟨fun h => ?_, fun h => ?_⟩ | refine ⟨?_, ?_⟩ | refine hK _ _ _ _ ?_)
      · refine xF_vret o_BO_measure rfl rfl ?_
        exact hQ _ _ ⟨rfl, hf, fun m' hm' => hI m' (Nat.zero_le _) hm'⟩
      all_goals exact absurd (show (nI 0 - 1 : Int32) < 0 from by decide) (by assumption)
    | succ m ih =>
      intro hm M1 x6 x7 x8 hf hI
      have em : nI (m + 1) - 1 = nI m := pk_sub (b := 1) (by omega)
      rw [em]
      refine xF_go o_BO_measure [10, 43, 51, 65, 106] 60 (fun K hK => ?_)
      repeat' ((conv => whnf); first | refine ⟨fun h => ?_, fun h => ?_⟩ | refine ⟨?_, ?_⟩ | refine hK _ _ _ _ ?_)
      · exact absurd (show nI m < 0 from by assumption) (nI_pos (by omega))
      · clear hK K
        have key := loopN2 (σ := xMe) (τ := Option Value × Option Value) 8 (fun r M2 _ => xfr [33] M M2 ∧ (∀ m', m + 1 ≤ m' → m' < 2 ^ c → fwt A S c m' M2) ∧ ∀ r', r' < r → ∃ w, mns A S c (bts m) r' w ∧ M2.1 33 (m * 8 + r') = nI w) (fun r M2 x => xF l G y_BO_measure 51 [some (.ref 31), some (.int (nI c)), some (.ref 34), some (.ref 35), some (.int (nI (2 ^ c - 1))), some (.int (nI m)), some (.int (nI r)), x.1, x.2] [] M2 Q) ?_ ?_ 8 0 rfl M1 (x7, x8) ⟨hf, hI, fun r' hr' => absurd hr' (Nat.not_lt_zero _)⟩
        · exact key
        · intro r hr M2 x hI2 next
          obtain ⟨g1, g2, g3⟩ := hI2
          have hM2 : c32 A0 S0 A S B c M2 := c32_fr g1 (by decide) hM
          have fw : ∀ b, b < c → ¬ bts m b → ∀ e, mns A S c (lad (bts m) b) e (mnv A S c (lad (bts m) b) e) ∧ M2.1 33 ((m ||| 2 ^ b) * 8 + e % 8) = nI (mnv A S c (lad (bts m) b) e) := fun b hb hn e => fwt_at hA (g2 _ (by have := or_gt hn; omega) (or_lt (by omega) hb))
          -- all blocks are tried
          have tries : ∀ v, bst A S c m r c v → ∀ x8, xF l G y_BO_measure 106 [some (.ref 31), some (.int (nI c)), some (.ref 34), some (.ref 35), some (.int (nI (2 ^ c - 1))), some (.int (nI m)), some (.int (nI r)), some (.int (nI v)), x8] [] M2 Q := by
            intro v hv x8
            have hmn : mns A S c (bts m) r v := by
              refine mns_step hA (fun b => mnv A S c (lad (bts m) b) (nx r (A b) + S b)) (fun b hb hn => (fw b hb hn _).1) ?_ hv.1
              rcases hv.2 with ⟨_, z⟩ | z
              · obtain ⟨y, y1, y2⟩ := bts_ex (c := c) (m := m) (by omega)
                exact absurd (z y y1) y2
              · exact z
            have e8 : nI m * 8 + nI r = nI (m * 8 + r) := by
              show nI m * nI 8 + nI r = _
              rw [pk_mul, nI_add]
            refine xF_go o_BO_measure [10, 43, 51, 65, 106] 60 (fun K hK => ?_)
            repeat' ((conv => whnf); first | refine ⟨fun h => ?_, fun h => ?_⟩ | refine ⟨?_, ?_⟩ | refine hK _ _ _ _ ?_)
            · rw [e8]; exact vp_in_nI (by show _ < 1024; omega) (by decide)
            · rw [e8, nI_1, nI_clamp (by omega)]
              refine next _ (_, _) ⟨g1.I (by simp), fun m' a b r' hr' => ?_, fun r' hr' => ?_⟩
              · obtain ⟨w, w1, w2⟩ := g2 m' a b r' hr'
                refine ⟨w, w1, ?_⟩
                rw [xsI_s, upd_n (by omega)]
                exact w2
              · rw [xsI_s]
                by_cases e : r' = r
                · subst e
                  exact ⟨v, hmn, upd_s⟩
                · rw [upd_n (by omega)]
                  exact g3 r' (by omega)
          refine xF_go o_BO_measure [10, 43, 51, 65, 106] 60 (fun K hK => ?_)
          repeat' ((conv => whnf); first | refine ⟨fun h => ?_, fun h => ?_⟩ | refine ⟨?_, ?_⟩ | refine hK _ _ _ _ ?_)
          · exact absurd (nI_lt (b := 8) hr (by decide)) h
          · clear hK K
            rw [show (1000000 : Int32) = nI 1000000 by decide +kernel]
            refine loopN (σ := Nat) c (fun n v => v ≤ 1000000 ∧ bst A S c m r n v) (fun n v => xF l G y_BO_measure 65 [some (.ref 31), some (.int (nI c)), some (.ref 34), some (.ref 35), some (.int (nI (2 ^ c - 1))), some (.int (nI m)), some (.int (nI r)), some (.int (nI v)), some (.int (nI n))] [] M2 Q) ?_ ?_ c 0 rfl 1000000 ⟨Nat.le_refl _, fun b hb => absurd hb (Nat.not_lt_zero _), Or.inl ⟨rfl, fun b hb => absurd hb (Nat.not_lt_zero _)⟩⟩
            · intro n hn v hI3 next3
              obtain ⟨hv0, hv1, hv2⟩ := hI3
              refine xF_go o_BO_measure [10, 43, 51, 65, 106] 60 (fun K hK => ?_)
              repeat' ((conv => whnf); first | refine ⟨fun h => ?_, fun h => ?_⟩ | refine ⟨?_, ?_⟩ | refine hK _ _ _ _ ?_)
              · exact absurd (nI_lt (b := c) hn (by omega)) h
              · have h0 := (show ¬ ((nI m).toUInt32 >>> ((nI n).toUInt32 &&& Int32.toUInt32 31)).toInt32 &&& 1 = 0 from by assumption)
                rw [bt_7 m (by omega) n (by omega)] at h0
                have hb : bts m n := by
                  unfold bts
                  cases e : m.testBit n with
                  | true => rfl
                  | false => exact absurd e h0
                rw [nI_1]
                refine next3 v ⟨hv0, fun b hb' hnb => hv1 b (by have : b ≠ n := fun e => hnb (e ▸ hb); omega) hnb, hv2.imp (fun z => ⟨z.1, fun b hb' => ?_⟩) (fun ⟨b, b1, b2, b3⟩ => ⟨b, by omega, b2, b3⟩)⟩
                by_cases e : b = n
                · rw [e]; exact hb
                · exact z.2 b (by omega)
              · have h0 := (show ((nI m).toUInt32 >>> ((nI n).toUInt32 &&& Int32.toUInt32 31)).toInt32 &&& 1 = 0 from by assumption)
                rw [bt_7 m (by omega) n (by omega)] at h0
                have hb : ¬ bts m n := by
                  unfold bts
                  rw [h0]
                  decide
                obtain ⟨w1, w2⟩ := fw n hn hb (nx r (A n) + S n)
                have hwle := mns_le hA hS hc w1
                have hge := nx_ge (e := r) (hA n hn)
                have hSn := hS n hn
                have hned : ned A S r n ≤ 71 := by unfold ned; omega
                refine xF_callV o_BO_measure [.int (nI m), .int (nI r), .int (nI n), .ref 34, .ref 35] rfl z_BO_need i_BO_need v_BO_need l_BO_37 rfl ⟨⟨by decide, by decide⟩, rfl, rfl⟩ (Nat.le_of_ble_eq_true rfl) rfl rfl rfl (E_need l G A0 S0 A S B c hc hA hS M2 hM2 m r n _ (by omega) (by omega) hn w2) ?_
                rintro v M' ⟨eM, rfl⟩; obtain rfl := eM.symm
                clear hK K
                refine xF_go o_BO_measure [10, 43, 51, 65, 106] 60 (fun K hK => ?_)
                repeat' ((conv => whnf); first | refine ⟨fun h => ?_, fun h => ?_⟩ | refine ⟨?_, ?_⟩ | refine hK _ _ _ _ ?_)
                refine xF_callS o_BO_measure [.int (nI v), .int (nI (ned A S r n + mnv A S c (lad (bts m) n) (nx r (A n) + S n)))] rfl z_JM_min s_JM_min l_BO_40 rfl ⟨⟨by decide, by decide⟩, rfl, rfl⟩ (Nat.le_of_ble_eq_true rfl) rfl (E_min l G (nI v) (nI (ned A S r n + mnv A S c (lad (bts m) n) (nx r (A n) + S n))) M2) ?_
                rintro v M' ⟨eM, rfl⟩; obtain rfl := eM.symm
                clear hK K
                have emin : (if nI v ≤ nI (ned A S r n + mnv A S c (lad (bts m) n) (nx r (A n) + S n)) then nI v else nI (ned A S r n + mnv A S c (lad (bts m) n) (nx r (A n) + S n))) = nI (min v (ned A S r n + mnv A S c (lad (bts m) n) (nx r (A n) + S n))) := by
                  by_cases e : v ≤ ned A S r n + mnv A S c (lad (bts m) n) (nx r (A n) + S n)
                  · rw [if_pos (nI_le e (by omega)), Nat.min_eq_left e]
                  · rw [if_neg (fun z => e ((nI_leI (by omega) (by omega)).mp z)), Nat.min_eq_right (by omega)]
                rw [emin]
                refine xF_go o_BO_measure [10, 43, 51, 65, 106] 60 (fun K hK => ?_)
                repeat' ((conv => whnf); first | refine ⟨fun h => ?_, fun h => ?_⟩ | refine ⟨?_, ?_⟩ | refine hK _ _ _ _ ?_)
                rw [nI_1]
                refine next3 _ ⟨by omega, fun b hb' hnb => ?_, Or.inr ?_⟩
                · by_cases e : b = n
                  · subst e
                    exact Nat.min_le_right _ _
                  · exact Nat.le_trans (Nat.min_le_left _ _) (hv1 b (by omega) hnb)
                · by_cases e : v ≤ ned A S r n + mnv A S c (lad (bts m) n) (nx r (A n) + S n)
                  · rw [Nat.min_eq_left e]
                    rcases hv2 with z | ⟨b, b1, b2, b3⟩
                    · omega
                    · exact ⟨b, by omega, b2, b3⟩
                  · rw [Nat.min_eq_right (by omega)]
                    exact ⟨n, by omega, hb, rfl⟩
            · intro v hI3
              refine xF_go o_BO_measure [10, 43, 51, 65, 106] 60 (fun K hK => ?_)
              repeat' ((conv => whnf); first | refine ⟨fun h => ?_, fun h => ?_⟩ | refine ⟨?_, ?_⟩ | refine hK _ _ _ _ ?_)
              · exact tries v hI3.2 _
              all_goals exact absurd (show nI c < nI c from by assumption) (nI_nlt (by omega) (by omega))
        · intro M2 x hI2
          obtain ⟨g1, g2, g3⟩ := hI2
          refine xF_go o_BO_measure [10, 43, 51, 65, 106] 60 (fun K hK => ?_)
          repeat' ((conv => whnf); first | refine ⟨fun h => ?_, fun h => ?_⟩ | refine ⟨?_, ?_⟩ | refine hK _ _ _ _ ?_)
          · rw [show nI m + -1 = nI m - 1 by grind]
            refine ih (by omega) M2 _ _ _ g1 (fun m' a b => ?_)
            by_cases e : m' = m
            · rw [e]; exact g3
            · exact g2 m' (by omega) b
          all_goals exact absurd (show nI 8 < nI 8 from by assumption) (nI_nlt (by omega) (by omega))
  refine loopN (σ := xMe) 8 (fun r M1 => xfr [33] M M1 ∧ ∀ r', r' < r → M1.1 33 ((2 ^ c - 1) * 8 + r') = nI 0) (fun r M1 => xF l G y_BO_measure 10 [some (.ref 31), some (.int (nI c)), some (.ref 34), some (.ref 35), some (.int (nI (2 ^ c - 1))), some (.int (nI r)), none, none, none] [] M1 Q) ?_ ?_ 8 0 rfl M ⟨xfr.rf, fun r' hr' => absurd hr' (Nat.not_lt_zero _)⟩
  · intro r hr M1 hI next
    obtain ⟨g1, g2⟩ := hI
    have e8 : nI (2 ^ c - 1) * 8 + nI r = nI ((2 ^ c - 1) * 8 + r) := by
      show nI (2 ^ c - 1) * nI 8 + nI r = _
      rw [pk_mul, nI_add]
    refine xF_go o_BO_measure [10, 43, 51, 65, 106] 60 (fun K hK => ?_)
    repeat' ((conv => whnf); first | refine ⟨fun h => ?_, fun h => ?_⟩ | refine ⟨?_, ?_⟩ | refine hK _ _ _ _ ?_)
    · exact absurd (nI_lt (b := 8) hr (by decide)) h
    · rw [e8]; exact vp_in_nI (by show _ < 1024; omega) (by decide)
    · rw [e8, nI_1, nI_clamp (by omega)]
      refine next _ ⟨g1.I (by simp), fun r' hr' => ?_⟩
      rw [xsI_s]
      by_cases e : r' = r
      · subst e
        exact upd_s
      · rw [upd_n (by omega)]
        exact g2 r' (by omega)
  · intro M1 hI
    obtain ⟨g1, g2⟩ := hI
    refine xF_go o_BO_measure [10, 43, 51, 65, 106] 60 (fun K hK => ?_)
    repeat' ((conv => whnf); first | refine ⟨fun h => ?_, fun h => ?_⟩ | refine ⟨?_, ?_⟩ | refine hK _ _ _ _ ?_)
    · refine outer (2 ^ c - 1) (by omega) M1 _ _ _ g1 (fun m' a b => ?_)
      obtain rfl : m' = 2 ^ c - 1 := by omega
      exact fun r hr => ⟨0, mns_all (fun x hx => bts_full hx), g2 r hr⟩
    all_goals exact absurd (show nI 8 < nI 8 from by assumption) (nI_nlt (by omega) (by omega))
end XB1
