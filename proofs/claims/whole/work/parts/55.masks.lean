/-! sets: sums and masks made -/
theorem xF_copyl {l : Launch} {G : xG} {Y : xMD} {k : xK} {all : List xRw} {pc : Nat} {lv : xLv} {r : List Value} {M : xMe} {Q : Option Value → xMe → Prop} {i k0 k1 : Nat} {sp dp n : Int32} (ok : xOK Y k all) (hi : xat all pc = some (.invokestatic i)) (ha : xAC Y.1.cls i) (hk0 : xkd k0 = 1) (hk1 : xkd k1 = 1) (h0 : k0 < 96) (h1 : k1 < 96) (a b c : Nat) (hsp : sp = nI a) (hdp : dp = nI b) (hn : n = nI c) (hs : a + c ≤ xtl k0) (hdd : b + c ≤ xtl k1) (hz : a < 2 ^ 31 ∧ b < 2 ^ 31 ∧ c < 2 ^ 31) (hr : (r.map fun v => v.category).sum ≤ 8) (hrm : 1 ≤ (yR Y).frames ∧ 26 ≤ (yR Y).locals) (h : xF l G Y (pc + 3) lv r (xsL M k1 (va_cpy (M.2 k0) (M.2 k1) a b c)) Q) : xF l G Y pc lv (.int n :: .int dp :: .ref k1 :: .int sp :: .ref k0 :: r) M Q := by
  subst hsp; subst hdp; subst hn
  refine xc_copyl (g := none) ha hk0 hk1 h0 h1 h0 h1 (nI_pos hz.1) (nI_pos hz.2.1) (nI_pos hz.2.2) ?_ ?_ hr hrm (xat_dec ok hi rfl) ?_
  · rw [nI_clamp hz.1, nI_clamp hz.2.2]; exact hs
  · rw [nI_clamp hz.2.1, nI_clamp hz.2.2]; exact hdd
  · rw [nI_clamp hz.1, nI_clamp hz.2.1, nI_clamp hz.2.2]; exact h
set_option maxRecDepth 20000 in
theorem ac_OS : xAC y_OS_makeMasked.1.cls 29 := ⟨xtbm (List.mem_of_getElem? (i := 750) rfl) rfl, xtbm (List.mem_of_getElem? (i := 500) rfl) rfl, xtbm (List.mem_of_getElem? (i := 499) rfl) rfl, xtbm (List.mem_of_getElem? (i := 93) rfl) rfl⟩
theorem ush_all : ∀ n, n < 256 → ∀ b, b < 8 → ((nI n).toUInt32 >>> ((nI b).toUInt32 &&& Int32.toUInt32 31)).toInt32 &&& 1 = b2 (n.testBit b) := by decide +kernel
def mvW (f : Nat → Int64) (a t : Nat) : Nat → Int64 := vp_updL (vp_updL f t (f t ||| f a)) a 0
theorem mv6 (f : Nat → Int64) {v : Nat} (hv : v < 256) : sHas (mvW (mvW f 1 0) 3 2) 0 v = (!v.testBit 6 && (sHas f 0 v || sHas f 0 (v + 2 ^ 6))) := by
  have ht : ∀ v, v < 256 → v.testBit 6 = decide (v / 64 = 1 ∨ v / 64 = 3) := by decide +kernel
  have h4 : v / 64 = 0 ∨ v / 64 = 1 ∨ v / 64 = 2 ∨ v / 64 = 3 := by omega
  have e0 : mvW (mvW f 1 0) 3 2 0 = f 0 ||| f 1 := rfl
  have e1 : mvW (mvW f 1 0) 3 2 1 = 0 := rfl
  have e2 : mvW (mvW f 1 0) 3 2 2 = f 2 ||| f 3 := rfl
  have e3 : mvW (mvW f 1 0) 3 2 3 = 0 := rfl
  rw [ht v hv]
  unfold sHas
  rw [show (v + 2 ^ 6) % 64 = v % 64 by omega, Nat.zero_add, Nat.zero_add]
  rcases h4 with h | h | h | h
  · rw [show (v + 2 ^ 6) / 64 = 1 by omega, h, e0, xbit_or]; rfl
  · rw [h, e1, xbit_0]; rfl
  · rw [show (v + 2 ^ 6) / 64 = 3 by omega, h, e2, xbit_or]; rfl
  · rw [h, e3, xbit_0]; rfl
theorem mv7 (f : Nat → Int64) {v : Nat} (hv : v < 256) : sHas (mvW (mvW f 2 0) 3 1) 0 v = (!v.testBit 7 && (sHas f 0 v || sHas f 0 (v + 2 ^ 7))) := by
  have ht : ∀ v, v < 256 → v.testBit 7 = decide (v / 64 = 2 ∨ v / 64 = 3) := by decide +kernel
  have h4 : v / 64 = 0 ∨ v / 64 = 1 ∨ v / 64 = 2 ∨ v / 64 = 3 := by omega
  have e0 : mvW (mvW f 2 0) 3 1 0 = f 0 ||| f 2 := rfl
  have e1 : mvW (mvW f 2 0) 3 1 1 = f 1 ||| f 3 := rfl
  have e2 : mvW (mvW f 2 0) 3 1 2 = 0 := rfl
  have e3 : mvW (mvW f 2 0) 3 1 3 = 0 := rfl
  rw [ht v hv]
  unfold sHas
  rw [show (v + 2 ^ 7) % 64 = v % 64 by omega, Nat.zero_add, Nat.zero_add]
  rcases h4 with h | h | h | h
  · rw [show (v + 2 ^ 7) / 64 = 2 by omega, h, e0, xbit_or]; rfl
  · rw [show (v + 2 ^ 7) / 64 = 3 by omega, h, e1, xbit_or]; rfl
  · rw [h, e2, xbit_0]; rfl
  · rw [h, e3, xbit_0]; rfl
section XMA
variable (l : Launch) (G : xG)
theorem L_mask (n : Nat) (hn : n < 256) (X : Nat → Bool) (s : Nat) (Q : Option Value → xMe → Prop) (M0 : xMe) (hQ : ∀ M, xfr [26] M0 M → (∀ v, v < 256 → (sHas (M.2 26) 0 v = true ↔ sImg X (mk n 6) v)) → xF l G y_OS_makeMasked 41 [some (.ref 26), some (.ref 21), some (.int (nI s)), some (.int (nI n)), some (.int (nI 6))] [] M Q) : ∀ (m b : Nat), m + b = 6 → ∀ M, xfr [26] M0 M → (∀ v, v < 256 → (sHas (M.2 26) 0 v = true ↔ sImg X (mk n b) v)) → xF l G y_OS_makeMasked 11 [some (.ref 26), some (.ref 21), some (.int (nI s)), some (.int (nI n)), some (.int (nI b))] [] M Q := by
  intro m
  induction m with
  | zero =>
    intro b hb M hfr hX
    obtain rfl : b = 6 := by omega
    refine xF_go o_OS_makeMasked [11, 41] 60 (fun K hK => ?_)
    repeat' ((conv => whnf); first | refine ⟨fun h => ?_, fun h => ?_⟩ | refine ⟨?_, ?_⟩ | refine hK _ _ _ _ ?_)
    · exact hQ M hfr hX
    all_goals exact absurd (show nI 6 < nI 6 from by assumption) (nI_nlt (by omega) (by omega))
  | succ m ih =>
    intro b hb M hfr hX
    have eu := ush_all n hn b (by omega)
    refine xF_go o_OS_makeMasked [11, 41] 60 (fun K hK => ?_)
    repeat' ((conv => whnf); first | refine ⟨fun h => ?_, fun h => ?_⟩ | refine ⟨?_, ?_⟩ | refine hK _ _ _ _ ?_)
    · exact absurd (nI_lt (b := 6) (by omega) (by omega)) h
    · have h1 : ¬ ((nI n).toUInt32 >>> ((nI b).toUInt32 &&& Int32.toUInt32 31)).toInt32 &&& 1 = 0 := by assumption
      rw [eu] at h1
      have ht : n.testBit b = true := by
        cases e : n.testBit b with
        | true => rfl
        | false => rw [e] at h1; exact absurd rfl h1
      rw [nI_1]
      refine ih (b + 1) (by omega) M hfr ?_
      rw [mk_same ht]
      exact hX
    · have h1 : ((nI n).toUInt32 >>> ((nI b).toUInt32 &&& Int32.toUInt32 31)).toInt32 &&& 1 = 0 := by assumption
      rw [eu] at h1
      have ht : n.testBit b = false := by
        cases e : n.testBit b with
        | true => rw [e] at h1; exact absurd h1 (by decide)
        | false => rfl
      refine xF_callS o_OS_makeMasked [.ref 26, .int (nI b)] rfl z_OS_foldWords s_OS_foldWords l_OS_39 rfl ⟨⟨by decide, by decide⟩, rfl, rfl⟩ (Nat.le_of_ble_eq_true rfl) rfl (E_foldWords l G b (by omega) M) ?_
      rintro r M' ⟨rfl, rfl⟩
      clear hK K
      refine xF_go o_OS_makeMasked [11] 60 (fun K hK => ?_)
      repeat' ((conv => whnf); first | refine ⟨fun h => ?_, fun h => ?_⟩ | refine ⟨?_, ?_⟩ | refine hK _ _ _ _ ?_)
      rw [nI_1]
      refine ih (b + 1) (by omega) _ (hfr.L (by simp)) ?_
      refine mk_step (Y := sHas (M.2 26) 0) (by omega) ht hX (fun v hv => ?_)
      exact fold_has (by omega) (M.2 26) hv
theorem E_makeMasked (n : Nat) (hn : n < 256) (s : Nat) (hs : s + 4 ≤ xtl 21) (M : xMe) : xE l G y_OS_makeMasked [.ref 26, .ref 21, .int (nI s), .int (nI n)] M (fun r M' => r = none ∧ xfr [26] M M' ∧ ∀ v, v < 256 → (sHas (M'.2 26) 0 v = true ↔ ∃ u, u < 256 ∧ sHas (M.2 21) s u = true ∧ u &&& n = v)) := by
  have t1 : xtl 21 = 7872 := rfl
  refine xE_of [some (.ref 26), some (.ref 21), some (.int (nI s)), some (.int (nI n)), none] (by decide +kernel) (Nat.le_of_ble_eq_true rfl) rfl ?_
  refine xF_go o_OS_makeMasked [] 60 (fun K hK => ?_)
  repeat' ((conv => whnf); first | refine ⟨fun h => ?_, fun h => ?_⟩ | refine ⟨?_, ?_⟩ | refine hK _ _ _ _ ?_)
  refine xF_copyl o_OS_makeMasked rfl ac_OS rfl rfl (by decide) (by decide) s 0 4 rfl rfl rfl hs (by decide) ⟨by omega, by decide, by decide⟩ (Nat.le_of_ble_eq_true rfl) (by decide) ?_
  clear hK K
  refine xF_go o_OS_makeMasked [11] 60 (fun K hK => ?_)
  repeat' ((conv => whnf); first | refine ⟨fun h => ?_, fun h => ?_⟩ | refine ⟨?_, ?_⟩ | refine hK _ _ _ _ ?_)
  refine L_mask l G n hn (sHas (M.2 21) s) s _ M ?_ 6 0 (by omega) _ (xfr.rf.L (by simp)) ?_
  · clear hK K
    intro M1 hfr hX
    have hX6 : ∀ M1, xfr [26] M M1 → (∀ v, v < 256 → (sHas (M1.2 26) 0 v = true ↔ sImg (sHas (M.2 21) s) (mk n 7) v)) → xF l G y_OS_makeMasked 62 [some (.ref 26), some (.ref 21), some (.int (nI s)), some (.int (nI n)), some (.int (nI 6))] [] M1 (fun r M' => r = none ∧ xfr [26] M M' ∧ ∀ v, v < 256 → (sHas (M'.2 26) 0 v = true ↔ ∃ u, u < 256 ∧ sHas (M.2 21) s u = true ∧ u &&& n = v)) := by
      intro M1 hfr hX
      have eu := ush_all n hn 7 (by omega)
      refine xF_go o_OS_makeMasked [] 60 (fun K hK => ?_)
      repeat' ((conv => whnf); first | refine ⟨fun h => ?_, fun h => ?_⟩ | refine ⟨?_, ?_⟩ | refine hK _ _ _ _ ?_)
      · have h1 : ¬ ((nI n).toUInt32 >>> ((nI 7).toUInt32 &&& Int32.toUInt32 31)).toInt32 &&& 1 = 0 := by assumption
        rw [eu] at h1
        have ht : n.testBit 7 = true := by
          cases e : n.testBit 7 with
          | true => rfl
          | false => rw [e] at h1; exact absurd rfl h1
        refine xF_vret o_OS_makeMasked rfl rfl ?_
        rw [← mk_same ht, mk_8 n hn] at hX
        exact ⟨rfl, hfr, hX⟩
      · have h1 : ((nI n).toUInt32 >>> ((nI 7).toUInt32 &&& Int32.toUInt32 31)).toInt32 &&& 1 = 0 := by assumption
        rw [eu] at h1
        have ht : n.testBit 7 = false := by
          cases e : n.testBit 7 with
          | true => rw [e] at h1; exact absurd h1 (by decide)
          | false => rfl
        refine xF_callS o_OS_makeMasked [.ref 26, .int (nI 2), .int (nI 0)] rfl z_OS_moveWord s_OS_moveWord l_OS_43 rfl ⟨⟨by decide, by decide⟩, rfl, rfl⟩ (Nat.le_of_ble_eq_true rfl) rfl (E_moveWord l G 2 0 (by omega) (by omega) M1) ?_
        rintro r M' ⟨rfl, rfl⟩
        clear hK K
        refine xF_go o_OS_makeMasked [] 60 (fun K hK => ?_)
        repeat' ((conv => whnf); first | refine ⟨fun h => ?_, fun h => ?_⟩ | refine ⟨?_, ?_⟩ | refine hK _ _ _ _ ?_)
        refine xF_callS o_OS_makeMasked [.ref 26, .int (nI 3), .int (nI 1)] rfl z_OS_moveWord s_OS_moveWord l_OS_43 rfl ⟨⟨by decide, by decide⟩, rfl, rfl⟩ (Nat.le_of_ble_eq_true rfl) rfl (E_moveWord l G 3 1 (by omega) (by omega) _) ?_
        rintro r M' ⟨rfl, rfl⟩
        clear hK K
        refine xF_go o_OS_makeMasked [] 60 (fun K hK => ?_)
        repeat' ((conv => whnf); first | refine ⟨fun h => ?_, fun h => ?_⟩ | refine ⟨?_, ?_⟩ | refine hK _ _ _ _ ?_)
        refine xF_vret o_OS_makeMasked rfl rfl ?_
        refine ⟨rfl, (hfr.L (by simp)).L (by simp), ?_⟩
        have key := mk_step (Z := sHas (mvW (mvW (M1.2 26) 2 0) 3 1) 0) (by omega) ht hX (fun v hv => mv7 _ hv)
        rw [mk_8 n hn] at key
        exact key
    have eu := ush_all n hn 6 (by omega)
    refine xF_go o_OS_makeMasked [62] 60 (fun K hK => ?_)
    repeat' ((conv => whnf); first | refine ⟨fun h => ?_, fun h => ?_⟩ | refine ⟨?_, ?_⟩ | refine hK _ _ _ _ ?_)
    · have h1 : ¬ ((nI n).toUInt32 >>> ((nI 6).toUInt32 &&& Int32.toUInt32 31)).toInt32 &&& 1 = 0 := by assumption
      rw [eu] at h1
      have ht : n.testBit 6 = true := by
        cases e : n.testBit 6 with
        | true => rfl
        | false => rw [e] at h1; exact absurd rfl h1
      rw [← mk_same ht] at hX
      exact hX6 M1 hfr hX
    · have h1 : ((nI n).toUInt32 >>> ((nI 6).toUInt32 &&& Int32.toUInt32 31)).toInt32 &&& 1 = 0 := by assumption
      rw [eu] at h1
      have ht : n.testBit 6 = false := by
        cases e : n.testBit 6 with
        | true => rw [e] at h1; exact absurd h1 (by decide)
        | false => rfl
      refine xF_callS o_OS_makeMasked [.ref 26, .int (nI 1), .int (nI 0)] rfl z_OS_moveWord s_OS_moveWord l_OS_43 rfl ⟨⟨by decide, by decide⟩, rfl, rfl⟩ (Nat.le_of_ble_eq_true rfl) rfl (E_moveWord l G 1 0 (by omega) (by omega) M1) ?_
      rintro r M' ⟨rfl, rfl⟩
      clear hK K
      refine xF_go o_OS_makeMasked [62] 60 (fun K hK => ?_)
      repeat' ((conv => whnf); first | refine ⟨fun h => ?_, fun h => ?_⟩ | refine ⟨?_, ?_⟩ | refine hK _ _ _ _ ?_)
      refine xF_callS o_OS_makeMasked [.ref 26, .int (nI 3), .int (nI 2)] rfl z_OS_moveWord s_OS_moveWord l_OS_43 rfl ⟨⟨by decide, by decide⟩, rfl, rfl⟩ (Nat.le_of_ble_eq_true rfl) rfl (E_moveWord l G 3 2 (by omega) (by omega) _) ?_
      rintro r M' ⟨rfl, rfl⟩
      exact hX6 _ ((hfr.L (by simp)).L (by simp)) (mk_step (Z := sHas (mvW (mvW (M1.2 26) 1 0) 3 2) 0) (by omega) ht hX (fun v hv => mv6 _ hv))
  · intro v hv
    show _ ↔ sImg _ 255 v
    rw [sImg_255 hv]
    rw [xsL_2, if_pos rfl]
    unfold sHas va_cpy
    rw [if_pos (by omega), show s + (0 + v / 64 - 0) = s + v / 64 by omega]
theorem sm_w : ∀ w, w < 4 → ∀ k, k < 4 → ((nI w - nI k : Int32) &&& 3) = nI ((w + 4 - k) % 4) ∧ ((nI w - nI k - 1 : Int32) &&& 3) = nI ((w + 3 - k) % 4) := by decide +kernel
theorem sm_64 : ∀ b, b < 64 → (64 - nI b : Int32) = nI (64 - b) := by decide +kernel
def sumW (f : Nat → Int64) (s k b w : Nat) : Int64 := if b = 0 then f (s + (w + 4 - k) % 4) <<< ((nI b).toInt64 &&& 63) else f (s + (w + 4 - k) % 4) <<< ((nI b).toInt64 &&& 63) ||| ((f (s + (w + 3 - k) % 4)).toUInt64 >>> ((nI (64 - b)).toInt64.toUInt64 &&& Int64.toUInt64 63)).toInt64
theorem sumW_bit (f : Nat → Int64) (s : Nat) {t v : Nat} (ht : t < 256) (hv : v < 256) : xbit (sumW f s (t / 64) (t % 64) (v / 64)) (v % 64) = sHas f s ((v + 256 - t) % 256) := by
  unfold sumW sHas
  by_cases e : t % 64 = 0
  · rw [if_pos e, xbit_shl _ (by omega)]
    have h1 : (v + 256 - t) % 256 / 64 = (v / 64 + 4 - t / 64) % 4 := by omega
    have h2 : (v + 256 - t) % 256 % 64 = v % 64 - t % 64 := by omega
    rw [h1, h2]
    simp [show v % 64 < 64 by omega, show t % 64 ≤ v % 64 by omega]
  · rw [if_neg e, xbit_or, xbit_shl _ (by omega), xbit_shr _ (by omega)]
    by_cases e2 : t % 64 ≤ v % 64
    · have h1 : (v + 256 - t) % 256 / 64 = (v / 64 + 4 - t / 64) % 4 := by omega
      have h2 : (v + 256 - t) % 256 % 64 = v % 64 - t % 64 := by omega
      have h3 : xbit (f (s + (v / 64 + 3 - t / 64) % 4)) (64 - t % 64 + v % 64) = false := by
        cases hx : xbit (f (s + (v / 64 + 3 - t / 64) % 4)) (64 - t % 64 + v % 64) with
        | false => rfl
        | true => have := xbit_lt hx; omega
      rw [h1, h2, h3]
      simp [show v % 64 < 64 by omega, e2]
    · have h1 : (v + 256 - t) % 256 / 64 = (v / 64 + 3 - t / 64) % 4 := by omega
      have h2 : (v + 256 - t) % 256 % 64 = 64 - t % 64 + v % 64 := by omega
      rw [h1, h2]
      simp [e2]
theorem L_sums (s t : Nat) (hs : s + 4 ≤ xtl 21) (ht : t < 256) (x : Int32) (M0 : xMe) (Q : Option Value → xMe → Prop) (hQ : Q none (xsL M0 26 (fun j => if j < 4 then sumW (M0.2 21) s (t / 64) (t % 64) j else M0.2 26 j))) : ∀ (m w : Nat), m + w = 4 → xF l G y_OS_makeSums 26 [some (.ref 26), some (.ref 21), some (.int (nI s)), some (.int x), some (.int (nI t)), some (.int (nI (t / 64))), some (.int (nI (t % 64))), some (.int (nI w))] [] (xsL M0 26 (fun j => if j < w then sumW (M0.2 21) s (t / 64) (t % 64) j else M0.2 26 j)) Q := by
  have t1 : xtl 21 = 7872 := rfl
  intro m
  induction m with
  | zero =>
    intro w hw
    obtain rfl : w = 4 := by omega
    refine xF_go o_OS_makeSums [26] 60 (fun K hK => ?_)
    repeat' ((conv => whnf); first | refine ⟨fun h => ?_, fun h => ?_⟩ | refine ⟨?_, ?_⟩ | refine hK _ _ _ _ ?_)
    · refine xF_vret o_OS_makeSums rfl rfl ?_
      exact hQ
    all_goals exact absurd (show nI 4 < nI 4 from by assumption) (nI_nlt (by omega) (by omega))
  | succ m ih =>
    intro w hw
    obtain ⟨q1, q2⟩ := sm_w w (by omega) (t / 64) (by omega)
    have e1 : nI s + ((nI w - nI (t / 64) : Int32) &&& 3) = nI (s + (w + 4 - t / 64) % 4) := by rw [q1, nI_add]
    have e2 : nI s + ((nI w - nI (t / 64) - 1 : Int32) &&& 3) = nI (s + (w + 3 - t / 64) % 4) := by rw [q2, nI_add]
    have i1 : vp_in (nI s + ((nI w - nI (t / 64) : Int32) &&& 3)) 7872 := by rw [e1]; exact vp_in_nI (by omega) (by decide)
    have i2 : vp_in (nI s + ((nI w - nI (t / 64) - 1 : Int32) &&& 3)) 7872 := by rw [e2]; exact vp_in_nI (by omega) (by decide)
    have i3 : vp_in (nI w) 4 := vp_in_nI (by omega) (by decide)
    have hih := ih (w + 1) (by omega)
    refine xF_go o_OS_makeSums [26] 60 (fun K hK => ?_)
    repeat' ((conv => whnf); first | refine ⟨fun h => ?_, fun h => ?_⟩ | refine ⟨?_, ?_⟩ | refine hK _ _ _ _ ?_)
    · exact absurd (nI_lt (b := 4) (by omega) (by omega)) h
    · exact i1
    · exact i3
    · have h0 : ¬ 0 < nI (t % 64) := by assumption
      have hb0 : t % 64 = 0 := by
        refine Nat.eq_zero_of_not_pos (fun z => h0 ?_)
        have := nI_lt (a := 0) (b := t % 64) z (by omega)
        exact this
      rw [e1, nI_1, nI_clamp (n := w) (by omega), nI_clamp (by omega), xsL_LL]
      rw [xsL_c (g := vp_updL (fun j => if j < w then sumW (M0.2 21) s (t / 64) (t % 64) j else M0.2 26 j) w (M0.2 21 (s + (w + 4 - t / 64) % 4) <<< ((nI (t % 64)).toInt64 &&& 63)))] at hih
      · exact hih
      · intro i
        unfold vp_updL
        by_cases e : i = w
        · subst e
          rw [if_pos (by omega), if_pos rfl]
          unfold sumW
          rw [if_pos hb0]
        · rw [if_neg e]
          grind
    · exact i3
    · exact i2
    · exact i3
    · have h0 : 0 < nI (t % 64) := by assumption
      have hb0 : ¬ t % 64 = 0 := fun z => by
        rw [z] at h0
        exact absurd h0 (by decide)
      rw [e1, e2, nI_1, sm_64 _ (by omega), nI_clamp (n := w) (by omega), nI_clamp (by omega), nI_clamp (by omega), xsL_LL, xsL_LL]
      rw [xsL_c (g := vp_updL (vp_updL (fun j => if j < w then sumW (M0.2 21) s (t / 64) (t % 64) j else M0.2 26 j) w (M0.2 21 (s + (w + 4 - t / 64) % 4) <<< ((nI (t % 64)).toInt64 &&& 63))) w (vp_updL (fun j => if j < w then sumW (M0.2 21) s (t / 64) (t % 64) j else M0.2 26 j) w (M0.2 21 (s + (w + 4 - t / 64) % 4) <<< ((nI (t % 64)).toInt64 &&& 63)) w ||| ((M0.2 21 (s + (w + 3 - t / 64) % 4)).toUInt64 >>> ((nI (64 - t % 64)).toInt64.toUInt64 &&& Int64.toUInt64 63)).toInt64))] at hih
      · exact hih
      · intro i
        unfold vp_updL
        by_cases e : i = w
        · subst e
          rw [if_pos (by omega), if_pos rfl, if_pos rfl]
          unfold sumW
          rw [if_neg hb0]
        · rw [if_neg e, if_neg e]
          grind
theorem E_makeSums (r : Nat) (hr : r < 511) (s : Nat) (hs : s + 4 ≤ xtl 21) (M : xMe) : xE l G y_OS_makeSums [.ref 26, .ref 21, .int (nI s), .int (nI r - 255)] M (fun v M' => v = none ∧ xfr [26] M M' ∧ ∀ v, v < 256 → (sHas (M'.2 26) 0 v = true ↔ ∃ u, u < 256 ∧ sHas (M.2 21) s u = true ∧ (u + r + 1) % 256 = v)) := by
  refine xE_of [some (.ref 26), some (.ref 21), some (.int (nI s)), some (.int (nI r - 255)), none, none, none, none] (by decide +kernel) (Nat.le_of_ble_eq_true rfl) rfl ?_
  refine xF_go o_OS_makeSums [] 60 (fun K hK => ?_)
  repeat' ((conv => whnf); first | refine ⟨fun h => ?_, fun h => ?_⟩ | refine ⟨?_, ?_⟩ | refine hK _ _ _ _ ?_)
  refine xF_callS o_OS_makeSums [.int (nI r - 255), .int 256] rfl z_JM_floorMod s_JM_floorMod l_OS_23 rfl ⟨⟨by decide, by decide⟩, rfl, rfl⟩ (Nat.le_of_ble_eq_true rfl) rfl (E_floorMod l G (nI r - 255) 256 (by decide) M) ?_
  rintro v M' ⟨rfl, rfl⟩
  rw [fmz_256 r (by omega)]
  clear hK K
  have ht : (r + 1) % 256 < 256 := Nat.mod_lt _ (by decide)
  generalize hT : (r + 1) % 256 = t at ht
  have d1 := d64 ht
  have d2 := r64 ht
  refine xF_go o_OS_makeSums [26] 60 (fun K hK => ?_)
  repeat' ((conv => whnf); first | refine ⟨fun h => ?_, fun h => ?_⟩ | refine ⟨?_, ?_⟩ | refine hK _ _ _ _ ?_)
  · exact (by decide : ¬ (64 : Int32) = 0)
  · exact (by decide : ¬ (64 : Int32) = 0)
  rw [d2, d1]
  have e0 : M' = xsL M' 26 (fun j => if j < 0 then sumW (M'.2 21) s (t / 64) (t % 64) j else M'.2 26 j) := (xsL_id (fun i => by rw [if_neg (by omega)])).symm
  have key := L_sums l G s t hs ht (nI r - 255) M' (fun v M2 => v = none ∧ xfr [26] M' M2 ∧ ∀ v, v < 256 → (sHas (M2.2 26) 0 v = true ↔ ∃ u, u < 256 ∧ sHas (M'.2 21) s u = true ∧ (u + r + 1) % 256 = v)) ?_ 4 0 (by omega)
  · rw [← e0] at key
    exact key
  · refine ⟨rfl, xfr.rf.L (by simp), fun v hv => ?_⟩
    have e1 : sHas ((xsL M' 26 (fun j => if j < 4 then sumW (M'.2 21) s (t / 64) (t % 64) j else M'.2 26 j)).2 26) 0 v = sHas (M'.2 21) s ((v + 256 - t) % 256) := by
      rw [xsL_2, if_pos rfl]
      show xbit (if 0 + v / 64 < 4 then sumW (M'.2 21) s (t / 64) (t % 64) (0 + v / 64) else M'.2 26 (0 + v / 64)) (v % 64) = _
      rw [if_pos (by omega), Nat.zero_add]
      exact sumW_bit _ s ht hv
    rw [e1]
    constructor
    · intro hx
      exact ⟨_, Nat.mod_lt _ (by decide), hx, by omega⟩
    · rintro ⟨u, hu, hx, e⟩
      have : (v + 256 - t) % 256 = u := by omega
      rw [this]
      exact hx
end XMA
