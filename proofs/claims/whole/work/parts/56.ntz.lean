/-! the lowest bit -/
theorem low_mask (x : BitVec 32) (t : Nat) (ht : t < 32) (h1 : x.getLsbD t = true) (h2 : ∀ q, q < t → x.getLsbD q = false) : ~~~x &&& (x - 1#32) = BitVec.ofNat 32 (2 ^ t - 1) := by
  have e1 : x.toNat % 2 ^ (t + 1) = 2 ^ t := by
    apply Nat.eq_of_testBit_eq
    intro i
    rw [Nat.testBit_mod_two_pow, Nat.testBit_two_pow]
    by_cases e : t = i
    · subst e
      have : x.toNat.testBit t = true := h1
      simp [this]
    · by_cases e2 : i < t
      · have : x.toNat.testBit i = false := h2 i e2
        simp [this, e]
      · simp [e]
        omega
  have e2 := Nat.div_add_mod x.toNat (2 ^ (t + 1))
  rw [e1] at e2
  generalize hk : x.toNat / 2 ^ (t + 1) = k at e2
  have hp : 2 ^ t < 2 ^ (t + 1) := Nat.pow_lt_pow_right (by omega) (by omega)
  have hp0 : 0 < 2 ^ t := Nat.pow_pos (by omega)
  have e3 : (x - 1#32).toNat = 2 ^ (t + 1) * k + (2 ^ t - 1) := by
    have h4 : 1#32 ≤ x := by
      show (1#32).toNat ≤ x.toNat
      rw [← e2]
      show 1 ≤ _
      omega
    rw [BitVec.toNat_sub_of_le h4, ← e2]
    show _ - 1 = _
    omega
  apply BitVec.eq_of_getLsbD_eq
  intro q hq
  rw [BitVec.getLsbD_and, BitVec.getLsbD_not, BitVec.getLsbD_ofNat, Nat.testBit_two_pow_sub_one]
  have b1 : x.getLsbD q = (2 ^ (t + 1) * k + 2 ^ t).testBit q := by rw [e2]; rfl
  have b2 : (x - 1#32).getLsbD q = (2 ^ (t + 1) * k + (2 ^ t - 1)).testBit q := by rw [← e3]; rfl
  rw [Nat.testBit_two_pow_mul_add k hp] at b1
  rw [Nat.testBit_two_pow_mul_add k (by omega), Nat.testBit_two_pow_sub_one] at b2
  rw [b2]
  by_cases hqt : q < t + 1
  · rw [if_pos hqt]
    by_cases e : q = t
    · subst e; rw [h1]; simp
    · rw [h2 q (by omega)]
      simp [hq, show q < t by omega]
  · rw [if_neg hqt]
    rw [if_neg hqt] at b1
    rw [b1]
    simp [show ¬ q < t by omega]
def us (x k : Int32) : Int32 := (x.toUInt32 >>> (k.toUInt32 &&& Int32.toUInt32 31)).toInt32
def nz74 (x n : Int32) : Int32 := n + us x 1
def nz62 (x n : Int32) : Int32 := if 4 < x then nz74 (us x 2) (n + 2) else nz74 x n
def nz49 (x n : Int32) : Int32 := if 16 < x then nz62 (us x 4) (n + 4) else nz62 x n
def nz34 (x n : Int32) : Int32 := if 256 < x then nz49 (us x 8) (n + 8) else nz49 x n
def nz19 (x n : Int32) : Int32 := if 65536 < x then nz34 (us x 16) (n + 16) else nz34 x n
def nz8 (x : Int32) : Int32 := if 0 < x then nz19 x 1 else x &&& 32
theorem nz8_all : ∀ t, t < 32 → nz8 (nI (2 ^ t - 1)) = nI t := by decide +kernel
section XNZ
variable (l : Launch) (G : xG)
theorem L_nz74 (x n : Int32) (M : xMe) : xF l G y_JI_numberOfTrailingZeros 74 [some (.int x), some (.int n)] [] M (fun r M' => M' = M ∧ r = some (.int (nz74 x n))) := by
  refine xF_go o_JI_numberOfTrailingZeros [] 60 (fun K hK => ?_)
  repeat' ((conv => whnf); first | refine ⟨fun h => ?_, fun h => ?_⟩ | refine ⟨?_, ?_⟩ | refine hK _ _ _ _ ?_)
  refine xF_iret o_JI_numberOfTrailingZeros rfl rfl ?_
  exact ⟨rfl, rfl⟩
theorem L_nz62 (x n : Int32) (M : xMe) : xF l G y_JI_numberOfTrailingZeros 62 [some (.int x), some (.int n)] [] M (fun r M' => M' = M ∧ r = some (.int (nz62 x n))) := by
  refine xF_go o_JI_numberOfTrailingZeros [74] 60 (fun K hK => ?_)
  repeat' ((conv => whnf); first | refine ⟨fun h => ?_, fun h => ?_⟩ | refine ⟨?_, ?_⟩ | refine hK _ _ _ _ ?_)
  · have h1 : ¬ 4 < x := by assumption
    unfold nz62
    rw [if_neg h1]
    exact L_nz74 l G x n M
  · have h1 : 4 < x := by assumption
    unfold nz62
    rw [if_pos h1]
    exact L_nz74 l G (us x 2) (n + 2) M
theorem L_nz49 (x n : Int32) (M : xMe) : xF l G y_JI_numberOfTrailingZeros 49 [some (.int x), some (.int n)] [] M (fun r M' => M' = M ∧ r = some (.int (nz49 x n))) := by
  refine xF_go o_JI_numberOfTrailingZeros [62] 60 (fun K hK => ?_)
  repeat' ((conv => whnf); first | refine ⟨fun h => ?_, fun h => ?_⟩ | refine ⟨?_, ?_⟩ | refine hK _ _ _ _ ?_)
  · have h1 : ¬ 16 < x := by assumption
    unfold nz49
    rw [if_neg h1]
    exact L_nz62 l G x n M
  · have h1 : 16 < x := by assumption
    unfold nz49
    rw [if_pos h1]
    exact L_nz62 l G (us x 4) (n + 4) M
theorem L_nz34 (x n : Int32) (M : xMe) : xF l G y_JI_numberOfTrailingZeros 34 [some (.int x), some (.int n)] [] M (fun r M' => M' = M ∧ r = some (.int (nz34 x n))) := by
  refine xF_go o_JI_numberOfTrailingZeros [49] 60 (fun K hK => ?_)
  repeat' ((conv => whnf); first | refine ⟨fun h => ?_, fun h => ?_⟩ | refine ⟨?_, ?_⟩ | refine hK _ _ _ _ ?_)
  · have h1 : ¬ 256 < x := by assumption
    unfold nz34
    rw [if_neg h1]
    exact L_nz49 l G x n M
  · have h1 : 256 < x := by assumption
    unfold nz34
    rw [if_pos h1]
    exact L_nz49 l G (us x 8) (n + 8) M
theorem L_nz19 (x n : Int32) (M : xMe) : xF l G y_JI_numberOfTrailingZeros 19 [some (.int x), some (.int n)] [] M (fun r M' => M' = M ∧ r = some (.int (nz19 x n))) := by
  refine xF_go o_JI_numberOfTrailingZeros [34] 60 (fun K hK => ?_)
  repeat' ((conv => whnf); first | refine ⟨fun h => ?_, fun h => ?_⟩ | refine ⟨?_, ?_⟩ | refine hK _ _ _ _ ?_)
  · have h1 : ¬ 65536 < x := by assumption
    unfold nz19
    rw [if_neg h1]
    exact L_nz34 l G x n M
  · have h1 : 65536 < x := by assumption
    unfold nz19
    rw [if_pos h1]
    exact L_nz34 l G (us x 16) (n + 16) M
theorem E_inz (x : Int32) (M : xMe) : xE l G y_JI_numberOfTrailingZeros [.int x] M (fun r M' => M' = M ∧ r = some (.int (nz8 ((x ^^^ -1) &&& (x - 1))))) := by
  refine xE_of [some (.int x), none] (by decide +kernel) (Nat.le_of_ble_eq_true rfl) rfl ?_
  refine xF_go o_JI_numberOfTrailingZeros [19] 60 (fun K hK => ?_)
  repeat' ((conv => whnf); first | refine ⟨fun h => ?_, fun h => ?_⟩ | refine ⟨?_, ?_⟩ | refine hK _ _ _ _ ?_)
  · have h1 : 0 < (x ^^^ -1) &&& (x - 1) := by assumption
    unfold nz8
    rw [if_pos h1]
    exact L_nz19 l G _ 1 M
  · have h1 : ¬ 0 < (x ^^^ -1) &&& (x - 1) := by assumption
    unfold nz8
    rw [if_neg h1]
    refine xF_iret o_JI_numberOfTrailingZeros rfl rfl ?_
    exact ⟨rfl, rfl⟩
theorem inz_low (x : Int32) (t : Nat) (ht : t < 32) (h1 : x.toBitVec.getLsbD t = true) (h2 : ∀ q, q < t → x.toBitVec.getLsbD q = false) : nz8 ((x ^^^ -1) &&& (x - 1)) = nI t := by
  have e : (x ^^^ -1) &&& (x - 1) = nI (2 ^ t - 1) := by
    apply Int32.toBitVec_inj.mp
    rw [Int32.toBitVec_and, Int32.toBitVec_xor, Int32.toBitVec_sub]
    have e1 : x.toBitVec ^^^ (-1 : Int32).toBitVec = ~~~ x.toBitVec := by
      have : (-1 : Int32).toBitVec = BitVec.allOnes 32 := by decide +kernel
      rw [this, BitVec.xor_allOnes]
    have e2 : (1 : Int32).toBitVec = 1#32 := by decide +kernel
    rw [e1, e2, low_mask x.toBitVec t ht h1 h2]
    rfl
  rw [e, nz8_all t ht]
theorem low_ex (p : Nat → Bool) : ∀ n, (∃ q, q < n ∧ p q = true) → ∃ t, t < n ∧ p t = true ∧ ∀ q, q < t → p q = false := by
  intro n
  induction n with
  | zero => rintro ⟨q, h, _⟩; omega
  | succ n ih =>
    rintro ⟨q, h, hp⟩
    by_cases hn : ∃ q, q < n ∧ p q = true
    · obtain ⟨t, h1, h2, h3⟩ := ih hn
      exact ⟨t, by omega, h2, h3⟩
    · refine ⟨q, h, hp, fun q' hq' => ?_⟩
      cases e : p q' with
      | false => rfl
      | true => exact absurd ⟨q', by omega, e⟩ hn
theorem E_lnz (x : Int64) (hx : ¬ x = 0) (M : xMe) : xE l G y_JL_numberOfTrailingZeros [.long x] M (fun r M' => M' = M ∧ ∃ t, t < 64 ∧ r = some (.int (nI t)) ∧ xbit x t = true ∧ ∀ q, q < t → xbit x q = false) := by
  have hlow : ∀ q, q < 32 → x.toInt32.toBitVec.getLsbD q = xbit x q := by
    intro q hq
    rw [Int64.toBitVec_toInt32]
    unfold xbit
    rw [BitVec.getLsbD_signExtend]
    simp [hq]
    omega
  have hzl : x.toInt32 = 0 → ∀ q, q < 32 → xbit x q = false := by
    intro h q hq
    rw [← hlow q hq, h]
    simp
  have hex : ∃ q, q < 64 ∧ xbit x q = true := by
    refine Classical.byContradiction (fun hn => hx (xbit_zero.mpr (fun q hq => ?_)))
    cases e : xbit x q with
    | false => rfl
    | true => exact absurd ⟨q, hq, e⟩ hn
  obtain ⟨t, ht, hb, hlo⟩ := low_ex (xbit x) 64 hex
  have hhigh : ∀ q, q < 32 → (x.toUInt64 >>> ((nI 32).toInt64.toUInt64 &&& Int64.toUInt64 63)).toInt64.toInt32.toBitVec.getLsbD q = xbit x (32 + q) := by
    intro q hq
    rw [Int64.toBitVec_toInt32, BitVec.getLsbD_signExtend]
    have := xbit_shr x (p := 32) (by omega) q
    unfold xbit at this
    rw [this]
    simp [hq]
    unfold xbit
    rw [if_pos (by omega)]
  refine xE_of [some (.long x), none, none] (by decide +kernel) (Nat.le_of_ble_eq_true rfl) rfl ?_
  refine xF_go o_JL_numberOfTrailingZeros [] 60 (fun K hK => ?_)
  repeat' ((conv => whnf); first | refine ⟨fun h => ?_, fun h => ?_⟩ | refine ⟨?_, ?_⟩ | refine hK _ _ _ _ ?_)
  · have h0 : ¬ x.toInt32 = 0 := by assumption
    have ht32 : t < 32 := by
      refine Classical.byContradiction (fun hn => h0 ?_)
      apply Int32.toBitVec_inj.mp
      apply BitVec.eq_of_getLsbD_eq
      intro q hq
      rw [hlow q hq, hlo q (by omega)]
      simp
    refine xF_callS o_JL_numberOfTrailingZeros [.int x.toInt32] rfl z_JI_numberOfTrailingZeros s_JI_numberOfTrailingZeros l_JL_311 rfl ⟨⟨by decide, by decide⟩, rfl, rfl⟩ (Nat.le_of_ble_eq_true rfl) rfl (E_inz l G x.toInt32 M) ?_
    rintro r M' ⟨rfl, rfl⟩
    clear hK K
    rw [inz_low x.toInt32 t ht32 (by rw [hlow t ht32]; exact hb) (fun q hq => by rw [hlow q (by omega)]; exact hlo q hq)]
    refine xF_go o_JL_numberOfTrailingZeros [] 60 (fun K hK => ?_)
    repeat' ((conv => whnf); first | refine ⟨fun h => ?_, fun h => ?_⟩ | refine ⟨?_, ?_⟩ | refine hK _ _ _ _ ?_)
    refine xF_iret o_JL_numberOfTrailingZeros rfl rfl ?_
    exact ⟨rfl, t, ht, rfl, hb, hlo⟩
  · have h0 : x.toInt32 = 0 := by assumption
    have ht32 : 32 ≤ t := by
      refine Classical.byContradiction (fun hn => ?_)
      rw [hzl h0 t (by omega)] at hb
      cases hb
    refine xF_callS o_JL_numberOfTrailingZeros [.int (x.toUInt64 >>> ((nI 32).toInt64.toUInt64 &&& Int64.toUInt64 63)).toInt64.toInt32] rfl z_JI_numberOfTrailingZeros s_JI_numberOfTrailingZeros l_JL_311 rfl ⟨⟨by decide, by decide⟩, rfl, rfl⟩ (Nat.le_of_ble_eq_true rfl) rfl (E_inz l G _ M) ?_
    rintro r M' ⟨rfl, rfl⟩
    clear hK K
    rw [inz_low _ (t - 32) (by omega) (by rw [hhigh _ (by omega), show 32 + (t - 32) = t by omega]; exact hb) (fun q hq => by rw [hhigh q (by omega)]; exact hlo _ (by omega))]
    refine xF_go o_JL_numberOfTrailingZeros [] 60 (fun K hK => ?_)
    repeat' ((conv => whnf); first | refine ⟨fun h => ?_, fun h => ?_⟩ | refine ⟨?_, ?_⟩ | refine hK _ _ _ _ ?_)
    refine xF_iret o_JL_numberOfTrailingZeros rfl rfl ?_
    refine ⟨rfl, t, ht, ?_, hb, hlo⟩
    show some (Value.int (nI 32 + nI (t - 32))) = _
    rw [nI_add, show 32 + (t - 32) = t by omega]
end XNZ
