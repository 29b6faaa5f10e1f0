/-! sets of 0 to 255 in rows of longs: the smallest methods of both sides -/
def sHas (f : Nat → Int64) (at_ v : Nat) : Bool := xbit (f (at_ + v / 64)) (v % 64)
theorem xsar_bv (a : Int64) {p : Nat} (hp : p < 64) : (a >>> ((nI p).toInt64 &&& 63)).toBitVec = a.toBitVec.sshiftRight p := by
  rw [Int64.toBitVec_shiftRight]
  show a.toBitVec.sshiftRight (((nI p).toInt64 &&& 63).toBitVec.smod 64#64).toNat = _
  rw [xsar_all p hp]
theorem xbit_sar (a : Int64) {p q : Nat} (h : p + q < 64) : xbit (a >>> ((nI p).toInt64 &&& 63)) q = xbit a (p + q) := by
  unfold xbit
  rw [xsar_bv a (by omega), BitVec.getLsbD_sshiftRight]
  simp [show ¬ 64 ≤ q by omega, h]
/-- (x >> p & 1) == 1 -/
theorem xbit_test1 (a : Int64) {p : Nat} (hp : p < 64) : (a >>> ((nI p).toInt64 &&& 63)) &&& 1 = 1 ↔ xbit a p = true := by
  constructor
  · intro h
    have h1 : xbit ((a >>> ((nI p).toInt64 &&& 63)) &&& 1) 0 = xbit 1 0 := by rw [h]
    rw [xbit_and, xbit_sar a (by omega), xbit_one] at h1
    simpa using h1
  · intro h
    refine xbit_ext (fun q hq => ?_)
    rw [xbit_and, xbit_one]
    by_cases h0 : q = 0
    · subst h0
      rw [xbit_sar a (by omega)]
      simpa using h
    · simp [h0]
theorem d64 {v : Nat} (hv : v < 256) : (nI v / 64 : Int32) = nI (v / 64) := pk_div (a := v) (d := 64) (by omega) (by decide) (by decide)
theorem r64 {v : Nat} (hv : v < 256) : (nI v - nI v / 64 * 64 : Int32) = nI (v % 64) := pk_rem (a := v) (d := 64) (by omega) (by decide) (by decide)
theorem s64 : ∀ v, v < 256 → (nI v >>> (6 &&& 31) : Int32) = nI (v / 64) := by decide +kernel
theorem a63 : ∀ v, v < 256 → (nI v &&& 63 : Int32) = nI (v % 64) := by decide +kernel
section XST
variable (l : Launch) (G : xG)
theorem E_add (c : Nat) (hc : c = 22 ∨ c = 26) (t v : Nat) (hv : v < 256) (ht : t + v / 64 < xtl c) (M : xMe) : xE l G y_OS_add [.ref c, .int (nI t), .int (nI v)] M (fun r M' => r = none ∧ M' = xsL M c (vp_updL (M.2 c) (t + v / 64) (M.2 c (t + v / 64) ||| (1 : Int64) <<< ((nI (v % 64)).toInt64 &&& 63)))) := by
  have hlt : xtl c < 2 ^ 31 := by rcases hc with rfl | rfl <;> decide
  refine xE_of [some (.ref c), some (.int (nI t)), some (.int (nI v))] (by decide +kernel) (Nat.le_of_ble_eq_true rfl) rfl ?_
  refine xF_go o_OS_add [] 60 (fun K hK => ?_)
  have e64 : ¬ (64 : Int32) = 0 := by decide
  have eix : nI t + nI v / 64 = nI (t + v / 64) := by rw [d64 hv, nI_add]
  have key : ¬ (64 : Int32) = 0 ∧ vp_in (nI t + nI v / 64) (xtl c) ∧ ¬ (64 : Int32) = 0 ∧ vp_in (nI t + nI v / 64) (xtl c) ∧ K 17 [some (.ref c), some (.int (nI t)), some (.int (nI v))] [] (xsL M c (vp_updL (M.2 c) (nI t + nI v / 64).toNatClampNeg (M.2 c (nI t + nI v / 64).toNatClampNeg ||| (1 : Int64) <<< ((nI v - nI v / 64 * 64).toInt64 &&& 63)))) := by
    rw [r64 hv, eix, nI_clamp (by omega)]
    refine ⟨e64, vp_in_nI ht hlt, e64, vp_in_nI ht hlt, ?_⟩
    refine hK _ _ _ _ ?_
    refine xF_vret o_OS_add rfl rfl ?_
    exact ⟨rfl, rfl⟩
  rcases hc with rfl | rfl <;> exact key
theorem E_Mput (v : Nat) (hv : v < 256) (M : xMe) : xE l G y_Mo_put [.ref 50, .int (nI v)] M (fun r M' => r = none ∧ M' = xsL M 79 (vp_updL (M.2 79) (v / 64) (M.2 79 (v / 64) ||| (1 : Int64) <<< ((nI (v % 64)).toInt64 &&& 63)))) := by
  refine xE_of [some (.ref 50), some (.int (nI v))] (by decide +kernel) (Nat.le_of_ble_eq_true rfl) rfl ?_
  refine xF_go o_Mo_put [] 60 (fun K hK => ?_)
  repeat' ((conv => whnf); first | refine ⟨fun h => ?_, fun h => ?_⟩ | refine ⟨?_, ?_⟩ | refine hK _ _ _ _ ?_)
  · rw [s64 v hv]
    exact vp_in_nI (N := 4) (by omega) (by decide)
  · rw [s64 v hv]
    exact vp_in_nI (N := 4) (by omega) (by decide)
  · refine xF_vret o_Mo_put rfl rfl ?_
    rw [s64 v hv, a63 v hv, nI_clamp (by omega)]
    exact ⟨rfl, rfl⟩
theorem E_hasValue (c : Nat) (hc : c = 69 ∨ c = 78) (t v : Nat) (hv : v < 256) (ht : t + v / 64 < xtl c) (M : xMe) : xE l G y_Mo_hasValue [.ref 50, .ref c, .int (nI t), .int (nI v)] M (fun r M' => M' = M ∧ r = some (.int (b2 (sHas (M.2 c) t v)))) := by
  have hlt : xtl c < 2 ^ 31 := by rcases hc with rfl | rfl <;> decide
  refine xE_of [some (.ref 50), some (.ref c), some (.int (nI t)), some (.int (nI v))] (by decide +kernel) (Nat.le_of_ble_eq_true rfl) rfl ?_
  refine xF_go o_Mo_hasValue [17] 60 (fun K hK => ?_)
  have eix : nI t + (nI v >>> (6 &&& 31)) = nI (t + v / 64) := by rw [s64 v hv, nI_add]
  have key : vp_in (nI t + (nI v >>> (6 &&& 31))) (xtl c) ∧ K 17 [some (.ref 50), some (.ref c), some (.int (nI t)), some (.int (nI v))] [.int (lg_cmp ((M.2 c (nI t + (nI v >>> (6 &&& 31))).toNatClampNeg >>> ((nI v &&& 63).toInt64 &&& 63)) &&& 1) 1)] M := by
    rw [eix, a63 v hv, nI_clamp (by omega)]
    refine ⟨vp_in_nI ht hlt, hK _ _ _ _ ?_⟩
    clear hK K
    refine xF_go o_Mo_hasValue [] 60 (fun K hK => ?_)
    repeat' ((conv => whnf); first | refine ⟨fun h => ?_, fun h => ?_⟩ | refine ⟨?_, ?_⟩ | refine hK _ _ _ _ ?_)
    · have h1 : ¬ lg_cmp ((M.2 c (t + v / 64) >>> ((nI (v % 64)).toInt64 &&& 63)) &&& 1) 1 = 0 := by assumption
      rw [xcmp0, xbit_test1 _ (by omega)] at h1
      refine xF_zret o_Mo_hasValue rfl rfl (Or.inl rfl) ?_
      have h2 : sHas (M.2 c) t v = false := by
        unfold sHas
        cases hh : xbit (M.2 c (t + v / 64)) (v % 64) with
        | true => exact absurd hh h1
        | false => rfl
      exact ⟨rfl, by rw [h2]; rfl⟩
    · have h1 : lg_cmp ((M.2 c (t + v / 64) >>> ((nI (v % 64)).toInt64 &&& 63)) &&& 1) 1 = 0 := by assumption
      rw [xcmp0, xbit_test1 _ (by omega)] at h1
      refine xF_zret o_Mo_hasValue rfl rfl (Or.inr rfl) ?_
      exact ⟨rfl, by unfold sHas; rw [h1]; rfl⟩
  rcases hc with rfl | rfl <;> exact key
theorem E_link (a b : Nat) (ha : a < 36) (hb : b < 36) (M : xMe) : xE l G y_Ch_link [.ref 17, .int (nI a), .int (nI b)] M (fun r M' => r = none ∧ M' = xsL M 18 (vp_updL (M.2 18) a (M.2 18 a ||| (1 : Int64) <<< ((nI b).toInt64 &&& 63)))) := by
  refine xE_of [some (.ref 17), some (.int (nI a)), some (.int (nI b))] (by decide +kernel) (Nat.le_of_ble_eq_true rfl) rfl ?_
  refine xF_go o_Ch_link [] 60 (fun K hK => ?_)
  repeat' ((conv => whnf); first | refine ⟨fun h => ?_, fun h => ?_⟩ | refine ⟨?_, ?_⟩ | refine hK _ _ _ _ ?_)
  · exact vp_in_nI ha (by decide)
  · exact vp_in_nI ha (by decide)
  · refine xF_vret o_Ch_link rfl rfl ?_
    rw [nI_clamp (by omega)]
    exact ⟨rfl, rfl⟩
theorem E_chForget (M : xMe) : xE l G y_Ch_forget [.ref 17] M (fun r M' => r = none ∧ M' = xsL M 18 (fun i => if i < 36 then 0 else M.2 18 i)) := by
  refine xE_of [some (.ref 17)] (by decide +kernel) (Nat.le_of_ble_eq_true rfl) rfl ?_
  refine xF_go o_Ch_forget [] 60 (fun K hK => ?_)
  repeat' ((conv => whnf); first | refine ⟨fun h => ?_, fun h => ?_⟩ | refine ⟨?_, ?_⟩ | refine hK _ _ _ _ ?_)
  refine xF_callS o_Ch_forget [.ref 18, .long 0] rfl z_JA_fill2 s_JA_fill2 l_Ch_19 rfl ⟨⟨by decide, by decide⟩, rfl, rfl⟩ (Nat.le_of_ble_eq_true rfl) rfl (E_fill2 l G 18 (by simp) 0 M) ?_
  rintro v M' ⟨rfl, rfl⟩
  clear hK K
  refine xF_go o_Ch_forget [] 60 (fun K hK => ?_)
  repeat' ((conv => whnf); first | refine ⟨fun h => ?_, fun h => ?_⟩ | refine ⟨?_, ?_⟩ | refine hK _ _ _ _ ?_)
  refine xF_vret o_Ch_forget rfl rfl ?_
  exact ⟨rfl, rfl⟩
end XST
