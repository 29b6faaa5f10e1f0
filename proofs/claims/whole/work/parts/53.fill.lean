/-! Arrays.fill with a range -/
def y_JA_rangeCheck : xMD := (⟨"java/util/Arrays", "rangeCheck", "(III)V"⟩, prog_15_method_30_code, 3, none, { frames := 0, cells := 0, slots := 0, locals := 0 })
set_option maxRecDepth 20000 in
theorem z_JA_rangeCheck : xZ y_JA_rangeCheck 3 := ⟨xtbm (List.mem_of_getElem? (i := 94) rfl) rfl, xtbm (List.mem_of_getElem? (i := 625) rfl) rfl, by decide +kernel, by decide +kernel, by decide +kernel⟩
set_option maxRecDepth 20000 in
theorem s_JA_rangeCheck : Cond.static y_JA_rangeCheck.1 ∈ xtb := xtbm (List.mem_of_getElem? (i := 624) rfl) rfl
set_option maxRecDepth 20000 in
theorem l_JA_13 : xLk "java/util/Arrays" 13 y_JA_rangeCheck.1 := Or.inl (xtbm (List.mem_of_getElem? (i := 623) rfl) rfl)
section XFI
variable (l : Launch) (G : xG)
theorem E_rangeCheck (n a b : Nat) (hab : a ≤ b) (hbn : b ≤ n) (hn : n < 2 ^ 31) (M : xMe) : xE l G y_JA_rangeCheck [.int (nI n), .int (nI a), .int (nI b)] M (fun r M' => r = none ∧ M' = M) := by
  refine xE_of [some (.int (nI n)), some (.int (nI a)), some (.int (nI b))] (by decide +kernel) (Nat.le_of_ble_eq_true rfl) rfl ?_
  refine xc_iload_n (k := 1) (i := 1) rfl rfl (by decide +kernel) ?_
  refine xc_iload_n (k := 2) (i := 2) rfl rfl (by decide +kernel) ?_
  refine xc_cmp_le (t := 46) (off := 44) (by decide +kernel) (by decide) (fun _ => ?_) (fun h => absurd h (nI_nlt hab (by omega)))
  refine xc_iload_n (k := 1) (i := 1) rfl rfl (by decide +kernel) ?_
  refine xc_if_ge (t := 59) (off := 12) (by decide +kernel) (by decide) (fun _ => ?_) (fun h => absurd h (nI_pos (by omega)))
  refine xc_iload_n (k := 2) (i := 2) rfl rfl (by decide +kernel) ?_
  refine xc_iload_n (k := 0) (i := 0) rfl rfl (by decide +kernel) ?_
  refine xc_cmp_le (t := 73) (off := 12) (by decide +kernel) (by decide) (fun _ => ?_) (fun h => absurd h (nI_nlt hbn (by omega)))
  exact xc_vret rfl (Nat.zero_le _) (Nat.zero_le _) (by decide +kernel) ⟨rfl, rfl, rfl⟩
theorem L_fill3_21 (v : Int64) (a b : Nat) (hab : a ≤ b) (hb : b ≤ xtl 21) (M0 : xMe) (Q : Option Value → xMe → Prop) (hQ : Q none (xsL M0 21 (fun i => if a ≤ i ∧ i < b then v else M0.2 21 i))) : ∀ (m j : Nat), m + j = b → a ≤ j → xF l G y_JA_fill3 10 [some (.ref 21), some (.int (nI a)), some (.int (nI b)), some (.long v), none, some (.int (nI j))] [] (xsL M0 21 (fun i => if a ≤ i ∧ i < j then v else M0.2 21 i)) Q := by
  have t1 : xtl 21 ≤ 7872 := Nat.le_of_ble_eq_true rfl
  intro m
  induction m with
  | zero =>
    intro j hj _
    obtain rfl : j = b := by omega
    refine xF_go o_JA_fill3 [10] 60 (fun K hK => ?_)
    repeat' ((conv => whnf); first | refine ⟨fun h => ?_, fun h => ?_⟩ | refine ⟨?_, ?_⟩ | refine hK _ _ _ _ ?_)
    · refine xF_vret o_JA_fill3 rfl rfl ?_
      exact hQ
    all_goals exact absurd (show nI j < nI j from by assumption) (nI_nlt (by omega) (by omega))
  | succ m ih =>
    intro j hj haj
    refine xF_go o_JA_fill3 [10] 60 (fun K hK => ?_)
    repeat' ((conv => whnf); first | refine ⟨fun h => ?_, fun h => ?_⟩ | refine ⟨?_, ?_⟩ | refine hK _ _ _ _ ?_)
    · exact absurd (nI_lt (by omega) (by omega)) h
    · exact vp_in_nI (N := xtl 21) (by omega) (by omega)
    · rw [nI_1, nI_clamp (by omega), xsL_LL]
      have e := ih (j + 1) (by omega) (by omega)
      rw [xsL_c (g := vp_updL (fun i => if a ≤ i ∧ i < j then v else M0.2 21 i) j v)] at e
      · exact e
      · intro i
        unfold vp_updL
        grind
theorem E_fill3_21 (v : Int64) (a b : Nat) (hab : a ≤ b) (hb : b ≤ xtl 21) (M : xMe) : xE l G y_JA_fill3 [.ref 21, .int (nI a), .int (nI b), .long v] M (fun r M' => r = none ∧ M' = xsL M 21 (fun i => if a ≤ i ∧ i < b then v else M.2 21 i)) := by
  have t1 : xtl 21 ≤ 7872 := Nat.le_of_ble_eq_true rfl
  refine xE_of [some (.ref 21), some (.int (nI a)), some (.int (nI b)), some (.long v), none, none] (by decide +kernel) (Nat.le_of_ble_eq_true rfl) rfl ?_
  refine xF_go o_JA_fill3 [] 60 (fun K hK => ?_)
  repeat' ((conv => whnf); first | refine ⟨fun h => ?_, fun h => ?_⟩ | refine ⟨?_, ?_⟩ | refine hK _ _ _ _ ?_)
  refine xF_callS o_JA_fill3 [.int (nI (xtl 21)), .int (nI a), .int (nI b)] rfl z_JA_rangeCheck s_JA_rangeCheck l_JA_13 rfl ⟨⟨by decide, by decide⟩, rfl, rfl⟩ (Nat.le_of_ble_eq_true rfl) rfl (E_rangeCheck l G (xtl 21) a b hab hb (by omega) M) ?_
  rintro r M' ⟨rfl, rfl⟩
  clear hK K
  refine xF_go o_JA_fill3 [10] 60 (fun K hK => ?_)
  repeat' ((conv => whnf); first | refine ⟨fun h => ?_, fun h => ?_⟩ | refine ⟨?_, ?_⟩ | refine hK _ _ _ _ ?_)
  have e0 : M' = xsL M' 21 (fun i => if a ≤ i ∧ i < a then v else M'.2 21 i) := (xsL_id (fun i => by rw [if_neg (by omega)])).symm
  have key := L_fill3_21 l G v a b hab hb M' (fun r M2 => r = none ∧ M2 = xsL M' 21 (fun i => if a ≤ i ∧ i < b then v else M'.2 21 i)) ⟨rfl, rfl⟩ (b - a) a (by omega) (Nat.le_refl _)
  rw [← e0] at key
  exact key
theorem L_fill3_22 (v : Int64) (a b : Nat) (hab : a ≤ b) (hb : b ≤ xtl 22) (M0 : xMe) (Q : Option Value → xMe → Prop) (hQ : Q none (xsL M0 22 (fun i => if a ≤ i ∧ i < b then v else M0.2 22 i))) : ∀ (m j : Nat), m + j = b → a ≤ j → xF l G y_JA_fill3 10 [some (.ref 22), some (.int (nI a)), some (.int (nI b)), some (.long v), none, some (.int (nI j))] [] (xsL M0 22 (fun i => if a ≤ i ∧ i < j then v else M0.2 22 i)) Q := by
  have t1 : xtl 22 ≤ 7872 := Nat.le_of_ble_eq_true rfl
  intro m
  induction m with
  | zero =>
    intro j hj _
    obtain rfl : j = b := by omega
    refine xF_go o_JA_fill3 [10] 60 (fun K hK => ?_)
    repeat' ((conv => whnf); first | refine ⟨fun h => ?_, fun h => ?_⟩ | refine ⟨?_, ?_⟩ | refine hK _ _ _ _ ?_)
    · refine xF_vret o_JA_fill3 rfl rfl ?_
      exact hQ
    all_goals exact absurd (show nI j < nI j from by assumption) (nI_nlt (by omega) (by omega))
  | succ m ih =>
    intro j hj haj
    refine xF_go o_JA_fill3 [10] 60 (fun K hK => ?_)
    repeat' ((conv => whnf); first | refine ⟨fun h => ?_, fun h => ?_⟩ | refine ⟨?_, ?_⟩ | refine hK _ _ _ _ ?_)
    · exact absurd (nI_lt (by omega) (by omega)) h
    · exact vp_in_nI (N := xtl 22) (by omega) (by omega)
    · rw [nI_1, nI_clamp (by omega), xsL_LL]
      have e := ih (j + 1) (by omega) (by omega)
      rw [xsL_c (g := vp_updL (fun i => if a ≤ i ∧ i < j then v else M0.2 22 i) j v)] at e
      · exact e
      · intro i
        unfold vp_updL
        grind
theorem E_fill3_22 (v : Int64) (a b : Nat) (hab : a ≤ b) (hb : b ≤ xtl 22) (M : xMe) : xE l G y_JA_fill3 [.ref 22, .int (nI a), .int (nI b), .long v] M (fun r M' => r = none ∧ M' = xsL M 22 (fun i => if a ≤ i ∧ i < b then v else M.2 22 i)) := by
  have t1 : xtl 22 ≤ 7872 := Nat.le_of_ble_eq_true rfl
  refine xE_of [some (.ref 22), some (.int (nI a)), some (.int (nI b)), some (.long v), none, none] (by decide +kernel) (Nat.le_of_ble_eq_true rfl) rfl ?_
  refine xF_go o_JA_fill3 [] 60 (fun K hK => ?_)
  repeat' ((conv => whnf); first | refine ⟨fun h => ?_, fun h => ?_⟩ | refine ⟨?_, ?_⟩ | refine hK _ _ _ _ ?_)
  refine xF_callS o_JA_fill3 [.int (nI (xtl 22)), .int (nI a), .int (nI b)] rfl z_JA_rangeCheck s_JA_rangeCheck l_JA_13 rfl ⟨⟨by decide, by decide⟩, rfl, rfl⟩ (Nat.le_of_ble_eq_true rfl) rfl (E_rangeCheck l G (xtl 22) a b hab hb (by omega) M) ?_
  rintro r M' ⟨rfl, rfl⟩
  clear hK K
  refine xF_go o_JA_fill3 [10] 60 (fun K hK => ?_)
  repeat' ((conv => whnf); first | refine ⟨fun h => ?_, fun h => ?_⟩ | refine ⟨?_, ?_⟩ | refine hK _ _ _ _ ?_)
  have e0 : M' = xsL M' 22 (fun i => if a ≤ i ∧ i < a then v else M'.2 22 i) := (xsL_id (fun i => by rw [if_neg (by omega)])).symm
  have key := L_fill3_22 l G v a b hab hb M' (fun r M2 => r = none ∧ M2 = xsL M' 22 (fun i => if a ≤ i ∧ i < b then v else M'.2 22 i)) ⟨rfl, rfl⟩ (b - a) a (by omega) (Nat.le_refl _)
  rw [← e0] at key
  exact key
end XFI
