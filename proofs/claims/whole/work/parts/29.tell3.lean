/-! references and code as told; the bytes of a number -/
def vbyte (v : Int64) (j : Nat) : Nat := v.toBitVec.toNat / 2 ^ (8 * (7 - j)) % 256
theorem vbyte_lt (v : Int64) (j : Nat) : vbyte v j < 256 := Nat.mod_lt _ (by decide)
theorem oct_sh : ∀ j, j < 8 → (8 * (7 - nI j) : Int32) = nI (8 * (7 - j)) := by decide +kernel
theorem oct_c (v : Int64) {j : Nat} (hj : j < 8) : ((v.toUInt64 >>> ((8 * (7 - nI j)).toInt64.toUInt64 &&& Int64.toUInt64 63)).toInt64.toInt32 &&& 255) = nI (vbyte v j) := by
  rw [oct_sh j hj, pk_and _ 8 (by decide +kernel)]
  congr 1
  unfold vbyte
  have e := xshr_bv v (p := 8 * (7 - j)) (by omega)
  generalize hx : (v.toUInt64 >>> ((nI (8 * (7 - j))).toInt64.toUInt64 &&& Int64.toUInt64 63)).toInt64 = x at e ⊢
  have e2 : x.toInt32.toBitVec.toNat % 2 ^ 8 = x.toBitVec.toNat % 256 := by
    rw [Int64.toBitVec_toInt32, BitVec.signExtend_eq_setWidth_of_le _ (by decide), BitVec.toNat_setWidth]
    omega
  rw [e2, e, BitVec.toNat_ushiftRight, Nat.shiftRight_eq_div_pow]
section XTN
variable (l : Launch) (G : xG)
theorem E_octet (v : Int64) (j : Nat) (hj : j < 8) (M : xMe) : xE l G y_DS_octetOf [.long v, .int (nI j)] M (fun r M' => M' = M ∧ r = some (.int (nI (vbyte v j)))) := by
  refine xE_post ?_ (E_octetOf l G v (nI j) M)
  rintro r M' ⟨rfl, rfl⟩
  exact ⟨rfl, by rw [oct_c v hj]⟩
theorem sRef_R (P : sP) (k p : Nat) (t : Option Nat) (j q : Nat) : pR (sRef P k p t) j q = if j = k ∧ q = p then t else pR P j q := rfl
theorem cP_ref {P : sP} {M N : xMe} (hM : cP P M) {k p : Nat} (hk : k < 24) (hp : p < 64) {t : Option Nat} (n8 : ∀ j, j < 24 → ∀ q, q < 64 → xbit (N.2 8 j) q = if j = k ∧ q = p then t.isSome else xbit (M.2 8 j) q) (n7 : ∀ j, j < 24 → ∀ q, q < 64 → ¬ (j = k ∧ q = p) → N.1 7 (j * 64 + q) = M.1 7 (j * 64 + q)) (n7' : ∀ t', t = some t' → N.1 7 (k * 64 + p) = nI t') (nf : xfr [7, 8] M N) : cP (sRef P k p t) N := by
  obtain ⟨h1, h2, h3, h4, h5, h6⟩ := hM
  refine ⟨?_, ?_, ?_, ?_, ?_, ?_⟩
  · intro j hj
    rw [(nf 2 (by simp)).1, (nf 3 (by simp)).1, (nf 4 (by simp)).1, (nf 5 (by simp)).1]
    exact h1 j hj
  · intro j hj q hq
    rw [(nf 6 (by simp)).1]
    exact h2 j hj q hq
  · intro j hj q hq
    rw [n8 j hj q hq, sRef_R]
    by_cases e : j = k ∧ q = p
    · rw [if_pos e, if_pos e]
      obtain ⟨rfl, rfl⟩ := e
      exact ⟨rfl, n7'⟩
    · rw [if_neg e, if_neg e, n7 j hj q hq e]
      exact h3 j hj q hq
  · intro f' hf'
    rw [(nf 9 (by simp)).1, (nf 10 (by simp)).1, (nf 11 (by simp)).1, (nf 12 (by simp)).1, (nf 13 (by simp)).1]
    exact h4 f' hf'
  · intro f' hf'
    rw [(nf 14 (by simp)).1]
    exact h5 f' hf'
  · refine ⟨?_, fun i v' hv => ?_⟩
    · rw [(nf 1 (by simp)).1]
      exact h6.1
    · rw [(nf 15 (by simp)).1]
      exact h6.2 i v' hv
def oI (t : Option Nat) : Int32 := match t with
  | some k => nI k
  | none => -1
theorem E_tellReference (P : sP) (M : xMe) (hM : cP P M) (k p : Nat) (t : Option Nat) (hk : k < 24) (hp : p < 64) (ht : ∀ t', t = some t' → t' < 24) : xE l G y_Pr_tellReference [.ref 1, .int (nI k), .int (nI p), .int (oI t)] M (fun r M' => r = none ∧ cP (sRef P k p t) M' ∧ xfr [7, 8] M M') := by
  have hix : (nI k * 64 + nI p).toNatClampNeg = k * 64 + p := by rw [nI_16, nI_add, nI_clamp (by omega)]
  refine xE_of [some (.ref 1), some (.int (nI k)), some (.int (nI p)), some (.int (oI t))] (by decide +kernel) (Nat.le_of_ble_eq_true rfl) rfl ?_
  refine xF_go o_Pr_tellReference [] 60 (fun K hK => ?_)
  repeat' ((conv => whnf); first | refine ⟨fun h => ?_, fun h => ?_⟩ | refine ⟨?_, ?_⟩ | refine hK _ _ _ _ ?_)
  · exact vp_in_nI hk (by decide)
  · exact vp_in_nI hk (by decide)
  · rw [nI_16, nI_add]
    exact vp_in_nI (N := 1536) (by omega) (by decide)
  · refine xF_vret o_Pr_tellReference rfl rfl ?_
    rw [hix, nI_clamp (by omega)]
    cases t with
    | none => exact absurd rfl h
    | some t' =>
      refine ⟨rfl, cP_ref hM hk hp (fun j hj q hq => ?_) (fun j hj q hq e => ?_) (fun t2 e2 => ?_) ((xfr.rf.L (by simp)).I (by simp)), (xfr.rf.L (by simp)).I (by simp)⟩
      · rw [xsI_2, xsL_2, if_pos rfl]
        by_cases e : j = k
        · subst e
          rw [updL_s, xbit_or, xbit_1 hp]
          by_cases e2 : q = p <;> simp [e2]
        · rw [updL_n e, if_neg (fun z => e z.1)]
      · rw [xsI_1, if_pos rfl, upd_n (by omega), xsL_1]
      · cases e2
        rw [xsI_1, if_pos rfl, upd_s]
        rfl
  · exact vp_in_nI hk (by decide)
  · exact vp_in_nI hk (by decide)
  · refine xF_vret o_Pr_tellReference rfl rfl ?_
    rw [nI_clamp (by omega)]
    have e0 : t = none := by
      cases t with
      | none => rfl
      | some t' =>
        have h1 := ht t' rfl
        have h2 : nI t' = -1 := h
        exact absurd (h2 ▸ nI_pos' (n := t') (by omega)) (by decide)
    subst e0
    refine ⟨rfl, cP_ref hM hk hp (fun j hj q hq => ?_) (fun j hj q hq e => rfl) (fun t2 e2 => by cases e2) (xfr.rf.L (by simp)), xfr.rf.L (by simp)⟩
    rw [xsL_2, if_pos rfl]
    by_cases e : j = k
    · subst e
      rw [updL_s, xbit_and, xbit_not _ hq, xbit_1 hp]
      by_cases e2 : q = p <;> simp [e2]
    · rw [updL_n e, if_neg (fun z => e z.1)]
theorem sCode_C (P : sP) (f : Nat) (q : Nat × Int32 × Int32 × Int32) (j : Nat) : pC (sCode P f q) j = if j = f then pC P j ++ [q] else pC P j := rfl
theorem E_addInstruction (P : sP) (M : xMe) (hM : cP P M) (hw : wP P) (f o : Nat) (a b c : Int32) (hf : f < 12) (hl : (pC P f).length < 40) : xE l G y_Pr_addInstruction [.ref 1, .int (nI f), .int (nI o), .int a, .int b, .int c] M (fun r M' => r = some (.int (nI ((pC P f).length + 1))) ∧ cP (sCode P f (o, a, b, c)) M' ∧ xfr [9, 10, 11, 12, 13] M M') := by
  obtain ⟨h1, h2, h3, h4, h5, h6⟩ := hM
  obtain ⟨hlen, hrows⟩ := h4 f hf
  have hix : (nI f * 40 + M.1 9 (nI f).toNatClampNeg) = nI (f * 40 + (pC P f).length) := by rw [nI_clamp (by omega), hlen, nI_40, nI_add]
  have hix2 : (nI f * 40 + M.1 9 (nI f).toNatClampNeg).toNatClampNeg = f * 40 + (pC P f).length := by rw [hix, nI_clamp (by omega)]
  refine xE_of [some (.ref 1), some (.int (nI f)), some (.int (nI o)), some (.int a), some (.int b), some (.int c), none] (by decide +kernel) (Nat.le_of_ble_eq_true rfl) rfl ?_
  refine xF_go o_Pr_addInstruction [] 60 (fun K hK => ?_)
  repeat' ((conv => whnf); first | refine ⟨fun h => ?_, fun h => ?_⟩ | refine ⟨?_, ?_⟩ | refine hK _ _ _ _ ?_)
  · exact vp_in_nI hf (by decide)
  · rw [hix]; exact vp_in_nI (N := 480) (by omega) (by decide)
  · rw [hix]; exact vp_in_nI (N := 480) (by omega) (by decide)
  · rw [hix]; exact vp_in_nI (N := 480) (by omega) (by decide)
  · rw [hix]; exact vp_in_nI (N := 480) (by omega) (by decide)
  · exact vp_in_nI hf (by decide)
  · exact vp_in_nI hf (by decide)
  · exact vp_in_nI hf (by decide)
  · refine xF_iret o_Pr_addInstruction rfl rfl ?_
    rw [hix2]
    generalize hN : xsI _ 9 _ = N
    have n9 : N.1 9 = upd (M.1 9) (nI f).toNatClampNeg (M.1 9 (nI f).toNatClampNeg + 1) := by rw [← hN]; rfl
    have n10 : N.1 10 = upd (M.1 10) (f * 40 + (pC P f).length) (nI o) := by rw [← hN]; rfl
    have n11 : N.1 11 = upd (M.1 11) (f * 40 + (pC P f).length) a := by rw [← hN]; rfl
    have n12 : N.1 12 = upd (M.1 12) (f * 40 + (pC P f).length) b := by rw [← hN]; rfl
    have n13 : N.1 13 = upd (M.1 13) (f * 40 + (pC P f).length) c := by rw [← hN]; rfl
    have nf : xfr [9, 10, 11, 12, 13] M N := by
      rw [← hN]
      exact ((((xfr.rf.I (by simp)).I (by simp)).I (by simp)).I (by simp)).I (by simp)
    clear hN
    rw [nI_clamp (by omega), hlen, nI_1] at n9
    refine ⟨?_, ⟨?_, ?_, ?_, ?_, ?_, ?_⟩, nf⟩
    · rw [n9, nI_clamp (by omega), upd_s]
    · intro j hj
      rw [(nf 2 (by simp)).1, (nf 3 (by simp)).1, (nf 4 (by simp)).1, (nf 5 (by simp)).1]
      exact h1 j hj
    · intro j hj q hq
      rw [(nf 6 (by simp)).1]
      exact h2 j hj q hq
    · intro j hj q hq
      rw [(nf 7 (by simp)).1, (nf 8 (by simp)).2]
      exact h3 j hj q hq
    · intro g hg
      obtain ⟨g1, g2⟩ := h4 g hg
      have hgl := (hw.2.2.2.1 g hg).1
      rw [sCode_C, n9, n10, n11, n12, n13]
      by_cases e : g = f
      · subst e
        rw [if_pos rfl, upd_s]
        refine ⟨by simp, fun i q hi => ?_⟩
        by_cases e2 : i = (pC P g).length
        · subst e2
          rw [List.getElem?_append_right (by omega)] at hi
          simp at hi
          subst hi
          simp [upd]
        · have hi2 : i < (pC P g).length := by
            have := (List.getElem?_eq_some_iff.mp hi).1
            simp at this
            omega
          rw [List.getElem?_append_left hi2] at hi
          have := g2 i q hi
          rw [upd_n (by omega), upd_n (by omega), upd_n (by omega), upd_n (by omega)]
          exact this
      · rw [if_neg e, upd_n e]
        refine ⟨g1, fun i q hi => ?_⟩
        have hi2 : i < (pC P g).length := (List.getElem?_eq_some_iff.mp hi).1
        rw [upd_n (by omega), upd_n (by omega), upd_n (by omega), upd_n (by omega)]
        exact g2 i q hi
    · intro g hg
      rw [(nf 14 (by simp)).1]
      exact h5 g hg
    · refine ⟨?_, fun i v' hv => ?_⟩
      · rw [(nf 1 (by simp)).1]
        exact h6.1
      · rw [(nf 15 (by simp)).1]
        exact h6.2 i v' hv
end XTN
