/-! bytes and input as told -/
def sBytes (P : sP) (k p m : Nat) (v : Int64) : sP := (pS P, pA P, pG P, pV P, fun j q => if j = k ∧ p ≤ q ∧ q < p + m then vbyte v (q - p) else pO P j q, pR P, pC P, pE P, pI P)
def sInput (P : sP) (n : Nat) (v : Int64) : sP := (pS P, pA P, pG P, pV P, pO P, pR P, pC P, pE P, pI P ++ (List.range n).map (vbyte v))
theorem sBytes_O (P : sP) (k p m : Nat) (v : Int64) (j q : Nat) : pO (sBytes P k p m v) j q = if j = k ∧ p ≤ q ∧ q < p + m then vbyte v (q - p) else pO P j q := rfl
theorem sInput_I (P : sP) (n : Nat) (v : Int64) : pI (sInput P n v) = pI P ++ (List.range n).map (vbyte v) := rfl
section XTO
variable (l : Launch) (G : xG)
theorem L_tellOctets (k p : Nat) (hk : k < 24) (m : Nat) (hm : m ≤ 8) (hpm : p + m ≤ 64) (n : Int32) (v : Int64) (M0 : xMe) (Q : Option Value → xMe → Prop) (hnext : Q (some (.int (nI m))) (xsI M0 6 (fun i => if k * 64 + p ≤ i ∧ i < k * 64 + p + m then nI (vbyte v (i - (k * 64 + p))) else M0.1 6 i))) : ∀ (d i : Nat), d + i = m → xF l G y_Pr_tellOctets 17 [some (.ref 1), some (.int (nI k)), some (.int (nI p)), some (.int n), some (.long v), none, some (.int (nI m)), some (.int (nI i))] [] (xsI M0 6 (fun j => if k * 64 + p ≤ j ∧ j < k * 64 + p + i then nI (vbyte v (j - (k * 64 + p))) else M0.1 6 j)) Q := by
  intro d
  induction d with
  | zero =>
    intro i hi
    refine xF_go o_Pr_tellOctets [17] 60 (fun K hK => ?_)
    repeat' ((conv => whnf); first | refine ⟨fun h => ?_, fun h => ?_⟩ | refine ⟨?_, ?_⟩ | refine hK _ _ _ _ ?_)
    · refine xF_iret o_Pr_tellOctets rfl rfl ?_
      have e : i = m := by omega
      subst e
      exact hnext
    · exact absurd h (nI_nlt (by omega) (by omega))
  | succ d ih =>
    intro i hi
    refine xF_go o_Pr_tellOctets [17] 60 (fun K hK => ?_)
    repeat' ((conv => whnf); first | refine ⟨fun h => ?_, fun h => ?_⟩ | refine ⟨?_, ?_⟩ | refine hK _ _ _ _ ?_)
    · exact absurd (nI_lt (by omega) (by omega)) h
    · refine xF_callS o_Pr_tellOctets [.long v, .int (nI i)] rfl z_DS_octetOf s_DS_octetOf l_Pr_82 rfl ⟨⟨by decide, by decide⟩, rfl, rfl⟩ (Nat.le_of_ble_eq_true rfl) rfl (E_octet l G v i (by omega) _) ?_
      rintro w M' ⟨rfl, rfl⟩
      clear hK K
      refine xF_go o_Pr_tellOctets [17] 60 (fun K hK => ?_)
      repeat' ((conv => whnf); first | refine ⟨fun h => ?_, fun h => ?_⟩ | refine ⟨?_, ?_⟩ | refine hK _ _ _ _ ?_)
      · rw [nI_16, nI_add, nI_add]
        exact vp_in_nI (N := 1536) (by omega) (by decide)
      · rw [nI_1, nI_16, nI_add, nI_add, nI_clamp (by omega), xsI_II, xsI_s]
        have e := ih (i + 1) (by omega)
        rw [xsI_c (g := upd (fun j => if k * 64 + p ≤ j ∧ j < k * 64 + p + i then nI (vbyte v (j - (k * 64 + p))) else M0.1 6 j) (k * 64 + p + i) (nI (vbyte v i)))] at e
        · exact e
        · intro j
          unfold upd
          by_cases ej : j = k * 64 + p + i
          · subst ej
            rw [if_pos (by omega), if_pos rfl]
            congr 2
            omega
          · rw [if_neg ej]
            dsimp only
            by_cases e2 : k * 64 + p ≤ j ∧ j < k * 64 + p + i
            · rw [if_pos e2, if_pos (by omega)]
            · rw [if_neg e2, if_neg (by omega)]
theorem E_tellOctets (P : sP) (M : xMe) (hM : cP P M) (hw : wP P) (k p n : Nat) (v : Int64) (hk : k < 24) (hp : p < pS P k) (hn : n ≤ 8) : xE l G y_Pr_tellOctets [.ref 1, .int (nI k), .int (nI p), .int (nI n), .long v] M (fun r M' => r = some (.int (nI (min n (pS P k - p)))) ∧ cP (sBytes P k p (min n (pS P k - p)) v) M' ∧ xfr [6] M M') := by
  obtain ⟨h1, h2, h3, h4, h5, h6⟩ := hM
  have hs := (hw.1 k hk).1
  refine xE_of [some (.ref 1), some (.int (nI k)), some (.int (nI p)), some (.int (nI n)), some (.long v), none, none, none] (by decide +kernel) (Nat.le_of_ble_eq_true rfl) rfl ?_
  refine xF_go o_Pr_tellOctets [17] 60 (fun K hK => ?_)
  repeat' ((conv => whnf); first | refine ⟨fun h => ?_, fun h => ?_⟩ | refine ⟨?_, ?_⟩ | refine hK _ _ _ _ ?_)
  · exact vp_in_nI hk (by decide)
  rw [nI_clamp (by omega), (h1 k hk).1, pk_sub (by omega)]
  refine xF_callS o_Pr_tellOctets [.int (nI n), .int (nI (pS P k - p))] rfl z_JM_min s_JM_min l_Pr_76 rfl ⟨⟨by decide, by decide⟩, rfl, rfl⟩ (Nat.le_of_ble_eq_true rfl) rfl (E_min l G (nI n) (nI (pS P k - p)) M) ?_
  rintro w M' ⟨rfl, rfl⟩
  clear hK K
  have emin : (if nI n ≤ nI (pS P k - p) then nI n else nI (pS P k - p)) = nI (min n (pS P k - p)) := by
    by_cases e : n ≤ pS P k - p
    · rw [if_pos ((nI_leI (by omega) (by omega)).mpr e), Nat.min_eq_left e]
    · rw [if_neg (fun z => e ((nI_leI (by omega) (by omega)).mp z)), Nat.min_eq_right (by omega)]
  rw [emin]
  refine xF_go o_Pr_tellOctets [17] 60 (fun K hK => ?_)
  repeat' ((conv => whnf); first | refine ⟨fun h => ?_, fun h => ?_⟩ | refine ⟨?_, ?_⟩ | refine hK _ _ _ _ ?_)
  have e0 : M' = xsI M' 6 (fun j => if k * 64 + p ≤ j ∧ j < k * 64 + p + 0 then nI (vbyte v (j - (k * 64 + p))) else M'.1 6 j) := (xsI_id (fun i => by rw [if_neg (by omega)])).symm
  have key := L_tellOctets l G k p hk (min n (pS P k - p)) (by omega) (by omega) (nI n) v M' (fun r M'' => r = some (.int (nI (min n (pS P k - p)))) ∧ cP (sBytes P k p (min n (pS P k - p)) v) M'' ∧ xfr [6] M' M'') ?_ (min n (pS P k - p)) 0 (by omega)
  · rw [← e0] at key
    exact key
  · have nf : xfr [6] M' (xsI M' 6 (fun i => if k * 64 + p ≤ i ∧ i < k * 64 + p + min n (pS P k - p) then nI (vbyte v (i - (k * 64 + p))) else M'.1 6 i)) := xfr.rf.I (by simp)
    refine ⟨rfl, ⟨?_, ?_, ?_, ?_, ?_, ?_⟩, nf⟩
    · intro j hj
      exact h1 j hj
    · intro j hj q hq
      rw [xsI_1, if_pos rfl, sBytes_O]
      by_cases e : j = k ∧ p ≤ q ∧ q < p + min n (pS P k - p)
      · rw [if_pos e, if_pos (by omega)]
        congr 2
        omega
      · rw [if_neg e, if_neg (by omega)]
        exact h2 j hj q hq
    · intro j hj q hq
      exact h3 j hj q hq
    · intro g hg
      exact h4 g hg
    · intro g hg
      exact h5 g hg
    · exact h6
theorem L_addInput (L n : Nat) (hn : n ≤ 8) (hL : L + n ≤ 200) (v : Int64) (M0 : xMe) (h0 : M0.1 1 14 = nI L) (Q : Option Value → xMe → Prop) (hnext : Q (some (.int (nI (L + n)))) (xsI (xsI M0 15 (fun i => if L ≤ i ∧ i < L + n then nI (vbyte v (i - L)) else M0.1 15 i)) 1 (upd (M0.1 1) 14 (nI (L + n))))) : ∀ (d i : Nat), d + i = n → xF l G y_Pr_addInput 3 [some (.ref 1), some (.int (nI n)), some (.long v), none, some (.int (nI i))] [] (xsI M0 15 (fun j => if L ≤ j ∧ j < L + i then nI (vbyte v (j - L)) else M0.1 15 j)) Q := by
  intro d
  induction d with
  | zero =>
    intro i hi
    refine xF_go o_Pr_addInput [3] 60 (fun K hK => ?_)
    repeat' ((conv => whnf); first | refine ⟨fun h => ?_, fun h => ?_⟩ | refine ⟨?_, ?_⟩ | refine hK _ _ _ _ ?_)
    · refine xF_iret o_Pr_addInput rfl rfl ?_
      have e : i = n := by omega
      subst e
      have e1 : ∀ F, (xsI M0 15 F).1 1 = M0.1 1 := fun F => rfl
      rw [xsI_1, if_pos rfl, upd_s, e1, h0, nI_add]
      exact hnext
    · exact absurd h (nI_nlt (by omega) (by omega))
  | succ d ih =>
    intro i hi
    refine xF_go o_Pr_addInput [3] 60 (fun K hK => ?_)
    repeat' ((conv => whnf); first | refine ⟨fun h => ?_, fun h => ?_⟩ | refine ⟨?_, ?_⟩ | refine hK _ _ _ _ ?_)
    · exact absurd (nI_lt (by omega) (by omega)) h
    · refine xF_callS o_Pr_addInput [.long v, .int (nI i)] rfl z_DS_octetOf s_DS_octetOf l_Pr_82 rfl ⟨⟨by decide, by decide⟩, rfl, rfl⟩ (Nat.le_of_ble_eq_true rfl) rfl (E_octet l G v i (by omega) _) ?_
      rintro w M' ⟨rfl, rfl⟩
      clear hK K
      have e1 : ∀ F, (xsI M0 15 F).1 1 14 = nI L := fun F => h0
      rw [e1]
      refine xF_go o_Pr_addInput [3] 60 (fun K hK => ?_)
      repeat' ((conv => whnf); first | refine ⟨fun h => ?_, fun h => ?_⟩ | refine ⟨?_, ?_⟩ | refine hK _ _ _ _ ?_)
      · rw [nI_add]
        exact vp_in_nI (N := 200) (by omega) (by decide)
      · rw [nI_1, nI_add, nI_clamp (by omega), xsI_II, xsI_s]
        have e := ih (i + 1) (by omega)
        rw [xsI_c (g := upd (fun j => if L ≤ j ∧ j < L + i then nI (vbyte v (j - L)) else M0.1 15 j) (L + i) (nI (vbyte v i)))] at e
        · exact e
        · intro j
          unfold upd
          by_cases ej : j = L + i
          · subst ej
            rw [if_pos (by omega), if_pos rfl]
            congr 2
            omega
          · rw [if_neg ej]
            dsimp only
            by_cases e2 : L ≤ j ∧ j < L + i
            · rw [if_pos e2, if_pos (by omega)]
            · rw [if_neg e2, if_neg (by omega)]
theorem E_addInput (P : sP) (M : xMe) (hM : cP P M) (n : Nat) (v : Int64) (hn : n ≤ 8) (hL : (pI P).length + n ≤ 200) : xE l G y_Pr_addInput [.ref 1, .int (nI n), .long v] M (fun r M' => r = some (.int (nI ((pI P).length + n))) ∧ cP (sInput P n v) M' ∧ (∀ j, j ≠ 14 → M'.1 1 j = M.1 1 j) ∧ xfr [1, 15] M M') := by
  obtain ⟨h1, h2, h3, h4, h5, h6⟩ := hM
  refine xE_of [some (.ref 1), some (.int (nI n)), some (.long v), none, none] (by decide +kernel) (Nat.le_of_ble_eq_true rfl) rfl ?_
  refine xF_go o_Pr_addInput [3] 60 (fun K hK => ?_)
  repeat' ((conv => whnf); first | refine ⟨fun h => ?_, fun h => ?_⟩ | refine ⟨?_, ?_⟩ | refine hK _ _ _ _ ?_)
  have e0 : M = xsI M 15 (fun j => if (pI P).length ≤ j ∧ j < (pI P).length + 0 then nI (vbyte v (j - (pI P).length)) else M.1 15 j) := (xsI_id (fun i => by rw [if_neg (by omega)])).symm
  have key := L_addInput l G (pI P).length n hn hL v M h6.1 (fun r M' => r = some (.int (nI ((pI P).length + n))) ∧ cP (sInput P n v) M' ∧ (∀ j, j ≠ 14 → M'.1 1 j = M.1 1 j) ∧ xfr [1, 15] M M') ?_ n 0 (by omega)
  · rw [← e0] at key
    exact key
  · refine ⟨rfl, ⟨fun j hj => h1 j hj, fun j hj q hq => h2 j hj q hq, fun j hj q hq => h3 j hj q hq, fun g hg => h4 g hg, fun g hg => h5 g hg, ?_, ?_⟩, fun j hj => ?_, (xfr.rf.I (by simp)).I (by simp)⟩
    · rw [xsI_1, if_pos rfl, upd_s, sInput_I]
      simp
    · intro i w hi
      show (if (pI P).length ≤ i ∧ i < (pI P).length + n then nI (vbyte v (i - (pI P).length)) else M.1 15 i) = _
      rw [sInput_I] at hi
      by_cases e : i < (pI P).length
      · rw [if_neg (by omega)]
        rw [List.getElem?_append_left e] at hi
        exact h6.2 i w hi
      · have hi2 := (List.getElem?_eq_some_iff.mp hi).1
        simp at hi2
        rw [if_pos (by omega)]
        rw [List.getElem?_append_right (by omega), List.getElem?_map, List.getElem?_range (by omega)] at hi
        simp at hi
        rw [hi]
    · rw [xsI_1, if_pos rfl, upd_n hj]
end XTO
