/-! the reference's bytes, input, item -/
section XMT
variable (l : Launch) (G : xG)
theorem L_Mbytes (k p n s : Nat) (hk : k < 24) (hn : n ≤ 8) (hps : p < s) (hs : s ≤ 64) (v : Int64) (M0 : xMe) (hsz : M0.1 51 k = nI s) (Q : Option Value → xMe → Prop) (hnext : Q (some (.int (nI (min n (s - p))))) (xsI (xsI M0 54 (fun i => if k * 64 + p ≤ i ∧ i < k * 64 + p + min n (s - p) then nI (vbyte v (i - (k * 64 + p))) else M0.1 54 i)) 50 (upd (M0.1 50) 26 0))) : ∀ (d i : Nat), d + i = min n (s - p) → xF l G y_Mo_bytes 24 [some (.ref 50), some (.int (nI k)), some (.int (nI p)), some (.int (nI n)), some (.long v), none, some (.int (nI i))] [] (xsI M0 54 (fun j => if k * 64 + p ≤ j ∧ j < k * 64 + p + i then nI (vbyte v (j - (k * 64 + p))) else M0.1 54 j)) Q := by
  have hcl : (nI k).toNatClampNeg = k := nI_clamp (by omega)
  intro d
  induction d with
  | zero =>
    intro i hi
    have e : i = min n (s - p) := by omega
    have e51 : ∀ F, (xsI M0 54 F).1 51 (nI k).toNatClampNeg = nI s := fun F => by rw [hcl]; exact hsz
    refine xF_go o_Mo_bytes [24] 80 (fun K hK => ?_)
    repeat' ((conv => whnf); first | refine ⟨fun h => ?_, fun h => ?_⟩ | refine ⟨?_, ?_⟩ | refine hK _ _ _ _ ?_)
    · exact Or.inl rfl
    · refine xF_iret o_Mo_bytes rfl rfl ?_
      rw [e]
      exact hnext
    · exact vp_in_nI hk (by decide)
    · exact Or.inl rfl
    · refine xF_iret o_Mo_bytes rfl rfl ?_
      rw [e]
      exact hnext
    all_goals
      have q1 : nI i < nI n := by assumption
      have q2 : nI p + nI i < (xsI M0 54 (fun j => if k * 64 + p ≤ j ∧ j < k * 64 + p + i then nI (vbyte v (j - (k * 64 + p))) else M0.1 54 j)).1 51 (nI k).toNatClampNeg := by assumption
      rw [e51, nI_add, nI_ltI (by omega) (by omega)] at q2
      rw [nI_ltI (by omega) (by omega)] at q1
      omega
  | succ d ih =>
    intro i hi
    have e51 : ∀ F, (xsI M0 54 F).1 51 (nI k).toNatClampNeg = nI s := fun F => by rw [hcl]; exact hsz
    have q1 : nI i < nI n := nI_lt (by omega) (by omega)
    have q2 : ∀ F, nI p + nI i < (xsI M0 54 F).1 51 (nI k).toNatClampNeg := fun F => by rw [e51, nI_add]; exact nI_lt (by omega) (by omega)
    refine xF_go o_Mo_bytes [24] 80 (fun K hK => ?_)
    repeat' ((conv => whnf); first | refine ⟨fun h => ?_, fun h => ?_⟩ | refine ⟨?_, ?_⟩ | refine hK _ _ _ _ ?_)
    · exact Or.inl rfl
    · exact absurd q1 (by assumption)
    · exact vp_in_nI hk (by decide)
    · exact Or.inl rfl
    · exact absurd (q2 _) (by assumption)
    · rw [nI_64, nI_add, nI_add]
      exact vp_in_nI (N := 1536) (by omega) (by decide)
    · rw [nI_1, nI_64, nI_add, nI_add, nI_clamp (by omega), xsI_II, xsI_s, oct_m v (by omega)]
      have e := ih (i + 1) (by omega)
      rw [xsI_c (g := upd (fun j => if k * 64 + p ≤ j ∧ j < k * 64 + p + i then nI (vbyte v (j - (k * 64 + p))) else M0.1 54 j) (64 * k + p + i) (nI (vbyte v i)))] at e
      · exact e
      · intro j
        unfold upd
        by_cases ej : j = 64 * k + p + i
        · subst ej
          rw [if_pos (by omega), if_pos rfl]
          congr 2
          omega
        · rw [if_neg ej]
          dsimp only
          by_cases e2 : k * 64 + p ≤ j ∧ j < k * 64 + p + i
          · rw [if_pos e2, if_pos (by omega)]
          · rw [if_neg e2, if_neg (by omega)]
theorem E_Mbytes (P P' : sP) (M : xMe) (hM : mP P M) (hw : wP P) (k p n r0 : Int32) (v : Int64) (ac : Bool) (hr : rBytes P k p n v P' r0 ac) : xE l G y_Mo_bytes [.ref 50, .int k, .int p, .int n, .long v] M (fun r M' => r = some (.int r0) ∧ mP P' M' ∧ (ac = false → M' = M) ∧ (ac = true → M'.1 50 = upd (M.1 50) 26 0) ∧ xfr [50, 54] M M') := by
  obtain ⟨h1, h2, h3, h4, h5, h6⟩ := id hM
  refine xE_of [some (.ref 50), some (.int k), some (.int p), some (.int n), some (.long v), none, none] (by decide +kernel) (Nat.le_of_ble_eq_true rfl) rfl ?_
  refine xF_go o_Mo_bytes [] 60 (fun K hK => ?_)
  repeat' ((conv => whnf); first | refine ⟨fun h => ?_, fun h => ?_⟩ | refine ⟨?_, ?_⟩ | refine hK _ _ _ _ ?_)
  refine xF_callV o_Mo_bytes [.int k, .int p] rfl z_Mo_has i_Mo_has v_Mo_has l_Mo_165 rfl ⟨⟨by decide, by decide⟩, rfl, rfl⟩ (Nat.le_of_ble_eq_true rfl) rfl rfl rfl (E_has l G P M hM.1 hw k p) ?_
  rintro w M1 ⟨rfl, b, rfl, hb⟩
  clear hK K
  rcases hr with ⟨hn, rfl, rfl, rfl⟩ | ⟨k', p', n', g1, g2, g3, g4, rfl, rfl, rfl, rfl, rfl, rfl⟩
  · cases b with
    | false =>
      refine xF_go o_Mo_bytes [24] 60 (fun K hK => ?_)
      repeat' ((conv => whnf); first | refine ⟨fun h => ?_, fun h => ?_⟩ | refine ⟨?_, ?_⟩ | refine hK _ _ _ _ ?_)
      · refine xF_iret o_Mo_bytes rfl rfl ?_
        exact ⟨rfl, hM, fun _ => rfl, (fun z => by cases z), xfr.rf⟩
      all_goals exact absurd rfl (show ¬ (b2 false) = 0 from by assumption)
    | true =>
      refine xF_go o_Mo_bytes [24] 60 (fun K hK => ?_)
      repeat' ((conv => whnf); first | refine ⟨fun h => ?_, fun h => ?_⟩ | refine ⟨?_, ?_⟩ | refine hK _ _ _ _ ?_)
      · exact absurd h (by decide)
      · refine xF_callS o_Mo_bytes [.int n, .int 1, .int 8] rfl z_Mo_in s_Mo_in l_Mo_157 rfl ⟨⟨by decide, by decide⟩, rfl, rfl⟩ (Nat.le_of_ble_eq_true rfl) rfl (E_in l G n 1 8 M1) ?_
        rintro w M ⟨rfl, rfl⟩
        clear hK K
        rw [if_neg (fun z => hn ⟨hb.mp rfl, z⟩)]
        refine xF_go o_Mo_bytes [24] 60 (fun K hK => ?_)
        repeat' ((conv => whnf); first | refine ⟨fun h => ?_, fun h => ?_⟩ | refine ⟨?_, ?_⟩ | refine hK _ _ _ _ ?_)
        · exact absurd rfl (show ¬ (0 : Int32) = 0 from by assumption)
        · refine xF_iret o_Mo_bytes rfl rfl ?_
          exact ⟨rfl, hM, fun _ => rfl, (fun z => by cases z), xfr.rf⟩
  · have hb1 : b = true := hb.mpr ⟨k', p', g1, rfl, g2, rfl⟩
    subst hb1
    have hs := (hw.1 k' g1).1
    refine xF_go o_Mo_bytes [24] 60 (fun K hK => ?_)
    repeat' ((conv => whnf); first | refine ⟨fun h => ?_, fun h => ?_⟩ | refine ⟨?_, ?_⟩ | refine hK _ _ _ _ ?_)
    · exact absurd h (by decide)
    · refine xF_callS o_Mo_bytes [.int (nI n'), .int 1, .int 8] rfl z_Mo_in s_Mo_in l_Mo_157 rfl ⟨⟨by decide, by decide⟩, rfl, rfl⟩ (Nat.le_of_ble_eq_true rfl) rfl (E_in l G (nI n') 1 8 M1) ?_
      rintro w M ⟨rfl, rfl⟩
      clear hK K
      rw [if_pos ⟨nI_le (a := 1) g3 (by omega), nI_le (b := 8) g4 (by omega)⟩]
      refine xF_go o_Mo_bytes [24] 60 (fun K hK => ?_)
      repeat' ((conv => whnf); first | refine ⟨fun h => ?_, fun h => ?_⟩ | refine ⟨?_, ?_⟩ | refine hK _ _ _ _ ?_)
      · have e0 : M = xsI M 54 (fun j => if k' * 64 + p' ≤ j ∧ j < k' * 64 + p' + 0 then nI (vbyte v (j - (k' * 64 + p'))) else M.1 54 j) := (xsI_id (fun i => by rw [if_neg (by omega)])).symm
        have key := L_Mbytes l G k' p' n' (pS P k') g1 g4 g2 hs v M (h1 k' g1).1 (fun r M' => r = some (.int (nI (min n' (pS P k' - p')))) ∧ mP (sBytes P k' p' (min n' (pS P k' - p')) v) M' ∧ (true = false → M' = M) ∧ (true = true → M'.1 50 = upd (M.1 50) 26 0) ∧ xfr [50, 54] M M') ?_ (min n' (pS P k' - p')) 0 (by omega)
        · rw [← e0] at key
          exact key
        · refine ⟨rfl, ⟨fun j hj => h1 j hj, fun j hj q hq => ?_, fun j hj q hq => h3 j hj q hq, fun g hg => h4 g hg, fun g hg => h5 g hg, h6⟩, (fun z => by cases z), fun _ => rfl, (xfr.rf.I (by simp)).I (by simp)⟩
          show (if k' * 64 + p' ≤ j * 64 + q ∧ j * 64 + q < k' * 64 + p' + min n' (pS P k' - p') then nI (vbyte v (j * 64 + q - (k' * 64 + p'))) else M.1 54 (j * 64 + q)) = _
          rw [sBytes_O]
          by_cases e : j = k' ∧ p' ≤ q ∧ q < p' + min n' (pS P k' - p')
          · rw [if_pos e, if_pos (by omega)]
            congr 2
            omega
          · rw [if_neg e, if_neg (by omega)]
            exact h2 j hj q hq
      · exact absurd h (by decide)
theorem L_Minput (L n : Nat) (hn : n ≤ 8) (hL : L + n ≤ 200) (v : Int64) (M0 : xMe) (Q : Option Value → xMe → Prop) (hnext : Q (some (.int (nI (L + n)))) (xsI (xsI M0 63 (fun i => if L ≤ i ∧ i < L + n then nI (vbyte v (i - L)) else M0.1 63 i)) 50 (upd (M0.1 50) 14 (nI (L + n))))) : ∀ (d i : Nat), d + i = n → xF l G y_Mo_input1 27 [some (.ref 50), some (.int (nI n)), some (.long v), none, some (.int (nI i))] [] (xsI (xsI M0 63 (fun j => if L ≤ j ∧ j < L + i then nI (vbyte v (j - L)) else M0.1 63 j)) 50 (upd (M0.1 50) 14 (nI (L + i)))) Q := by
  intro d
  induction d with
  | zero =>
    intro i hi
    refine xF_go o_Mo_input1 [27] 60 (fun K hK => ?_)
    repeat' ((conv => whnf); first | refine ⟨fun h => ?_, fun h => ?_⟩ | refine ⟨?_, ?_⟩ | refine hK _ _ _ _ ?_)
    · refine xF_iret o_Mo_input1 rfl rfl ?_
      have e : i = n := by omega
      subst e
      rw [xsI_1, if_pos rfl, upd_s]
      exact hnext
    all_goals exact absurd (show nI i < nI n from by assumption) (nI_nlt (by omega) (by omega))
  | succ d ih =>
    intro i hi
    have e14 : (xsI (xsI M0 63 (fun j => if L ≤ j ∧ j < L + i then nI (vbyte v (j - L)) else M0.1 63 j)) 50 (upd (M0.1 50) 14 (nI (L + i)))).1 50 14 = nI (L + i) := by rw [xsI_1, if_pos rfl, upd_s]
    refine xF_go o_Mo_input1 [27] 60 (fun K hK => ?_)
    repeat' ((conv => whnf); first | refine ⟨fun h => ?_, fun h => ?_⟩ | refine ⟨?_, ?_⟩ | refine hK _ _ _ _ ?_)
    · exact absurd (nI_lt (by omega) (by omega)) h
    · rw [e14]
      exact vp_in_nI (N := 200) (by omega) (by decide)
    · rw [e14, nI_1, nI_clamp (by omega), oct_m v (by omega)]
      have e := ih (i + 1) (by omega)
      have eM : xsI (xsI (xsI (xsI M0 63 (fun j => if L ≤ j ∧ j < L + i then nI (vbyte v (j - L)) else M0.1 63 j)) 50 (upd (M0.1 50) 14 (nI (L + i)))) 63 (upd (fun j => if L ≤ j ∧ j < L + i then nI (vbyte v (j - L)) else M0.1 63 j) (L + i) (nI (vbyte v i)))) 50 (upd (upd (M0.1 50) 14 (nI (L + i))) 14 (nI (L + i) + 1)) = xsI (xsI M0 63 (fun j => if L ≤ j ∧ j < L + (i + 1) then nI (vbyte v (j - L)) else M0.1 63 j)) 50 (upd (M0.1 50) 14 (nI (L + (i + 1)))) := by
        have a1 : (fun j => if L ≤ j ∧ j < L + (i + 1) then nI (vbyte v (j - L)) else M0.1 63 j) = upd (fun j => if L ≤ j ∧ j < L + i then nI (vbyte v (j - L)) else M0.1 63 j) (L + i) (nI (vbyte v i)) := by
          funext j
          unfold upd
          by_cases ej : j = L + i
          · subst ej
            rw [if_pos (by omega), if_pos rfl]
            congr 2
            omega
          · rw [if_neg ej]
            dsimp only
            by_cases e2 : L ≤ j ∧ j < L + i
            · rw [if_pos e2, if_pos (by omega)]
            · rw [if_neg e2, if_neg (by omega)]
        have a2 : upd (upd (M0.1 50) 14 (nI (L + i))) 14 (nI (L + i) + 1) = upd (M0.1 50) 14 (nI (L + (i + 1))) := by
          funext j
          unfold upd
          by_cases ej : j = 14
          · simp [ej, nI_1]
            rfl
          · simp [ej]
        rw [a1, a2]
        unfold xsI
        congr 1
        funext a
        by_cases a50 : a = 50
        · simp [a50]
        · by_cases a63 : a = 63 <;> simp [a50, a63]
      rw [← eM] at e
      exact e
theorem E_Minput1 (P P' : sP) (M : xMe) (hM : mP P M) (hw : wP P) (n r0 : Int32) (v : Int64) (hr : rInput P n v P' r0) : xE l G y_Mo_input1 [.ref 50, .int n, .long v] M (fun r M' => r = some (.int r0) ∧ mP P' M' ∧ (∀ j, j ≠ 14 → M'.1 50 j = M.1 50 j) ∧ xfr [50, 63] M M') := by
  obtain ⟨h1, h2, h3, h4, h5, h6⟩ := id hM
  have hl := hw.2.2.2.2.1
  refine xE_of [some (.ref 50), some (.int n), some (.long v), none, none] (by decide +kernel) (Nat.le_of_ble_eq_true rfl) rfl ?_
  refine xF_go o_Mo_input1 [] 60 (fun K hK => ?_)
  repeat' ((conv => whnf); first | refine ⟨fun h => ?_, fun h => ?_⟩ | refine ⟨?_, ?_⟩ | refine hK _ _ _ _ ?_)
  refine xF_callS o_Mo_input1 [.int n, .int 1, .int 8] rfl z_Mo_in s_Mo_in l_Mo_157 rfl ⟨⟨by decide, by decide⟩, rfl, rfl⟩ (Nat.le_of_ble_eq_true rfl) rfl (E_in l G n 1 8 M) ?_
  rintro w M1 ⟨rfl, rfl⟩
  clear hK K
  rcases hr with ⟨hn, rfl, rfl⟩ | ⟨n', g1, g2, rfl, g3, rfl, rfl⟩
  · by_cases hn8 : 1 ≤ n ∧ n ≤ 8
    · rw [if_pos hn8]
      obtain ⟨n', hn', rfl⟩ := nI_ofN (x := n) (n := 9) (by decide) (by grind) (by have : (nI 9 : Int32) = 9 := rfl; rw [this]; grind)
      have hn1 : 1 ≤ n' := by
        rcases Nat.eq_zero_or_pos n' with q | q
        · rw [q] at hn8; exact absurd hn8.1 (by decide)
        · exact q
      refine xF_go o_Mo_input1 [27] 60 (fun K hK => ?_)
      repeat' ((conv => whnf); first | refine ⟨fun h => ?_, fun h => ?_⟩ | refine ⟨?_, ?_⟩ | refine hK _ _ _ _ ?_)
      · exact absurd h (by decide)
      · have h7 : ¬ nI 200 < M1.1 50 14 + nI n' := by assumption
        rw [h6.1, nI_add, nI_ltI (by omega) (by omega)] at h7
        exact absurd ⟨n', hn1, by omega, rfl, by omega⟩ hn
      · refine xF_iret o_Mo_input1 rfl rfl ?_
        exact ⟨rfl, hM, fun _ _ => rfl, xfr.rf⟩
    · rw [if_neg hn8]
      refine xF_go o_Mo_input1 [27] 60 (fun K hK => ?_)
      repeat' ((conv => whnf); first | refine ⟨fun h => ?_, fun h => ?_⟩ | refine ⟨?_, ?_⟩ | refine hK _ _ _ _ ?_)
      · refine xF_iret o_Mo_input1 rfl rfl ?_
        exact ⟨rfl, hM, fun _ _ => rfl, xfr.rf⟩
      all_goals exact absurd rfl (show ¬ (0 : Int32) = 0 from by assumption)
  · rw [if_pos ⟨nI_le (a := 1) g1 (by omega), nI_le (b := 8) g2 (by omega)⟩]
    refine xF_go o_Mo_input1 [27] 60 (fun K hK => ?_)
    repeat' ((conv => whnf); first | refine ⟨fun h => ?_, fun h => ?_⟩ | refine ⟨?_, ?_⟩ | refine hK _ _ _ _ ?_)
    · exact absurd h (by decide)
    · have e0 : M1 = xsI (xsI M1 63 (fun j => if (pI P).length ≤ j ∧ j < (pI P).length + 0 then nI (vbyte v (j - (pI P).length)) else M1.1 63 j)) 50 (upd (M1.1 50) 14 (nI ((pI P).length + 0))) := by
        rw [xsI_id (M := M1) (c := 63) (fun i => by rw [if_neg (by omega)]), xsI_id]
        intro i
        unfold upd
        by_cases e : i = 14
        · subst e
          rw [if_pos rfl]
          exact h6.1.symm
        · rw [if_neg e]
      have key := L_Minput l G (pI P).length n' g2 g3 v M1 (fun r M' => r = some (.int (nI ((pI P).length + n'))) ∧ mP (sInput P n' v) M' ∧ (∀ j, j ≠ 14 → M'.1 50 j = M1.1 50 j) ∧ xfr [50, 63] M1 M') ?_ n' 0 (by omega)
      · rw [← e0] at key
        exact key
      · refine ⟨rfl, ⟨fun j hj => h1 j hj, fun j hj q hq => h2 j hj q hq, fun j hj q hq => h3 j hj q hq, fun g hg => h4 g hg, fun g hg => h5 g hg, ?_, ?_⟩, fun j hj => ?_, (xfr.rf.I (by simp)).I (by simp)⟩
        · rw [xsI_1, if_pos rfl, upd_s, sInput_I]
          simp
        · intro i w hi
          show (if (pI P).length ≤ i ∧ i < (pI P).length + n' then nI (vbyte v (i - (pI P).length)) else M1.1 63 i) = _
          rw [sInput_I] at hi
          by_cases e : i < (pI P).length
          · rw [if_neg (by omega)]
            rw [List.getElem?_append_left e] at hi
            exact h6.2 i w hi
          · have hi2 := (List.getElem?_eq_some_iff.mp hi).1
            simp at hi2
            rw [if_pos (by omega)]
            rw [List.getElem?_append_right (by omega), List.getElem?_map, List.getElem?_range (by omega)] at hi
            simp at hi
            rw [hi]
        · rw [xsI_1, if_pos rfl, upd_n hj]
    · have h7 : nI 200 < M1.1 50 14 + nI n' := by assumption
      rw [h6.1, nI_add, nI_ltI (by omega) (by omega)] at h7
      omega
end XMT
