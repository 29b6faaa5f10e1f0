/-! the law's loop -/
section XLY
variable (l : Launch) (G : xG)
theorem i_ltle {a b c : Int32} (h : a < b) (h2 : b ≤ c) : a < c := by
  rw [Int32.lt_iff_toInt_lt] at *
  rw [Int32.le_iff_toInt_le] at h2
  omega
set_option maxRecDepth 20000 in
theorem W_loop (hL : gL G ≤ 3072) : ∀ (n i : Nat), gL G < n + i → i ≤ gL G + 6 → ∀ M, jJ M → xFl l G 18 (lvL (nI i)) [] M (fun r _ => r = some (.int 1)) := by
  intro n
  induction n with
  | zero =>
    intro i hn hi M hJ
    unfold lvL
    have hlt : nI (gL G) - 6 < nI i := by
      by_cases h6 : gL G < 6
      · have h1 : nI (gL G) - nI 6 < 0 := pk_sneg (by omega) h6
        have h1' : nI (gL G) - 6 < 0 := h1
        have h2 : 0 ≤ nI i := nI_pos' (by omega)
        exact i_ltle h1' h2
      · rw [show nI (gL G) - 6 = nI (gL G - 6) from pk_sub (b := 6) (by omega)]
        exact nI_lt (by omega) (by omega)
    refine xFl_go [18, 27, 839] 60 (fun K hK => ?_)
    repeat' ((conv => whnf); first | refine ⟨fun h => ?_, fun h => ?_⟩ | refine ⟨?_, ?_⟩ | refine hK _ _ _ _ ?_)
    · clear hK K
      refine xFl_go [] 60 (fun K hK => ?_)
      repeat' ((conv => whnf); first | refine ⟨fun h => ?_, fun h => ?_⟩ | refine ⟨?_, ?_⟩ | refine hK _ _ _ _ ?_)
      exact xFl_ret rfl (Or.inr rfl) rfl
    · exact absurd hlt (by assumption)
  | succ n ih =>
    intro i hn hi M hJ
    have back : i + 6 ≤ gL G → ∀ M', jJ M' → xFl l G 833 (lvL (nI i)) [] M' (fun r _ => r = some (.int 1)) := by
      intro h6 M' hJ'
      unfold lvL
      refine xFl_go [18] 60 (fun K hK => ?_)
      repeat' ((conv => whnf); first | refine ⟨fun h => ?_, fun h => ?_⟩ | refine ⟨?_, ?_⟩ | refine hK _ _ _ _ ?_)
      rw [show nI i + 6 = nI (i + 6) from nI_add i 6]
      exact ih (i + 6) (by omega) (by omega) M' hJ'
    have cont : i + 6 ≤ gL G → xFl l G 27 (lvL (nI i)) [] M (fun r _ => r = some (.int 1)) := by
      intro h6
      have hb := back h6
      have v0 : vp_in (nI i) (gL G) := vp_in_nI (by omega) (by omega)
      have w0 := W_item l G hL M hJ i h6 _ hb
      have w1 := W_bytes l G hL M hJ i h6 _ hb
      have w2 := W_refer l G hL M hJ i h6 _ hb
      have w3 := W_code l G hL M hJ i h6 _ hb
      have w4 := W_clear l G hL M hJ i h6 _ hb
      have w5 := W_entry l G hL M hJ i h6 _ hb
      have w6 := W_input1 l G hL M hJ i h6 _ hb
      have w7 := W_input2 l G hL M hJ i h6 _ hb
      have w8 := W_run l G hL M hJ i h6 _ hb
      have w9 := W_runLaid l G hL M hJ i h6 _ hb
      have w10 := W_ran l G hL M hJ i h6 _ hb
      have w11 := W_out l G hL M hJ i h6 _ hb
      have w12 := W_shrink l G hL M hJ i h6 _ hb
      have w13 := W_kept l G hL M hJ i h6 _ hb
      have w14 := W_read l G hL M hJ i h6 _ hb
      have w15 := W_function l G hL M hJ i h6 _ hb
      have w16 := W_values l G hL M hJ i h6 _ hb
      have w17 := W_octet l G hL M hJ i h6 _ hb
      have w18 := W_shrunk l G hL M hJ i h6 _ hb
      unfold lvL
      refine xFl_go [124, 203, 286, 329, 392, 415, 464, 527, 540, 563, 586, 609, 632, 645, 678, 711, 744, 787, 810, 833] 60 (fun K hK => ?_)
      repeat' ((conv => whnf); first | refine ⟨fun h => ?_, fun h => ?_⟩ | refine ⟨?_, ?_⟩ | refine hK _ _ _ _ ?_)
      · exact v0
      · exact w0
      · exact w1
      · exact w2
      · exact w3
      · exact w4
      · exact w5
      · exact w6
      · exact w7
      · exact w8
      · exact w9
      · exact w10
      · exact w11
      · exact w12
      · exact w13
      · exact w14
      · exact w15
      · exact w16
      · exact w17
      · exact w18
      · exact hb M hJ
    unfold lvL
    refine xFl_go [18, 27, 839] 60 (fun K hK => ?_)
    repeat' ((conv => whnf); first | refine ⟨fun h => ?_, fun h => ?_⟩ | refine ⟨?_, ?_⟩ | refine hK _ _ _ _ ?_)
    · clear hK K
      refine xFl_go [] 60 (fun K hK => ?_)
      repeat' ((conv => whnf); first | refine ⟨fun h => ?_, fun h => ?_⟩ | refine ⟨?_, ?_⟩ | refine hK _ _ _ _ ?_)
      exact xFl_ret rfl (Or.inr rfl) rfl
    · have h0 := (show ¬ nI (gL G) - 6 < nI i from by assumption)
      refine cont ?_
      by_cases h6 : gL G < 6
      · have h1 : nI (gL G) - nI 6 < 0 := pk_sneg (by omega) h6
        have h1' : nI (gL G) - 6 < 0 := h1
        have h2 : 0 ≤ nI i := nI_pos' (by omega)
        exact absurd (i_ltle h1' h2) h0
      · rw [show nI (gL G) - 6 = nI (gL G - 6) from pk_sub (b := 6) (by omega), nI_ltI (by omega) (by omega)] at h0
        omega
end XLY
