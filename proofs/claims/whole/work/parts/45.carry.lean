/-! Machine.carryOut -/
section XCA
variable (l : Launch) (G : xG)
theorem E_carryOut (P : sP) (hm : Nat → Option Nat) (T : sT) (M : xMe) (hM : cP P M) (hw : wP P) (hH : cH P hm M) (hT : cT T M) (hwT : wT P T) (q : Nat × Int32 × Int32 × Int32) (hq : (pC P (tF T))[tA T]? = some q) : xE l G y_Ma_carryOut [.ref 43, .int (nI (tF T * 40 + tA T))] M (fun v M' => qCarry P hm T q M v M') := by
  obtain ⟨w1, w2, w3, w4, w5, w6, w7, w8, w9⟩ := hwT
  have hT0 := hT
  obtain ⟨t1, t2, t3, t4, t5, t6, t7, t8, t9, t10, t11⟩ := hT
  obtain ⟨hl, hc⟩ := hM.2.2.2.1 (tF T) w5
  obtain ⟨c1, c2, c3, c4⟩ := hc (tA T) q hq
  obtain ⟨hl40, hv⟩ := hw.2.2.2.1 (tF T) w5
  have hlt : tA T < (pC P (tF T)).length := (List.getElem?_eq_some_iff.mp hq).1
  have hvq : vN q := hv q (List.mem_of_getElem? hq)
  have hq12 := vN_le hvq
  have hcl : (nI (tF T * 40 + tA T)).toNatClampNeg = tF T * 40 + tA T := nI_clamp (by omega)
  have hin : vp_in (nI (tF T * 40 + tA T)) 480 := vp_in_nI (by omega) (by decide)
  refine xE_of [some (.ref 43), some (.int (nI (tF T * 40 + tA T))), none, none, none] (by decide +kernel) (Nat.le_of_ble_eq_true rfl) rfl ?_
  refine xF_go o_Ma_carryOut [40] 60 (fun K hK => ?_)
  repeat' ((conv => whnf); first | refine ⟨fun h => ?_, fun h => ?_⟩ | refine ⟨?_, ?_⟩ | refine hK _ _ _ _ ?_)
  · exact hin
  · exact hin
  · exact hin
  · exact hin
  rw [hcl, c1, c2, c3, c4]
  clear hK K c1 c2 c3 c4 hin hcl
  obtain ⟨o, a, b, c⟩ := q
  replace hq12 : o < 12 := hq12
  refine xF_go o_Ma_carryOut [100, 107, 127, 141, 155, 174, 180, 211, 222, 239, 249, 265] 60 (fun K hK => ?_)
  repeat' ((conv => whnf); first | refine ⟨fun h => ?_, fun h => ?_⟩ | refine ⟨?_, ?_⟩ | refine hK _ _ _ _ ?_)
  · obtain rfl : o = 0 := nI_inj (by omega) (by decide) (show nI o = nI 0 from by assumption)
    clear hK K
    obtain ⟨ra, hra, rfl, era⟩ := vR_n hvq.1
    obtain ⟨vb, hvb, rfl, evb⟩ := vO_n hvq.2.1
    refine xF_go o_Ma_carryOut [] 60 (fun K hK => ?_)
    repeat' ((conv => whnf); first | refine ⟨fun h => ?_, fun h => ?_⟩ | refine ⟨?_, ?_⟩ | refine hK _ _ _ _ ?_)
    refine xF_callV o_Ma_carryOut [.int (nI ra), .int (nI vb)] rfl z_Ma_put i_Ma_put v_Ma_put l_Ma_117 rfl ⟨⟨by decide, by decide⟩, rfl, rfl⟩ (Nat.le_of_ble_eq_true rfl) rfl rfl rfl (E_put l G ra hra (nI vb) M) ?_
    rintro v M' ⟨rfl, rfl⟩
    clear hK K
    refine xF_go o_Ma_carryOut [] 60 (fun K hK => ?_)
    repeat' ((conv => whnf); first | refine ⟨fun h => ?_, fun h => ?_⟩ | refine ⟨?_, ?_⟩ | refine hK _ _ _ _ ?_)
    refine xF_iret o_Ma_carryOut rfl rfl ?_
    show _ ∧ _
    rw [era, evb]
    exact ⟨rfl, cT_put hT0 hra, mPut_fr⟩
  · obtain rfl : o = 1 := nI_inj (by omega) (by decide) (show nI o = nI 1 from by assumption)
    clear hK K
    obtain ⟨ra, hra, rfl, era⟩ := vR_n hvq.1
    obtain ⟨vb, hvb, rfl, evb⟩ := vD_n hvq.2.1
    refine xF_go o_Ma_carryOut [] 60 (fun K hK => ?_)
    repeat' ((conv => whnf); first | refine ⟨fun h => ?_, fun h => ?_⟩ | refine ⟨?_, ?_⟩ | refine hK _ _ _ _ ?_)
    · exact vp_in_nI hra (by decide)
    rw [nI_clamp (by omega), t1 ra hra]
    refine xF_callS o_Ma_carryOut [.int (nI (tR T ra) + (nI vb - 255)), .int 256] rfl z_JM_floorMod s_JM_floorMod l_Ma_120 rfl ⟨⟨by decide, by decide⟩, rfl, rfl⟩ (Nat.le_of_ble_eq_true rfl) rfl (E_floorMod l G (nI (tR T ra) + (nI vb - 255)) 256 (by decide) M) ?_
    rintro v M' ⟨rfl, rfl⟩
    clear hK K
    have w1' := w1 ra hra
    rw [show nI (tR T ra) + (nI vb - 255) = nI (tR T ra + vb) - 255 by rw [← nI_add]; grind, fmz_256 _ (by omega)]
    refine xF_go o_Ma_carryOut [] 60 (fun K hK => ?_)
    repeat' ((conv => whnf); first | refine ⟨fun h => ?_, fun h => ?_⟩ | refine ⟨?_, ?_⟩ | refine hK _ _ _ _ ?_)
    refine xF_callV o_Ma_carryOut [.int (nI ra), .int (nI ((tR T ra + vb + 1) % 256))] rfl z_Ma_put i_Ma_put v_Ma_put l_Ma_117 rfl ⟨⟨by decide, by decide⟩, rfl, rfl⟩ (Nat.le_of_ble_eq_true rfl) rfl rfl rfl (E_put l G ra hra _ M') ?_
    rintro v M2 ⟨rfl, rfl⟩
    clear hK K
    refine xF_go o_Ma_carryOut [] 60 (fun K hK => ?_)
    repeat' ((conv => whnf); first | refine ⟨fun h => ?_, fun h => ?_⟩ | refine ⟨?_, ?_⟩ | refine hK _ _ _ _ ?_)
    refine xF_iret o_Ma_carryOut rfl rfl ?_
    show _ ∧ _
    rw [era, evb]
    exact ⟨rfl, cT_put hT0 hra, mPut_fr⟩
  · obtain rfl : o = 2 := nI_inj (by omega) (by decide) (show nI o = nI 2 from by assumption)
    clear hK K
    obtain ⟨ra, hra, rfl, era⟩ := vR_n hvq.1
    obtain ⟨vb, hvb, rfl, evb⟩ := vO_n hvq.2.1
    refine xF_go o_Ma_carryOut [] 60 (fun K hK => ?_)
    repeat' ((conv => whnf); first | refine ⟨fun h => ?_, fun h => ?_⟩ | refine ⟨?_, ?_⟩ | refine hK _ _ _ _ ?_)
    · exact vp_in_nI hra (by decide)
    rw [nI_clamp (by omega), t1 ra hra, nI_and _ (w1 ra hra) _ hvb]
    refine xF_callV o_Ma_carryOut [.int (nI ra), .int (nI (tR T ra &&& vb))] rfl z_Ma_put i_Ma_put v_Ma_put l_Ma_117 rfl ⟨⟨by decide, by decide⟩, rfl, rfl⟩ (Nat.le_of_ble_eq_true rfl) rfl rfl rfl (E_put l G ra hra _ M) ?_
    rintro v M' ⟨rfl, rfl⟩
    clear hK K
    refine xF_go o_Ma_carryOut [] 60 (fun K hK => ?_)
    repeat' ((conv => whnf); first | refine ⟨fun h => ?_, fun h => ?_⟩ | refine ⟨?_, ?_⟩ | refine hK _ _ _ _ ?_)
    refine xF_iret o_Ma_carryOut rfl rfl ?_
    show _ ∧ _
    rw [era, evb]
    exact ⟨rfl, cT_put hT0 hra, mPut_fr⟩
  · obtain rfl : o = 3 := nI_inj (by omega) (by decide) (show nI o = nI 3 from by assumption)
    clear hK K
    obtain ⟨ra, hra, rfl, era⟩ := vR_n hvq.1
    obtain ⟨k, hk, rfl, ek⟩ := vT_n hvq.2.1
    obtain ⟨rc, hrc, rfl, erc⟩ := vR_n hvq.2.2
    refine xF_go o_Ma_carryOut [] 60 (fun K hK => ?_)
    repeat' ((conv => whnf); first | refine ⟨fun h => ?_, fun h => ?_⟩ | refine ⟨?_, ?_⟩ | refine hK _ _ _ _ ?_)
    · exact vp_in_nI hrc (by decide)
    rw [nI_clamp (by omega), t1 rc hrc]
    have w1' := w1 rc hrc
    refine xF_callV o_Ma_carryOut [.int (nI ra), .int (nI k), .int (nI (tR T rc))] rfl z_Ma_load i_Ma_load v_Ma_load l_Ma_123 rfl ⟨⟨by decide, by decide⟩, rfl, rfl⟩ (Nat.le_of_ble_eq_true rfl) rfl rfl rfl (E_load l G P hm M hM.1 hw hH ra k (tR T rc) hra hk (by omega)) ?_
    rintro v M' (⟨d1, rfl, rfl⟩ | ⟨d1, x, d2, rfl, rfl⟩)
    · clear hK K
      refine xF_go o_Ma_carryOut [] 60 (fun K hK => ?_)
      repeat' ((conv => whnf); first | refine ⟨fun h => ?_, fun h => ?_⟩ | refine ⟨?_, ?_⟩ | refine hK _ _ _ _ ?_)
      refine xF_iret o_Ma_carryOut rfl rfl ?_
      have es : sCarry P hm T (3, nI ra, nI k, nI rc) = .inl 1 := by
        show (if tR T (ix (nI rc)) < pS P (ix (nI k)) then _ else _) = _
        rw [ek, erc]
        split
        · rename_i hlt2
          cases hh : hm k with
          | none => rfl
          | some x => exact absurd ⟨hlt2, by rw [hh]; rfl⟩ d1
        · rfl
      unfold qCarry
      rw [es]
      exact ⟨rfl, rfl, by decide⟩
    · clear hK K
      refine xF_go o_Ma_carryOut [] 60 (fun K hK => ?_)
      repeat' ((conv => whnf); first | refine ⟨fun h => ?_, fun h => ?_⟩ | refine ⟨?_, ?_⟩ | refine hK _ _ _ _ ?_)
      refine xF_iret o_Ma_carryOut rfl rfl ?_
      have es : sCarry P hm T (3, nI ra, nI k, nI rc) = .inr (tPut T ra (tM T (x + tR T rc))) := by
        show (if tR T (ix (nI rc)) < pS P (ix (nI k)) then _ else _) = _
        rw [ek, erc, if_pos d1, d2]
        show Sum.inr (tPut T (ix (nI ra)) _) = _
        rw [era]
      unfold qCarry
      rw [es]
      have hx := ((hH k hk).2 x d2).1
      rw [t2 _ (by omega)]
      exact ⟨rfl, cT_put hT0 hra, mPut_fr⟩
  · obtain rfl : o = 4 := nI_inj (by omega) (by decide) (show nI o = nI 4 from by assumption)
    clear hK K
    obtain ⟨k, hk, rfl, ek⟩ := vT_n hvq.1
    obtain ⟨rb, hrb, rfl, erb⟩ := vR_n hvq.2.1
    obtain ⟨rc, hrc, rfl, erc⟩ := vR_n hvq.2.2
    refine xF_go o_Ma_carryOut [] 60 (fun K hK => ?_)
    repeat' ((conv => whnf); first | refine ⟨fun h => ?_, fun h => ?_⟩ | refine ⟨?_, ?_⟩ | refine hK _ _ _ _ ?_)
    · exact vp_in_nI hrb (by decide)
    · exact vp_in_nI hrc (by decide)
    rw [nI_clamp (by omega), nI_clamp (by omega), t1 rb hrb, t1 rc hrc]
    have w1' := w1 rb hrb
    refine xF_callV o_Ma_carryOut [.int (nI k), .int (nI (tR T rb)), .int (nI (tR T rc))] rfl z_Ma_store i_Ma_store v_Ma_store l_Ma_127 rfl ⟨⟨by decide, by decide⟩, rfl, rfl⟩ (Nat.le_of_ble_eq_true rfl) rfl rfl rfl (E_store l G P hm M hM.1 hw hH k (tR T rb) (nI (tR T rc)) hk (by omega)) ?_
    rintro v M' (⟨d1, rfl, rfl⟩ | ⟨d1, rfl, rfl⟩)
    · clear hK K
      refine xF_go o_Ma_carryOut [] 60 (fun K hK => ?_)
      repeat' ((conv => whnf); first | refine ⟨fun h => ?_, fun h => ?_⟩ | refine ⟨?_, ?_⟩ | refine hK _ _ _ _ ?_)
      refine xF_iret o_Ma_carryOut rfl rfl ?_
      have es : sCarry P hm T (4, nI k, nI rb, nI rc) = .inl 1 := by
        show (if tR T (ix (nI rb)) < pS P (ix (nI k)) then _ else _) = _
        rw [ek, erb, if_neg d1]
      unfold qCarry
      rw [es]
      exact ⟨rfl, rfl, by decide⟩
    · clear hK K
      refine xF_go o_Ma_carryOut [] 60 (fun K hK => ?_)
      repeat' ((conv => whnf); first | refine ⟨fun h => ?_, fun h => ?_⟩ | refine ⟨?_, ?_⟩ | refine hK _ _ _ _ ?_)
      refine xF_iret o_Ma_carryOut rfl rfl ?_
      cases hh : hm k with
      | none =>
        have es : sCarry P hm T (4, nI k, nI rb, nI rc) = .inr (tTo T (tA T + 1)) := by
          show (if tR T (ix (nI rb)) < pS P (ix (nI k)) then _ else _) = _
          rw [ek, erb, if_pos d1, hh]
        unfold qCarry
        rw [es]
        refine ⟨rfl, ⟨t1, t2, t3, t4, t5, ?_, t7, t8, t9, t10, t11⟩, xfr.rf.I (by simp)⟩
        show M.1 43 10 + 1 = nI (tA T + 1)
        rw [t6, nI_1]
      | some x =>
        have es : sCarry P hm T (4, nI k, nI rb, nI rc) = .inr (tTo (tR T, un (tM T) (x + tR T rb) (tR T rc), T.2.2) (tA T + 1)) := by
          show (if tR T (ix (nI rb)) < pS P (ix (nI k)) then _ else _) = _
          rw [ek, erb, erc, if_pos d1, hh]
        unfold qCarry
        rw [es]
        refine ⟨rfl, ⟨t1, fun a ha => ?_, t3, t4, t5, ?_, t7, t8, t9, t10, t11⟩, (xfr.rf.I (by simp)).I (by simp)⟩
        · show upd (M.1 44) (x + tR T rb) (nI (tR T rc)) a = nI (un (tM T) (x + tR T rb) (tR T rc) a)
          by_cases e : a = x + tR T rb
          · rw [e, upd_s, un_s]
          · rw [upd_n e, un_n e, t2 a ha]
        · show M.1 43 10 + 1 = nI (tA T + 1)
          rw [t6, nI_1]
  · obtain rfl : o = 5 := nI_inj (by omega) (by decide) (show nI o = nI 5 from by assumption)
    clear hK K
    obtain ⟨g, hg, rfl, eg⟩ := vF_n hvq.1
    refine xF_go o_Ma_carryOut [] 60 (fun K hK => ?_)
    repeat' ((conv => whnf); first | refine ⟨fun h => ?_, fun h => ?_⟩ | refine ⟨?_, ?_⟩ | refine hK _ _ _ _ ?_)
    refine xF_callV o_Ma_carryOut [.int (nI g)] rfl z_Ma_openFunction i_Ma_openFunction v_Ma_openFunction l_Ma_130 rfl ⟨⟨by decide, by decide⟩, rfl, rfl⟩ (Nat.le_of_ble_eq_true rfl) rfl rfl rfl (E_openFunction l G (tN T + 1) (by omega) (by omega) (nI g) M t3) ?_
    rintro v M' (⟨d1, rfl, rfl⟩ | ⟨d1, rfl, rfl⟩)
    · clear hK K
      refine xF_go o_Ma_carryOut [] 60 (fun K hK => ?_)
      repeat' ((conv => whnf); first | refine ⟨fun h => ?_, fun h => ?_⟩ | refine ⟨?_, ?_⟩ | refine hK _ _ _ _ ?_)
      refine xF_iret o_Ma_carryOut rfl rfl ?_
      have es : sCarry P hm T (5, nI g, b, c) = .inl 3 := by
        show (if tN T = 15 then _ else _) = _
        rw [if_pos (by omega)]
      unfold qCarry
      rw [es]
      exact ⟨rfl, rfl, by decide⟩
    · clear hK K
      refine xF_go o_Ma_carryOut [] 60 (fun K hK => ?_)
      repeat' ((conv => whnf); first | refine ⟨fun h => ?_, fun h => ?_⟩ | refine ⟨?_, ?_⟩ | refine hK _ _ _ _ ?_)
      refine xF_iret o_Ma_carryOut rfl rfl ?_
      have es : sCarry P hm T (5, nI g, b, c) = .inr (tR T, tM T, un (tK T) (tN T) (tF T, tA T + 1), tN T + 1, g, 0, tI T, tO T, tD T) := by
        show (if tN T = 15 then _ else _) = _
        rw [if_neg (by omega), eg]
      unfold qCarry
      rw [es]
      refine ⟨rfl, ⟨t1, t2, rfl, fun i hi => ?_, rfl, rfl, t7, t8, t9, t10, t11⟩, ((xfr.rf.I (by simp)).I (by simp)).I (by simp)⟩
      show upd (M.1 47) (tN T + 1) (M.1 43 9) (i + 1) = nI (un (tK T) (tN T) (tF T, tA T + 1) i).1 ∧ upd (M.1 48) (tN T + 1) (M.1 43 10 + 1) (i + 1) = nI (un (tK T) (tN T) (tF T, tA T + 1) i).2
      by_cases e : i = tN T
      · rw [e, upd_s, upd_s, un_s, t5, t6, nI_1]
        exact ⟨rfl, rfl⟩
      · rw [upd_n (by omega), upd_n (by omega), un_n e]
        exact t4 i (by have : i < tN T + 1 := hi; omega)
  · obtain rfl : o = 6 := nI_inj (by omega) (by decide) (show nI o = nI 6 from by assumption)
    clear hK K
    obtain ⟨ra, hra, rfl, era⟩ := vR_n hvq.1
    obtain ⟨vb, hvb, rfl, evb⟩ := vK_n hvq.2.1
    refine xF_go o_Ma_carryOut [207] 60 (fun K hK => ?_)
    repeat' ((conv => whnf); first | refine ⟨fun h => ?_, fun h => ?_⟩ | refine ⟨?_, ?_⟩ | refine hK _ _ _ _ ?_)
    · exact vp_in_nI hra (by decide)
    · have h0 : ¬ M.1 46 (nI ra).toNatClampNeg = 0 := by assumption
      rw [nI_clamp (by omega), t1 ra hra] at h0
      clear hK K
      refine xF_go o_Ma_carryOut [] 60 (fun K hK => ?_)
      repeat' ((conv => whnf); first | refine ⟨fun h => ?_, fun h => ?_⟩ | refine ⟨?_, ?_⟩ | refine hK _ _ _ _ ?_)
      rw [t6, nI_1]
      refine xF_callV o_Ma_carryOut [.int (nI (tA T + 1))] rfl z_Ma_skip i_Ma_skip v_Ma_skip l_Ma_133 rfl ⟨⟨by decide, by decide⟩, rfl, rfl⟩ (Nat.le_of_ble_eq_true rfl) rfl rfl rfl (E_skip l G (tF T) _ w5 (nI (tA T + 1)) M t5 hl) ?_
      rintro v M' ⟨rfl, rfl⟩
      clear hK K
      refine xF_go o_Ma_carryOut [] 60 (fun K hK => ?_)
      repeat' ((conv => whnf); first | refine ⟨fun h => ?_, fun h => ?_⟩ | refine ⟨?_, ?_⟩ | refine hK _ _ _ _ ?_)
      refine xF_iret o_Ma_carryOut rfl rfl ?_
      have es : sCarry P hm T (6, nI ra, nI vb - 40, c) = .inr (tTo T (tA T + 1)) := by
        show Sum.inr (tTo T (if tR T (ix (nI ra)) = 0 then _ else _)) = _
        rw [era, if_neg (fun z => h0 (by rw [z]; rfl))]
      unfold qCarry
      rw [es, if_neg (Int32.not_lt.mpr (nI_pos' (by omega)))]
      exact ⟨rfl, ⟨t1, t2, t3, t4, t5, rfl, t7, t8, t9, t10, t11⟩, xfr.rf.I (by simp)⟩
    · have h0 : M.1 46 (nI ra).toNatClampNeg = 0 := by assumption
      rw [nI_clamp (by omega), t1 ra hra] at h0
      have h0' : tR T ra = 0 := nI_inj (by have := w1 ra hra; omega) (by decide) h0
      clear hK K
      refine xF_go o_Ma_carryOut [] 60 (fun K hK => ?_)
      repeat' ((conv => whnf); first | refine ⟨fun h => ?_, fun h => ?_⟩ | refine ⟨?_, ?_⟩ | refine hK _ _ _ _ ?_)
      rw [t6]
      have ex : nI (tA T) + (nI vb - 40) + 1 = nI (tA T + vb + 1) - 40 := by rw [← nI_1, ← nI_add]; grind
      rw [ex]
      refine xF_callV o_Ma_carryOut [.int (nI (tA T + vb + 1) - 40)] rfl z_Ma_skip i_Ma_skip v_Ma_skip l_Ma_133 rfl ⟨⟨by decide, by decide⟩, rfl, rfl⟩ (Nat.le_of_ble_eq_true rfl) rfl rfl rfl (E_skip l G (tF T) _ w5 (nI (tA T + vb + 1) - 40) M t5 hl) ?_
      rintro v M' ⟨rfl, rfl⟩
      clear hK K
      refine xF_go o_Ma_carryOut [] 60 (fun K hK => ?_)
      repeat' ((conv => whnf); first | refine ⟨fun h => ?_, fun h => ?_⟩ | refine ⟨?_, ?_⟩ | refine hK _ _ _ _ ?_)
      refine xF_iret o_Ma_carryOut rfl rfl ?_
      have es : sCarry P hm T (6, nI ra, nI vb - 40, c) = .inr (tTo T (if tA T + vb + 1 < 40 then (pC P (tF T)).length else tA T + vb + 1 - 40)) := by
        show Sum.inr (tTo T (if tR T (ix (nI ra)) = 0 then (if tA T + ix (nI vb - 40 + 40) + 1 < 40 then _ else tA T + ix (nI vb - 40 + 40) + 1 - 40) else _)) = _
        rw [era, if_pos h0', evb]
      have e2 : (if nI (tA T + vb + 1) - 40 < 0 then nI (pC P (tF T)).length else nI (tA T + vb + 1) - 40) = nI (if tA T + vb + 1 < 40 then (pC P (tF T)).length else tA T + vb + 1 - 40) := by
        by_cases e : tA T + vb + 1 < 40
        · rw [if_pos e, if_pos]
          have h1 := nI_lt (b := 40) e (by decide)
          have h2 := nI_pos' (n := tA T + vb + 1) (by omega)
          have h3 : nI 40 = 40 := rfl
          rw [h3] at h1
          grind
        · have e3 : (nI (tA T + vb + 1) - 40 : Int32) = nI (tA T + vb + 1 - 40) := pk_sub (b := 40) (by omega)
          rw [if_neg e, e3, if_neg (Int32.not_lt.mpr (nI_pos' (by omega)))]
      unfold qCarry
      rw [es, e2]
      exact ⟨rfl, ⟨t1, t2, t3, t4, t5, rfl, t7, t8, t9, t10, t11⟩, xfr.rf.I (by simp)⟩
  · obtain rfl : o = 7 := nI_inj (by omega) (by decide) (show nI o = nI 7 from by assumption)
    clear hK K
    obtain ⟨ra, hra, rfl, era⟩ := vR_n hvq.1
    refine xF_go o_Ma_carryOut [] 60 (fun K hK => ?_)
    repeat' ((conv => whnf); first | refine ⟨fun h => ?_, fun h => ?_⟩ | refine ⟨?_, ?_⟩ | refine hK _ _ _ _ ?_)
    · exact vp_in_nI hra (by decide)
    rw [nI_clamp (by omega), t1 ra hra]
    refine xF_callV o_Ma_carryOut [.int (nI (tR T ra))] rfl z_Ma_send i_Ma_send v_Ma_send l_Ma_136 rfl ⟨⟨by decide, by decide⟩, rfl, rfl⟩ (Nat.le_of_ble_eq_true rfl) rfl rfl rfl (E_send l G (tO T).length (by omega) (nI (tR T ra)) M t8) ?_
    rintro v M' ⟨rfl, rfl⟩
    clear hK K
    refine xF_go o_Ma_carryOut [] 60 (fun K hK => ?_)
    repeat' ((conv => whnf); first | refine ⟨fun h => ?_, fun h => ?_⟩ | refine ⟨?_, ?_⟩ | refine hK _ _ _ _ ?_)
    refine xF_iret o_Ma_carryOut rfl rfl ?_
    have es : sCarry P hm T (7, nI ra, b, c) = .inr (tR T, tM T, tK T, tN T, tF T, tA T + 1, tI T, tO T ++ [tR T ra], tD T) := by
      show Sum.inr (_, _, _, _, _, _, _, tO T ++ [tR T (ix (nI ra))], _) = _
      rw [era]
    unfold qCarry
    rw [es]
    by_cases e : (tO T).length < 100
    · rw [if_pos e]
      refine ⟨rfl, ⟨t1, t2, t3, t4, t5, ?_, t7, ?_, fun i v hi hv => ?_, t10, t11⟩, (xfr.rf.I (by simp)).I (by simp)⟩
      · show M.1 43 10 + 1 = nI (tA T + 1)
        rw [t6, nI_1]
      · show nI ((tO T).length + 1) = nI (tO T ++ [tR T ra]).length
        rw [List.length_append]; rfl
      · show upd (M.1 49) (tO T).length (nI (tR T ra)) i = nI v
        have hv' : (tO T ++ [tR T ra])[i]? = some v := hv
        by_cases e2 : i = (tO T).length
        · rw [e2, List.getElem?_append_right (Nat.le_refl _)] at hv'
          simp at hv'
          rw [e2, upd_s, hv']
        · rw [upd_n e2]
          by_cases e3 : i < (tO T).length
          · rw [List.getElem?_append_left e3] at hv'
            exact t9 i v hi hv'
          · rw [List.getElem?_eq_none (by rw [List.length_append, List.length_singleton]; omega)] at hv'
            cases hv'
    · rw [if_neg e]
      refine ⟨rfl, ⟨t1, t2, t3, t4, t5, ?_, t7, ?_, fun i v hi hv => ?_, t10, t11⟩, xfr.rf.I (by simp)⟩
      · show M.1 43 10 + 1 = nI (tA T + 1)
        rw [t6, nI_1]
      · show nI ((tO T).length + 1) = nI (tO T ++ [tR T ra]).length
        rw [List.length_append]; rfl
      · show M.1 49 i = nI v
        have hv' : (tO T ++ [tR T ra])[i]? = some v := hv
        rw [List.getElem?_append_left (by omega)] at hv'
        exact t9 i v hi hv'
  · obtain rfl : o = 8 := nI_inj (by omega) (by decide) (show nI o = nI 8 from by assumption)
    clear hK K
    refine xF_go o_Ma_carryOut [] 60 (fun K hK => ?_)
    repeat' ((conv => whnf); first | refine ⟨fun h => ?_, fun h => ?_⟩ | refine ⟨?_, ?_⟩ | refine hK _ _ _ _ ?_)
    · rw [t5]
      exact vp_in_nI w5 (by decide)
    rw [t5, nI_clamp (by omega), hl]
    refine xF_callV o_Ma_carryOut [.int (nI (pC P (tF T)).length)] rfl z_Ma_skip i_Ma_skip v_Ma_skip l_Ma_133 rfl ⟨⟨by decide, by decide⟩, rfl, rfl⟩ (Nat.le_of_ble_eq_true rfl) rfl rfl rfl (E_skip l G (tF T) _ w5 (nI (pC P (tF T)).length) M t5 hl) ?_
    rintro v M' ⟨rfl, rfl⟩
    clear hK K
    refine xF_go o_Ma_carryOut [] 60 (fun K hK => ?_)
    repeat' ((conv => whnf); first | refine ⟨fun h => ?_, fun h => ?_⟩ | refine ⟨?_, ?_⟩ | refine hK _ _ _ _ ?_)
    refine xF_iret o_Ma_carryOut rfl rfl ?_
    rw [if_neg (Int32.not_lt.mpr (nI_pos' (by omega)))]
    exact ⟨rfl, ⟨t1, t2, t3, t4, t5, rfl, t7, t8, t9, t10, t11⟩, xfr.rf.I (by simp)⟩
  · obtain rfl : o = 9 := nI_inj (by omega) (by decide) (show nI o = nI 9 from by assumption)
    clear hK K
    obtain ⟨ra, hra, rfl, era⟩ := vR_n hvq.1
    refine xF_go o_Ma_carryOut [] 60 (fun K hK => ?_)
    repeat' ((conv => whnf); first | refine ⟨fun h => ?_, fun h => ?_⟩ | refine ⟨?_, ?_⟩ | refine hK _ _ _ _ ?_)
    refine xF_callV o_Ma_carryOut [] rfl z_Ma_takeInput i_Ma_takeInput v_Ma_takeInput l_Ma_139 rfl ⟨⟨by decide, by decide⟩, rfl, rfl⟩ (Nat.le_of_ble_eq_true rfl) rfl rfl rfl (E_takeInput l G (pI P).length (tI T) hw.2.2.2.2.1 w7 M t7 hM.2.2.2.2.2.1) ?_
    rintro v M' ⟨rfl, rfl⟩
    clear hK K
    refine xF_go o_Ma_carryOut [] 60 (fun K hK => ?_)
    repeat' ((conv => whnf); first | refine ⟨fun h => ?_, fun h => ?_⟩ | refine ⟨?_, ?_⟩ | refine hK _ _ _ _ ?_)
    have ev : (if tI T < (pI P).length then M.1 15 (tI T) else 0) = nI ((pI P).getD (tI T) 0) := by
      by_cases e : tI T < (pI P).length
      · rw [if_pos e, hM.2.2.2.2.2.2 (tI T) _ (List.getElem?_eq_getElem e), List.getD_eq_getElem?_getD, List.getElem?_eq_getElem e]
        rfl
      · rw [if_neg e, List.getD_eq_getElem?_getD, List.getElem?_eq_none (by omega)]
        rfl
    rw [ev]
    refine xF_callV o_Ma_carryOut [.int (nI ra), .int (nI ((pI P).getD (tI T) 0))] rfl z_Ma_put i_Ma_put v_Ma_put l_Ma_117 rfl ⟨⟨by decide, by decide⟩, rfl, rfl⟩ (Nat.le_of_ble_eq_true rfl) rfl rfl rfl (E_put l G ra hra (nI ((pI P).getD (tI T) 0)) _) ?_
    rintro v M2 ⟨rfl, rfl⟩
    clear hK K
    refine xF_go o_Ma_carryOut [] 60 (fun K hK => ?_)
    repeat' ((conv => whnf); first | refine ⟨fun h => ?_, fun h => ?_⟩ | refine ⟨?_, ?_⟩ | refine hK _ _ _ _ ?_)
    refine xF_iret o_Ma_carryOut rfl rfl ?_
    have es : sCarry P hm T (9, nI ra, b, c) = .inr (tPut (tR T, tM T, tK T, tN T, tF T, tA T, (if tI T < (pI P).length then tI T + 1 else tI T), tO T, tD T) ra ((pI P).getD (tI T) 0)) := by
      show Sum.inr (tPut _ (ix (nI ra)) _) = _
      rw [era]
    unfold qCarry
    rw [es]
    refine ⟨rfl, cT_put (T := (tR T, tM T, tK T, tN T, tF T, tA T, (if tI T < (pI P).length then tI T + 1 else tI T), tO T, tD T)) (M := xsI M 43 (upd (M.1 43) 11 (nI (if tI T < (pI P).length then tI T + 1 else tI T)))) ⟨t1, t2, t3, t4, t5, t6, rfl, t8, t9, t10, t11⟩ hra, ?_⟩
    exact ((xfr.rf.I (by simp)).I (by simp)).I (by simp)
  · obtain rfl : o = 10 := nI_inj (by omega) (by decide) (show nI o = nI 10 from by assumption)
    clear hK K
    obtain ⟨ra, hra, rfl, era⟩ := vR_n hvq.1
    obtain ⟨k, hk, rfl, ek⟩ := vT_n hvq.2.1
    obtain ⟨k2, hk2, rfl, ek2⟩ := vT_n hvq.2.2
    refine xF_go o_Ma_carryOut [] 60 (fun K hK => ?_)
    repeat' ((conv => whnf); first | refine ⟨fun h => ?_, fun h => ?_⟩ | refine ⟨?_, ?_⟩ | refine hK _ _ _ _ ?_)
    refine xF_callV o_Ma_carryOut [.int (nI k), .int (nI k2)] rfl z_Ma_standAsOne i_Ma_standAsOne v_Ma_standAsOne l_Ma_143 rfl ⟨⟨by decide, by decide⟩, rfl, rfl⟩ (Nat.le_of_ble_eq_true rfl) rfl rfl rfl (E_standAsOne l G k k2 hk hk2 M) ?_
    rintro v M' ⟨rfl, bb, rfl, hbb⟩
    clear hK K
    refine xF_go o_Ma_carryOut [] 60 (fun K hK => ?_)
    repeat' ((conv => whnf); first | refine ⟨fun h => ?_, fun h => ?_⟩ | refine ⟨?_, ?_⟩ | refine hK _ _ _ _ ?_)
    refine xF_callS o_Ma_carryOut [.int (b2 bb)] rfl z_DS_asNumber s_DS_asNumber l_Ma_147 rfl ⟨⟨by decide, by decide⟩, rfl, rfl⟩ (Nat.le_of_ble_eq_true rfl) rfl (E_asNumber l G (b2 bb) M') ?_
    rintro v M ⟨rfl, rfl⟩
    clear hK K
    refine xF_go o_Ma_carryOut [] 60 (fun K hK => ?_)
    repeat' ((conv => whnf); first | refine ⟨fun h => ?_, fun h => ?_⟩ | refine ⟨?_, ?_⟩ | refine hK _ _ _ _ ?_)
    have hb3 : bb = true ↔ (k = k2 ∨ (hm k).isSome ∧ hm k = hm k2) := by
      rw [hbb, (hH k hk).1, (hH k2 hk2).1, oI_no (fun a ha => ((hH k hk).2 a ha).2)]
      have : (hm k).isSome = true ↔ ¬ hm k = none := by cases hm k <;> simp
      rw [this]
      constructor
      · rintro (e | ⟨e1, e2⟩)
        · exact Or.inl e
        · refine Or.inr ⟨e1, ?_⟩
          cases h1 : hm k with
          | none => exact absurd h1 e1
          | some x =>
            cases h2 : hm k2 with
            | none =>
              rw [h1, h2] at e2
              have h3 : nI x = -1 := e2
              exact absurd (h3 ▸ nI_pos' (n := x) (by have := ((hH k hk).2 x h1).2; omega)) (by decide)
            | some y =>
              rw [h1, h2] at e2
              rw [nI_inj (by have := ((hH k hk).2 x h1).2; omega) (by have := ((hH k2 hk2).2 y h2).2; omega) e2]
      · rintro (e | ⟨e1, e2⟩)
        · exact Or.inl e
        · exact Or.inr ⟨e1, by rw [e2]⟩
    have hv2 : (if b2 bb = 0 then 0 else 1 : Int32) = nI (if k = k2 ∨ (hm k).isSome ∧ hm k = hm k2 then 1 else 0) := by
      cases bb with
      | true => rw [if_pos (c := k = k2 ∨ _) (hb3.mp rfl)]; rfl
      | false => rw [if_neg (c := k = k2 ∨ _) (fun z => by cases hb3.mpr z)]; rfl
    rw [hv2]
    refine xF_callV o_Ma_carryOut [.int (nI ra), .int (nI (if k = k2 ∨ (hm k).isSome ∧ hm k = hm k2 then 1 else 0))] rfl z_Ma_put i_Ma_put v_Ma_put l_Ma_117 rfl ⟨⟨by decide, by decide⟩, rfl, rfl⟩ (Nat.le_of_ble_eq_true rfl) rfl rfl rfl (E_put l G ra hra _ M) ?_
    rintro v M2 ⟨rfl, rfl⟩
    clear hK K
    refine xF_go o_Ma_carryOut [] 60 (fun K hK => ?_)
    repeat' ((conv => whnf); first | refine ⟨fun h => ?_, fun h => ?_⟩ | refine ⟨?_, ?_⟩ | refine hK _ _ _ _ ?_)
    refine xF_iret o_Ma_carryOut rfl rfl ?_
    show _ ∧ _
    rw [era, ek, ek2]
    exact ⟨rfl, cT_put hT0 hra, mPut_fr⟩
  · have ho : o = 11 := by
      have n0 : ¬ nI o = nI 0 := by assumption
      have n1 : ¬ nI o = nI 1 := by assumption
      have n2 : ¬ nI o = nI 2 := by assumption
      have n3 : ¬ nI o = nI 3 := by assumption
      have n4 : ¬ nI o = nI 4 := by assumption
      have n5 : ¬ nI o = nI 5 := by assumption
      have n6 : ¬ nI o = nI 6 := by assumption
      have n7 : ¬ nI o = nI 7 := by assumption
      have n8 : ¬ nI o = nI 8 := by assumption
      have n9 : ¬ nI o = nI 9 := by assumption
      have n10 : ¬ nI o = nI 10 := by assumption
      match o, hq12 with
      | 0, _ | 1, _ | 2, _ | 3, _ | 4, _ | 5, _ | 6, _ | 7, _ | 8, _ | 9, _ | 10, _ => simp at *
      | 11, _ => rfl
      | o + 12, hq => omega
    clear hK K
    subst ho
    obtain ⟨ra, hra, rfl, era⟩ := vR_n hvq.1
    obtain ⟨k, hk, rfl, ek⟩ := vT_n hvq.2.1
    obtain ⟨rc, hrc, rfl, erc⟩ := vR_n hvq.2.2
    refine xF_go o_Ma_carryOut [] 60 (fun K hK => ?_)
    repeat' ((conv => whnf); first | refine ⟨fun h => ?_, fun h => ?_⟩ | refine ⟨?_, ?_⟩ | refine hK _ _ _ _ ?_)
    · exact vp_in_nI hrc (by decide)
    rw [nI_clamp (by omega), t1 rc hrc]
    have w1' := w1 rc hrc
    refine xF_callV o_Ma_carryOut [.int (nI ra), .int (nI k), .int (nI (tR T rc))] rfl z_Ma_follow i_Ma_follow v_Ma_follow l_Ma_151 rfl ⟨⟨by decide, by decide⟩, rfl, rfl⟩ (Nat.le_of_ble_eq_true rfl) rfl rfl rfl (E_follow l G P hm M hM hw hH ra k (tR T rc) hra hk (by omega)) ?_
    rintro v M' (⟨d1, rfl, rfl⟩ | ⟨d1, t, x, d2, d3, rfl, rfl⟩)
    · clear hK K
      refine xF_go o_Ma_carryOut [] 60 (fun K hK => ?_)
      repeat' ((conv => whnf); first | refine ⟨fun h => ?_, fun h => ?_⟩ | refine ⟨?_, ?_⟩ | refine hK _ _ _ _ ?_)
      refine xF_iret o_Ma_carryOut rfl rfl ?_
      have es : sCarry P hm T (11, nI ra, nI k, nI rc) = .inl 1 := by
        show (if tR T (ix (nI rc)) < pS P (ix (nI k)) then _ else _) = _
        rw [ek, erc]
        split
        · rename_i hlt2
          cases hh : pR P k (tR T rc) with
          | none => rfl
          | some t =>
            have := d1 t hlt2 hh
            show (match hm t with | some a => _ | none => _) = _
            rw [this]
        · rfl
      unfold qCarry
      rw [es]
      exact ⟨rfl, rfl, by decide⟩
    · clear hK K
      refine xF_go o_Ma_carryOut [] 60 (fun K hK => ?_)
      repeat' ((conv => whnf); first | refine ⟨fun h => ?_, fun h => ?_⟩ | refine ⟨?_, ?_⟩ | refine hK _ _ _ _ ?_)
      refine xF_iret o_Ma_carryOut rfl rfl ?_
      have es : sCarry P hm T (11, nI ra, nI k, nI rc) = .inr (tPut T ra (tM T x)) := by
        show (if tR T (ix (nI rc)) < pS P (ix (nI k)) then _ else _) = _
        rw [ek, erc, if_pos d1, d2]
        show (match hm t with | some a => _ | none => _) = _
        rw [d3]
        show Sum.inr (tPut T (ix (nI ra)) _) = _
        rw [era]
      unfold qCarry
      rw [es]
      have ht := hw.2.2.1 k hk _ (by have := (hw.1 k hk).1; omega) t d2
      have hx := ((hH t ht.1).2 x d3).2
      rw [Nat.add_zero, t2 _ hx]
      exact ⟨rfl, cT_put hT0 hra, mPut_fr⟩
end XCA
