/-! the reference's run: the instructions -/
section XGC
variable (l : Launch) (G : xG)
theorem L_mcarry (P : sP) (hm : Nat → Option Nat) (hw : wP P) (e0 F D f A x6 x7 x8 x9 x10 : Int32) (T : sT) (M : xMe) (hM : mP P M) (hH : mH P hm M) (hT : mT T M) (hwT : wT P T) (hL : mL P T F D f A) (q : Nat × Int32 × Int32 × Int32) (hq : (pC P (tF T))[tA T]? = some q) (hq8 : ¬ q.1 = 8) (hs : safe P hm T) (Q : Option Value → xMe → Prop)
  (hend : ∀ r, sCarry P hm T q = .inl r → Q (some (.int r)) M)
  (hcont : ∀ T' M' F' D' f' N', sCarry P hm T q = .inr T' → mT T' M' → mfr M M' → mL' P T' F' D' f' N' → xF l G y_Mo_goes 786 [some (.ref 50), some (.int e0), some (.int F'), some (.int D'), some (.int f'), some (.int A), some (.int (nI (41 * tF T + tA T))), some (.int q.2.1), some (.int q.2.2.1), some (.int q.2.2.2), some (.int N')] [] M' Q) :
  xF l G y_Mo_goes 239 [some (.ref 50), some (.int e0), some (.int F), some (.int D), some (.int f), some (.int A), none, none, none, none, none] [] M Q := by
  obtain ⟨w1, w2, w3, w4, w5, w6, w7, w8, w9⟩ := hwT
  have hT0 := hT
  obtain ⟨t1, t2, t3, t4, t5, t6, t7⟩ := hT
  obtain ⟨hl, hc⟩ := hM.2.2.2.1 (tF T) w5
  obtain ⟨c1, c2, c3, c4⟩ := hc (tA T) q hq
  obtain ⟨hl40, hv⟩ := hw.2.2.2.1 (tF T) w5
  have hlt : tA T < (pC P (tF T)).length := (List.getElem?_eq_some_iff.mp hq).1
  have hvq : vN q := hv q (List.mem_of_getElem? hq)
  have hq12 := vN_le hvq
  have hsq := hs q hq
  obtain ⟨⟨g, rfl, g1, g2, g3⟩, rfl, rfl, hA⟩ := hL
  have hA' : A = nI (tA T) := by
    rcases hA with h | h
    · exact h
    · omega
  subst hA'
  have e41 : 41 * nI (tF T) + nI (tA T) = nI (41 * tF T + tA T) := by rw [nI_41', nI_add]
  have hin : vp_in (nI (41 * tF T + tA T)) 492 := vp_in_nI (by omega) (by decide)
  have hcl : (nI (41 * tF T + tA T)).toNatClampNeg = tF T * 41 + tA T := by rw [nI_clamp (by omega)]; omega
  have g4 : g ≤ tD T + 1 := by omega
  refine xF_go o_Mo_goes [289] 60 (fun K hK => ?_)
  repeat' ((conv => whnf); first | refine ⟨fun h => ?_, fun h => ?_⟩ | refine ⟨?_, ?_⟩ | refine hK _ _ _ _ ?_)
  · rw [e41]; exact hin
  · rw [e41]; exact hin
  · rw [e41]; exact hin
  · rw [e41]; exact hin
  rw [e41, hcl, c1, c2, c3, c4, nI_1]
  clear hK K c1 c2 c3 c4 hin e41
  obtain ⟨o, a, b, c⟩ := q
  replace hq12 : o < 12 := hq12
  refine xF_go o_Mo_goes [348, 360, 388, 403, 449, 512, 549, 576, 614, 645, 711, 786] 60 (fun K hK => ?_)
  repeat' ((conv => whnf); first | refine ⟨fun h => ?_, fun h => ?_⟩ | refine ⟨?_, ?_⟩ | refine hK _ _ _ _ ?_)
  · obtain rfl : o = 0 := nI_inj (by omega) (by decide) (show nI o = nI 0 from by assumption)
    clear hK K
    obtain ⟨ra, hra, rfl, era⟩ := vR_n hvq.1
    obtain ⟨vb, hvb, rfl, evb⟩ := vO_n hvq.2.1
    refine xF_go o_Mo_goes [786] 60 (fun K hK => ?_)
    repeat' ((conv => whnf); first | refine ⟨fun h => ?_, fun h => ?_⟩ | refine ⟨?_, ?_⟩ | refine hK _ _ _ _ ?_)
    · exact vp_in_nI hra (by decide)
    rw [nI_clamp (by omega)]
    refine hcont (tPut T ra vb) _ _ _ _ _ ?_ (mT_put hT0 hra) (mfr.rf.I (by simp)) ⟨⟨g, rfl, g1, g2, g4⟩, rfl, rfl, Or.inl rfl⟩
    show Sum.inr (tPut T (ix (nI ra)) (ix (nI vb))) = _
    rw [era, evb]
  · obtain rfl : o = 1 := nI_inj (by omega) (by decide) (show nI o = nI 1 from by assumption)
    clear hK K
    obtain ⟨ra, hra, rfl, era⟩ := vR_n hvq.1
    obtain ⟨vb, hvb, rfl, evb⟩ := vD_n hvq.2.1
    refine xF_go o_Mo_goes [786] 60 (fun K hK => ?_)
    repeat' ((conv => whnf); first | refine ⟨fun h => ?_, fun h => ?_⟩ | refine ⟨?_, ?_⟩ | refine hK _ _ _ _ ?_)
    · exact vp_in_nI hra (by decide)
    · exact vp_in_nI hra (by decide)
    rw [nI_clamp (by omega), t1 ra hra]
    have w1' := w1 ra hra
    rw [show nI (tR T ra) + (nI vb - 255) = nI (tR T ra + vb) - 255 by rw [← nI_add]; grind, and_255 _ (by omega)]
    refine hcont (tPut T ra ((tR T ra + vb + 1) % 256)) _ _ _ _ _ ?_ (mT_put hT0 hra) (mfr.rf.I (by simp)) ⟨⟨g, rfl, g1, g2, g4⟩, rfl, rfl, Or.inl rfl⟩
    show Sum.inr (tPut T (ix (nI ra)) ((tR T (ix (nI ra)) + ix (nI vb - 255 + 255) + 1) % 256)) = _
    rw [era, evb]
  · obtain rfl : o = 2 := nI_inj (by omega) (by decide) (show nI o = nI 2 from by assumption)
    clear hK K
    obtain ⟨ra, hra, rfl, era⟩ := vR_n hvq.1
    obtain ⟨vb, hvb, rfl, evb⟩ := vO_n hvq.2.1
    refine xF_go o_Mo_goes [786] 60 (fun K hK => ?_)
    repeat' ((conv => whnf); first | refine ⟨fun h => ?_, fun h => ?_⟩ | refine ⟨?_, ?_⟩ | refine hK _ _ _ _ ?_)
    · exact vp_in_nI hra (by decide)
    · exact vp_in_nI hra (by decide)
    rw [nI_clamp (by omega), t1 ra hra, nI_and _ (w1 ra hra) _ hvb]
    refine hcont (tPut T ra (tR T ra &&& vb)) _ _ _ _ _ ?_ (mT_put hT0 hra) (mfr.rf.I (by simp)) ⟨⟨g, rfl, g1, g2, g4⟩, rfl, rfl, Or.inl rfl⟩
    show Sum.inr (tPut T (ix (nI ra)) (tR T (ix (nI ra)) &&& ix (nI vb))) = _
    rw [era, evb]
  · obtain rfl : o = 3 := nI_inj (by omega) (by decide) (show nI o = nI 3 from by assumption)
    clear hK K
    obtain ⟨ra, hra, rfl, era⟩ := vR_n hvq.1
    obtain ⟨k, hk, rfl, ek⟩ := vT_n hvq.2.1
    obtain ⟨rc, hrc, rfl, erc⟩ := vR_n hvq.2.2
    refine xF_go o_Mo_goes [786] 60 (fun K hK => ?_)
    repeat' ((conv => whnf); first | refine ⟨fun h => ?_, fun h => ?_⟩ | refine ⟨?_, ?_⟩ | refine hK _ _ _ _ ?_)
    · exact vp_in_nI hrc (by decide)
    rw [nI_clamp (by omega), t1 rc hrc]
    have w1' := w1 rc hrc
    refine xF_callV o_Mo_goes [.int (nI k), .int (nI (tR T rc))] rfl z_Mo_has i_Mo_has v_Mo_has l_Mo_165 rfl ⟨⟨by decide, by decide⟩, rfl, rfl⟩ (Nat.le_of_ble_eq_true rfl) rfl rfl rfl (E_hasN l G P M hM.1 hw k (tR T rc) hk (by omega)) ?_
    rintro v M' ⟨rfl, rfl⟩
    clear hK K
    by_cases hp : tR T rc < pS P k
    · rw [decide_eq_true hp]
      obtain ⟨x, hx⟩ := hsq.1 rfl (by show tR T (ix (nI rc)) < pS P (ix (nI k)); rw [ek, erc]; exact hp)
      replace hx : hm k = some x := by rw [← ek]; exact hx
      refine xF_go o_Mo_goes [786] 60 (fun K hK => ?_)
      repeat' ((conv => whnf); first | refine ⟨fun h => ?_, fun h => ?_⟩ | refine ⟨?_, ?_⟩ | refine hK _ _ _ _ ?_)
      · exact vp_in_nI hrc (by decide)
      · rw [nI_clamp (by omega), t1 rc hrc]
        refine xF_callV o_Mo_goes [.int (nI k), .int (nI (tR T rc))] rfl z_Mo_place i_Mo_place v_Mo_place l_Mo_197 rfl ⟨⟨by decide, by decide⟩, rfl, rfl⟩ (Nat.le_of_ble_eq_true rfl) rfl rfl rfl (E_placeN l G P hm M' hH k x (tR T rc) hk hx) ?_
        rintro v M ⟨rfl, rfl⟩
        clear hK K
        have hx2 := (hH.1 k hk x hx).1
        refine xF_go o_Mo_goes [786] 60 (fun K hK => ?_)
        repeat' ((conv => whnf); first | refine ⟨fun h => ?_, fun h => ?_⟩ | refine ⟨?_, ?_⟩ | refine hK _ _ _ _ ?_)
        · exact vp_in_nI (by show _ < 3072; omega) (by decide)
        · exact vp_in_nI hra (by decide)
        · rw [nI_clamp (by omega), nI_clamp (by omega), t2 _ (by omega)]
          refine hcont (tPut T ra (tM T (x + tR T rc))) _ _ _ _ _ ?_ (mT_put hT0 hra) (mfr.rf.I (by simp)) ⟨⟨g, rfl, g1, g2, g4⟩, rfl, rfl, Or.inl rfl⟩
          show (if tR T (ix (nI rc)) < pS P (ix (nI k)) then _ else _) = _
          rw [ek, erc, if_pos hp, hx]
          show Sum.inr (tPut T (ix (nI ra)) _) = _
          rw [era]
      · exact absurd (show b2 true = 0 from by assumption) (by decide)
    · rw [decide_eq_false hp]
      refine xF_go o_Mo_goes [786] 60 (fun K hK => ?_)
      repeat' ((conv => whnf); first | refine ⟨fun h => ?_, fun h => ?_⟩ | refine ⟨?_, ?_⟩ | refine hK _ _ _ _ ?_)
      all_goals first | exact absurd rfl (show ¬ (b2 false) = 0 from by assumption) | skip
      refine xF_iret o_Mo_goes rfl rfl ?_
      refine hend 1 ?_
      show (if tR T (ix (nI rc)) < pS P (ix (nI k)) then _ else _) = _
      rw [ek, erc, if_neg hp]
  · obtain rfl : o = 4 := nI_inj (by omega) (by decide) (show nI o = nI 4 from by assumption)
    clear hK K
    obtain ⟨k, hk, rfl, ek⟩ := vT_n hvq.1
    obtain ⟨rb, hrb, rfl, erb⟩ := vR_n hvq.2.1
    obtain ⟨rc, hrc, rfl, erc⟩ := vR_n hvq.2.2
    refine xF_go o_Mo_goes [786] 60 (fun K hK => ?_)
    repeat' ((conv => whnf); first | refine ⟨fun h => ?_, fun h => ?_⟩ | refine ⟨?_, ?_⟩ | refine hK _ _ _ _ ?_)
    · exact vp_in_nI hrb (by decide)
    rw [nI_clamp (by omega), t1 rb hrb]
    have w1' := w1 rb hrb
    refine xF_callV o_Mo_goes [.int (nI k), .int (nI (tR T rb))] rfl z_Mo_has i_Mo_has v_Mo_has l_Mo_165 rfl ⟨⟨by decide, by decide⟩, rfl, rfl⟩ (Nat.le_of_ble_eq_true rfl) rfl rfl rfl (E_hasN l G P M hM.1 hw k (tR T rb) hk (by omega)) ?_
    rintro v M' ⟨rfl, rfl⟩
    clear hK K
    by_cases hp : tR T rb < pS P k
    · rw [decide_eq_true hp]
      have hst : ∀ x, hm k = some x → xF l G y_Mo_goes 484 [some (.ref 50), some (.int e0), some (.int (nI g)), some (.int (nI (tN T))), some (.int (nI (tF T))), some (.int (nI (tA T))), some (.int (nI (41 * tF T + tA T))), some (.int (nI k)), some (.int (nI rb)), some (.int (nI rc)), some (.int (nI (tA T + 1)))] [] M' Q := by
        intro x hx
        have hx2 := (hH.1 k hk x hx).1
        refine xF_go o_Mo_goes [786] 60 (fun K hK => ?_)
        repeat' ((conv => whnf); first | refine ⟨fun h => ?_, fun h => ?_⟩ | refine ⟨?_, ?_⟩ | refine hK _ _ _ _ ?_)
        · exact vp_in_nI hrb (by decide)
        · rw [nI_clamp (by omega), t1 rb hrb]
          refine xF_callV o_Mo_goes [.int (nI k), .int (nI (tR T rb))] rfl z_Mo_place i_Mo_place v_Mo_place l_Mo_197 rfl ⟨⟨by decide, by decide⟩, rfl, rfl⟩ (Nat.le_of_ble_eq_true rfl) rfl rfl rfl (E_placeN l G P hm M' hH k x (tR T rb) hk hx) ?_
          rintro v M ⟨rfl, rfl⟩
          clear hK K
          refine xF_go o_Mo_goes [786] 60 (fun K hK => ?_)
          repeat' ((conv => whnf); first | refine ⟨fun h => ?_, fun h => ?_⟩ | refine ⟨?_, ?_⟩ | refine hK _ _ _ _ ?_)
          · exact vp_in_nI hrc (by decide)
          · exact vp_in_nI (by show _ < 3072; omega) (by decide)
          · rw [nI_clamp (by omega), nI_clamp (by omega), t1 rc hrc]
            refine hcont (tTo (tR T, un (tM T) (x + tR T rb) (tR T rc), T.2.2) (tA T + 1)) _ _ _ _ _ ?_ ⟨t1, fun a ha => ?_, t3, t4, t5, t6, t7⟩ (mfr.rf.I (by simp)) ⟨⟨g, rfl, g1, g2, g4⟩, rfl, rfl, Or.inl rfl⟩
            · show (if tR T (ix (nI rb)) < pS P (ix (nI k)) then _ else _) = _
              rw [ek, erb, erc, if_pos hp, hx]
            · show upd (M.1 64) (x + tR T rb) (nI (tR T rc)) a = nI (un (tM T) (x + tR T rb) (tR T rc) a)
              by_cases e : a = x + tR T rb
              · rw [e, upd_s, un_s]
              · rw [upd_n e, un_n e, t2 a ha]
      refine xF_go o_Mo_goes [484, 786] 60 (fun K hK => ?_)
      repeat' ((conv => whnf); first | refine ⟨fun h => ?_, fun h => ?_⟩ | refine ⟨?_, ?_⟩ | refine hK _ _ _ _ ?_)
      · rename_i h25
        replace h25 : M'.1 50 25 = 0 := by assumption
        rcases hH.2 with ⟨c1, c2⟩ | ⟨c1, c2⟩
        · exact hst _ (c2 k hk)
        · exact absurd h25 c1
      · exact vp_in_nI hk (by decide)
      · have h25 : ¬ M'.1 50 25 = 0 := by assumption
        have h80 : M'.1 80 (nI k).toNatClampNeg = 0 := by assumption
        rw [nI_clamp (by omega)] at h80
        rcases hH.2 with ⟨c1, c2⟩ | ⟨c1, c2⟩
        · exact absurd c1 h25
        · have hx : hm k = none := by
            rw [(c2 k hk).1, b2_0] at h80
            cases hh : hm k with
            | none => rfl
            | some x => rw [hh] at h80; cases h80
          refine hcont (tTo T (tA T + 1)) _ _ _ _ _ ?_ ⟨t1, t2, t3, t4, t5, t6, t7⟩ mfr.rf ⟨⟨g, rfl, g1, g2, g4⟩, rfl, rfl, Or.inl rfl⟩
          show (if tR T (ix (nI rb)) < pS P (ix (nI k)) then _ else _) = _
          rw [ek, erb, if_pos hp, hx]
      · have h25 : ¬ M'.1 50 25 = 0 := by assumption
        have h80 : ¬ M'.1 80 (nI k).toNatClampNeg = 0 := by assumption
        rw [nI_clamp (by omega)] at h80
        rcases hH.2 with ⟨c1, c2⟩ | ⟨c1, c2⟩
        · exact absurd c1 h25
        · cases hh : hm k with
          | none => rw [(c2 k hk).1, hh] at h80; exact absurd rfl h80
          | some x => exact hst x hh
      · exact absurd (show b2 true = 0 from by assumption) (by decide)
    · rw [decide_eq_false hp]
      refine xF_go o_Mo_goes [786] 60 (fun K hK => ?_)
      repeat' ((conv => whnf); first | refine ⟨fun h => ?_, fun h => ?_⟩ | refine ⟨?_, ?_⟩ | refine hK _ _ _ _ ?_)
      all_goals first | exact absurd rfl (show ¬ (b2 false) = 0 from by assumption) | skip
      refine xF_iret o_Mo_goes rfl rfl ?_
      refine hend 1 ?_
      show (if tR T (ix (nI rb)) < pS P (ix (nI k)) then _ else _) = _
      rw [ek, erb, if_neg hp]
  · obtain rfl : o = 5 := nI_inj (by omega) (by decide) (show nI o = nI 5 from by assumption)
    clear hK K
    obtain ⟨g5, hg5, rfl, eg5⟩ := vF_n hvq.1
    refine xF_go o_Mo_goes [786] 60 (fun K hK => ?_)
    repeat' ((conv => whnf); first | refine ⟨fun h => ?_, fun h => ?_⟩ | refine ⟨?_, ?_⟩ | refine hK _ _ _ _ ?_)
    · have hN : ¬ nI (tN T) = nI 15 := by assumption
      have hN' : tN T < 15 := by
        have : tN T ≠ 15 := fun z => hN (by rw [z])
        omega
      exact vp_in_nI (N := 16) (by omega) (by decide)
    · have hN : ¬ nI (tN T) = nI 15 := by assumption
      have hN' : tN T < 15 := by
        have : tN T ≠ 15 := fun z => hN (by rw [z])
        omega
      exact vp_in_nI (N := 16) (by omega) (by decide)
    · have hN : ¬ nI (tN T) = nI 15 := by assumption
      have hN' : tN T < 15 := by
        have : tN T ≠ 15 := fun z => hN (by rw [z])
        omega
      rw [nI_clamp (by omega), nI_1]
      refine hcont (tR T, tM T, un (tK T) (tN T) (tF T, tA T + 1), tN T + 1, g5, 0, tI T, tO T, tD T) _ _ _ _ _ ?_ ⟨t1, t2, fun i hi => ?_, t4, t5, t6, t7⟩ ((mfr.rf.I (by simp)).I (by simp)) ⟨⟨g, rfl, g1, g2, g4⟩, rfl, rfl, Or.inl rfl⟩
      · show (if tN T = 15 then _ else _) = _
        rw [if_neg (by omega), eg5]
      · show upd (M.1 67) (tN T) (nI (tF T)) i = nI (un (tK T) (tN T) (tF T, tA T + 1) i).1 ∧ upd (M.1 68) (tN T) (nI (tA T)) i + 1 = nI (un (tK T) (tN T) (tF T, tA T + 1) i).2
        by_cases e : i = tN T
        · rw [e, upd_s, upd_s, un_s, nI_1]
          exact ⟨rfl, rfl⟩
        · rw [upd_n e, upd_n e, un_n e]
          exact t3 i (by have : i < tN T + 1 := hi; omega)
    · have hN : nI (tN T) = nI 15 := by assumption
      have hN' := nI_inj (by omega) (by decide) hN
      refine xF_iret o_Mo_goes rfl rfl ?_
      refine hend 3 ?_
      show (if tN T = 15 then _ else _) = _
      rw [if_pos hN']
  · obtain rfl : o = 6 := nI_inj (by omega) (by decide) (show nI o = nI 6 from by assumption)
    clear hK K
    obtain ⟨ra, hra, rfl, era⟩ := vR_n hvq.1
    obtain ⟨vb, hvb, rfl, evb⟩ := vK_n hvq.2.1
    refine xF_go o_Mo_goes [786] 60 (fun K hK => ?_)
    repeat' ((conv => whnf); first | refine ⟨fun h => ?_, fun h => ?_⟩ | refine ⟨?_, ?_⟩ | refine hK _ _ _ _ ?_)
    · exact vp_in_nI hra (by decide)
    · have h0 : ¬ M.1 65 (nI ra).toNatClampNeg = 0 := by assumption
      rw [nI_clamp (by omega), t1 ra hra] at h0
      refine hcont (tTo T (tA T + 1)) _ _ _ _ _ ?_ ⟨t1, t2, t3, t4, t5, t6, t7⟩ mfr.rf ⟨⟨g, rfl, g1, g2, g4⟩, rfl, rfl, Or.inl rfl⟩
      show Sum.inr (tTo T (if tR T (ix (nI ra)) = 0 then _ else _)) = _
      rw [era, if_neg (fun z => h0 (by rw [z]; rfl))]
    · have h0 : M.1 65 (nI ra).toNatClampNeg = 0 := by assumption
      rw [nI_clamp (by omega), t1 ra hra] at h0
      have h0' : tR T ra = 0 := nI_inj (by have := w1 ra hra; omega) (by decide) h0
      have ex : nI (tA T) + (nI vb - 40) + 1 = nI (tA T + vb + 1) - 40 := by rw [← nI_1, ← nI_add]; grind
      rw [ex]
      refine hcont (tTo T (if tA T + vb + 1 < 40 then (pC P (tF T)).length else tA T + vb + 1 - 40)) _ _ _ _ _ ?_ ⟨t1, t2, t3, t4, t5, t6, t7⟩ mfr.rf ⟨⟨g, rfl, g1, g2, g4⟩, rfl, rfl, ?_⟩
      · show Sum.inr (tTo T (if tR T (ix (nI ra)) = 0 then (if tA T + ix (nI vb - 40 + 40) + 1 < 40 then _ else tA T + ix (nI vb - 40 + 40) + 1 - 40) else _)) = _
        rw [era, if_pos h0', evb]
      · show nI (tA T + vb + 1) - 40 = nI (if tA T + vb + 1 < 40 then (pC P (tF T)).length else tA T + vb + 1 - 40) ∨ ((pC P (tF T)).length ≤ (if tA T + vb + 1 < 40 then (pC P (tF T)).length else tA T + vb + 1 - 40) ∧ nI (tA T + vb + 1) - 40 < 0)
        by_cases e : tA T + vb + 1 < 40
        · rw [if_pos e]
          refine Or.inr ⟨Nat.le_refl _, ?_⟩
          have h1 := nI_lt (b := 40) e (by decide)
          have h2 := nI_pos' (n := tA T + vb + 1) (by omega)
          have h3 : nI 40 = 40 := rfl
          rw [h3] at h1
          grind
        · have e3 : (nI (tA T + vb + 1) - 40 : Int32) = nI (tA T + vb + 1 - 40) := pk_sub (b := 40) (by omega)
          rw [if_neg e, e3]
          exact Or.inl rfl
  · obtain rfl : o = 7 := nI_inj (by omega) (by decide) (show nI o = nI 7 from by assumption)
    clear hK K
    obtain ⟨ra, hra, rfl, era⟩ := vR_n hvq.1
    refine xF_go o_Mo_goes [786] 60 (fun K hK => ?_)
    repeat' ((conv => whnf); first | refine ⟨fun h => ?_, fun h => ?_⟩ | refine ⟨?_, ?_⟩ | refine hK _ _ _ _ ?_)
    · have h0 : ¬ M.1 50 20 < nI 100 := by assumption
      rw [t4, nI_ltI (by omega) (by omega)] at h0
      refine hcont (tR T, tM T, tK T, tN T, tF T, tA T + 1, tI T, tO T ++ [tR T ra], tD T) _ _ _ _ _ ?_ ⟨t1, t2, t3, ?_, fun i v hi hv => ?_, t6, t7⟩ (mfr.rf.F (by simp)) ⟨⟨g, rfl, g1, g2, g4⟩, rfl, rfl, Or.inl rfl⟩
      · show Sum.inr (_, _, _, _, _, _, _, tO T ++ [tR T (ix (nI ra))], _) = _
        rw [era]
      · show M.1 50 20 + 1 = nI (tO T ++ [tR T ra]).length
        rw [t4, nI_1, List.length_append]; rfl
      · show M.1 66 i = nI v
        have hv' : (tO T ++ [tR T ra])[i]? = some v := hv
        rw [List.getElem?_append_left (by omega)] at hv'
        exact t5 i v hi hv'
    · exact vp_in_nI hra (by decide)
    · have h0 : M.1 50 20 < nI 100 := by assumption
      rw [t4, nI_ltI (by omega) (by omega)] at h0
      rw [t4]
      exact vp_in_nI h0 (by decide)
    · have h0 : M.1 50 20 < nI 100 := by assumption
      rw [t4, nI_ltI (by omega) (by omega)] at h0
      refine hcont (tR T, tM T, tK T, tN T, tF T, tA T + 1, tI T, tO T ++ [tR T ra], tD T) _ _ _ _ _ ?_ ⟨t1, t2, t3, ?_, fun i v hi hv => ?_, t6, t7⟩ ((mfr.rf.I (by simp)).F (by simp)) ⟨⟨g, rfl, g1, g2, g4⟩, rfl, rfl, Or.inl rfl⟩
      · show Sum.inr (_, _, _, _, _, _, _, tO T ++ [tR T (ix (nI ra))], _) = _
        rw [era]
      · show M.1 50 20 + 1 = nI (tO T ++ [tR T ra]).length
        rw [t4, nI_1, List.length_append]; rfl
      · show upd (M.1 66) (M.1 50 20).toNatClampNeg (M.1 65 (nI ra).toNatClampNeg) i = nI v
        rw [t4, nI_clamp (by omega), nI_clamp (by omega), t1 ra hra]
        have hv' : (tO T ++ [tR T ra])[i]? = some v := hv
        by_cases e2 : i = (tO T).length
        · rw [e2, List.getElem?_append_right (Nat.le_refl _)] at hv'
          simp at hv'
          rw [e2, upd_s, hv']
        · rw [upd_n e2]
          by_cases e3 : i < (tO T).length
          · rw [List.getElem?_append_left e3] at hv'
            exact t5 i v hi hv'
          · rw [List.getElem?_eq_none (by rw [List.length_append, List.length_singleton]; omega)] at hv'
            cases hv'
  · exact absurd (show o = 8 from nI_inj (by omega) (by decide) (show nI o = nI 8 from by assumption)) hq8
  · obtain rfl : o = 9 := nI_inj (by omega) (by decide) (show nI o = nI 9 from by assumption)
    clear hK K
    obtain ⟨ra, hra, rfl, era⟩ := vR_n hvq.1
    refine xF_go o_Mo_goes [786] 60 (fun K hK => ?_)
    repeat' ((conv => whnf); first | refine ⟨fun h => ?_, fun h => ?_⟩ | refine ⟨?_, ?_⟩ | refine hK _ _ _ _ ?_)
    · have h0 : ¬ nI g < M.1 50 14 := by assumption
      exact vp_in_nI hra (by decide)
    · have h0 : ¬ nI g < M.1 50 14 := by assumption
      rw [hM.2.2.2.2.2.1, nI_ltI (by omega) (by have := hw.2.2.2.2.1; omega)] at h0
      have h1 : ¬ tI T < (pI P).length := fun z => by have := g2 z; omega
      rw [nI_clamp (by omega), nI_1]
      refine hcont (tPut (tR T, tM T, tK T, tN T, tF T, tA T, tI T, tO T, tD T) ra 0) _ _ _ _ _ ?_ (mT_put hT0 hra) (mfr.rf.I (by simp)) ⟨⟨g + 1, rfl, by show tI T ≤ g + 1; omega, fun z => absurd z h1, by show g + 1 ≤ tD T + 1; omega⟩, rfl, rfl, Or.inl rfl⟩
      show Sum.inr (tPut (tR T, tM T, tK T, tN T, tF T, tA T, (if tI T < (pI P).length then tI T + 1 else tI T), tO T, tD T) (ix (nI ra)) ((pI P).getD (tI T) 0)) = _
      rw [era, if_neg h1, List.getD_eq_getElem?_getD, List.getElem?_eq_none (by omega)]
      rfl
    · have h0 : nI g < M.1 50 14 := by assumption
      have hI := hw.2.2.2.2.1
      rw [hM.2.2.2.2.2.1, nI_ltI (by omega) (by omega)] at h0
      exact vp_in_nI (N := 200) (by omega) (by decide)
    · exact vp_in_nI hra (by decide)
    · have h0 : nI g < M.1 50 14 := by assumption
      have hI := hw.2.2.2.2.1
      rw [hM.2.2.2.2.2.1, nI_ltI (by omega) (by omega)] at h0
      have h1 : tI T < (pI P).length := by omega
      have h2 := g2 h1
      rw [nI_clamp (by omega), nI_1, nI_clamp (by omega), h2, hM.2.2.2.2.2.2 (tI T) _ (List.getElem?_eq_getElem h1)]
      refine hcont (tPut (tR T, tM T, tK T, tN T, tF T, tA T, tI T + 1, tO T, tD T) ra (pI P)[tI T]) _ _ _ _ _ ?_ (mT_put (T := (tR T, tM T, tK T, tN T, tF T, tA T, tI T + 1, tO T, tD T)) hT0 hra) (mfr.rf.I (by simp)) ⟨⟨tI T + 1, rfl, Nat.le_refl _, fun _ => rfl, by show tI T + 1 ≤ tD T + 1; omega⟩, rfl, rfl, Or.inl rfl⟩
      show Sum.inr (tPut (tR T, tM T, tK T, tN T, tF T, tA T, (if tI T < (pI P).length then tI T + 1 else tI T), tO T, tD T) (ix (nI ra)) ((pI P).getD (tI T) 0)) = _
      rw [era, if_pos h1, List.getD_eq_getElem?_getD, List.getElem?_eq_getElem h1]
      rfl
  · obtain rfl : o = 10 := nI_inj (by omega) (by decide) (show nI o = nI 10 from by assumption)
    clear hK K
    obtain ⟨ra, hra, rfl, era⟩ := vR_n hvq.1
    obtain ⟨k, hk, rfl, ek⟩ := vT_n hvq.2.1
    obtain ⟨k2, hk2, rfl, ek2⟩ := vT_n hvq.2.2
    have hd25 : M.1 50 25 = 0 → (hm k).isSome ∧ hm k = hm k2 → k = k2 := by
      intro h25 hh
      rcases hH.2 with ⟨c1, c2⟩ | ⟨c1, c2⟩
      · rw [c2 k hk, c2 k2 hk2] at hh
        have := Option.some.inj hh.2
        omega
      · exact absurd h25 c1
    have hd80 : ¬ M.1 50 25 = 0 → ∀ j, j < 24 → M.1 80 j = b2 (hm j).isSome ∧ ∀ a, hm j = some a → M.1 85 j = nI a := by
      intro h25
      rcases hH.2 with ⟨c1, c2⟩ | ⟨c1, c2⟩
      · exact absurd c1 h25
      · exact c2
    refine xF_go o_Mo_goes [786] 60 (fun K hK => ?_)
    repeat' ((conv => whnf); first | refine ⟨fun h => ?_, fun h => ?_⟩ | refine ⟨?_, ?_⟩ | refine hK _ _ _ _ ?_)
    · exact vp_in_nI hra (by decide)
    · have h0 : nI k = nI k2 := by assumption
      have h1 := nI_inj (by omega) (by omega) h0
      rw [nI_clamp (by omega)]
      refine hcont (tPut T ra 1) _ _ _ _ _ ?_ (mT_put hT0 hra) (mfr.rf.I (by simp)) ⟨⟨g, rfl, g1, g2, g4⟩, rfl, rfl, Or.inl rfl⟩
      show Sum.inr (tPut T (ix (nI ra)) (if ix (nI k) = ix (nI k2) ∨ (hm (ix (nI k))).isSome ∧ hm (ix (nI k)) = hm (ix (nI k2)) then 1 else 0)) = _
      rw [era, ek, ek2, if_pos (Or.inl h1)]
    · exact vp_in_nI hra (by decide)
    · have h0 : ¬ nI k = nI k2 := by assumption
      have h1 : ¬ k = k2 := fun z => h0 (by rw [z])
      have h25 : M.1 50 25 = 0 := by assumption
      rw [nI_clamp (by omega)]
      refine hcont (tPut T ra 0) _ _ _ _ _ ?_ (mT_put hT0 hra) (mfr.rf.I (by simp)) ⟨⟨g, rfl, g1, g2, g4⟩, rfl, rfl, Or.inl rfl⟩
      show Sum.inr (tPut T (ix (nI ra)) (if ix (nI k) = ix (nI k2) ∨ (hm (ix (nI k))).isSome ∧ hm (ix (nI k)) = hm (ix (nI k2)) then 1 else 0)) = _
      have hno : ¬ (k = k2 ∨ (hm k).isSome ∧ hm k = hm k2) := by
        intro z
        rcases z with z | z
        · exact h1 z
        · exact h1 (hd25 h25 z)
      rw [era, ek, ek2, if_neg hno]
    · exact vp_in_nI hk (by decide)
    · exact vp_in_nI hra (by decide)
    · have h0 : ¬ nI k = nI k2 := by assumption
      have h1 : ¬ k = k2 := fun z => h0 (by rw [z])
      have h25 : ¬ M.1 50 25 = 0 := by assumption
      have h80 : M.1 80 (nI k).toNatClampNeg = 0 := by assumption
      rw [nI_clamp (by omega), (hd80 h25 k hk).1, b2_0] at h80
      rw [nI_clamp (by omega)]
      refine hcont (tPut T ra 0) _ _ _ _ _ ?_ (mT_put hT0 hra) (mfr.rf.I (by simp)) ⟨⟨g, rfl, g1, g2, g4⟩, rfl, rfl, Or.inl rfl⟩
      show Sum.inr (tPut T (ix (nI ra)) (if ix (nI k) = ix (nI k2) ∨ (hm (ix (nI k))).isSome ∧ hm (ix (nI k)) = hm (ix (nI k2)) then 1 else 0)) = _
      have hno : ¬ (k = k2 ∨ (hm k).isSome ∧ hm k = hm k2) := by
        intro z
        rcases z with z | z
        · exact h1 z
        · rw [h80] at z; exact absurd z.1 (by decide)
      rw [era, ek, ek2, if_neg hno]
    · exact vp_in_nI hk2 (by decide)
    · exact vp_in_nI hra (by decide)
    · have h0 : ¬ nI k = nI k2 := by assumption
      have h1 : ¬ k = k2 := fun z => h0 (by rw [z])
      have h25 : ¬ M.1 50 25 = 0 := by assumption
      have h80 : M.1 80 (nI k2).toNatClampNeg = 0 := by assumption
      rw [nI_clamp (by omega), (hd80 h25 k2 hk2).1, b2_0] at h80
      rw [nI_clamp (by omega)]
      refine hcont (tPut T ra 0) _ _ _ _ _ ?_ (mT_put hT0 hra) (mfr.rf.I (by simp)) ⟨⟨g, rfl, g1, g2, g4⟩, rfl, rfl, Or.inl rfl⟩
      show Sum.inr (tPut T (ix (nI ra)) (if ix (nI k) = ix (nI k2) ∨ (hm (ix (nI k))).isSome ∧ hm (ix (nI k)) = hm (ix (nI k2)) then 1 else 0)) = _
      have hno : ¬ (k = k2 ∨ (hm k).isSome ∧ hm k = hm k2) := by
        intro z
        rcases z with z | z
        · exact h1 z
        · have z1 := z.1; rw [z.2, h80] at z1; exact absurd z1 (by decide)
      rw [era, ek, ek2, if_neg hno]
    · exact vp_in_nI hk (by decide)
    · exact vp_in_nI hk2 (by decide)
    · exact vp_in_nI hra (by decide)
    · have h0 : ¬ nI k = nI k2 := by assumption
      have h1 : ¬ k = k2 := fun z => h0 (by rw [z])
      have h25 : ¬ M.1 50 25 = 0 := by assumption
      have h85 : ¬ M.1 85 (nI k).toNatClampNeg = M.1 85 (nI k2).toNatClampNeg := by assumption
      rw [nI_clamp (by omega), nI_clamp (by omega)] at h85
      rw [nI_clamp (by omega)]
      refine hcont (tPut T ra 0) _ _ _ _ _ ?_ (mT_put hT0 hra) (mfr.rf.I (by simp)) ⟨⟨g, rfl, g1, g2, g4⟩, rfl, rfl, Or.inl rfl⟩
      show Sum.inr (tPut T (ix (nI ra)) (if ix (nI k) = ix (nI k2) ∨ (hm (ix (nI k))).isSome ∧ hm (ix (nI k)) = hm (ix (nI k2)) then 1 else 0)) = _
      have hno : ¬ (k = k2 ∨ (hm k).isSome ∧ hm k = hm k2) := by
        intro z
        rcases z with z | z
        · exact h1 z
        · cases hh : hm k with
          | none => rw [hh] at z; exact absurd z.1 (by decide)
          | some x => exact h85 (by rw [(hd80 h25 k hk).2 x hh, (hd80 h25 k2 hk2).2 x (z.2 ▸ hh)])
      rw [era, ek, ek2, if_neg hno]
    · exact vp_in_nI hra (by decide)
    · have h0 : ¬ nI k = nI k2 := by assumption
      have h25 : ¬ M.1 50 25 = 0 := by assumption
      have h80 : ¬ M.1 80 (nI k).toNatClampNeg = 0 := by assumption
      have h802 : ¬ M.1 80 (nI k2).toNatClampNeg = 0 := by assumption
      have h85 : M.1 85 (nI k).toNatClampNeg = M.1 85 (nI k2).toNatClampNeg := by assumption
      rw [nI_clamp (by omega), (hd80 h25 k hk).1] at h80
      rw [nI_clamp (by omega), (hd80 h25 k2 hk2).1] at h802
      rw [nI_clamp (by omega), nI_clamp (by omega)] at h85
      have hy : (hm k).isSome ∧ hm k = hm k2 := by
        cases hx : hm k with
        | none => rw [hx] at h80; exact absurd rfl h80
        | some x =>
          cases hy : hm k2 with
          | none => rw [hy] at h802; exact absurd rfl h802
          | some y =>
            rw [(hd80 h25 k hk).2 x hx, (hd80 h25 k2 hk2).2 y hy] at h85
            have := (hH.1 k hk x hx).2
            have := (hH.1 k2 hk2 y hy).2
            rw [nI_inj (by omega) (by omega) h85]
            exact ⟨rfl, rfl⟩
      rw [nI_clamp (by omega)]
      refine hcont (tPut T ra 1) _ _ _ _ _ ?_ (mT_put hT0 hra) (mfr.rf.I (by simp)) ⟨⟨g, rfl, g1, g2, g4⟩, rfl, rfl, Or.inl rfl⟩
      show Sum.inr (tPut T (ix (nI ra)) (if ix (nI k) = ix (nI k2) ∨ (hm (ix (nI k))).isSome ∧ hm (ix (nI k)) = hm (ix (nI k2)) then 1 else 0)) = _
      rw [era, ek, ek2, if_pos (Or.inr hy)]
  · have ho : o = 11 := by
      have n0 : ¬ nI o = nI 0 := by assumption
      have n1 : ¬ nI o = nI 1 := by assumption
      have n2 : ¬ nI o = nI 2 := by assumption
      have n3 : ¬ nI o = nI 3 := by assumption
      have n4 : ¬ nI o = nI 4 := by assumption
      have n5 : ¬ nI o = nI 5 := by assumption
      have n6 : ¬ nI o = nI 6 := by assumption
      have n7 : ¬ nI o = nI 7 := by assumption
      have n8 : ¬ nI o = nI 8 := by assumption
      have n9 : ¬ nI o = nI 9 := by assumption
      have n10 : ¬ nI o = nI 10 := by assumption
      match o, hq12 with
      | 0, _ | 1, _ | 2, _ | 3, _ | 4, _ | 5, _ | 6, _ | 7, _ | 8, _ | 9, _ | 10, _ => simp at *
      | 11, _ => rfl
      | o + 12, hq => omega
    clear hK K
    subst ho
    obtain ⟨ra, hra, rfl, era⟩ := vR_n hvq.1
    obtain ⟨k, hk, rfl, ek⟩ := vT_n hvq.2.1
    obtain ⟨rc, hrc, rfl, erc⟩ := vR_n hvq.2.2
    refine xF_go o_Mo_goes [786] 60 (fun K hK => ?_)
    repeat' ((conv => whnf); first | refine ⟨fun h => ?_, fun h => ?_⟩ | refine ⟨?_, ?_⟩ | refine hK _ _ _ _ ?_)
    · exact vp_in_nI hrc (by decide)
    rw [nI_clamp (by omega), t1 rc hrc]
    have w1' := w1 rc hrc
    refine xF_callV o_Mo_goes [.int (nI k), .int (nI (tR T rc))] rfl z_Mo_has i_Mo_has v_Mo_has l_Mo_165 rfl ⟨⟨by decide, by decide⟩, rfl, rfl⟩ (Nat.le_of_ble_eq_true rfl) rfl rfl rfl (E_hasN l G P M hM.1 hw k (tR T rc) hk (by omega)) ?_
    rintro v M' ⟨rfl, rfl⟩
    clear hK K
    by_cases hp : tR T rc < pS P k
    · rw [decide_eq_true hp]
      have hs64 := (hw.1 k hk).1
      have e64 : 64 * nI k + nI (tR T rc) = nI (64 * k + tR T rc) := by rw [nI_64, nI_add]
      have h55 : M'.1 55 (64 * k + tR T rc) = oI (pR P k (tR T rc)) := by
        rw [show 64 * k + tR T rc = k * 64 + tR T rc by omega]
        exact hM.2.2.1 k hk (tR T rc) (by omega)
      have h1536 : vp_in (nI (64 * k + tR T rc)) 1536 := vp_in_nI (by omega) (by decide)
      refine xF_go o_Mo_goes [786] 60 (fun K hK => ?_)
      repeat' ((conv => whnf); first | refine ⟨fun h => ?_, fun h => ?_⟩ | refine ⟨?_, ?_⟩ | refine hK _ _ _ _ ?_)
      · exact absurd (show b2 true = 0 from by assumption) (by decide)
      · exact vp_in_nI hrc (by decide)
      · rw [nI_clamp (by omega), t1 rc hrc, e64]; exact h1536
      · exact vp_in_nI hrc (by decide)
      · rw [nI_clamp (by omega), t1 rc hrc, e64]; exact h1536
      · have h0 : ¬ M'.1 55 (64 * nI k + M'.1 65 (nI rc).toNatClampNeg).toNatClampNeg = -1 := by assumption
        rw [nI_clamp (n := rc) (by omega), t1 rc hrc, e64, nI_clamp (by omega), h55] at h0
        rw [nI_clamp (n := rc) (by omega), t1 rc hrc, e64, nI_clamp (by omega), h55]
        cases hr : pR P k (tR T rc) with
        | none => rw [hr] at h0; exact absurd rfl h0
        | some t =>
          have ht := hw.2.2.1 k hk _ (by omega) t hr
          obtain ⟨x, hx⟩ := hsq.2 rfl (by show tR T (ix (nI rc)) < pS P (ix (nI k)); rw [ek, erc]; exact hp) t (by show pR P (ix (nI k)) (tR T (ix (nI rc))) = _; rw [ek, erc]; exact hr)
          have hx2 := hH.1 t ht.1 x hx
          show xF l G y_Mo_goes 781 _ (.int (nI 0) :: .int (nI t) :: _) _ _
          refine xF_callV o_Mo_goes [.int (nI t), .int (nI 0)] rfl z_Mo_place i_Mo_place v_Mo_place l_Mo_197 rfl ⟨⟨by decide, by decide⟩, rfl, rfl⟩ (Nat.le_of_ble_eq_true rfl) rfl rfl rfl (E_placeN l G P hm M' hH t x 0 ht.1 hx) ?_
          rintro v M ⟨rfl, rfl⟩
          clear hK K
          refine xF_go o_Mo_goes [786] 60 (fun K hK => ?_)
          repeat' ((conv => whnf); first | refine ⟨fun h => ?_, fun h => ?_⟩ | refine ⟨?_, ?_⟩ | refine hK _ _ _ _ ?_)
          · exact vp_in_nI (by show _ < 3072; omega) (by decide)
          · exact vp_in_nI hra (by decide)
          · rw [nI_clamp (by omega), nI_clamp (by omega), t2 _ (by omega)]
            refine hcont (tPut T ra (tM T x)) _ _ _ _ _ ?_ (mT_put hT0 hra) (mfr.rf.I (by simp)) ⟨⟨g, rfl, g1, g2, g4⟩, rfl, rfl, Or.inl rfl⟩
            show (if tR T (ix (nI rc)) < pS P (ix (nI k)) then _ else _) = _
            rw [ek, erc, if_pos hp, hr]
            show (match hm t with | some a => _ | none => _) = _
            rw [hx]
            show Sum.inr (tPut T (ix (nI ra)) _) = _
            rw [era]
      · have h0 : M'.1 55 (64 * nI k + M'.1 65 (nI rc).toNatClampNeg).toNatClampNeg = -1 := by assumption
        rw [nI_clamp (n := rc) (by omega), t1 rc hrc, e64, nI_clamp (by omega), h55] at h0
        have hr : pR P k (tR T rc) = none := by
          cases hr : pR P k (tR T rc) with
          | none => rfl
          | some t =>
            have ht := hw.2.2.1 k hk _ (by omega) t hr
            rw [hr] at h0
            have h2 : nI t = -1 := h0
            exact absurd (h2 ▸ nI_pos' (n := t) (by omega)) (by decide)
        refine xF_iret o_Mo_goes rfl rfl ?_
        refine hend 1 ?_
        show (if tR T (ix (nI rc)) < pS P (ix (nI k)) then _ else _) = _
        rw [ek, erc, if_pos hp, hr]
    · rw [decide_eq_false hp]
      refine xF_go o_Mo_goes [786] 60 (fun K hK => ?_)
      repeat' ((conv => whnf); first | refine ⟨fun h => ?_, fun h => ?_⟩ | refine ⟨?_, ?_⟩ | refine hK _ _ _ _ ?_)
      all_goals first | exact absurd rfl (show ¬ (b2 false) = 0 from by assumption) | skip
      refine xF_iret o_Mo_goes rfl rfl ?_
      refine hend 1 ?_
      show (if tR T (ix (nI rc)) < pS P (ix (nI k)) then _ else _) = _
      rw [ek, erc, if_neg hp]
end XGC
