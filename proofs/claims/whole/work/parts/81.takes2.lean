/-! the reference's reach: takes -/
abbrev ufS : List Nat := [69, 70, 71, 72, 73, 74, 75, 76, 77, 78, 79]
def qTk (P : sP) (U : sU) (f i : Nat) (m : Bool) (M : xMe) (v : Option Value) (M' : xMe) : Prop := v = none ∧ (∃ U' c, tku P U f i U' c ∧ mU U' M' ∧ mo (m || c) M') ∧ ufr ufS M M'
theorem nw_iff {N N' : Nat → Nat → Prop} {M : xMe} (h : nw N M) (he : N = N') : nw N' M := he ▸ h
section XTB
variable (l : Launch) (G : xG)
theorem L_508 (P : sP) (hw : wP P) (U : sU) (m : Bool) (M0 : xMe) (hP : mP P M0) (f i : Nat) (hf : f < 12) (q : Nat × Int32 × Int32 × Int32) (hq : (pC P f)[i]? = some q) (hq8 : ¬ q.1 = 8) (kk : Int32) : ∀ (U1 : sU) (N : Nat → Nat → Prop) (b c1 : Bool) (M : xMe) (y : Option Value), tkm P U f i q U1 N b c1 → mU U1 M → nw N M → mo (m || c1) M → ufr ufS M0 M → xF l G y_Mo_takes 508 [some (.ref 50), some (.int (nI f)), some (.int (nI i)), some (.int kk), some (.int q.2.1), some (.int q.2.2.1), some (.int q.2.2.2), some (.int (b2 b)), y] [] M (qTk P U f i m M0) := by
  intro U1 N b c1 M y ht hU1 hN hm hfr
  cases b with
  | false =>
    refine xF_go o_Mo_takes [] 60 (fun K hK => ?_)
    repeat' ((conv => whnf); first | refine ⟨fun h => ?_, fun h => ?_⟩ | refine ⟨?_, ?_⟩ | refine hK _ _ _ _ ?_)
    all_goals first | exact absurd rfl (show ¬ b2 false = 0 from by assumption) | skip
    refine xF_vret o_Mo_takes rfl rfl ?_
    exact ⟨rfl, ⟨U1, c1, Or.inr ⟨q, U1, N, false, c1, hq, hq8, ht, Or.inr ⟨rfl, rfl, rfl⟩⟩, hU1, hm⟩, hfr⟩
  | true =>
    refine xF_go o_Mo_takes [] 60 (fun K hK => ?_)
    repeat' ((conv => whnf); first | refine ⟨fun h => ?_, fun h => ?_⟩ | refine ⟨?_, ?_⟩ | refine hK _ _ _ _ ?_)
    · exact absurd (show b2 true = 0 from by assumption) (by decide)
    · refine xF_callV o_Mo_takes [.int (nI f), .int (nI i + 1)] rfl z_Mo_comes i_Mo_comes v_Mo_comes l_Mo_234 rfl ⟨⟨by decide, by decide⟩, rfl, rfl⟩ (Nat.le_of_ble_eq_true rfl) rfl rfl rfl (E_comes l G P hw U1 N (m || c1) M (hfr.P (by decide) hP) hU1 hN hm f hf (nI i + 1)) ?_
      rintro v M2 ⟨rfl, hU2, ⟨c2, hc1, hc2⟩, hfr2⟩
      clear hK K
      refine xF_go o_Mo_takes [] 60 (fun K hK => ?_)
      repeat' ((conv => whnf); first | refine ⟨fun h => ?_, fun h => ?_⟩ | refine ⟨?_, ?_⟩ | refine hK _ _ _ _ ?_)
      refine xF_vret o_Mo_takes rfl rfl ?_
      refine ⟨rfl, ⟨_, c1 || c2, Or.inr ⟨q, U1, N, true, c1, hq, hq8, ht, Or.inl ⟨rfl, rfl, c2, rfl, hc2⟩⟩, hU2, ?_⟩, hfr.tr hfr2 (by simp)⟩
      rw [← Bool.or_assoc]
      exact hc1
theorem E_takes (P : sP) (hw : wP P) (U : sU) (m : Bool) (M : xMe) (hP : mP P M) (hU : mU U M) (hm : mo m M) (f i : Nat) (hf : f < 12) (hi : i ≤ (pC P f).length) : xE l G y_Mo_takes [.ref 50, .int (nI f), .int (nI i)] M (qTk P U f i m M) := by
  obtain ⟨hl40, hv⟩ := hw.2.2.2.1 f hf
  have ek : 41 * nI f + nI i = nI (41 * f + i) := by rw [nI_41', nI_add]
  have hclf : (nI f).toNatClampNeg = f := nI_clamp (by omega)
  have hlen : M.1 57 (nI f).toNatClampNeg = nI (pC P f).length := by rw [hclf]; exact (hP.2.2.2.1 f hf).1
  refine xE_of [some (.ref 50), some (.int (nI f)), some (.int (nI i)), none, none, none, none, none, none] (by decide +kernel) (Nat.le_of_ble_eq_true rfl) rfl ?_
  refine xF_go o_Mo_takes [10] 60 (fun K hK => ?_)
  repeat' ((conv => whnf); first | refine ⟨fun h => ?_, fun h => ?_⟩ | refine ⟨?_, ?_⟩ | refine hK _ _ _ _ ?_)
  rw [ek]
  clear hK K
  have e0 : M = xsL M 78 (rowIn (M.2 78) 0 0 (fun w => M.2 69 (16 * (41 * f + i) + w))) := by
    rw [rowIn_0]
    exact (xsL_id (fun i => rfl)).symm
  have key := L_tk1 l G (41 * f + i) (by omega) (nI f) (nI i) M (qTk P U f i m M) ?_ 16 0 (by omega)
  · rw [← e0] at key
    exact key
  intro y
  have hN1 : nw (uS U f i) (xsL M 78 (rowIn (M.2 78) 0 16 (fun w => M.2 69 (16 * (41 * f + i) + w)))) := by
    intro r hr v hv
    have := hU.1 f hf i (by omega) r hr v hv
    unfold sHas at this ⊢
    show xbit (if 0 ≤ 4 * r + v / 64 ∧ 4 * r + v / 64 < 0 + 16 then M.2 69 (16 * (41 * f + i) + (4 * r + v / 64 - 0)) else M.2 78 (4 * r + v / 64)) (v % 64) = true ↔ _
    rw [if_pos (by omega), show 16 * (41 * f + i) + (4 * r + v / 64 - 0) = 16 * (41 * f + i) + 4 * r + v / 64 by omega]
    exact this
  have hfr1 : ufr ufS M (xsL M 78 (rowIn (M.2 78) 0 16 (fun w => M.2 69 (16 * (41 * f + i) + w)))) := ufr.rf.L (by simp)
  have hU1 : mU U (xsL M 78 (rowIn (M.2 78) 0 16 (fun w => M.2 69 (16 * (41 * f + i) + w)))) := mU_fr (S := [78]) (xfr.rf.L (by simp)) (by decide) hU
  have hP1 : mP P (xsL M 78 (rowIn (M.2 78) 0 16 (fun w => M.2 69 (16 * (41 * f + i) + w)))) := hfr1.P (by decide) hP
  have hm1 : mo m (xsL M 78 (rowIn (M.2 78) 0 16 (fun w => M.2 69 (16 * (41 * f + i) + w)))) := hm
  generalize hM1 : xsL M 78 (rowIn (M.2 78) 0 16 (fun w => M.2 69 (16 * (41 * f + i) + w))) = M1 at *
  have q57 : M1.1 57 = M.1 57 := (hfr1.1 57 (by decide)).1
  have hret : ((pC P f).length = i ∨ ∃ q, (pC P f)[i]? = some q ∧ q.1 = 8) → xF l G y_Mo_takes 63 [some (.ref 50), some (.int (nI f)), some (.int (nI i)), some (.int (nI (41 * f + i))), y, none, none, none, none] [] M1 (qTk P U f i m M) := by
    intro hr
    refine xF_go o_Mo_takes [] 60 (fun K hK => ?_)
    repeat' ((conv => whnf); first | refine ⟨fun h => ?_, fun h => ?_⟩ | refine ⟨?_, ?_⟩ | refine hK _ _ _ _ ?_)
    refine xF_callV o_Mo_takes [.int (nI f)] rfl z_Mo_returned i_Mo_returned v_Mo_returned l_Mo_218 rfl ⟨⟨by decide, by decide⟩, rfl, rfl⟩ (Nat.le_of_ble_eq_true rfl) rfl rfl rfl (E_returned l G U (uS U f i) m M1 hU1 hN1 hm1 f hf) ?_
    rintro v M2 ⟨rfl, hU2, ⟨c, hc1, hc2⟩, hfr2⟩
    clear hK K
    refine xF_go o_Mo_takes [] 60 (fun K hK => ?_)
    repeat' ((conv => whnf); first | refine ⟨fun h => ?_, fun h => ?_⟩ | refine ⟨?_, ?_⟩ | refine hK _ _ _ _ ?_)
    refine xF_vret o_Mo_takes rfl rfl ?_
    exact ⟨rfl, ⟨_, c, Or.inl ⟨hr, rfl, hc2⟩, hU2, hc1⟩, hfr1.tr hfr2 (by simp)⟩
  have hin : vp_in (nI (41 * f + i)) 492 := vp_in_nI (by omega) (by decide)
  have hcl : (nI (41 * f + i)).toNatClampNeg = f * 41 + i := by rw [nI_clamp (by omega)]; omega
  by_cases hil : i = (pC P f).length
  · refine xF_go o_Mo_takes [63] 60 (fun K hK => ?_)
    repeat' ((conv => whnf); first | refine ⟨fun h => ?_, fun h => ?_⟩ | refine ⟨?_, ?_⟩ | refine hK _ _ _ _ ?_)
    · exact vp_in_nI hf (by decide)
    · exact hret (Or.inl hil.symm)
    all_goals
      have hne : ¬ nI i = M1.1 57 (nI f).toNatClampNeg := by assumption
      rw [q57, hlen] at hne
      exact absurd (by rw [← hil]) hne
  · have hlt : i < (pC P f).length := by omega
    have hq := List.getElem?_eq_getElem hlt
    generalize (pC P f)[i] = q at hq
    have hvq : vN q := hv q (List.mem_of_getElem? hq)
    have hq12 := vN_le hvq
    obtain ⟨c1, c2, c3, c4⟩ := (hP1.2.2.2.1 f hf).2 i q hq
    refine xF_go o_Mo_takes [63, 69] 60 (fun K hK => ?_)
    repeat' ((conv => whnf); first | refine ⟨fun h => ?_, fun h => ?_⟩ | refine ⟨?_, ?_⟩ | refine hK _ _ _ _ ?_)
    · exact vp_in_nI hf (by decide)
    · have he : nI i = M1.1 57 (nI f).toNatClampNeg := by assumption
      rw [q57, hlen] at he
      exact absurd (nI_inj (by omega) (by omega) he) hil
    · exact hin
    · have h8 : ¬ M1.1 58 (nI (41 * f + i)).toNatClampNeg = nI 8 := by assumption
      rw [hcl, c1] at h8
      have hq8 : ¬ q.1 = 8 := fun z => h8 (by rw [z])
      clear hK K
      have h508 := L_508 l G P hw U m M hP f i hf q hq hq8 (nI (41 * f + i))
      refine xF_go o_Mo_takes [102] 60 (fun K hK => ?_)
      repeat' ((conv => whnf); first | refine ⟨fun h => ?_, fun h => ?_⟩ | refine ⟨?_, ?_⟩ | refine hK _ _ _ _ ?_)
      · exact hin
      · exact hin
      · exact hin
      · exact hin
      rw [hcl, c1, c2, c3, c4]
      clear hK K
      obtain ⟨o, a, b, c⟩ := q
      replace hq12 : o < 12 := hq12
      have f508 : ∀ {M2 : xMe}, mo (m || false) M2 ↔ mo m M2 := by
        intro M2
        rw [Bool.or_false]
      refine xF_go o_Mo_takes [164, 183, 265, 284, 299, 354, 369, 402, 489, 508] 60 (fun K hK => ?_)
      repeat' ((conv => whnf); first | refine ⟨fun h => ?_, fun h => ?_⟩ | refine ⟨?_, ?_⟩ | refine hK _ _ _ _ ?_)
      · obtain rfl : o = 0 := nI_inj (by omega) (by decide) (show nI o = nI 0 from by assumption)
        clear hK K
        obtain ⟨ra, hra, rfl, era⟩ := vR_n hvq.1
        obtain ⟨vb, hvb, rfl, evb⟩ := vO_n hvq.2.1
        refine xF_go o_Mo_takes [508] 60 (fun K hK => ?_)
        repeat' ((conv => whnf); first | refine ⟨fun h => ?_, fun h => ?_⟩ | refine ⟨?_, ?_⟩ | refine hK _ _ _ _ ?_)
        refine xF_callV o_Mo_takes [] rfl z_Mo_empty i_Mo_empty v_Mo_empty l_Mo_211 rfl ⟨⟨by decide, by decide⟩, rfl, rfl⟩ (Nat.le_of_ble_eq_true rfl) rfl rfl rfl (E_empty l G M1) ?_
        rintro v M2 ⟨rfl, hZ2, hfr2, h2⟩
        clear hK K
        refine xF_go o_Mo_takes [508] 60 (fun K hK => ?_)
        repeat' ((conv => whnf); first | refine ⟨fun h => ?_, fun h => ?_⟩ | refine ⟨?_, ?_⟩ | refine hK _ _ _ _ ?_)
        refine xF_callV o_Mo_takes [.int (nI vb)] rfl z_Mo_put i_Mo_put v_Mo_put l_Mo_222 rfl ⟨⟨by decide, by decide⟩, rfl, rfl⟩ (Nat.le_of_ble_eq_true rfl) rfl rfl rfl (E_MputZ l G _ M2 hZ2 vb hvb) ?_
        rintro v M3 ⟨rfl, hZ3, hfr3, h3⟩
        clear hK K
        refine xF_go o_Mo_takes [508] 60 (fun K hK => ?_)
        repeat' ((conv => whnf); first | refine ⟨fun h => ?_, fun h => ?_⟩ | refine ⟨?_, ?_⟩ | refine hK _ _ _ _ ?_)
        have hN3 : nw (uS U f i) M3 := by unfold nw; rw [(hfr3.1 78 (by decide)).2, (hfr2.1 78 (by decide)).2]; exact hN1
        refine xF_callV o_Mo_takes [.int (nI ra)] rfl z_Mo_gets i_Mo_gets v_Mo_gets l_Mo_225 rfl ⟨⟨by decide, by decide⟩, rfl, rfl⟩ (Nat.le_of_ble_eq_true rfl) rfl rfl rfl (E_gets l G _ _ M3 hN3 hZ3 ra hra) ?_
        rintro v M4 ⟨rfl, hN4, hfr4, h4⟩
        clear hK K
        refine xF_go o_Mo_takes [508] 60 (fun K hK => ?_)
        repeat' ((conv => whnf); first | refine ⟨fun h => ?_, fun h => ?_⟩ | refine ⟨?_, ?_⟩ | refine hK _ _ _ _ ?_)
        have hfr' : ufr [78, 79] M1 M4 := ((hfr2.mono (by simp)).tr hfr3 (by simp)).tr hfr4 (by simp)
        refine h508 U _ true false M4 _ ⟨rfl, rfl, rfl, rfl⟩ (mU_fr hfr'.1 (by decide) hU1) (nw_iff hN4 ?_) (f508.mpr (by unfold mo; rw [h4, h3, h2]; exact hm1)) (hfr1.tr hfr' (by simp))
        show rs (uS U f i) ra (fun u => False ∨ u = vb) = rs (uS U f i) (ix (nI ra)) (fun v => v = ix (nI vb))
        rw [era, evb]
        simp only [false_or]
      · obtain rfl : o = 1 := nI_inj (by omega) (by decide) (show nI o = nI 1 from by assumption)
        clear hK K
        obtain ⟨ra, hra, rfl, era⟩ := vR_n hvq.1
        obtain ⟨vb, hvb, rfl, evb⟩ := vD_n hvq.2.1
        refine xF_go o_Mo_takes [190, 508] 60 (fun K hK => ?_)
        repeat' ((conv => whnf); first | refine ⟨fun h => ?_, fun h => ?_⟩ | refine ⟨?_, ?_⟩ | refine hK _ _ _ _ ?_)
        refine xF_callV o_Mo_takes [] rfl z_Mo_empty i_Mo_empty v_Mo_empty l_Mo_211 rfl ⟨⟨by decide, by decide⟩, rfl, rfl⟩ (Nat.le_of_ble_eq_true rfl) rfl rfl rfl (E_empty l G M1) ?_
        rintro v M2 ⟨rfl, hZ2, hfr2, h2⟩
        clear hK K
        refine xF_go o_Mo_takes [190, 508] 60 (fun K hK => ?_)
        repeat' ((conv => whnf); first | refine ⟨fun h => ?_, fun h => ?_⟩ | refine ⟨?_, ?_⟩ | refine hK _ _ _ _ ?_)
        have hN2 : nw (uS U f i) M2 := by unfold nw; rw [(hfr2.1 78 (by decide)).2]; exact hN1
        refine L_tk2 l G P (uS U f i) ra hra (nI f) (nI i) (nI vb - 255) c _ (41 * f + i) (by omega) 1 (Or.inl rfl) (fun v => (v + vb + 1) % 256) (fun v hv => ⟨Nat.mod_lt _ (by decide), fun _ => ?_, fun z => by cases z⟩) M2 hN2 (by rw [h2, show 41 * f + i = f * 41 + i by omega]; exact c1) _ ?_ 256 0 (by omega) M2 ufr.rf rfl (fun u hu => (hZ2 u hu).trans ⟨False.elim, fun ⟨x, z, _⟩ => by omega⟩)
        · rw [show nI v + (nI vb - 255) = nI (v + vb) - 255 by rw [← nI_add]; grind]
          exact and_255 _ (by omega)
        · clear hK K
          intro M3 y3 hfr3 h3 hZ3
          have hN3 : nw (uS U f i) M3 := by unfold nw; rw [(hfr3.1 78 (by decide)).2]; exact hN2
          refine xF_go o_Mo_takes [508] 60 (fun K hK => ?_)
          repeat' ((conv => whnf); first | refine ⟨fun h => ?_, fun h => ?_⟩ | refine ⟨?_, ?_⟩ | refine hK _ _ _ _ ?_)
          refine xF_callV o_Mo_takes [.int (nI ra)] rfl z_Mo_gets i_Mo_gets v_Mo_gets l_Mo_225 rfl ⟨⟨by decide, by decide⟩, rfl, rfl⟩ (Nat.le_of_ble_eq_true rfl) rfl rfl rfl (E_gets l G _ _ M3 hN3 hZ3 ra hra) ?_
          rintro v M4 ⟨rfl, hN4, hfr4, h4⟩
          clear hK K
          refine xF_go o_Mo_takes [508] 60 (fun K hK => ?_)
          repeat' ((conv => whnf); first | refine ⟨fun h => ?_, fun h => ?_⟩ | refine ⟨?_, ?_⟩ | refine hK _ _ _ _ ?_)
          have hfr' : ufr [78, 79] M1 M4 := ((hfr2.mono (by simp)).tr hfr3 (by simp)).tr hfr4 (by simp)
          refine h508 U _ true false M4 _ ⟨rfl, rfl, rfl, rfl⟩ (mU_fr hfr'.1 (by decide) hU1) (nw_iff hN4 ?_) (f508.mpr (by unfold mo; rw [h4, h3, h2]; exact hm1)) (hfr1.tr hfr' (by simp))
          show rs (uS U f i) ra (fun u => ∃ x, x < 256 ∧ uS U f i ra x ∧ (x + vb + 1) % 256 = u) = rs (uS U f i) (ix (nI ra)) (fun v => ∃ u, u < 256 ∧ uS U f i (ix (nI ra)) u ∧ (u + ix (nI vb - 255 + 255) + 1) % 256 = v)
          rw [era, evb]
      · obtain rfl : o = 2 := nI_inj (by omega) (by decide) (show nI o = nI 2 from by assumption)
        clear hK K
        obtain ⟨ra, hra, rfl, era⟩ := vR_n hvq.1
        obtain ⟨vb, hvb, rfl, evb⟩ := vO_n hvq.2.1
        refine xF_go o_Mo_takes [190, 508] 60 (fun K hK => ?_)
        repeat' ((conv => whnf); first | refine ⟨fun h => ?_, fun h => ?_⟩ | refine ⟨?_, ?_⟩ | refine hK _ _ _ _ ?_)
        refine xF_callV o_Mo_takes [] rfl z_Mo_empty i_Mo_empty v_Mo_empty l_Mo_211 rfl ⟨⟨by decide, by decide⟩, rfl, rfl⟩ (Nat.le_of_ble_eq_true rfl) rfl rfl rfl (E_empty l G M1) ?_
        rintro v M2 ⟨rfl, hZ2, hfr2, h2⟩
        clear hK K
        refine xF_go o_Mo_takes [190, 508] 60 (fun K hK => ?_)
        repeat' ((conv => whnf); first | refine ⟨fun h => ?_, fun h => ?_⟩ | refine ⟨?_, ?_⟩ | refine hK _ _ _ _ ?_)
        have hN2 : nw (uS U f i) M2 := by unfold nw; rw [(hfr2.1 78 (by decide)).2]; exact hN1
        refine L_tk2 l G P (uS U f i) ra hra (nI f) (nI i) (nI vb) c _ (41 * f + i) (by omega) 2 (Or.inr rfl) (fun v => v &&& vb) (fun v hv => ⟨Nat.lt_of_le_of_lt Nat.and_le_left hv, (fun z => by cases z), fun _ => nI_and v hv vb hvb⟩) M2 hN2 (by rw [h2, show 41 * f + i = f * 41 + i by omega]; exact c1) _ ?_ 256 0 (by omega) M2 ufr.rf rfl (fun u hu => (hZ2 u hu).trans ⟨False.elim, fun ⟨x, z, _⟩ => by omega⟩)
        clear hK K
        intro M3 y3 hfr3 h3 hZ3
        have hN3 : nw (uS U f i) M3 := by unfold nw; rw [(hfr3.1 78 (by decide)).2]; exact hN2
        refine xF_go o_Mo_takes [508] 60 (fun K hK => ?_)
        repeat' ((conv => whnf); first | refine ⟨fun h => ?_, fun h => ?_⟩ | refine ⟨?_, ?_⟩ | refine hK _ _ _ _ ?_)
        refine xF_callV o_Mo_takes [.int (nI ra)] rfl z_Mo_gets i_Mo_gets v_Mo_gets l_Mo_225 rfl ⟨⟨by decide, by decide⟩, rfl, rfl⟩ (Nat.le_of_ble_eq_true rfl) rfl rfl rfl (E_gets l G _ _ M3 hN3 hZ3 ra hra) ?_
        rintro v M4 ⟨rfl, hN4, hfr4, h4⟩
        clear hK K
        refine xF_go o_Mo_takes [508] 60 (fun K hK => ?_)
        repeat' ((conv => whnf); first | refine ⟨fun h => ?_, fun h => ?_⟩ | refine ⟨?_, ?_⟩ | refine hK _ _ _ _ ?_)
        have hfr' : ufr [78, 79] M1 M4 := ((hfr2.mono (by simp)).tr hfr3 (by simp)).tr hfr4 (by simp)
        refine h508 U _ true false M4 _ ⟨rfl, rfl, rfl, rfl⟩ (mU_fr hfr'.1 (by decide) hU1) (nw_iff hN4 ?_) (f508.mpr (by unfold mo; rw [h4, h3, h2]; exact hm1)) (hfr1.tr hfr' (by simp))
        show rs (uS U f i) ra (fun u => ∃ x, x < 256 ∧ uS U f i ra x ∧ x &&& vb = u) = rs (uS U f i) (ix (nI ra)) (fun v => ∃ u, u < 256 ∧ uS U f i (ix (nI ra)) u ∧ u &&& ix (nI vb) = v)
        rw [era, evb]
      · obtain rfl : o = 3 := nI_inj (by omega) (by decide) (show nI o = nI 3 from by assumption)
        clear hK K
        obtain ⟨ra, hra, rfl, era⟩ := vR_n hvq.1
        obtain ⟨k, hk, rfl, ek2⟩ := vT_n hvq.2.1
        obtain ⟨rc, hrc, rfl, erc⟩ := vR_n hvq.2.2
        refine xF_go o_Mo_takes [508] 60 (fun K hK => ?_)
        repeat' ((conv => whnf); first | refine ⟨fun h => ?_, fun h => ?_⟩ | refine ⟨?_, ?_⟩ | refine hK _ _ _ _ ?_)
        refine xF_callV o_Mo_takes [.int (nI k), .int (nI rc)] rfl z_Mo_loads i_Mo_loads v_Mo_loads l_Mo_228 rfl ⟨⟨by decide, by decide⟩, rfl, rfl⟩ (Nat.le_of_ble_eq_true rfl) rfl rfl rfl (E_loads l G P hw U (uS U f i) m M1 hP1.1 hU1 hN1 hm1 k rc hk hrc) ?_
        rintro v M2 ⟨bb, rfl, hb, hU2, hN2, hm2, hZ2, hfr2⟩
        clear hK K
        refine xF_go o_Mo_takes [508] 60 (fun K hK => ?_)
        repeat' ((conv => whnf); first | refine ⟨fun h => ?_, fun h => ?_⟩ | refine ⟨?_, ?_⟩ | refine hK _ _ _ _ ?_)
        refine xF_callV o_Mo_takes [.int (nI ra)] rfl z_Mo_gets i_Mo_gets v_Mo_gets l_Mo_225 rfl ⟨⟨by decide, by decide⟩, rfl, rfl⟩ (Nat.le_of_ble_eq_true rfl) rfl rfl rfl (E_gets l G _ _ M2 hN2 hZ2 ra hra) ?_
        rintro v M4 ⟨rfl, hN4, hfr4, h4⟩
        clear hK K
        refine xF_go o_Mo_takes [508] 60 (fun K hK => ?_)
        repeat' ((conv => whnf); first | refine ⟨fun h => ?_, fun h => ?_⟩ | refine ⟨?_, ?_⟩ | refine hK _ _ _ _ ?_)
        refine h508 _ _ bb false M4 _ ⟨rfl, rfl, ?_, rfl⟩ (mU_fr hfr4.1 (by decide) (U := uLoad U (ix (nI k)) _) ?_) (nw_iff hN4 ?_) (f508.mpr (by unfold mo; rw [h4]; exact hm2)) ((hfr1.tr hfr2 (by simp)).tr hfr4 (by simp))
        · show bb = true ↔ ∃ p, p < pS P (ix (nI k)) ∧ uS U f i (ix (nI rc)) p
          rw [ek2, erc]
          exact hb
        · show mU (uLoad U (ix (nI k)) (fun p => p < pS P (ix (nI k)) ∧ uS U f i (ix (nI rc)) p)) M2
          rw [ek2, erc]
          exact hU2
        · show rs (uS U f i) ra (fun v => ∃ p, (p < pS P k ∧ uS U f i rc p) ∧ uY U k p v) = rs (uS U f i) (ix (nI ra)) (fun v => ∃ p, (p < pS P (ix (nI k)) ∧ uS U f i (ix (nI rc)) p) ∧ uY U (ix (nI k)) p v)
          rw [era, ek2, erc]
      · obtain rfl : o = 4 := nI_inj (by omega) (by decide) (show nI o = nI 4 from by assumption)
        clear hK K
        obtain ⟨k, hk, rfl, ek2⟩ := vT_n hvq.1
        obtain ⟨rb, hrb, rfl, erb⟩ := vR_n hvq.2.1
        obtain ⟨rc, hrc, rfl, erc⟩ := vR_n hvq.2.2
        refine xF_go o_Mo_takes [508] 60 (fun K hK => ?_)
        repeat' ((conv => whnf); first | refine ⟨fun h => ?_, fun h => ?_⟩ | refine ⟨?_, ?_⟩ | refine hK _ _ _ _ ?_)
        refine xF_callV o_Mo_takes [.int (nI k), .int (nI rb), .int (nI rc)] rfl z_Mo_stores i_Mo_stores v_Mo_stores l_Mo_231 rfl ⟨⟨by decide, by decide⟩, rfl, rfl⟩ (Nat.le_of_ble_eq_true rfl) rfl rfl rfl (E_stores l G P hw U (uS U f i) m M1 hP1.1 hU1 hN1 hm1 k rb rc hk hrb hrc) ?_
        rintro v M2 ⟨bb, rfl, hb, hU2, hN2, ⟨cc, hm2, hc2⟩, hfr2⟩
        clear hK K
        refine xF_go o_Mo_takes [508] 60 (fun K hK => ?_)
        repeat' ((conv => whnf); first | refine ⟨fun h => ?_, fun h => ?_⟩ | refine ⟨?_, ?_⟩ | refine hK _ _ _ _ ?_)
        refine h508 (uStore U (ix (nI k)) (fun p => p < pS P (ix (nI k)) ∧ uS U f i (ix (nI rb)) p) (uS U f i (ix (nI rc)))) _ bb cc M2 _ ⟨rfl, rfl, ?_, ?_⟩ ?_ hN2 hm2 (hfr1.tr hfr2 (by simp))
        · show bb = true ↔ ∃ p, p < pS P (ix (nI k)) ∧ uS U f i (ix (nI rb)) p
          rw [ek2, erb]
          exact hb
        · show cc = true ↔ ∃ p, (p < pS P (ix (nI k)) ∧ uS U f i (ix (nI rb)) p) ∧ ∃ v, v < 256 ∧ uS U f i (ix (nI rc)) v ∧ ¬ uY U (ix (nI k)) p v
          rw [ek2, erb, erc]
          exact hc2
        · rw [show ix (nI k) = k from ek2, show ix (nI rb) = rb from erb, show ix (nI rc) = rc from erc]
          exact hU2
      · obtain rfl : o = 5 := nI_inj (by omega) (by decide) (show nI o = nI 5 from by assumption)
        clear hK K
        obtain ⟨g, hg, rfl, eg⟩ := vF_n hvq.1
        refine xF_go o_Mo_takes [318, 508] 60 (fun K hK => ?_)
        repeat' ((conv => whnf); first | refine ⟨fun h => ?_, fun h => ?_⟩ | refine ⟨?_, ?_⟩ | refine hK _ _ _ _ ?_)
        refine xF_callV o_Mo_takes [.int (nI g), .int 0] rfl z_Mo_comes i_Mo_comes v_Mo_comes l_Mo_234 rfl ⟨⟨by decide, by decide⟩, rfl, rfl⟩ (Nat.le_of_ble_eq_true rfl) rfl rfl rfl (E_comes l G P hw U (uS U f i) m M1 hP1 hU1 hN1 hm1 g hg 0) ?_
        rintro v M2 ⟨rfl, hU2, ⟨cc, hm2, hc2⟩, hfr2⟩
        clear hK K
        have hclg : (nI g).toNatClampNeg = g := nI_clamp (by omega)
        obtain ⟨bb, hb1, hb2⟩ := hU2.2.2.2.2.1 g hg
        refine xF_go o_Mo_takes [318, 508] 60 (fun K hK => ?_)
        repeat' ((conv => whnf); first | refine ⟨fun h => ?_, fun h => ?_⟩ | refine ⟨?_, ?_⟩ | refine hK _ _ _ _ ?_)
        · exact vp_in_nI hg (by decide)
        · rw [hclg, hb1]
          clear hK K
          have e5 : M2 = xsL M2 78 (rowIn (M2.2 78) 0 0 (fun w => M2.2 71 (16 * g + w))) := by
            rw [rowIn_0]
            exact (xsL_id (fun i => rfl)).symm
          have key5 := L_tk5 l G g hg (nI f) (nI i) (nI (41 * f + i)) b c (b2 bb) M2 (qTk P U f i m M) ?_ 16 0 (by omega)
          · rw [← e5] at key5
            exact key5
          intro y5
          refine xF_go o_Mo_takes [508] 60 (fun K hK => ?_)
          repeat' ((conv => whnf); first | refine ⟨fun h => ?_, fun h => ?_⟩ | refine ⟨?_, ?_⟩ | refine hK _ _ _ _ ?_)
          refine h508 (uAdd U (ix (nI g)) (atU P (ix (nI g)) 0) (uS U f i)) (uB U (ix (nI g))) bb cc _ _ ⟨rfl, rfl, ?_, ?_⟩ ?_ ?_ hm2 ((hfr1.tr hfr2 (by simp)).L (by simp))
          · show bb = true ↔ uR U (ix (nI g))
            rw [eg]
            exact hb2
          · show cc = true ↔ uGw U (ix (nI g)) (atU P (ix (nI g)) 0) (uS U f i)
            rw [eg]
            exact hc2
          · rw [show ix (nI g) = g from eg]
            exact mU_fr (S := [78]) (xfr.rf.L (by simp)) (by decide) hU2
          · rw [show ix (nI g) = g from eg]
            intro r hr v hv
            have := hU2.2.2.1 g hg r hr v hv
            unfold sHas at this ⊢
            show xbit (if 0 ≤ 4 * r + v / 64 ∧ 4 * r + v / 64 < 0 + 16 then M2.2 71 (16 * g + (4 * r + v / 64 - 0)) else M2.2 78 (4 * r + v / 64)) (v % 64) = true ↔ _
            rw [if_pos (by omega), show 16 * g + (4 * r + v / 64 - 0) = 16 * g + 4 * r + v / 64 by omega]
            exact this
      · obtain rfl : o = 6 := nI_inj (by omega) (by decide) (show nI o = nI 6 from by assumption)
        clear hK K
        obtain ⟨ra, hra, rfl, era⟩ := vR_n hvq.1
        refine xF_go o_Mo_takes [508] 60 (fun K hK => ?_)
        repeat' ((conv => whnf); first | refine ⟨fun h => ?_, fun h => ?_⟩ | refine ⟨?_, ?_⟩ | refine hK _ _ _ _ ?_)
        refine xF_callV o_Mo_takes [.int (nI f), .int (nI i), .int (nI ra), .int b] rfl z_Mo_skips i_Mo_skips v_Mo_skips l_Mo_238 rfl ⟨⟨by decide, by decide⟩, rfl, rfl⟩ (Nat.le_of_ble_eq_true rfl) rfl rfl rfl (E_skips l G P hw U (uS U f i) m M1 hP1 hU1 hN1 hm1 f hf (nI i) ra hra b) ?_
        rintro v M2 ⟨bb, rfl, hb, hor, hN2, hfr2⟩
        clear hK K
        refine xF_go o_Mo_takes [508] 60 (fun K hK => ?_)
        repeat' ((conv => whnf); first | refine ⟨fun h => ?_, fun h => ?_⟩ | refine ⟨?_, ?_⟩ | refine hK _ _ _ _ ?_)
        have hbe : bb = true ↔ ∃ v, v < 256 ∧ ¬ v = 0 ∧ uS U f i (ix (nI ra)) v := by
          rw [era]
          exact hb
        have hNe : rs (uS U f i) ra (fun v => ¬ v = 0 ∧ uS U f i ra v) = rs (uS U f i) (ix (nI ra)) (fun v => ¬ v = 0 ∧ uS U f i (ix (nI ra)) v) := by rw [show ix (nI ra) = ra from era]
        rcases hor with ⟨z0, hU2, cc, hm2, hc2⟩ | ⟨z0, hU2, hm2⟩
        · refine h508 (uAdd U f (atU P f (nI i + b + 1)) (rs (uS U f i) (ix (nI ra)) (fun v => v = 0))) _ bb cc M2 _ ⟨Or.inl ⟨?_, rfl, ?_⟩, rfl, hbe⟩ ?_ (nw_iff hN2 hNe) hm2 (hfr1.tr hfr2 (by simp))
          · show uS U f i (ix (nI ra)) 0
            rw [era]
            exact z0
          · show cc = true ↔ uGw U f (atU P f (nI i + b + 1)) (rs (uS U f i) (ix (nI ra)) (fun v => v = 0))
            rw [era]
            exact hc2
          · rw [show ix (nI ra) = ra from era]
            exact hU2
        · refine h508 U _ bb false M2 _ ⟨Or.inr ⟨?_, rfl, rfl⟩, rfl, hbe⟩ hU2 (nw_iff hN2 hNe) (f508.mpr hm2) (hfr1.tr hfr2 (by simp))
          show ¬ uS U f i (ix (nI ra)) 0
          rw [era]
          exact z0
      · obtain rfl : o = 7 := nI_inj (by omega) (by decide) (show nI o = nI 7 from by assumption)
        exact h508 U _ true false M1 _ ⟨rfl, rfl, rfl, rfl⟩ hU1 hN1 (f508.mpr hm1) hfr1
      · obtain rfl : o = 8 := nI_inj (by omega) (by decide) (show nI o = nI 8 from by assumption)
        exact absurd rfl hq8
      · obtain rfl : o = 9 := nI_inj (by omega) (by decide) (show nI o = nI 9 from by assumption)
        clear hK K
        obtain ⟨ra, hra, rfl, era⟩ := vR_n hvq.1
        refine xF_go o_Mo_takes [372, 508] 60 (fun K hK => ?_)
        repeat' ((conv => whnf); first | refine ⟨fun h => ?_, fun h => ?_⟩ | refine ⟨?_, ?_⟩ | refine hK _ _ _ _ ?_)
        clear hK K
        have e9 : M1 = xsL M1 78 (rowIn (M1.2 78) (4 * ra) 0 (fun _ => -1)) := by
          rw [rowIn_0]
          exact (xsL_id (fun i => rfl)).symm
        have key9 := L_tk9 l G ra hra (nI f) (nI i) (nI (41 * f + i)) b c 1 M1 (qTk P U f i m M) ?_ 4 0 (by omega)
        · rw [← e9] at key9
          exact key9
        intro y9
        refine xF_go o_Mo_takes [508] 60 (fun K hK => ?_)
        repeat' ((conv => whnf); first | refine ⟨fun h => ?_, fun h => ?_⟩ | refine ⟨?_, ?_⟩ | refine hK _ _ _ _ ?_)
        refine h508 U _ true false _ _ ⟨rfl, rfl, rfl, rfl⟩ (mU_fr (S := [78]) (xfr.rf.L (by simp)) (by decide) hU1) (nw_iff (nw_row hN1 hra (h := fun _ => -1) (Z := fun _ => True) (fun v hv => ?_) rfl) ?_) (f508.mpr hm1) (hfr1.L (by simp))
        · unfold sHas
          rw [xbit_m1, decide_eq_true_iff]
          exact ⟨fun _ => trivial, fun _ => by omega⟩
        · show rs (uS U f i) ra (fun _ => True) = rs (uS U f i) (ix (nI ra)) (fun _ => True)
          rw [era]
      · obtain rfl : o = 10 := nI_inj (by omega) (by decide) (show nI o = nI 10 from by assumption)
        clear hK K
        obtain ⟨ra, hra, rfl, era⟩ := vR_n hvq.1
        obtain ⟨k, hk, rfl, ek2⟩ := vT_n hvq.2.1
        obtain ⟨k2, hk2, rfl, ek3⟩ := vT_n hvq.2.2
        have hcl1 : (nI k).toNatClampNeg = k := nI_clamp (by omega)
        have hcl2 : (nI k2).toNatClampNeg = k2 := nI_clamp (by omega)
        have hkk : nI k = nI k2 ↔ k = k2 := ⟨fun z => nI_inj (by omega) (by omega) z, fun z => by rw [z]⟩
        have hput : ∀ (M2 : xMe) (u : Nat), u < 2 → (u = 1 ↔ k = k2) → stZ (fun _ => False) M2 → ufr [79] M1 M2 → M2.1 = M1.1 → xF l G y_Mo_takes 419 [some (.ref 50), some (.int (nI f)), some (.int (nI i)), some (.int (nI (41 * f + i))), some (.int (nI ra)), some (.int (nI k)), some (.int (nI k2)), some (.int 1), none] [.int (nI u), .ref 50] M2 (qTk P U f i m M) := by
          intro M2 u hu2 hu hZ2 hfr2 h2
          refine xF_callV o_Mo_takes [.int (nI u)] rfl z_Mo_put i_Mo_put v_Mo_put l_Mo_222 rfl ⟨⟨by decide, by decide⟩, rfl, rfl⟩ (Nat.le_of_ble_eq_true rfl) rfl rfl rfl (E_MputZ l G _ M2 hZ2 u (by omega)) ?_
          rintro v M3 ⟨rfl, hZ3, hfr3, h3⟩
          refine xF_go o_Mo_takes [508] 60 (fun K hK => ?_)
          repeat' ((conv => whnf); first | refine ⟨fun h => ?_, fun h => ?_⟩ | refine ⟨?_, ?_⟩ | refine hK _ _ _ _ ?_)
          have hN3 : nw (uS U f i) M3 := by unfold nw; rw [(hfr3.1 78 (by decide)).2, (hfr2.1 78 (by decide)).2]; exact hN1
          refine xF_callV o_Mo_takes [.int (nI ra)] rfl z_Mo_gets i_Mo_gets v_Mo_gets l_Mo_225 rfl ⟨⟨by decide, by decide⟩, rfl, rfl⟩ (Nat.le_of_ble_eq_true rfl) rfl rfl rfl (E_gets l G _ _ M3 hN3 hZ3 ra hra) ?_
          rintro v M4 ⟨rfl, hN4, hfr4, h4⟩
          clear hK K
          have hfr' : ufr [78, 79] M1 M4 := ((hfr2.mono (by simp)).tr hfr3 (by simp)).tr hfr4 (by simp)
          have hU4 := mU_fr hfr'.1 (by decide) hU1
          have hm4 : mo m M4 := by unfold mo; rw [h4, h3, h2]; exact hm1
          have hNe : rs (uS U f i) ra (fun w => False ∨ w = u) = rs (uS U f i) (ix (nI ra)) (fun v => (ix (nI k) = ix (nI k2) ∧ v = 1) ∨ (¬ ix (nI k) = ix (nI k2) ∧ v = 0)) := by
            rw [show ix (nI ra) = ra from era, show ix (nI k) = k from ek2, show ix (nI k2) = k2 from ek3]
            congr 1
            funext w
            refine propext ⟨fun z => ?_, fun z => ?_⟩
            · have zw := z.resolve_left id
              by_cases e : k = k2
              · exact Or.inl ⟨e, by rw [zw]; exact hu.mpr e⟩
              · exact Or.inr ⟨e, by have : ¬ u = 1 := fun y => e (hu.mp y); omega⟩
            · rcases z with z | z
              · exact Or.inr (by rw [z.2]; exact (hu.mpr z.1).symm)
              · exact Or.inr (by have : ¬ u = 1 := fun y => z.1 (hu.mp y); omega)
          obtain ⟨w1, hw1, hw1'⟩ := hU4.2.2.2.2.2.2.2.2 k hk
          obtain ⟨w2, hw2, hw2'⟩ := hU4.2.2.2.2.2.2.2.2 k2 hk2
          have fin2 : ∀ (z1 z2 : Int32), (∃ d, z1 = b2 d ∧ (d = true ↔ (uCm U k ∨ ¬ k = k2))) → (∃ d, z2 = b2 d ∧ (d = true ↔ (uCm U k2 ∨ ¬ k = k2))) → ∀ y, xF l G y_Mo_takes 508 [some (.ref 50), some (.int (nI f)), some (.int (nI i)), some (.int (nI (41 * f + i))), some (.int (nI ra)), some (.int (nI k)), some (.int (nI k2)), some (.int 1), y] [] (xsI (xsI M4 77 (upd (M4.1 77) k z1)) 77 (upd (upd (M4.1 77) k z1) k2 z2)) (qTk P U f i m M) := by
            rintro z1 z2 ⟨d1, e1, g1⟩ ⟨d2, e2, g2⟩ y
            obtain ⟨a1, a2, a3, a4, a5, a6, a7, a8, a9⟩ := hU4
            refine h508 (uComp U (ix (nI k)) (ix (nI k2))) _ true false _ _ ⟨rfl, rfl, rfl, rfl⟩ ?_ (nw_iff (M := xsI (xsI M4 77 _) 77 _) hN4 hNe) (f508.mpr hm4) (((hfr1.tr hfr' (by simp)).I (by simp) (by decide)).I (by simp) (by decide))
            rw [show ix (nI k) = k from ek2, show ix (nI k2) = k2 from ek3]
            refine ⟨a1, a2, a3, a4, a5, a6, a7, a8, fun x hx => ?_⟩
            show ∃ d, upd (upd (M4.1 77) k z1) k2 z2 x = b2 d ∧ (d = true ↔ (uCm U x ∨ (¬ k = k2 ∧ (x = k ∨ x = k2))))
            by_cases x2 : x = k2
            · refine ⟨d2, by rw [x2, upd_s]; exact e2, g2.trans ?_⟩
              rw [x2]
              exact or_congr Iff.rfl ⟨fun z => ⟨z, Or.inr rfl⟩, fun z => z.1⟩
            · rw [upd_n x2]
              by_cases x1 : x = k
              · refine ⟨d1, by rw [x1, upd_s]; exact e1, g1.trans ?_⟩
                rw [x1]
                exact or_congr Iff.rfl ⟨fun z => ⟨z, Or.inl rfl⟩, fun z => z.1⟩
              · rw [upd_n x1]
                obtain ⟨d, e, g⟩ := a9 x hx
                exact ⟨d, e, g.trans ⟨Or.inl, fun z => z.elim id (fun z => z.2.elim (fun z => absurd z x1) (fun z => absurd z x2))⟩⟩
          have fin1 : ∀ (z1 : Int32), (∃ d, z1 = b2 d ∧ (d = true ↔ (uCm U k ∨ ¬ k = k2))) → ∀ y, xF l G y_Mo_takes 457 [some (.ref 50), some (.int (nI f)), some (.int (nI i)), some (.int (nI (41 * f + i))), some (.int (nI ra)), some (.int (nI k)), some (.int (nI k2)), some (.int 1), y] [] (xsI M4 77 (upd (M4.1 77) k z1)) (qTk P U f i m M) := by
            rintro z1 hz1 y
            have hv2 : (∃ d, upd (M4.1 77) k z1 k2 = b2 d ∧ ((d = true ∨ ¬ k = k2) ↔ (uCm U k2 ∨ ¬ k = k2))) := by
              by_cases e : k2 = k
              · obtain ⟨d, h1, h2⟩ := hz1
                refine ⟨d, by rw [e, upd_s]; exact h1, ?_⟩
                rw [h2, e]
                exact ⟨fun z => z.elim id Or.inr, Or.inl⟩
              · exact ⟨w2, by rw [upd_n e]; exact hw2, or_congr hw2' Iff.rfl⟩
            obtain ⟨d, hd1, hd2⟩ := hv2
            refine xF_go o_Mo_takes [508] 60 (fun K hK => ?_)
            repeat' ((conv => whnf); first | refine ⟨fun h => ?_, fun h => ?_⟩ | refine ⟨?_, ?_⟩ | refine hK _ _ _ _ ?_)
            · exact vp_in_nI hk2 (by decide)
            · exact vp_in_nI hk2 (by decide)
            · exact Or.inr rfl
            · have h0 : ¬ upd (M4.1 77) k z1 (nI k2).toNatClampNeg = 0 := by assumption
              rw [hcl2, hd1] at h0
              have hdt : d = true := by
                cases d with
                | true => rfl
                | false => exact absurd rfl h0
              rw [hcl2]
              exact fin2 z1 1 hz1 ⟨true, rfl, fun _ => hd2.mp (Or.inl hdt), fun _ => rfl⟩ _
            · exact vp_in_nI hk2 (by decide)
            · exact Or.inl rfl
            · have h0 : upd (M4.1 77) k z1 (nI k2).toNatClampNeg = 0 := by assumption
              have he : nI k = nI k2 := by assumption
              rw [hcl2, hd1] at h0
              rw [hkk] at he
              have hdf : ¬ d = true := fun z => by rw [z] at h0; exact absurd h0 (by decide)
              rw [hcl2]
              exact fin2 z1 0 hz1 ⟨false, rfl, (fun z => by cases z), fun z => ((hd2.mpr z).elim (fun z => absurd z hdf) (fun z => absurd he z))⟩ _
            · exact vp_in_nI hk2 (by decide)
            · exact Or.inr rfl
            · have he : ¬ nI k = nI k2 := by assumption
              rw [hkk] at he
              rw [hcl2]
              exact fin2 z1 1 hz1 ⟨true, rfl, fun _ => Or.inr he, fun _ => rfl⟩ _
          refine xF_go o_Mo_takes [457] 60 (fun K hK => ?_)
          repeat' ((conv => whnf); first | refine ⟨fun h => ?_, fun h => ?_⟩ | refine ⟨?_, ?_⟩ | refine hK _ _ _ _ ?_)
          · exact vp_in_nI hk (by decide)
          · exact vp_in_nI hk (by decide)
          · exact Or.inr rfl
          · have h0 : ¬ M4.1 77 (nI k).toNatClampNeg = 0 := by assumption
            rw [hcl1, hw1] at h0
            have hdt : w1 = true := by
              cases w1 with
              | true => rfl
              | false => exact absurd rfl h0
            rw [hcl1]
            exact fin1 1 ⟨true, rfl, fun _ => Or.inl (hw1'.mp hdt), fun _ => rfl⟩ _
          · exact vp_in_nI hk (by decide)
          · exact Or.inl rfl
          · have h0 : M4.1 77 (nI k).toNatClampNeg = 0 := by assumption
            have he : nI k = nI k2 := by assumption
            rw [hcl1, hw1] at h0
            rw [hkk] at he
            have hdf : ¬ w1 = true := fun z => by rw [z] at h0; exact absurd h0 (by decide)
            rw [hcl1]
            exact fin1 0 ⟨false, rfl, (fun z => by cases z), fun z => (z.elim (fun z => absurd (hw1'.mpr z) hdf) (fun z => absurd he z))⟩ _
          · exact vp_in_nI hk (by decide)
          · exact Or.inr rfl
          · have he : ¬ nI k = nI k2 := by assumption
            rw [hkk] at he
            rw [hcl1]
            exact fin1 1 ⟨true, rfl, fun _ => Or.inr he, fun _ => rfl⟩ _
        refine xF_go o_Mo_takes [508] 60 (fun K hK => ?_)
        repeat' ((conv => whnf); first | refine ⟨fun h => ?_, fun h => ?_⟩ | refine ⟨?_, ?_⟩ | refine hK _ _ _ _ ?_)
        refine xF_callV o_Mo_takes [] rfl z_Mo_empty i_Mo_empty v_Mo_empty l_Mo_211 rfl ⟨⟨by decide, by decide⟩, rfl, rfl⟩ (Nat.le_of_ble_eq_true rfl) rfl rfl rfl (E_empty l G M1) ?_
        rintro v M2 ⟨rfl, hZ2, hfr2, h2⟩
        clear hK K
        refine xF_go o_Mo_takes [419] 60 (fun K hK => ?_)
        repeat' ((conv => whnf); first | refine ⟨fun h => ?_, fun h => ?_⟩ | refine ⟨?_, ?_⟩ | refine hK _ _ _ _ ?_)
        · have he : ¬ nI k = nI k2 := by assumption
          rw [hkk] at he
          exact hput M2 0 (by omega) ⟨(fun z => by cases z), fun z => absurd z he⟩ hZ2 hfr2 h2
        · have he : nI k = nI k2 := by assumption
          rw [hkk] at he
          exact hput M2 1 (by omega) ⟨fun _ => he, fun _ => rfl⟩ hZ2 hfr2 h2
      · obtain rfl : o = 11 := nI_inj (by omega) (by decide) (show nI o = nI 11 from by assumption)
        clear hK K
        obtain ⟨ra, hra, rfl, era⟩ := vR_n hvq.1
        obtain ⟨k, hk, rfl, ek2⟩ := vT_n hvq.2.1
        obtain ⟨rc, hrc, rfl, erc⟩ := vR_n hvq.2.2
        refine xF_go o_Mo_takes [508] 60 (fun K hK => ?_)
        repeat' ((conv => whnf); first | refine ⟨fun h => ?_, fun h => ?_⟩ | refine ⟨?_, ?_⟩ | refine hK _ _ _ _ ?_)
        refine xF_callV o_Mo_takes [.int (nI k), .int (nI rc)] rfl z_Mo_follows i_Mo_follows v_Mo_follows l_Mo_243 rfl ⟨⟨by decide, by decide⟩, rfl, rfl⟩ (Nat.le_of_ble_eq_true rfl) rfl rfl rfl (E_follows l G P hw U (uS U f i) m M1 hP1 hU1 hN1 hm1 k rc hk hrc) ?_
        rintro v M2 ⟨bb, rfl, hb, hU2, hN2, hm2, hZ2, hfr2⟩
        clear hK K
        refine xF_go o_Mo_takes [508] 60 (fun K hK => ?_)
        repeat' ((conv => whnf); first | refine ⟨fun h => ?_, fun h => ?_⟩ | refine ⟨?_, ?_⟩ | refine hK _ _ _ _ ?_)
        refine xF_callV o_Mo_takes [.int (nI ra)] rfl z_Mo_gets i_Mo_gets v_Mo_gets l_Mo_225 rfl ⟨⟨by decide, by decide⟩, rfl, rfl⟩ (Nat.le_of_ble_eq_true rfl) rfl rfl rfl (E_gets l G _ _ M2 hN2 hZ2 ra hra) ?_
        rintro v M4 ⟨rfl, hN4, hfr4, h4⟩
        clear hK K
        refine xF_go o_Mo_takes [508] 60 (fun K hK => ?_)
        repeat' ((conv => whnf); first | refine ⟨fun h => ?_, fun h => ?_⟩ | refine ⟨?_, ?_⟩ | refine hK _ _ _ _ ?_)
        refine h508 (uFoll P U (ix (nI k)) (fun p => p < 64 ∧ uS U f i (ix (nI rc)) p ∧ (pR P (ix (nI k)) p).isSome)) _ bb false M4 _ ⟨rfl, rfl, ?_, rfl⟩ (mU_fr hfr4.1 (by decide) ?_) (nw_iff hN4 ?_) (f508.mpr (by unfold mo; rw [h4]; exact hm2)) ((hfr1.tr hfr2 (by simp)).tr hfr4 (by simp))
        · show bb = true ↔ ∃ p, p < 64 ∧ uS U f i (ix (nI rc)) p ∧ (pR P (ix (nI k)) p).isSome
          rw [ek2, erc]
          exact hb
        · rw [show ix (nI k) = k from ek2, show ix (nI rc) = rc from erc]
          exact hU2
        · show rs (uS U f i) ra (fun v => ∃ p, (p < 64 ∧ uS U f i rc p ∧ (pR P k p).isSome) ∧ ∃ t, pR P k p = some t ∧ uY U t 0 v) = rs (uS U f i) (ix (nI ra)) (fun v => ∃ p, (p < 64 ∧ uS U f i (ix (nI rc)) p ∧ (pR P (ix (nI k)) p).isSome) ∧ ∃ t, pR P (ix (nI k)) p = some t ∧ uY U t 0 v)
          rw [era, ek2, erc]
      · exfalso
        have n0 : ¬ nI o = nI 0 := by assumption
        have n1 : ¬ nI o = nI 1 := by assumption
        have n2 : ¬ nI o = nI 2 := by assumption
        have n3 : ¬ nI o = nI 3 := by assumption
        have n4 : ¬ nI o = nI 4 := by assumption
        have n5 : ¬ nI o = nI 5 := by assumption
        have n6 : ¬ nI o = nI 6 := by assumption
        have n7 : ¬ nI o = nI 7 := by assumption
        have n8 : ¬ nI o = nI 8 := by assumption
        have n9 : ¬ nI o = nI 9 := by assumption
        have n10 : ¬ nI o = nI 10 := by assumption
        have n11 : ¬ nI o = nI 11 := by assumption
        match o, hq12 with
        | 0, _ => exact n0 rfl
        | 1, _ => exact n1 rfl
        | 2, _ => exact n2 rfl
        | 3, _ => exact n3 rfl
        | 4, _ => exact n4 rfl
        | 5, _ => exact n5 rfl
        | 6, _ => exact n6 rfl
        | 7, _ => exact n7 rfl
        | 8, _ => exact n8 rfl
        | 9, _ => exact n9 rfl
        | 10, _ => exact n10 rfl
        | 11, _ => exact n11 rfl
        | o + 12, hq => omega
    · have h8 : M1.1 58 (nI (41 * f + i)).toNatClampNeg = nI 8 := by assumption
      rw [hcl, c1] at h8
      exact hret (Or.inr ⟨q, hq, nI_inj (by omega) (by decide) h8⟩)
end XTB
