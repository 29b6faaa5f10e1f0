/-! the reference: lays, whole; shrink -/
abbrev yfr : List Nat := [85, 86, 87, 88, 89, 90, 91, 92, 93, 94, 95]
/-- what the reference holds of the layout -/
def mLy (P : sP) (V : sV) (R : List Nat) (M : xMe) : Prop := c38 86 (sfr P (stl P V)) M ∧ c38 87 (ouf P (stl P V)) M ∧ mA (ad2 P (stl P V) R) M ∧ M.1 50 56 = nI R.length ∧ M.1 50 57 = nI (ene (aln P (stl P V)) (pS P) 0 R) ∧ ∀ a, a < 1728 → M.1 89 a = nI (oct (aln P (stl P V)) (pS P) (pO P) 0 R (fun _ => 0) a)
section XMZ
variable (l : Launch) (G : xG)
theorem E_Mlays (P : sP) (hw : wP P) (V : sV) (R : List Nat) (hR : isR P V R) (M : xMe) (hP : mP P M) (h80 : c36 80 (kpt P V) M) (h76 : cZ 76 (vWr V) M) (h77 : cZ 77 (vCm V) M) : xE l G y_Mo_lays [.ref 50] M (fun r M' => r = none ∧ vfr yfr [56, 57, 58] M M' ∧ mLy P V R M') := by
  refine xE_cps (fun Q hQ => ?_)
  have hokR := isR_ok hw hR
  have rest : ∀ M3 x1, vfr yfr [56, 57, 58] M M3 → c38 86 (sfr P (stl P V)) M3 → c38 87 (ouf P (stl P V)) M3 → (∀ k, k < 24 → M3.1 88 k = nI (aln P (stl P V) k)) → m92 94 R M3 → xF l G y_Mo_lays 48 [some (.ref 50), x1, none, none, none] [] M3 Q := by
    intro M3 x1 f3 a86 a87 a88 a94
    refine xF_go o_Mo_lays [50] 60 (fun K hK => ?_)
    repeat' ((conv => whnf); first | refine ⟨fun h => ?_, fun h => ?_⟩ | refine ⟨?_, ?_⟩ | refine hK _ _ _ _ ?_)
    clear hK K
    refine loopN (σ := xMe) 3072 (fun i M4 => xfr [89] M3 M4 ∧ ∀ j, j < i → M4.1 89 j = 0) (fun i M4 => xF l G y_Mo_lays 50 [some (.ref 50), some (.int (nI i)), none, none, none] [] M4 Q) ?_ ?_ 3072 0 rfl M3 ⟨xfr.rf, fun j hj => absurd hj (Nat.not_lt_zero _)⟩
    · intro i hi M4 hI next
      obtain ⟨f4, g4⟩ := hI
      refine xF_go o_Mo_lays [50, 76] 60 (fun K hK => ?_)
      repeat' ((conv => whnf); first | refine ⟨fun h => ?_, fun h => ?_⟩ | refine ⟨?_, ?_⟩ | refine hK _ _ _ _ ?_)
      · exact absurd (nI_lt (b := 3072) hi (by decide)) h
      · exact vp_in_nI hi (by decide)
      · rw [nI_1, nI_clamp (by omega)]
        refine next _ ⟨f4.I (by simp), fun j hj => ?_⟩
        rw [xsI_s]
        by_cases e : j = i
        · rw [e, upd_s]
        · rw [upd_n e]; exact g4 j (by omega)
    · intro M4 hI
      obtain ⟨f4, g4⟩ := hI
      have v4 : vfr yfr [56, 57, 58] M M4 := f3.tr (vfr.of f4 (by decide) : vfr [89] [] M3 M4) (by decide) (by decide)
      refine xF_go o_Mo_lays [50, 76] 60 (fun K hK => ?_)
      repeat' ((conv => whnf); first | refine ⟨fun h => ?_, fun h => ?_⟩ | refine ⟨?_, ?_⟩ | refine hK _ _ _ _ ?_)
      · refine L_lays3 l G P hw (aln P (stl P V)) R hokR.1 (fun k hk => ⟨(hokR.2.2.1 k hk).1, (hokR.2.2.1 k hk).2.1⟩) hokR.2.1 Q R [] (fun _ => 0) M4 none none rfl (v4.P (by decide) (by decide) hP) (by unfold m92; rw [(f4 50 (by decide)).1, (f4 94 (by decide)).1]; exact a94) (by rw [(f4 88 (by decide)).1]; exact a88) (fun a ha => g4 a (by omega)) (fun M5 y2 y3 y4 f5 k89 k85 => ?_)
        clear hK K
        refine xF_go o_Mo_lays [172] 60 (fun K hK => ?_)
        repeat' ((conv => whnf); first | refine ⟨fun h => ?_, fun h => ?_⟩ | refine ⟨?_, ?_⟩ | refine hK _ _ _ _ ?_)
        clear hK K
        have f5' : vfr yfr [56, 57, 58] M4 (xsI M5 50 (upd (M5.1 50) 57 (nI (ene (aln P (stl P V)) (pS P) 0 R)))) := (((vfr.of f5 (by decide) : vfr [85, 89] [] M4 M5).mono (by decide) (by decide)) : vfr yfr [56, 57, 58] M4 M5).F (by decide)
        have v5 := v4.tr f5' (fun _ z => z) (fun _ z => z)
        have w50 : ∀ c, c ∉ 50 :: [85, 89] → (xsI M5 50 (upd (M5.1 50) 57 (nI (ene (aln P (stl P V)) (pS P) 0 R)))).1 c = M3.1 c := by
          intro c hc
          rw [xsI_1, if_neg (fun e => hc (by simp [e])), (f5 c (fun z => hc (List.mem_cons_of_mem _ z))).1, (f4 c (fun z => hc (by simp at z; simp [z]))).1]
        refine L_lays4 l G P hw V (stl P V) (fun k hk => hk.2.1) R hokR _ (v5.P (by decide) (by decide) hP) (by unfold c36; rw [v5.at (by decide)]; exact h80) (by unfold c38; rw [w50 86 (by decide)]; exact a86) (by unfold c38; rw [w50 87 (by decide)]; exact a87) (fun k hk a ha => ?_) Q (fun M6 f6 k6 => hQ _ _ ⟨rfl, v5.tr (vfr.of f6 (by decide) : vfr [85] [] _ M6) (by decide) (by decide), ?_, ?_, k6, ?_, ?_, ?_⟩) _ _ _
        · show M5.1 85 k = nI a
          have := (ad0_le hokR ha)
          rw [k85 k hk, if_pos this.1, this.2.1]
          rfl
        · unfold c38; rw [(f6 86 (by decide)).1, w50 86 (by decide)]; exact a86
        · unfold c38; rw [(f6 87 (by decide)).1, w50 87 (by decide)]; exact a87
        · rw [(f6 50 (by decide)).1]
          show M5.1 50 56 = _
          rw [(f5 50 (by decide)).1, (f4 50 (by decide)).1]
          exact a94.1
        · rw [(f6 50 (by decide)).1]
          rfl
        · rw [(f6 89 (by decide)).1]
          exact k89
      all_goals exact absurd (show nI 3072 < nI 3072 from by assumption) (nI_nlt (by omega) (by omega))
  refine xE_of [some (.ref 50), none, none, none, none] (by decide +kernel) (Nat.le_of_ble_eq_true rfl) rfl ?_
  refine xF_go o_Mo_lays [] 60 (fun K hK => ?_)
  repeat' ((conv => whnf); first | refine ⟨fun h => ?_, fun h => ?_⟩ | refine ⟨?_, ?_⟩ | refine hK _ _ _ _ ?_)
  refine xF_callV o_Mo_lays [] rfl z_Mo_joins i_Mo_joins v_Mo_joins l_Mo_280 rfl ⟨⟨by decide, by decide⟩, rfl, rfl⟩ (Nat.le_of_ble_eq_true rfl) rfl rfl rfl (E_Mjoins l G P hw V M hP h80 h76 h77) ?_
  rintro v M1 ⟨rfl, f1, a86, a87, a88, a92⟩
  clear hK K
  generalize eB : bls P (kpt P V) (stl P V) 24 = Bl at *
  have hiso : iso (aln P (stl P V)) (pS P) Bl R := by rw [← eB]; exact hR
  have hlen : Bl.length ≤ 24 := by rw [← eB]; exact bls_len 24
  have P1 := f1.P (by decide) (by decide) hP
  have f1' : vfr yfr [56, 57, 58] M M1 := f1.mono (by decide) (by decide)
  have hmem : ∀ k, k ∈ Bl → k < 24 ∧ one8 (aln P (stl P V) k) ∧ pS P k ≤ 64 := by
    intro k hk
    rw [← eB, bls_mem] at hk
    exact ⟨hk.1, aln_one hw (fun j hj => stl_T hj) hk.1 (kpt_S hk.2.1), (hw.1 k hk.1).1⟩
  refine xF_go o_Mo_lays [22, 48] 60 (fun K hK => ?_)
  repeat' ((conv => whnf); first | refine ⟨fun h => ?_, fun h => ?_⟩ | refine ⟨?_, ?_⟩ | refine hK _ _ _ _ ?_)
  · have h0 := (show nI 7 < M1.1 50 56 from by assumption)
    rw [a92.1, nI_ltI (by omega) (by omega)] at h0
    have eRB : R = Bl := hiso.2 (by omega)
    clear hK K
    refine loopN (σ := xMe) Bl.length (fun i M2 => xfr [94] M1 M2 ∧ ∀ j, j < i → ∀ x, Bl[j]? = some x → M2.1 94 j = nI x) (fun i M2 => xF l G y_Mo_lays 22 [some (.ref 50), some (.int (nI i)), none, none, none] [] M2 Q) ?_ ?_ Bl.length 0 rfl M1 ⟨xfr.rf, fun j hj => absurd hj (Nat.not_lt_zero _)⟩
    · intro i hi M2 hI next
      obtain ⟨f2, g2⟩ := hI
      have u56 : M2.1 50 56 = nI Bl.length := by rw [(f2 50 (by decide)).1]; exact a92.1
      have hci : (nI i).toNatClampNeg = i := nI_clamp (by omega)
      refine xF_go o_Mo_lays [22, 48] 60 (fun K hK => ?_)
      repeat' ((conv => whnf); first | refine ⟨fun h => ?_, fun h => ?_⟩ | refine ⟨?_, ?_⟩ | refine hK _ _ _ _ ?_)
      · have h1 := (show ¬ nI i < M2.1 50 56 from by assumption)
        rw [u56, nI_ltI (by omega) (by omega)] at h1
        omega
      · exact vp_in_nI (by show _ < 24; omega) (by decide)
      · exact vp_in_nI (by show _ < 24; omega) (by decide)
      · rw [nI_1, hci]
        refine next _ ⟨f2.I (by simp), fun j hj x hx => ?_⟩
        rw [xsI_s]
        by_cases e : j = i
        · subst e
          rw [upd_s, (f2 92 (by decide)).1]
          exact a92.2 j x hx
        · rw [upd_n e]; exact g2 j (by omega) x hx
    · intro M2 hI
      obtain ⟨f2, g2⟩ := hI
      have u56 : M2.1 50 56 = nI Bl.length := by rw [(f2 50 (by decide)).1]; exact a92.1
      refine xF_go o_Mo_lays [22, 48] 60 (fun K hK => ?_)
      repeat' ((conv => whnf); first | refine ⟨fun h => ?_, fun h => ?_⟩ | refine ⟨?_, ?_⟩ | refine hK _ _ _ _ ?_)
      · refine rest M2 _ (f1'.tr (vfr.of f2 (by decide) : vfr [94] [] M1 M2) (by decide) (by decide)) (by unfold c38; rw [(f2 86 (by decide)).1]; exact a86) (by unfold c38; rw [(f2 87 (by decide)).1]; exact a87) (by rw [(f2 88 (by decide)).1]; exact a88) ⟨by rw [eRB]; exact u56, fun i x hx => ?_⟩
        rw [eRB] at hx
        exact g2 i (List.getElem?_eq_some_iff.mp hx).1 x hx
      all_goals
        have h1 := (show nI Bl.length < M2.1 50 56 from by assumption)
        rw [u56, nI_ltI (by omega) (by omega)] at h1
        omega
  · have h0 := (show ¬ nI 7 < M1.1 50 56 from by assumption)
    rw [a92.1, nI_ltI (by omega) (by omega)] at h0
    obtain ⟨p0, q1, q2⟩ := hiso.1 (by omega)
    refine xF_callV o_Mo_lays [] rfl z_Mo_tries i_Mo_tries v_Mo_tries l_Mo_283 rfl ⟨⟨by decide, by decide⟩, rfl, rfl⟩ (Nat.le_of_ble_eq_true rfl) rfl rfl rfl (E_Mtries l G (aln P (stl P V)) (pS P) Bl (by omega) hmem M1 a92 (fun k hk => ⟨(P1.1 k hk).1, a88 k hk⟩)) ?_
    rintro v M2 ⟨rfl, f2, p, p1, p2, p3⟩
    clear hK K
    have ep : p0 = p := fst1_1 q1 p1
    subst ep
    refine xF_go o_Mo_lays [22, 48] 60 (fun K hK => ?_)
    repeat' ((conv => whnf); first | refine ⟨fun h => ?_, fun h => ?_⟩ | refine ⟨?_, ?_⟩ | refine hK _ _ _ _ ?_)
    refine rest M2 _ (f1'.tr f2 (by decide) (by decide)) (by unfold c38; rw [f2.at (by decide)]; exact a86) (by unfold c38; rw [f2.at (by decide)]; exact a87) (by rw [f2.at (by decide)]; exact a88) ⟨?_, fun i x hx => ?_⟩
    · rw [f2.2 56 (by decide), a92.1, q2, List.length_map, p2]
    · rw [q2, List.getElem?_map] at hx
      cases e : p0[i]? with
      | none => rw [e] at hx; cases hx
      | some y =>
        rw [e] at hx
        cases hx
        exact p3 i y e
/-- what the reference holds since the latest shrink -/
def mSh (P : sP) (V : sV) (R : List Nat) (M : xMe) : Prop := mLy P V R M ∧ c36 80 (kpt P V) M ∧ (∀ k, k < 24 → M.1 83 k = nI (pS P k)) ∧ (∀ f, f < 12 → M.1 81 f = b2 (tb (∃ i, i < 64 ∧ vC V f i)) ∧ M.1 84 f = nI (pC P f).length) ∧ (∀ f, f < 12 → ∀ i, i < (pC P f).length → M.1 72 (41 * f + i) = b2 (tb (vC V f i))) ∧ (∀ f, f < 12 → ∀ i, i < (pC P f).length → ∀ r, r < 4 → ∀ v, v < 256 → (sHas (M.2 69) (16 * (41 * f + i) + 4 * r) v = true ↔ vS V f i r v)) ∧ mKP 74 (vRd V) M ∧ c36 76 (vWr V) M ∧ c36 77 (vCm V) M ∧ ∀ x, x < 36 → rD (ent P) (vLk V) x (M.1 82 x)
/-- what the reference keeps between calls -/
def m73b (M : xMe) : Prop := (∀ f, f < 12 → ∃ b, M.1 73 f = b2 b) ∧ ∃ m, mo m M
abbrev sfrM : List Nat := [69, 70, 71, 72, 73, 74, 75, 76, 77, 78, 79, 80, 81, 82, 83, 84, 85, 86, 87, 88, 89, 90, 91, 92, 93, 94, 95]
theorem ufr_v {S : List Nat} {M M' : xMe} (h : ufr S M M') : vfr S [39] M M' := ⟨h.1, fun s hs => h.2 s (by simpa using hs)⟩
theorem E_Mshrink (P : sP) (hw : wP P) (V : sV) (hV : fin P V) (R : List Nat) (hR : isR P V R) (M : xMe) (hP : mP P M) (hb : m73b M) : xE l G y_Mo_shrink [.ref 50] M (fun r M' => r = some (.int (nI (ene (aln P (stl P V)) (pS P) 0 R))) ∧ mSh P V R M' ∧ mP P M' ∧ m73b M' ∧ M'.1 50 26 = 1 ∧ M'.1 50 27 = 1 ∧ vfr sfrM [26, 27, 39, 56, 57, 58] M M') := by
  refine xE_of [some (.ref 50)] (by decide +kernel) (Nat.le_of_ble_eq_true rfl) rfl ?_
  refine xF_go o_Mo_shrink [] 60 (fun K hK => ?_)
  repeat' ((conv => whnf); first | refine ⟨fun h => ?_, fun h => ?_⟩ | refine ⟨?_, ?_⟩ | refine hK _ _ _ _ ?_)
  refine xF_callV o_Mo_shrink [] rfl z_Mo_reach i_Mo_reach v_Mo_reach l_Mo_289 rfl ⟨⟨by decide, by decide⟩, rfl, rfl⟩ (Nat.le_of_ble_eq_true rfl) rfl rfl rfl (E_reach l G P hw M hP hb.1 hb.2) ?_
  rintro v M1 ⟨rfl, U, hU, ⟨hFU, hSU⟩, f1⟩
  clear hK K
  obtain ⟨s1, s2, s3, s4, s5, s6, s7⟩ := same_VU hw hV hFU
  obtain ⟨u1, u2, u3, u4, u5, u6, u7, u8, u9⟩ := id hU
  have P1 : mP P M1 := f1.P (by decide) hP
  have h74 : mKP 74 (vRd V) M1 := fun k hk p hp => by
    obtain ⟨b, b1, b2'⟩ := u6 k hk p hp
    exact ⟨b, b1, b2'.trans (s4 k p)⟩
  have h76 : cZ 76 (vWr V) M1 := fun k hk => by
    obtain ⟨b, b1, b2'⟩ := u8 k hk
    exact ⟨b, b1, b2'.trans (s5 k)⟩
  have h77 : cZ 77 (vCm V) M1 := fun k hk => by
    obtain ⟨b, b1, b2'⟩ := u9 k hk
    exact ⟨b, b1, b2'.trans (s6 k)⟩
  have v1 : vfr sfrM [26, 27, 39, 56, 57, 58] M M1 := (ufr_v f1).mono (by decide) (by decide)
  refine xF_go o_Mo_shrink [] 60 (fun K hK => ?_)
  repeat' ((conv => whnf); first | refine ⟨fun h => ?_, fun h => ?_⟩ | refine ⟨?_, ?_⟩ | refine hK _ _ _ _ ?_)
  refine xF_callV o_Mo_shrink [] rfl z_Mo_keeps i_Mo_keeps v_Mo_keeps l_Mo_292 rfl ⟨⟨by decide, by decide⟩, rfl, rfl⟩ (Nat.le_of_ble_eq_true rfl) rfl rfl rfl (E_Mkeeps l G P hw V hV (uC U) M1 P1 h74 u4) ?_
  rintro v M2 ⟨rfl, f2, k80, k83, k81⟩
  clear hK K
  have v2 : vfr sfrM [26, 27, 39, 56, 57, 58] M M2 := v1.tr (vfr.of f2 (by decide) : vfr [80, 81, 83, 84] [] M1 M2) (by decide) (by decide)
  have P2 : mP P M2 := v2.P (by decide) (by decide) hP
  have hU2 : mU U M2 := mU_fr f2 (by decide) hU
  refine xF_go o_Mo_shrink [] 60 (fun K hK => ?_)
  repeat' ((conv => whnf); first | refine ⟨fun h => ?_, fun h => ?_⟩ | refine ⟨?_, ?_⟩ | refine hK _ _ _ _ ?_)
  refine xF_callV o_Mo_shrink [] rfl z_Mo_chains i_Mo_chains v_Mo_chains l_Mo_295 rfl ⟨⟨by decide, by decide⟩, rfl, rfl⟩ (Nat.le_of_ble_eq_true rfl) rfl rfl rfl (E_chains l G P hw V U hV hFU M2 P2 hU2 (fun x y z _ => (lk_36 hw hV z).2)) ?_
  rintro v M3 ⟨rfl, k82, kmo, f3⟩
  clear hK K
  have v3 : vfr sfrM [26, 27, 39, 56, 57, 58] M M3 := v2.tr (ufr_v f3) (by decide) (by decide)
  have P3 : mP P M3 := v3.P (by decide) (by decide) hP
  have g3 : vfr [82] [39] M2 M3 := ufr_v f3
  refine xF_go o_Mo_shrink [] 60 (fun K hK => ?_)
  repeat' ((conv => whnf); first | refine ⟨fun h => ?_, fun h => ?_⟩ | refine ⟨?_, ?_⟩ | refine hK _ _ _ _ ?_)
  refine xF_callV o_Mo_shrink [] rfl z_Mo_lays i_Mo_lays v_Mo_lays l_Mo_298 rfl ⟨⟨by decide, by decide⟩, rfl, rfl⟩ (Nat.le_of_ble_eq_true rfl) rfl rfl rfl (E_Mlays l G P hw V R hR M3 P3 (by unfold c36; rw [g3.at (by decide)]; exact k80) (by unfold cZ; rw [g3.at (by decide), (f2 76 (by decide)).1]; exact h76) (by unfold cZ; rw [g3.at (by decide), (f2 77 (by decide)).1]; exact h77)) ?_
  rintro v M4 ⟨rfl, f4, hL⟩
  clear hK K
  have v4 : vfr sfrM [26, 27, 39, 56, 57, 58] M M4 := v3.tr f4 (by decide) (by decide)
  refine xF_go o_Mo_shrink [] 60 (fun K hK => ?_)
  repeat' ((conv => whnf); first | refine ⟨fun h => ?_, fun h => ?_⟩ | refine ⟨?_, ?_⟩ | refine hK _ _ _ _ ?_)
  · exact Or.inr rfl
  · exact Or.inr rfl
  · refine xF_iret o_Mo_shrink rfl rfl ?_
    have f24 : ∀ c, c ∉ 50 :: 82 :: yfr → M4.1 c = M2.1 c := by
      intro c hc
      rw [f4.at (fun z => hc (by simp at z; simp; omega)), g3.at (fun z => hc (by simp at z; simp; omega))]
    have f24L : M4.2 69 = M1.2 69 := by rw [(f4.1 69 (by decide)).2, (g3.1 69 (by decide)).2, (f2 69 (by decide)).2]
    refine ⟨?_, ⟨?_, ?_, ?_, ?_, ?_, ?_, ?_, ?_, ?_, ?_⟩, ?_, ?_, rfl, rfl, (v4.F (by decide)).F (by decide)⟩
    · show some (Value.int (M4.1 50 57)) = _
      rw [hL.2.2.2.2.1]
    · exact hL
    · show c36 80 (kpt P V) M4
      unfold c36; rw [f24 80 (by decide)]; exact k80
    · show ∀ k, k < 24 → M4.1 83 k = _
      rw [f24 83 (by decide)]; exact k83
    · show ∀ f, f < 12 → M4.1 81 f = _ ∧ M4.1 84 f = _
      rw [f24 81 (by decide), f24 84 (by decide)]
      exact fun f hf => ⟨((k81 f hf).1).trans (congrArg b2 (tb_c (same_f hw hV hFU hSU hf))), (k81 f hf).2⟩
    · intro f hf i hi
      have hl := (hw.2.2.2.1 f hf).1
      show M4.1 72 (41 * f + i) = _
      rw [f24 72 (by decide), (f2 72 (by decide)).1]
      obtain ⟨b, b1, b2'⟩ := u4 f hf i (by omega)
      rw [b1, tb_b (b2'.trans (s1 f hf i hi))]
    · intro f hf i hi r hr v hv
      have hl := (hw.2.2.2.1 f hf).1
      show sHas (M4.2 69) _ v = true ↔ _
      rw [f24L, u1 f hf i (by omega) r hr v hv]
      exact s2 f hf i hi r hr v hv
    · show mKP 74 (vRd V) M4
      unfold mKP; rw [f24 74 (by decide), (f2 74 (by decide)).1]; exact h74
    · show c36 76 (vWr V) M4
      unfold c36; rw [f24 76 (by decide), (f2 76 (by decide)).1]; exact cZ_36 h76
    · show c36 77 (vCm V) M4
      unfold c36; rw [f24 77 (by decide), (f2 77 (by decide)).1]; exact cZ_36 h77
    · show ∀ x, x < 36 → rD _ _ x (M4.1 82 x)
      rw [f4.at (by decide)]; exact k82
    · exact ((v4.F (by decide)).F (by decide)).P (by decide) (by decide) hP
    · refine ⟨?_, false, ?_⟩
      · show ∀ f, f < 12 → ∃ b, M4.1 73 f = b2 b
        rw [f24 73 (by decide), (f2 73 (by decide)).1]
        exact fun f hf => by
          obtain ⟨b, b1, _⟩ := u5 f hf
          exact ⟨b, b1⟩
      · show M4.1 50 39 = b2 false
        rw [f4.2 39 (by decide)]
        exact kmo
end XMZ
