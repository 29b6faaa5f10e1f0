/-! Layout.work; DataShrinker.shrink -/
def isR (P : sP) (V : sV) (R : List Nat) : Prop := iso (aln P (stl P V)) (pS P) (bls P (kpt P V) (stl P V) 24) R
theorem isR_ok {P : sP} (hw : wP P) {V : sV} {R : List Nat} (h : isR P V R) : okR P (stl P V) R := by
  obtain ⟨h1, h2, h3⟩ := iso_ok (bls_nd 24) h
  refine ⟨by rw [h3]; exact bls_len 24, h2, fun k hk => ?_, fun k hk hs ho => ?_, fun k hk => ?_⟩
  · rw [h1, bls_mem] at hk
    exact ⟨hk.1, aln_one hw (fun j hj => stl_T hj) hk.1 (kpt_S hk.2.1), (hw.1 k hk.1).1⟩
  · rw [h1, bls_mem]
    exact ⟨hk, hs.1.2.1, hs.2, ho⟩
  · rw [h1, bls_mem] at hk
    exact hk.2.2
theorem isR_mem {P : sP} {V : sV} {R : List Nat} (h : isR P V R) (k : Nat) : k ∈ R ↔ k < 24 ∧ kpt P V k ∧ sfr P (stl P V) k = none ∧ ouf P (stl P V) k = none := by
  obtain ⟨h1, h2, h3⟩ := iso_ok (bls_nd 24) h
  rw [h1, bls_mem]
/-- dropped ones have no address -/
theorem ad2_kept {P : sP} (hw : wP P) {V : sV} {R : List Nat} (h : isR P V R) {k : Nat} (hk : k < 24) : (∃ a, ad2 P (stl P V) R k = some a) ↔ kpt P V k := by
  have hR := isR_ok hw h
  have one : ∀ j, j < 24 → sfr P (stl P V) j = none → ((∃ a, ad1 P (stl P V) R j = some a) ↔ kpt P V j) := by
    intro j hj hs
    unfold ad1
    cases e : ouf P (stl P V) j with
    | some y =>
      have := (ouf_some hj e).1.1.2.1
      exact ⟨fun _ => this, fun _ => ⟨_, rfl⟩⟩
    | none =>
      show (∃ a, ad0 _ _ R j = some a) ↔ _
      unfold ad0
      have hm := isR_mem h j
      by_cases q : j ∈ R
      · rw [if_pos q]
        exact ⟨fun _ => (hm.mp q).2.1, fun _ => ⟨_, rfl⟩⟩
      · rw [if_neg q]
        refine ⟨fun ⟨a, z⟩ => (by cases z), fun z => absurd (hm.mpr ⟨hj, z, hs, e⟩) q⟩
  unfold ad2
  cases e : sfr P (stl P V) k with
  | none => exact one k hk e
  | some i =>
    have hi := (sfr_some.mp e).1
    have hst := sfr_st e
    have := (one i (by omega) hst.2).mpr hst.1.2.1
    exact ⟨fun _ => (sfr_T e).2.1, fun _ => this⟩
def cLy (P : sP) (V : sV) (R : List Nat) (M : xMe) : Prop := c34 P M ∧ c36 36 (kpt P V) M ∧ c38 38 (sfr P (stl P V)) M ∧ c38 39 (ouf P (stl P V)) M ∧ c38 40 (ad2 P (stl P V) R) M ∧ M.1 30 11 = nI R.length ∧ M.1 30 13 = nI (ene (aln P (stl P V)) (pS P) 0 R) ∧ ∀ a, a < 1728 → M.1 42 a = nI (oct (aln P (stl P V)) (pS P) (pO P) 0 R (fun _ => 0) a)
abbrev lfr : List Nat := [30, 32, 33, 34, 35, 36, 37, 38, 39, 40, 41, 42]
theorem cP_fr2 {P : sP} {S : List Nat} {M M' : xMe} (h : xfr S M M') (hS : ∀ c, c ∈ S → c = 0 ∨ 16 ≤ c) (hM : cP P M) : cP P M' := by
  have hne : ∀ c, 0 < c → c < 16 → c ∉ S := fun c a b z => by
    have := hS c z
    omega
  obtain ⟨c1, c2, c3, c4, c5, c6⟩ := hM
  refine ⟨?_, ?_, ?_, ?_, ?_, ?_⟩
  · unfold cS
    rw [(h 2 (hne 2 (by omega) (by omega))).1, (h 3 (hne 3 (by omega) (by omega))).1, (h 4 (hne 4 (by omega) (by omega))).1, (h 5 (hne 5 (by omega) (by omega))).1]
    exact c1
  · unfold cO
    rw [(h 6 (hne 6 (by omega) (by omega))).1]
    exact c2
  · unfold cR
    rw [(h 7 (hne 7 (by omega) (by omega))).1, (h 8 (hne 8 (by omega) (by omega))).2]
    exact c3
  · unfold cC
    rw [(h 9 (hne 9 (by omega) (by omega))).1, (h 10 (hne 10 (by omega) (by omega))).1, (h 11 (hne 11 (by omega) (by omega))).1, (h 12 (hne 12 (by omega) (by omega))).1, (h 13 (hne 13 (by omega) (by omega))).1]
    exact c4
  · unfold cE
    rw [(h 14 (hne 14 (by omega) (by omega))).1]
    exact c5
  · unfold cI
    rw [(h 1 (hne 1 (by omega) (by omega))).1, (h 15 (hne 15 (by omega) (by omega))).1]
    exact c6
section XL6
variable (l : Launch) (G : xG)
theorem E_Lwork (P : sP) (hw : wP P) (V : sV) (M : xMe) (hP : cP P M) (h27 : cB 27 24 (vRd V) M) (h28 : cZ 28 (vWr V) M) (h29 : cZ 29 (vCm V) M) : xE l G y_La_work [.ref 30] M (fun r M' => r = none ∧ xfr lfr M M' ∧ ∃ R, isR P V R ∧ cLy P V R M') := by
  have hT : ∀ j, stl P V j → j < 24 ∧ 0 < pS P j := fun j hj => stl_T hj
  refine xE_of [some (.ref 30)] (by decide +kernel) (Nat.le_of_ble_eq_true rfl) rfl ?_
  refine xF_go o_La_work [] 60 (fun K hK => ?_)
  repeat' ((conv => whnf); first | refine ⟨fun h => ?_, fun h => ?_⟩ | refine ⟨?_, ?_⟩ | refine hK _ _ _ _ ?_)
  refine xF_callV o_La_work [] rfl z_La_begin i_La_begin v_La_begin l_La_55 rfl ⟨⟨by decide, by decide⟩, rfl, rfl⟩ (Nat.le_of_ble_eq_true rfl) rfl rfl rfl (E_Lbegin l G P M hP.1) ?_
  rintro v M1 ⟨rfl, f1, a34, a35, a38, a39, a40, a42⟩
  clear hK K
  have g1 : xfr lfr M M1 := f1.mono (by decide)
  have P1 := cP_fr g1 (by decide) hP
  refine xF_go o_La_work [] 60 (fun K hK => ?_)
  repeat' ((conv => whnf); first | refine ⟨fun h => ?_, fun h => ?_⟩ | refine ⟨?_, ?_⟩ | refine hK _ _ _ _ ?_)
  refine xF_callV o_La_work [] rfl z_La_keepItems i_La_keepItems v_La_keepItems l_La_58 rfl ⟨⟨by decide, by decide⟩, rfl, rfl⟩ (Nat.le_of_ble_eq_true rfl) rfl rfl rfl (E_LkeepItems l G P V hw M1 P1.1 a34 (by unfold cB; rw [(g1 27 (by decide)).2]; exact h27)) ?_
  rintro v M2 ⟨rfl, f2, b36⟩
  clear hK K
  have g2 : xfr lfr M M2 := g1.tr f2 (by decide)
  have P2 := cP_fr g2 (by decide) hP
  have b34 : c34 P M2 := by unfold c34; rw [(f2 34 (by decide)).1]; exact a34
  refine xF_go o_La_work [] 60 (fun K hK => ?_)
  repeat' ((conv => whnf); first | refine ⟨fun h => ?_, fun h => ?_⟩ | refine ⟨?_, ?_⟩ | refine hK _ _ _ _ ?_)
  refine xF_callV o_La_work [] rfl z_La_keepGroups i_La_keepGroups v_La_keepGroups l_La_61 rfl ⟨⟨by decide, by decide⟩, rfl, rfl⟩ (Nat.le_of_ble_eq_true rfl) rfl rfl rfl (E_LkeepGroups l G P V hw M2 P2.1 b34 b36) ?_
  rintro v M3 ⟨rfl, f3, d36⟩
  clear hK K
  have f23 : xfr [36] M1 M3 := f2.tr f3 (by decide)
  have g3 : xfr lfr M M3 := g1.tr f23 (by decide)
  have P3 := cP_fr g3 (by decide) hP
  refine xF_go o_La_work [] 60 (fun K hK => ?_)
  repeat' ((conv => whnf); first | refine ⟨fun h => ?_, fun h => ?_⟩ | refine ⟨?_, ?_⟩ | refine hK _ _ _ _ ?_)
  refine xF_callV o_La_work [] rfl z_La_findStill i_La_findStill v_La_findStill l_La_64 rfl ⟨⟨by decide, by decide⟩, rfl, rfl⟩ (Nat.le_of_ble_eq_true rfl) rfl rfl rfl (E_LfindStill l G P V M3 P3.2.2.1 d36 (by unfold cZ; rw [(g3 28 (by decide)).1]; exact h28) (by unfold cZ; rw [(g3 29 (by decide)).1]; exact h29)) ?_
  rintro v M4 ⟨rfl, f4, e37⟩
  clear hK K
  have f24 : xfr [36, 37] M1 M4 := (f23.mono (by decide)).tr f4 (by decide)
  have g4 : xfr lfr M M4 := g1.tr f24 (by decide)
  have P4 := cP_fr g4 (by decide) hP
  have e34 : c34 P M4 := by unfold c34; rw [(f24 34 (by decide)).1]; exact a34
  refine xF_go o_La_work [] 60 (fun K hK => ?_)
  repeat' ((conv => whnf); first | refine ⟨fun h => ?_, fun h => ?_⟩ | refine ⟨?_, ?_⟩ | refine hK _ _ _ _ ?_)
  refine xF_callV o_La_work [] rfl z_La_joinAlike i_La_joinAlike v_La_joinAlike l_La_67 rfl ⟨⟨by decide, by decide⟩, rfl, rfl⟩ (Nat.le_of_ble_eq_true rfl) rfl rfl rfl (E_LjoinAlike l G P hw (stl P V) hT M4 e34 P4.2.1 e37 (by rw [(f24 38 (by decide)).1]; exact a38) (by rw [(f24 35 (by decide)).1]; exact a35)) ?_
  rintro v M5 ⟨rfl, f5, k38, k35⟩
  clear hK K
  have g5 : xfr lfr M M5 := g4.tr f5 (by decide)
  have P5 := cP_fr g5 (by decide) hP
  have k34 : c34 P M5 := by unfold c34; rw [(f5 34 (by decide)).1]; exact e34
  have k37 : c36 37 (stl P V) M5 := by unfold c36; rw [(f5 37 (by decide)).1]; exact e37
  have f25 : xfr [35, 36, 37, 38] M1 M5 := (f24.mono (by decide)).tr f5 (by decide)
  refine xF_go o_La_work [] 60 (fun K hK => ?_)
  repeat' ((conv => whnf); first | refine ⟨fun h => ?_, fun h => ?_⟩ | refine ⟨?_, ?_⟩ | refine hK _ _ _ _ ?_)
  refine xF_callV o_La_work [] rfl z_La_layTails i_La_layTails v_La_layTails l_La_70 rfl ⟨⟨by decide, by decide⟩, rfl, rfl⟩ (Nat.le_of_ble_eq_true rfl) rfl rfl rfl (E_LlayTails l G P hw (stl P V) hT M5 k34 k35 P5.2.1 k37 k38 (by rw [(f25 39 (by decide)).1]; exact a39)) ?_
  rintro v M6 ⟨rfl, f6, n39⟩
  clear hK K
  have g6 : xfr lfr M M6 := g5.tr f6 (by decide)
  have n34 : c34 P M6 := by unfold c34; rw [(f6 34 (by decide)).1]; exact k34
  have n35 : ∀ k, k < 24 → M6.1 35 k = nI (aln P (stl P V) k) := by rw [(f6 35 (by decide)).1]; exact k35
  have n38 : c38 38 (sfr P (stl P V)) M6 := by unfold c38; rw [(f6 38 (by decide)).1]; exact k38
  have n36 : c36 36 (kpt P V) M6 := by
    unfold c36
    rw [(f6 36 (by decide)).1, (f5 36 (by decide)).1, (f4 36 (by decide)).1]
    exact d36
  refine xF_go o_La_work [] 60 (fun K hK => ?_)
  repeat' ((conv => whnf); first | refine ⟨fun h => ?_, fun h => ?_⟩ | refine ⟨?_, ?_⟩ | refine hK _ _ _ _ ?_)
  refine xF_callV o_La_work [] rfl z_La_listBlocks i_La_listBlocks v_La_listBlocks l_La_73 rfl ⟨⟨by decide, by decide⟩, rfl, rfl⟩ (Nat.le_of_ble_eq_true rfl) rfl rfl rfl (E_LlistBlocks l G P hw (kpt P V) (stl P V) (fun j hj => kpt_S hj) hT M6 n34 n35 n36 n38 n39) ?_
  rintro v M7 ⟨rfl, f7, R, hiR, q41⟩
  clear hK K
  have hokR := isR_ok hw (show isR P V R from hiR)
  have g7 : xfr lfr M M7 := g6.tr f7 (by decide)
  have q34 : ∀ k, k < 24 → M7.1 34 k = nI (pS P k) ∧ M7.1 35 k = nI (aln P (stl P V) k) := by
    rw [(f7 34 (by decide)).1, (f7 35 (by decide)).1]
    exact fun k hk => ⟨n34 k hk, n35 k hk⟩
  refine xF_go o_La_work [] 60 (fun K hK => ?_)
  repeat' ((conv => whnf); first | refine ⟨fun h => ?_, fun h => ?_⟩ | refine ⟨?_, ?_⟩ | refine hK _ _ _ _ ?_)
  refine xF_callV o_La_work [] rfl z_La_placeBlocks i_La_placeBlocks v_La_placeBlocks l_La_76 rfl ⟨⟨by decide, by decide⟩, rfl, rfl⟩ (Nat.le_of_ble_eq_true rfl) rfl rfl rfl (E_LplaceBlocks l G (aln P (stl P V)) (pS P) R hokR.1 hokR.2.2.1 hokR.2.1 M7 q41 q34) ?_
  rintro v M8 ⟨rfl, f8, s11, s13, s40⟩
  clear hK K
  have g8 : xfr lfr M M8 := g7.tr f8 (by decide)
  have f78 : xfr [30, 32, 33, 40, 41] M6 M8 := (f7.mono (by decide)).tr f8 (by decide)
  have s34 : c34 P M8 := by unfold c34; rw [(f78 34 (by decide)).1]; exact n34
  have s38 : c38 38 (sfr P (stl P V)) M8 := by unfold c38; rw [(f78 38 (by decide)).1]; exact n38
  have s39 : c38 39 (ouf P (stl P V)) M8 := by unfold c38; rw [(f78 39 (by decide)).1]; exact n39
  have t40 : c38 40 (ad0 (aln P (stl P V)) (pS P) R) M8 := by
    intro k hk
    rw [s40 k hk]
    unfold ad0
    by_cases q : k ∈ R
    · rw [if_pos q, if_pos q]
      rfl
    · rw [if_neg q, if_neg q, (f7 40 (by decide)).1, (f6 40 (by decide)).1, (f25 40 (by decide)).1]
      exact a40 k hk
  refine xF_go o_La_work [] 60 (fun K hK => ?_)
  repeat' ((conv => whnf); first | refine ⟨fun h => ?_, fun h => ?_⟩ | refine ⟨?_, ?_⟩ | refine hK _ _ _ _ ?_)
  refine xF_callV o_La_work [] rfl z_La_placeOthers i_La_placeOthers v_La_placeOthers l_La_79 rfl ⟨⟨by decide, by decide⟩, rfl, rfl⟩ (Nat.le_of_ble_eq_true rfl) rfl rfl rfl (E_LplaceOthers l G P hw (stl P V) R hokR M8 s34 s38 s39 t40) ?_
  rintro v M9 ⟨rfl, f9, u40⟩
  clear hK K
  have g9 : xfr lfr M M9 := g8.tr f9 (by decide)
  have P9 := cP_fr g9 (by decide) hP
  have f79 : xfr [30, 32, 33, 40, 41] M6 M9 := f78.tr f9 (by decide)
  have u34 : c34 P M9 := by unfold c34; rw [(f79 34 (by decide)).1]; exact n34
  have u11 : M9.1 30 = M8.1 30 := (f9 30 (by decide)).1
  have u41 : c41 R M9 := by
    refine ⟨by rw [u11]; exact s11, ?_⟩
    rw [(f9 41 (by decide)).1, (f8 41 (by decide)).1]
    exact q41.2
  have uR : ∀ k, k ∈ R → M9.1 40 k = nI (adr (aln P (stl P V)) (pS P) k 0 R) := by
    intro k hk
    have hk24 := (hokR.2.2.1 k hk).1
    obtain ⟨z1, z2⟩ := hokR.2.2.2.2 k hk
    rw [u40 k hk24]
    unfold ad2
    rw [z1]
    show oI (ad1 P (stl P V) R k) = _
    unfold ad1
    rw [z2]
    show oI (ad0 _ _ R k) = _
    unfold ad0
    rw [if_pos hk]
    rfl
  have u42 : ∀ a, a < 1728 → M9.1 42 a = 0 := by
    rw [(f79 42 (by decide)).1, (f6 42 (by decide)).1, (f25 42 (by decide)).1]
    exact a42
  refine xF_go o_La_work [] 60 (fun K hK => ?_)
  repeat' ((conv => whnf); first | refine ⟨fun h => ?_, fun h => ?_⟩ | refine ⟨?_, ?_⟩ | refine hK _ _ _ _ ?_)
  refine xF_callV o_La_work [] rfl z_La_writeOctets i_La_writeOctets v_La_writeOctets l_La_82 rfl ⟨⟨by decide, by decide⟩, rfl, rfl⟩ (Nat.le_of_ble_eq_true rfl) rfl rfl rfl (E_LwriteOctets l G P hw (aln P (stl P V)) R (fun b hb => ⟨(hokR.2.2.1 b hb).1, (hokR.2.2.1 b hb).2.1⟩) hokR.2.1 hokR.1 (by have := okR_tot hokR; omega) M9 u41 u34 P9.2.1 uR u42) ?_
  rintro v M10 ⟨rfl, f10, w42⟩
  clear hK K
  refine xF_go o_La_work [] 60 (fun K hK => ?_)
  repeat' ((conv => whnf); first | refine ⟨fun h => ?_, fun h => ?_⟩ | refine ⟨?_, ?_⟩ | refine hK _ _ _ _ ?_)
  refine xF_vret o_La_work rfl rfl ?_
  refine ⟨rfl, g9.tr f10 (by decide), R, hiR, ?_, ?_, ?_, ?_, ?_, ?_, ?_, w42⟩
  · unfold c34; rw [(f10 34 (by decide)).1]; exact u34
  · unfold c36; rw [(f10 36 (by decide)).1, (f79 36 (by decide)).1]; exact n36
  · unfold c38; rw [(f10 38 (by decide)).1, (f79 38 (by decide)).1]; exact n38
  · unfold c38; rw [(f10 39 (by decide)).1, (f79 39 (by decide)).1]; exact n39
  · unfold c38; rw [(f10 40 (by decide)).1]; exact u40
  · rw [(f10 30 (by decide)).1, u11]; exact s11
  · rw [(f10 30 (by decide)).1, u11]; exact s13
/-- what the class holds since the latest shrink -/
def cSh (P : sP) (V : sV) (R : List Nat) (M : xMe) : Prop := cLy P V R M ∧ cS21 (vS V) M ∧ cB 23 12 (vC V) M ∧ cB 27 24 (vRd V) M ∧ cZ 28 (vWr V) M ∧ cZ 29 (vCm V) M ∧ (∀ f, f < 12 → M.1 20 f = nI (pC P f).length) ∧ (∀ x, x < 36 → rD (ent P) (vLk V) x (M.1 19 x))
theorem E_DSshrink (P : sP) (hw : wP P) (M : xMe) (hP : cP P M) (h21 : c21 M) : xE l G y_DS_shrink [.ref 0] M (fun r M' => ∃ V R, r = some (.int (nI (ene (aln P (stl P V)) (pS P) 0 R))) ∧ fin P V ∧ isR P V R ∧ cSh P V R M' ∧ cP P M' ∧ c21 M' ∧ M'.1 0 = upd (upd (M.1 0) 4 1) 5 1 ∧ xfr (0 :: wfr ++ lfr) M M') := by
  refine xE_of [some (.ref 0)] (by decide +kernel) (Nat.le_of_ble_eq_true rfl) rfl ?_
  refine xF_go o_DS_shrink [] 60 (fun K hK => ?_)
  repeat' ((conv => whnf); first | refine ⟨fun h => ?_, fun h => ?_⟩ | refine ⟨?_, ?_⟩ | refine hK _ _ _ _ ?_)
  refine xF_callV o_DS_shrink [] rfl z_Re_work i_Re_work v_Re_work l_DS_119 rfl ⟨⟨by decide, by decide⟩, rfl, rfl⟩ (Nat.le_of_ble_eq_true rfl) rfl rfl rfl (E_reWork l G P hw M hP h21) ?_
  rintro v M1 ⟨rfl, V, hV, hfin, h20, h19, h21', f1⟩
  obtain ⟨v1, v2, v3, v4, v5, v6, v7, v8⟩ := hV
  clear hK K
  have P1 := cP_fr f1 (by decide) hP
  refine xF_go o_DS_shrink [] 60 (fun K hK => ?_)
  repeat' ((conv => whnf); first | refine ⟨fun h => ?_, fun h => ?_⟩ | refine ⟨?_, ?_⟩ | refine hK _ _ _ _ ?_)
  refine xF_callV o_DS_shrink [] rfl z_La_work i_La_work v_La_work l_DS_121 rfl ⟨⟨by decide, by decide⟩, rfl, rfl⟩ (Nat.le_of_ble_eq_true rfl) rfl rfl rfl (E_Lwork l G P hw V M1 P1 v5 v6 v7) ?_
  rintro v M2 ⟨rfl, f2, R, hR, hL⟩
  clear hK K
  refine xF_go o_DS_shrink [] 60 (fun K hK => ?_)
  repeat' ((conv => whnf); first | refine ⟨fun h => ?_, fun h => ?_⟩ | refine ⟨?_, ?_⟩ | refine hK _ _ _ _ ?_)
  · exact Or.inr rfl
  · exact Or.inr rfl
  · refine xF_iret o_DS_shrink rfl rfl ?_
    have f3 : xfr (0 :: wfr ++ lfr) M M2 := (f1.mono (by decide)).tr f2 (by decide)
    refine ⟨V, R, ?_, hfin, hR, ⟨?_, ?_, ?_, ?_, ?_, ?_, ?_, ?_⟩, ?_, ?_, ?_, (f3.I (by decide)).I (by decide)⟩
    · have := hL.2.2.2.2.2.2.1
      show some (Value.int (M2.1 30 13)) = _
      rw [this]
    · exact hL
    · have : cS21 (vS V) M2 := by unfold cS21; rw [(f2 21 (by decide)).2]; exact v1
      exact this
    · have : cB 23 12 (vC V) M2 := by unfold cB; rw [(f2 23 (by decide)).2]; exact v3
      exact this
    · have : cB 27 24 (vRd V) M2 := by unfold cB; rw [(f2 27 (by decide)).2]; exact v5
      exact this
    · have : cZ 28 (vWr V) M2 := by unfold cZ; rw [(f2 28 (by decide)).1]; exact v6
      exact this
    · have : cZ 29 (vCm V) M2 := by unfold cZ; rw [(f2 29 (by decide)).1]; exact v7
      exact this
    · intro f hf
      show M2.1 20 f = _
      rw [(f2 20 (by decide)).1]
      exact h20 f hf
    · intro x hx
      show rD _ _ _ (M2.1 19 x)
      rw [(f2 19 (by decide)).1]
      exact h19 x hx
    · exact cP_fr2 ((f3.I (by decide)).I (by decide)) (by decide) hP
    · have : c21 M2 := by unfold c21; rw [(f2 21 (by decide)).2, (f2 23 (by decide)).2]; exact h21'
      exact this
    · show upd (upd (M2.1 0) 4 1) 5 1 = _
      rw [(f2 0 (by decide)).1, (f1 0 (by decide)).1]
end XL6
