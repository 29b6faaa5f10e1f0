/-! the law's loop: the machine in the law's frame -/
def xFl (l : Launch) (G : xG) (pc : Nat) (lv : xLv) (st : List Value) (M : xMe) (Q : Option Value → xMe → Prop) : Prop := xC l G y_Lw_law pc lv st M none 96 54783 (fun r M' g' => g' = none ∧ Q r M')
theorem xFl_go {l : Launch} {G : xG} (stops : List Nat) (n : Nat) {pc : Nat} {lv : xLv} {st : List Value} {M : xMe} {Q : Option Value → xMe → Prop} (h : ∀ K : Nat → xLv → List Value → xMe → Prop, (∀ pc lv st M, xFl l G pc lv st M Q → K pc lv st M) → xwp G (yL y_Lw_law) r_Lw_law stops n (xjmp r_Lw_law pc) lv st M K) : xFl l G pc lv st M Q := by
  have h1 := h (fun pc lv st M => xFl l G pc lv st M Q) (fun _ _ _ _ z => z)
  cases hj : xjmp r_Lw_law pc with
  | nil =>
    rw [hj] at h1
    cases n <;> exact h1.elim
  | cons r rs =>
    rw [hj] at h1
    obtain ⟨r', t', e, hC⟩ := xwp_ok o_Lw_law n _ _ _ _ _ (xchk_jmp _ _ _ _ o_Lw_law.2 hj) (fun _ _ _ _ z => z) h1
    cases e
    rw [xjmp_hd _ _ _ _ hj] at hC
    exact hC
section XLF
variable {l : Launch} {G : xG} {Z : xMD} {pc : Nat} {lv : xLv} {st r : List Value} {M : xMe} {Q Q1 : Option Value → xMe → Prop}
theorem xFl_ret {x : Int32} (hi : xat r_Lw_law pc = some .ireturn) (hb : x = 0 ∨ x = 1) (h : Q (some (.int x)) M) : xFl l G pc lv [.int x] M Q := xc_zret rfl hb (Nat.le_refl _) (Nat.le_refl _) (xat_dec o_Lw_law hi rfl) ⟨rfl, h⟩
theorem xFl_callV (a : List Value) {i n c ci : Nat} (hi : xat r_Lw_law pc = some (.invokevirtual i)) (hZ : xZ Z n) (hin : Cond.instanceMethod Z.1 ∈ xtb) (hse : Cond.selects Z.1.cls Z.1 Z.1 ∈ xtb) (hlk : xLk y_Lw_law.1.cls i Z.1) (hn : a.length = n) (hrm : xRn y_Lw_law Z) (hr : (r.map fun v => v.category).sum ≤ 8) (hk : xkd c = ci + 3) (hci : (xcls[ci]?).map (fun q => q.1) = some Z.1.cls) (hs : st = a.reverse ++ .ref c :: r) (hT : xE l G Z (.ref c :: a) M Q1) (h : ∀ v M', Q1 v M' → xFl l G (pc + 3) lv (v.toList ++ r) M' Q) : xFl l G pc lv st M Q := by
  have hc8 : ci < 8 := by
    cases hq : xcls[ci]? with
    | none => rw [hq] at hci; cases hci
    | some q => exact xci_lt hq
  refine xc_callV a hZ hin hse hlk hn hrm.1 hr ⟨by rw [hrm.2.1]; exact Nat.le_refl _, by rw [hrm.2.2]; exact Nat.le_refl _⟩ hk hci (xkd_obj hk hc8) hs (xat_dec o_Lw_law hi rfl) hT (fun v M' g' hq => ?_)
  obtain ⟨rfl, hq⟩ := hq
  rw [hrm.2.1, hrm.2.2]
  exact ⟨trivial, h v M' hq⟩
theorem xFl_cmp {x : Int32} {off : Int} (hi : xat r_Lw_law pc = some (.if_icmp .eq off)) (ht : (pc : Int) + off = ((833 : Nat) : Int)) (h : xFl l G 833 lv r M Q) : xFl l G pc lv (.int x :: .int x :: r) M Q := xc_cmp_eq (xat_dec o_Lw_law hi rfl) ht (fun _ => h) (fun z => absurd rfl z)
end XLF
/-- the law's variables -/
def lvL (x : Int32) : xLv := [some (.ref 96), some (.ref 0), some (.ref 50), some (.int x)]
theorem rRun_w {P : sP} {X X' : sX} {k r : Int32} (hw : wP P) (hX : wX X) (h : rRun P X k X' r) : wX X' := by
  rcases h with ⟨e, he, _, _, _, rfl⟩ | ⟨_, _, rfl⟩
  · exact xOf_w (P := P) (sEnd_w hw (hTd_w hw) 5000 _ (t0_w (tm_w hw) he))
  · exact hX
theorem rRunL_w {P : sP} {X X' : sX} {Z : sZ} {lh : Bool} {k r : Int32} (hw : wP P) (hX : wX X) (hR : ∀ V R, Z = some (P, V, R) → isR P V R) (h : rRunL P Z lh X k X' r) : wX X' := by
  rcases h with ⟨_, e, V, R, he, _, _, eZ, _, rfl⟩ | ⟨_, _, rfl⟩
  · exact xOf_w (P := P) (sEnd_w hw (ad2_wH hw (hR V R eZ)) 5000 _ (t0_w (fun a _ => oct_w hw (hR V R eZ) a) he))
  · exact hX
theorem rInput_in {P P' : sP} {n r : Int32} {v : Int64} (h : rInput P n v P' r) : ∃ L, P' = sIn P L := by
  rcases h with ⟨_, rfl, _⟩ | ⟨n', _, _, _, _, rfl, _⟩
  · exact ⟨pI P', rfl⟩
  · exact ⟨_, rfl⟩
theorem cJ_run {P : sP} {X X' : sX} {Z : sZ} {lh : Bool} {M M' : xMe} (h : cJ P X Z lh M) (hX : cX X' M') (h44 : c44 M') (hf : xfr [43, 44, 45, 46, 47, 48, 49] M M') : cJ P X' Z lh M' := by
  obtain ⟨a, b, c, d, e, f⟩ := h
  have h0 := (hf 0 (by decide)).1
  exact ⟨cP_fr hf (by decide) a, hX, h44, c21_fr hf (by decide) d, cW_fr hf (by decide) (by rw [h0]) e, by rw [h0]; exact f⟩
theorem mJ_run {P : sP} {X X' : sX} {Z : sZ} {lh : Bool} {M M' : xMe} (h : mJ P X Z lh M) (hX : mX X' M') (hf : xfr [50, 64, 65, 66, 67, 68] M M') (h50 : ∀ s, s ∉ [20, 21, 22, 23, 24, 25] → M'.1 50 s = M.1 50 s) : mJ P X' Z lh M' := by
  obtain ⟨a, b, c, d, e⟩ := h
  exact ⟨mP_fr hf (by decide) (h50 14 (by decide)) a, hX, m73b_fr hf (by decide) (h50 39 (by decide)) c, mW_fr hf (by decide) (fun s hs => h50 s (by revert s; decide)) d, by rw [h50 26 (by decide)]; exact e⟩
section XLW
variable (l : Launch) (G : xG)
set_option maxRecDepth 20000 in
theorem W_clear (hL : gL G ≤ 3072) (M : xMe) (hJ : jJ M) (i : Nat) (hi : i + 6 ≤ gL G) (Q : Option Value → xMe → Prop) (hQ : ∀ M', jJ M' → xFl l G 833 (lvL (nI i)) [] M' Q) : xFl l G 392 (lvL (nI i)) [] M Q := by
  obtain ⟨P, X, Z, lh, hw, hc, hm⟩ := hJ
  have v1 : vp_in (nI i + 1) (gL G) := by rw [nI_1]; exact vp_in_nI (by omega) (by omega)
  have v2 : vp_in (nI i + 2) (gL G) := by rw [show nI i + 2 = nI (i + 2) from nI_add i 2]; exact vp_in_nI (by omega) (by omega)
  have v3 : vp_in (nI i + 3) (gL G) := by rw [show nI i + 3 = nI (i + 3) from nI_add i 3]; exact vp_in_nI (by omega) (by omega)
  have v4 : vp_in (nI i + 4) (gL G) := by rw [show nI i + 4 = nI (i + 4) from nI_add i 4]; exact vp_in_nI (by omega) (by omega)
  have v5 : vp_in (nI i + 5) (gL G) := by rw [show nI i + 5 = nI (i + 5) from nI_add i 5]; exact vp_in_nI (by omega) (by omega)
  unfold lvL at *
  refine xFl_go [833] 60 (fun K hK => ?_)
  repeat' ((conv => whnf); first | refine ⟨fun h => ?_, fun h => ?_⟩ | refine ⟨?_, ?_⟩ | refine hK _ _ _ _ ?_)
  all_goals try assumption
  refine xFl_callV [.int _] rfl z_DS_clear i_DS_clear v_DS_clear l_Lw_35 rfl ⟨⟨by decide, by decide⟩, rfl, rfl⟩ (Nat.le_of_ble_eq_true rfl) rfl rfl rfl (E_DSclear l G P M hc.1 hw.1 _) ?_
  rintro v M1 ⟨P', r0, ac, hr, rfl, hP', hw', hf, ht, hfr⟩
  clear hK K
  have hc1 := cJ_tell hc hP' hf ht hfr (by decide)
  have hm1 := mJ_fr hfr (by decide) hm
  refine xFl_go [833] 60 (fun K hK => ?_)
  repeat' ((conv => whnf); first | refine ⟨fun h => ?_, fun h => ?_⟩ | refine ⟨?_, ?_⟩ | refine hK _ _ _ _ ?_)
  all_goals try assumption
  refine xFl_callV [.int _] rfl z_Mo_clear i_Mo_clear v_Mo_clear l_Lw_39 rfl ⟨⟨by decide, by decide⟩, rfl, rfl⟩ (Nat.le_of_ble_eq_true rfl) rfl rfl rfl (E_Mclear l G P P' M1 hm1.1 _ r0 ac hr) ?_
  rintro v M2 ⟨rfl, hmP', hf2, ht2, hfr2⟩
  clear hK K
  have hm2 := mJ_tell hm1 hmP' hf2 ht2 hfr2 (by decide)
  have hc2 := cJ_fr hfr2 (by decide) hc1
  refine xFl_cmp rfl rfl ?_
  exact hQ M2 ⟨P', X, Z, _, wJ_tell hw hw' (fun z => by subst z; exact hr.elim (fun h => h.2.1) (fun h => by simp at h)), hc2, hm2⟩
set_option maxRecDepth 20000 in
theorem W_refer (hL : gL G ≤ 3072) (M : xMe) (hJ : jJ M) (i : Nat) (hi : i + 6 ≤ gL G) (Q : Option Value → xMe → Prop) (hQ : ∀ M', jJ M' → xFl l G 833 (lvL (nI i)) [] M' Q) : xFl l G 286 (lvL (nI i)) [] M Q := by
  obtain ⟨P, X, Z, lh, hw, hc, hm⟩ := hJ
  have v1 : vp_in (nI i + 1) (gL G) := by rw [nI_1]; exact vp_in_nI (by omega) (by omega)
  have v2 : vp_in (nI i + 2) (gL G) := by rw [show nI i + 2 = nI (i + 2) from nI_add i 2]; exact vp_in_nI (by omega) (by omega)
  have v3 : vp_in (nI i + 3) (gL G) := by rw [show nI i + 3 = nI (i + 3) from nI_add i 3]; exact vp_in_nI (by omega) (by omega)
  have v4 : vp_in (nI i + 4) (gL G) := by rw [show nI i + 4 = nI (i + 4) from nI_add i 4]; exact vp_in_nI (by omega) (by omega)
  have v5 : vp_in (nI i + 5) (gL G) := by rw [show nI i + 5 = nI (i + 5) from nI_add i 5]; exact vp_in_nI (by omega) (by omega)
  unfold lvL at *
  refine xFl_go [833] 60 (fun K hK => ?_)
  repeat' ((conv => whnf); first | refine ⟨fun h => ?_, fun h => ?_⟩ | refine ⟨?_, ?_⟩ | refine hK _ _ _ _ ?_)
  all_goals try assumption
  refine xFl_callV [.int _, .int _, .int _] rfl z_DS_refer i_DS_refer v_DS_refer l_Lw_25 rfl ⟨⟨by decide, by decide⟩, rfl, rfl⟩ (Nat.le_of_ble_eq_true rfl) rfl rfl rfl (E_DSrefer l G P M hc.1 hw.1 _ _ _) ?_
  rintro v M1 ⟨P', r0, ac, hr, rfl, hP', hw', hf, ht, hfr⟩
  clear hK K
  have hc1 := cJ_tell hc hP' hf ht hfr (by decide)
  have hm1 := mJ_fr hfr (by decide) hm
  refine xFl_go [833] 60 (fun K hK => ?_)
  repeat' ((conv => whnf); first | refine ⟨fun h => ?_, fun h => ?_⟩ | refine ⟨?_, ?_⟩ | refine hK _ _ _ _ ?_)
  all_goals try assumption
  refine xFl_callV [.int _, .int _, .int _] rfl z_Mo_refer i_Mo_refer v_Mo_refer l_Lw_29 rfl ⟨⟨by decide, by decide⟩, rfl, rfl⟩ (Nat.le_of_ble_eq_true rfl) rfl rfl rfl (E_Mrefer l G P P' M1 hm1.1 hw.1 _ _ _ r0 ac hr) ?_
  rintro v M2 ⟨rfl, hmP', hf2, ht2, hfr2⟩
  clear hK K
  have hm2 := mJ_tell hm1 hmP' hf2 ht2 hfr2 (by decide)
  have hc2 := cJ_fr hfr2 (by decide) hc1
  refine xFl_cmp rfl rfl ?_
  exact hQ M2 ⟨P', X, Z, _, wJ_tell hw hw' (fun z => by subst z; exact hr.elim (fun h => h.2.1) (fun h => by simp at h)), hc2, hm2⟩
end XLW
