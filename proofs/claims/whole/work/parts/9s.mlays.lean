/-! the reference: lays -/
def mA (o : Nat → Option Nat) (M : xMe) : Prop := ∀ k, k < 24 → ∀ a, o k = some a → M.1 85 k = nI a
section XMY
variable (l : Launch) (G : xG)
theorem L_lays3 (P : sP) (hw : wP P) (A : Nat → Nat) (R : List Nat) (hR : R.length ≤ 24) (hk : ∀ k, k ∈ R → k < 24 ∧ one8 (A k)) (hnd : R.Nodup) (Q : Option Value → xMe → Prop) : ∀ (t pre : List Nat) (F : Nat → Nat) (M1 : xMe) (x3 x4 : Option Value), R = pre ++ t → mP P M1 → m92 94 R M1 → (∀ k, k < 24 → M1.1 88 k = nI (A k)) → (∀ a, a < 1728 → M1.1 89 a = nI (F a)) → (∀ M2 y2 y3 y4, xfr [85, 89] M1 M2 → (∀ a, a < 1728 → M2.1 89 a = nI (oct A (pS P) (pO P) (ene A (pS P) 0 pre) t F a)) → (∀ k, k < 24 → M2.1 85 k = if k ∈ t then nI (adr A (pS P) k (ene A (pS P) 0 pre) t) else M1.1 85 k) → xF l G y_Mo_lays 165 [some (.ref 50), some (.int (nI (ene A (pS P) 0 R))), y2, y3, y4] [] M2 Q) → xF l G y_Mo_lays 76 [some (.ref 50), some (.int (nI (ene A (pS P) 0 pre))), some (.int (nI pre.length)), x3, x4] [] M1 Q := by
  have hkS : ∀ k, k ∈ R → one8 (A k) ∧ pS P k ≤ 64 := fun k hm => ⟨(hk k hm).2, (hw.1 k (hk k hm).1).1⟩
  intro t
  induction t with
  | nil =>
    intro pre F M1 x3 x4 eR hP h94 h88 h89 hQ
    rw [List.append_nil] at eR
    subst eR
    refine xF_go o_Mo_lays [76, 165] 60 (fun K hK => ?_)
    repeat' ((conv => whnf); first | refine ⟨fun h => ?_, fun h => ?_⟩ | refine ⟨?_, ?_⟩ | refine hK _ _ _ _ ?_)
    · exact hQ M1 _ _ _ xfr.rf h89 (fun k hk => by rw [if_neg (by simp)])
    all_goals
      have h0 := (show nI R.length < M1.1 50 56 from by assumption)
      rw [h94.1, nI_ltI (by omega) (by omega)] at h0
      omega
  | cons b t ih =>
    intro pre F M1 x3 x4 eR hP h94 h88 h89 hQ
    have hmem : b ∈ R := by rw [eR]; simp
    obtain ⟨b1, b2'⟩ := hk b hmem
    have hbt : b ∉ t := by
      rw [eR, List.nodup_append] at hnd
      exact (List.nodup_cons.mp hnd.2.1).1
    have hlen : R.length = pre.length + (t.length + 1) := by rw [eR, List.length_append, List.length_cons]
    have hs64 := (hw.1 b b1).1
    have hle := ene_le (A := A) (S := pS P) pre 0 (fun c hc => hkS c (by rw [eR]; simp [hc]))
    have hge := nx_ge (e := ene A (pS P) 0 pre) b2'
    have hcn : (nI pre.length).toNatClampNeg = pre.length := nI_clamp (by omega)
    have hcb : (nI b).toNatClampNeg = b := nI_clamp (by omega)
    have v94 : M1.1 94 (nI pre.length).toNatClampNeg = nI b := by
      rw [hcn]
      refine h94.2 _ _ ?_
      rw [eR, List.getElem?_append_right (Nat.le_refl _), Nat.sub_self]
      rfl
    refine xF_go o_Mo_lays [76, 165] 60 (fun K hK => ?_)
    repeat' ((conv => whnf); first | refine ⟨fun h => ?_, fun h => ?_⟩ | refine ⟨?_, ?_⟩ | refine hK _ _ _ _ ?_)
    · have h0 := (show ¬ nI pre.length < M1.1 50 56 from by assumption)
      rw [h94.1, nI_ltI (by omega) (by omega)] at h0
      omega
    · exact vp_in_nI (by show _ < 24; omega) (by decide)
    · rw [v94]; exact vp_in_nI b1 (by decide)
    · rw [v94, hcb, h88 b b1]
      refine xF_callS o_Mo_lays [.int (nI (ene A (pS P) 0 pre)), .int (nI (A b))] rfl z_Mo_next s_Mo_next l_Mo_270 rfl ⟨⟨by decide, by decide⟩, rfl, rfl⟩ (Nat.le_of_ble_eq_true rfl) rfl (E_Mnext l G (ene A (pS P) 0 pre) (A b) b2' (by omega) M1) ?_
      rintro v M' ⟨eM, rfl⟩; obtain rfl := eM.symm
      clear hK K
      generalize ee : nx (ene A (pS P) 0 pre) (A b) = e at *
      refine xF_go o_Mo_lays [76, 112, 165] 60 (fun K hK => ?_)
      repeat' ((conv => whnf); first | refine ⟨fun h => ?_, fun h => ?_⟩ | refine ⟨?_, ?_⟩ | refine hK _ _ _ _ ?_)
      · exact vp_in_nI b1 (by decide)
      · rw [hcb]
        clear hK K
        refine loopN (σ := xMe) (pS P b) (fun p M3 => xfr [85, 89] M1 M3 ∧ M3.1 85 = upd (M1.1 85) b (nI e) ∧ ∀ a, a < 1728 → M3.1 89 a = nI (if e ≤ a ∧ a < e + p then pO P b (a - e) else F a)) (fun p M3 => xF l G y_Mo_lays 112 [some (.ref 50), some (.int (nI e)), some (.int (nI pre.length)), some (.int (nI b)), some (.int (nI p))] [] M3 Q) ?_ ?_ (pS P b) 0 rfl _ ⟨xfr.rf.I (by simp), rfl, fun a ha => by rw [if_neg (by omega)]; exact h89 a ha⟩
        · intro p hp M3 hI next
          obtain ⟨f3, g85, g89⟩ := hI
          have w51 : M3.1 51 (nI b).toNatClampNeg = nI (pS P b) := by rw [hcb, (f3 51 (by decide)).1]; exact (hP.1 b b1).1
          have e1 : nI e + nI p = nI (e + p) := nI_add _ _
          have e2 : 64 * nI b + nI p = nI (64 * b + p) := by rw [nI_64, nI_add]
          have w54 : M3.1 54 (nI (64 * b + p)).toNatClampNeg = nI (pO P b p) := by
            rw [nI_clamp (by omega), (f3 54 (by decide)).1, show 64 * b + p = b * 64 + p by omega]
            exact hP.2.1 b b1 p (by omega)
          refine xF_go o_Mo_lays [76, 112, 150, 165] 60 (fun K hK => ?_)
          repeat' ((conv => whnf); first | refine ⟨fun h => ?_, fun h => ?_⟩ | refine ⟨?_, ?_⟩ | refine hK _ _ _ _ ?_)
          · exact vp_in_nI b1 (by decide)
          · have h0 := (show ¬ nI p < M3.1 51 (nI b).toNatClampNeg from by assumption)
            rw [w51, nI_ltI (by omega) (by omega)] at h0
            omega
          · rw [e2]; exact vp_in_nI (by show _ < 1536; omega) (by decide)
          · rw [e1]; exact vp_in_nI (by show _ < 3072; omega) (by decide)
          · rw [e1, e2, w54, nI_1, nI_clamp (by omega)]
            refine next _ ⟨f3.I (by simp), g85, fun a ha => ?_⟩
            rw [xsI_s]
            by_cases q : a = e + p
            · rw [q, upd_s, if_pos (by omega), show e + p - e = p by omega]
            · rw [upd_n q, g89 a ha]
              by_cases q2 : e ≤ a ∧ a < e + p
              · rw [if_pos q2, if_pos (by omega)]
              · rw [if_neg q2, if_neg (by omega)]
        · intro M3 hI
          obtain ⟨f3, g85, g89⟩ := hI
          have w51 : M3.1 51 (nI b).toNatClampNeg = nI (pS P b) := by rw [hcb, (f3 51 (by decide)).1]; exact (hP.1 b b1).1
          refine xF_go o_Mo_lays [76, 112, 165] 60 (fun K hK => ?_)
          repeat' ((conv => whnf); first | refine ⟨fun h => ?_, fun h => ?_⟩ | refine ⟨?_, ?_⟩ | refine hK _ _ _ _ ?_)
          · exact vp_in_nI b1 (by decide)
          · exact vp_in_nI b1 (by decide)
          · rw [w51, nI_add, nI_1]
            have eapp : ene A (pS P) 0 (pre ++ [b]) = e + pS P b := by
              rw [ene_app, ← ee]
              rfl
            have ih' := ih (pre ++ [b]) (fun a => if e ≤ a ∧ a < e + pS P b then pO P b (a - e) else F a) M3 (some (.int (nI b))) (some (.int (nI (pS P b)))) (by rw [eR, List.append_assoc]; rfl) (mP_fr f3 (by decide) (by rw [(f3 50 (by decide)).1]) hP) (by unfold m92; rw [(f3 50 (by decide)).1, (f3 94 (by decide)).1]; exact h94) (by rw [(f3 88 (by decide)).1]; exact h88) g89 (fun M2 y2 y3 y4 f2 k89 k85 => hQ M2 y2 y3 y4 (f3.tr f2 (fun _ z => z)) (fun a ha => ?_) (fun k hk => ?_))
            · rw [eapp, List.length_append] at ih'
              exact ih'
            · rw [k89 a ha, eapp]
              show _ = nI (oct A (pS P) (pO P) (nx (ene A (pS P) 0 pre) (A b) + pS P b) t (fun a => if nx (ene A (pS P) 0 pre) (A b) ≤ a ∧ a < nx (ene A (pS P) 0 pre) (A b) + pS P b then pO P b (a - nx (ene A (pS P) 0 pre) (A b)) else F a) a)
              rw [ee]
            · rw [k85 k hk, eapp, g85]
              by_cases q : k = b
              · subst q
                rw [if_neg hbt, upd_s, if_pos List.mem_cons_self]
                show _ = nI (if k = k then nx (ene A (pS P) 0 pre) (A k) else _)
                rw [if_pos rfl, ee]
              · have q2 : adr A (pS P) k (ene A (pS P) 0 pre) (b :: t) = adr A (pS P) k (e + pS P b) t := by
                  rw [← ee]
                  exact if_neg (fun z => q z.symm)
                rw [q2]
                by_cases q3 : k ∈ t
                · rw [if_pos q3, if_pos (List.mem_cons_of_mem _ q3)]
                · rw [if_neg q3, upd_n q, if_neg (fun z => (List.mem_cons.mp z).elim q q3)]
          all_goals
            have h0 := (show nI (pS P b) < M3.1 51 (nI b).toNatClampNeg from by assumption)
            rw [w51, nI_ltI (by omega) (by omega)] at h0
            omega
theorem L_lays4 (P : sP) (hw : wP P) (V : sV) (T : Nat → Prop) (hTV : ∀ k, T k → kpt P V k) (R : List Nat) (hR : okR P T R) (M : xMe) (hP : mP P M) (h80 : c36 80 (kpt P V) M) (h86 : c38 86 (sfr P T) M) (h87 : c38 87 (ouf P T) M) (h85 : mA (ad0 (aln P T) (pS P) R) M) (Q : Option Value → xMe → Prop) (hQ : ∀ M1, xfr [85] M M1 → mA (ad2 P T R) M1 → Q none M1) (x1 : Int32) (x3 x4 : Option Value) : xF l G y_Mo_lays 172 [some (.ref 50), some (.int x1), some (.int (nI 0)), x3, x4] [] M Q := by
  have second : ∀ M1, xfr [85] M M1 → mA (ad1 P T R) M1 → xF l G y_Mo_lays 241 [some (.ref 50), some (.int x1), some (.int (nI 0)), x3, x4] [] M1 Q := by
    intro M1 f1 g1
    refine loopN (σ := xMe) 24 (fun k M2 => xfr [85] M M2 ∧ mA (fun j => if j < k then ad2 P T R j else ad1 P T R j) M2) (fun k M2 => xF l G y_Mo_lays 241 [some (.ref 50), some (.int x1), some (.int (nI k)), x3, x4] [] M2 Q) ?_ ?_ 24 0 rfl M1 ⟨f1, fun j hj a ha => g1 j hj a (by simpa using ha)⟩
    · intro k hk M2 hI next
      obtain ⟨f2, g2⟩ := hI
      have hcl : (nI k).toNatClampNeg = k := nI_clamp (by omega)
      have v80 : M2.1 80 (nI k).toNatClampNeg = b2 (tb (kpt P V k)) := by rw [hcl, (f2 80 (by decide)).1]; exact h80 k hk
      have v86 : M2.1 86 (nI k).toNatClampNeg = oI (sfr P T k) := by rw [hcl, (f2 86 (by decide)).1]; exact h86 k hk
      have hno := oI_none (o := sfr P T k) (fun d e => by have := (sfr_some.mp e).1; omega)
      have skip : sfr P T k = none → xF l G y_Mo_lays 283 [some (.ref 50), some (.int x1), some (.int (nI k)), x3, x4] [] M2 Q := by
        intro h0
        refine xF_go o_Mo_lays [241] 60 (fun K hK => ?_)
        repeat' ((conv => whnf); first | refine ⟨fun h => ?_, fun h => ?_⟩ | refine ⟨?_, ?_⟩ | refine hK _ _ _ _ ?_)
        rw [nI_1]
        refine next _ ⟨f2, fun j hj a ha => g2 j hj a ?_⟩
        show (if j < k then ad2 P T R j else ad1 P T R j) = some a
        replace ha : (if j < k + 1 then ad2 P T R j else ad1 P T R j) = some a := ha
        by_cases q : j = k
        · subst q
          rw [if_pos (by omega)] at ha
          rw [if_neg (Nat.lt_irrefl _)]
          unfold ad2 at ha
          rw [h0] at ha
          exact ha
        · by_cases q2 : j < k
          · rw [if_pos (by omega)] at ha
            rw [if_pos q2]; exact ha
          · rw [if_neg (by omega)] at ha
            rw [if_neg q2]; exact ha
      refine xF_go o_Mo_lays [241, 283] 60 (fun K hK => ?_)
      repeat' ((conv => whnf); first | refine ⟨fun h => ?_, fun h => ?_⟩ | refine ⟨?_, ?_⟩ | refine hK _ _ _ _ ?_)
      · exact absurd (nI_lt (b := 24) hk (by decide)) h
      · exact vp_in_nI hk (by decide)
      · have h0 : M2.1 80 (nI k).toNatClampNeg = 0 := by assumption
        rw [v80, b2_0, tb_f] at h0
        refine skip ?_
        cases e : sfr P T k with
        | none => rfl
        | some i => exact absurd (hTV k (sfr_T e)) h0
      · exact vp_in_nI hk (by decide)
      · have h0 : M2.1 86 (nI k).toNatClampNeg = -1 := by assumption
        rw [v86, hno] at h0
        exact skip h0
      · exact vp_in_nI hk (by decide)
      · have h0 : ¬ M2.1 86 (nI k).toNatClampNeg = -1 := by assumption
        rw [v86, hno] at h0
        cases e : sfr P T k with
        | none => exact absurd e h0
        | some i =>
          have := (sfr_some.mp e).1
          rw [v86, e]
          exact vp_in_nI (n := i) (by show _ < 24; omega) (by decide)
      · exact vp_in_nI hk (by decide)
      · have h0 : ¬ M2.1 86 (nI k).toNatClampNeg = -1 := by assumption
        rw [v86, hno] at h0
        cases e : sfr P T k with
        | none => exact absurd e h0
        | some i =>
          have hi := (sfr_some.mp e).1
          have hst := sfr_st e
          have e2 : ad2 P T R i = ad1 P T R i := by
            unfold ad2
            rw [hst.2]
          clear hK K
          refine xF_go o_Mo_lays [241] 60 (fun K hK => ?_)
          repeat' ((conv => whnf); first | refine ⟨fun h => ?_, fun h => ?_⟩ | refine ⟨?_, ?_⟩ | refine hK _ _ _ _ ?_)
          rw [v86, e, nI_1, hcl, show (oI (some i)).toNatClampNeg = i from nI_clamp (n := i) (by omega)]
          refine next _ ⟨f2.I (by simp), fun j hj a ha => ?_⟩
          rw [xsI_s]
          replace ha : (if j < k + 1 then ad2 P T R j else ad1 P T R j) = some a := ha
          by_cases q : j = k
          · subst q
            rw [if_pos (by omega)] at ha
            rw [upd_s]
            refine g2 i (by omega) a ?_
            show (if i < j then ad2 P T R i else ad1 P T R i) = some a
            rw [if_pos hi, e2]
            unfold ad2 at ha
            rw [e] at ha
            exact ha
          · rw [upd_n q]
            refine g2 j hj a ?_
            show (if j < k then ad2 P T R j else ad1 P T R j) = some a
            by_cases q2 : j < k
            · rw [if_pos (by omega)] at ha
              rw [if_pos q2]; exact ha
            · rw [if_neg (by omega)] at ha
              rw [if_neg q2]; exact ha
    · intro M2 hI
      obtain ⟨f2, g2⟩ := hI
      refine xF_go o_Mo_lays [241] 60 (fun K hK => ?_)
      repeat' ((conv => whnf); first | refine ⟨fun h => ?_, fun h => ?_⟩ | refine ⟨?_, ?_⟩ | refine hK _ _ _ _ ?_)
      · refine xF_vret o_Mo_lays rfl rfl ?_
        refine hQ _ f2 (fun k hk a ha => g2 k hk a ?_)
        show (if k < 24 then ad2 P T R k else ad1 P T R k) = some a
        rw [if_pos hk]
        exact ha
      all_goals exact absurd (show nI 24 < nI 24 from by assumption) (nI_nlt (by omega) (by omega))
  refine loopN (σ := xMe) 24 (fun k M2 => xfr [85] M M2 ∧ mA (fun j => if j < k then ad1 P T R j else ad0 (aln P T) (pS P) R j) M2) (fun k M2 => xF l G y_Mo_lays 172 [some (.ref 50), some (.int x1), some (.int (nI k)), x3, x4] [] M2 Q) ?_ ?_ 24 0 rfl M ⟨xfr.rf, fun j hj a ha => h85 j hj a (by simpa using ha)⟩
  · intro k hk M2 hI next
    obtain ⟨f2, g2⟩ := hI
    have hcl : (nI k).toNatClampNeg = k := nI_clamp (by omega)
    have hs64 := (hw.1 k hk).1
    have v80 : M2.1 80 (nI k).toNatClampNeg = b2 (tb (kpt P V k)) := by rw [hcl, (f2 80 (by decide)).1]; exact h80 k hk
    have v87 : M2.1 87 (nI k).toNatClampNeg = oI (ouf P T k) := by rw [hcl, (f2 87 (by decide)).1]; exact h87 k hk
    have v51 : M2.1 51 (nI k).toNatClampNeg = nI (pS P k) := by rw [hcl, (f2 51 (by decide)).1]; exact (hP.1 k hk).1
    have hno := oI_none (o := ouf P T k) (fun d e => by have := (ouf_some hk e).2.1; omega)
    have hy : ¬ ouf P T k = none → ∃ y, ouf P T k = some y ∧ y < 24 ∧ y ∈ R ∧ pS P k < pS P y ∧ ouf P T y = none := by
      intro h0
      cases e : ouf P T k with
      | none => exact absurd e h0
      | some y => exact ⟨y, rfl, okR_y hR hk e⟩
    have skip : ouf P T k = none → xF l G y_Mo_lays 233 [some (.ref 50), some (.int x1), some (.int (nI k)), x3, x4] [] M2 Q := by
      intro h0
      refine xF_go o_Mo_lays [172] 60 (fun K hK => ?_)
      repeat' ((conv => whnf); first | refine ⟨fun h => ?_, fun h => ?_⟩ | refine ⟨?_, ?_⟩ | refine hK _ _ _ _ ?_)
      rw [nI_1]
      refine next _ ⟨f2, fun j hj a ha => g2 j hj a ?_⟩
      show (if j < k then ad1 P T R j else ad0 (aln P T) (pS P) R j) = some a
      replace ha : (if j < k + 1 then ad1 P T R j else ad0 (aln P T) (pS P) R j) = some a := ha
      by_cases q : j = k
      · subst q
        rw [if_pos (by omega)] at ha
        rw [if_neg (Nat.lt_irrefl _)]
        unfold ad1 at ha
        rw [h0] at ha
        exact ha
      · by_cases q2 : j < k
        · rw [if_pos (by omega)] at ha
          rw [if_pos q2]; exact ha
        · rw [if_neg (by omega)] at ha
          rw [if_neg q2]; exact ha
    refine xF_go o_Mo_lays [172, 233, 241] 60 (fun K hK => ?_)
    repeat' ((conv => whnf); first | refine ⟨fun h => ?_, fun h => ?_⟩ | refine ⟨?_, ?_⟩ | refine hK _ _ _ _ ?_)
    · exact absurd (nI_lt (b := 24) hk (by decide)) h
    · exact vp_in_nI hk (by decide)
    · have h0 : M2.1 80 (nI k).toNatClampNeg = 0 := by assumption
      rw [v80, b2_0, tb_f] at h0
      refine skip ?_
      cases e : ouf P T k with
      | none => rfl
      | some i => exact absurd (hTV k (ouf_some hk e).1.1) h0
    · exact vp_in_nI hk (by decide)
    · have h0 : M2.1 87 (nI k).toNatClampNeg = -1 := by assumption
      rw [v87, hno] at h0
      exact skip h0
    · exact vp_in_nI hk (by decide)
    · have h0 : ¬ M2.1 87 (nI k).toNatClampNeg = -1 := by assumption
      rw [v87, hno] at h0
      obtain ⟨y, y0, y1, y2⟩ := hy h0
      rw [v87, y0]
      exact vp_in_nI (n := y) y1 (by decide)
    · exact vp_in_nI hk (by decide)
    · have h0 : ¬ M2.1 87 (nI k).toNatClampNeg = -1 := by assumption
      rw [v87, hno] at h0
      obtain ⟨y, y0, y1, y2⟩ := hy h0
      rw [v87, y0]
      exact vp_in_nI (n := y) y1 (by decide)
    · exact vp_in_nI hk (by decide)
    · exact vp_in_nI hk (by decide)
    · have h0 : ¬ M2.1 87 (nI k).toNatClampNeg = -1 := by assumption
      rw [v87, hno] at h0
      obtain ⟨y, y0, y1, y2, y3, y4⟩ := hy h0
      have v51y : M2.1 51 y = nI (pS P y) := by rw [(f2 51 (by decide)).1]; exact (hP.1 y y1).1
      have v85y : M2.1 85 y = nI (adr (aln P T) (pS P) y 0 R) := by
        refine g2 y y1 _ ?_
        have e0 : ad0 (aln P T) (pS P) R y = some (adr (aln P T) (pS P) y 0 R) := if_pos y2
        have e1 : ad1 P T R y = some (adr (aln P T) (pS P) y 0 R) := by
          unfold ad1
          rw [y4]
          exact e0
        show (if y < k then ad1 P T R y else ad0 (aln P T) (pS P) R y) = _
        rw [e0, e1]
        split <;> rfl
      clear hK K
      refine xF_go o_Mo_lays [172] 60 (fun K hK => ?_)
      repeat' ((conv => whnf); first | refine ⟨fun h => ?_, fun h => ?_⟩ | refine ⟨?_, ?_⟩ | refine hK _ _ _ _ ?_)
      rw [v87, y0, nI_1, v51, hcl, show (oI (some y)).toNatClampNeg = y from nI_clamp (n := y) (by omega), v51y, v85y, nI_add, show (nI (adr (aln P T) (pS P) y 0 R + pS P y) - nI (pS P k) : Int32) = nI (adr (aln P T) (pS P) y 0 R + pS P y - pS P k) from pk_sub (by omega)]
      refine next _ ⟨f2.I (by simp), fun j hj a ha => ?_⟩
      rw [xsI_s]
      replace ha : (if j < k + 1 then ad1 P T R j else ad0 (aln P T) (pS P) R j) = some a := ha
      by_cases q : j = k
      · subst q
        rw [if_pos (by omega)] at ha
        rw [upd_s]
        unfold ad1 at ha
        rw [y0] at ha
        cases ha
        rfl
      · rw [upd_n q]
        refine g2 j hj a ?_
        show (if j < k then ad1 P T R j else ad0 (aln P T) (pS P) R j) = some a
        by_cases q2 : j < k
        · rw [if_pos (by omega)] at ha
          rw [if_pos q2]; exact ha
        · rw [if_neg (by omega)] at ha
          rw [if_neg q2]; exact ha
  · intro M2 hI
    obtain ⟨f2, g2⟩ := hI
    refine xF_go o_Mo_lays [172, 241] 60 (fun K hK => ?_)
    repeat' ((conv => whnf); first | refine ⟨fun h => ?_, fun h => ?_⟩ | refine ⟨?_, ?_⟩ | refine hK _ _ _ _ ?_)
    · refine second M2 f2 (fun k hk a ha => g2 k hk a ?_)
      show (if k < 24 then ad1 P T R k else ad0 (aln P T) (pS P) R k) = some a
      rw [if_pos hk]
      exact ha
    all_goals exact absurd (show nI 24 < nI 24 from by assumption) (nI_nlt (by omega) (by omega))
end XMY
