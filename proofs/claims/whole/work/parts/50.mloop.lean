/-! the reference's run to its end -/
def sSafe (P : sP) (hm : Nat → Option Nat) : Nat → sT → Prop
  | 0, _ => True
  | n + 1, T => safe P hm T ∧ match sTurn P hm T with
    | .inl _ => True
    | .inr T' => sSafe P hm n T'
theorem sEnd_l {P : sP} {hm : Nat → Option Nat} {n : Nat} {T : sT} {r : Int32} (e : sTurn P hm T = .inl r) : sEnd P hm (n + 1) T = (r, T) := by
  show (match sTurn P hm T with | .inl r => (r, T) | .inr T' => sEnd P hm n T') = _
  rw [e]
theorem sEnd_r {P : sP} {hm : Nat → Option Nat} {n : Nat} {T T' : sT} (e : sTurn P hm T = .inr T') : sEnd P hm (n + 1) T = sEnd P hm n T' := by
  show (match sTurn P hm T with | .inl r => (r, T) | .inr T' => sEnd P hm n T') = _
  rw [e]
theorem sSafe_r {P : sP} {hm : Nat → Option Nat} {n : Nat} {T T' : sT} (h : sSafe P hm (n + 1) T) (e : sTurn P hm T = .inr T') : sSafe P hm n T' := by
  have := h.2
  rw [e] at this
  exact this
theorem sTurn_o {P : sP} {hm : Nat → Option Nat} {T : sT} (e : (pC P (tF T))[tA T]? = none) : sTurn P hm T = if tN T = 0 then .inl 0 else .inr (tPop T) := by
  unfold sTurn
  rw [e]
theorem sTurn_i {P : sP} {hm : Nat → Option Nat} {T : sT} {q : Nat × Int32 × Int32 × Int32} (e : (pC P (tF T))[tA T]? = some q) : sTurn P hm T = if tD T = 2000 then .inl 2 else match sCarry P hm T q with
    | .inl r => .inl r
    | .inr T' => .inr (tDid T') := by
  unfold sTurn
  rw [e]
  rfl
theorem nI_m1 {n : Nat} (h : 1 ≤ n) : nI n + -1 = nI (n - 1) := by
  have e : (nI n - nI 1 : Int32) = nI (n - 1) := pk_sub h
  have e1 : nI 1 = 1 := rfl
  rw [e1] at e
  grind
def qGo (P : sP) (hm : Nat → Option Nat) (n : Nat) (T : sT) (M : xMe) (v : Option Value) (M' : xMe) : Prop := v = some (.int (sEnd P hm n T).1) ∧ mX (xOf (sEnd P hm n T)) M' ∧ mfr M M'
theorem qGo_tr {P : sP} {hm : Nat → Option Nat} {n : Nat} {T : sT} {M M1 : xMe} (h : mfr M M1) {v : Option Value} {M' : xMe} (hq : qGo P hm n T M1 v M') : qGo P hm n T M v M' := ⟨hq.1, hq.2.1, h.tr hq.2.2⟩
theorem mT_did {T : sT} {M : xMe} (h : mT T M) : mT (tDid T) (xsI M 50 (upd (M.1 50) 21 (M.1 50 21 + 1))) := by
  obtain ⟨h1, h2, h3, h4, h5, h6, h7⟩ := h
  refine ⟨h1, h2, h3, h4, h5, ?_, h7⟩
  show M.1 50 21 + 1 = nI (tD T + 1)
  rw [h6, nI_1]
section XGL
variable (l : Launch) (G : xG)
def mGo (P : sP) (hm : Nat → Option Nat) (e0 : Int32) (n : Nat) (T : sT) : Prop := ∀ (M : xMe) (F D f A : Int32), mP P M → mH P hm M → mT T M → wT P T → mL P T F D f A → tMu T < n → sSafe P hm n T → xF l G y_Mo_goes 99 [some (.ref 50), some (.int e0), some (.int F), some (.int D), some (.int f), some (.int A), none, none, none, none, none] [] M (qGo P hm n T M)
theorem L_m175 (P : sP) (hm : Nat → Option Nat) (hw : wP P) (e0 : Int32) (n : Nat) (T : sT) (M : xMe) (f A : Int32) (g : Nat) (hM : mP P M) (hH : mH P hm M) (hT : mT T M) (hwT : wT P T) (hg : tI T ≤ g ∧ (tI T < (pI P).length → g = tI T) ∧ g ≤ tD T) (hq : (pC P (tF T))[tA T]? = none) (hmu : tMu T < n + 1) (hs : sSafe P hm (n + 1) T) (ih : ∀ T', mGo l G P hm e0 n T') :
  xF l G y_Mo_goes 175 [some (.ref 50), some (.int e0), some (.int (nI g)), some (.int (nI (tN T))), some (.int f), some (.int A), none, none, none, none, none] [] M (qGo P hm (n + 1) T M) := by
  have hT0 := hT
  obtain ⟨w1, w2, w3, w4, w5, w6, w7, w8, w9⟩ := id hwT
  obtain ⟨t1, t2, t3, t4, t5, t6, t7⟩ := hT
  have et := sTurn_o (hm := hm) hq
  refine xF_go o_Mo_goes [99] 60 (fun K hK => ?_)
  repeat' ((conv => whnf); first | refine ⟨fun h => ?_, fun h => ?_⟩ | refine ⟨?_, ?_⟩ | refine hK _ _ _ _ ?_)
  · have hN : ¬ nI (tN T) = 0 := by assumption
    have hN' : tN T ≠ 0 := fun z => hN (by rw [z]; rfl)
    rw [nI_m1 (n := tN T) (by omega)]
    exact vp_in_nI (N := 16) (by omega) (by decide)
  · have hN : ¬ nI (tN T) = 0 := by assumption
    have hN' : tN T ≠ 0 := fun z => hN (by rw [z]; rfl)
    rw [nI_m1 (n := tN T) (by omega)]
    exact vp_in_nI (N := 16) (by omega) (by decide)
  · have hN : ¬ nI (tN T) = 0 := by assumption
    have hN' : tN T ≠ 0 := fun z => hN (by rw [z]; rfl)
    rw [if_neg hN'] at et
    obtain ⟨g1, g2⟩ := sTurn_w hw hH.1 hwT et
    have hk := t3 (tN T - 1) (by omega)
    rw [nI_m1 (n := tN T) (by omega), nI_clamp (by omega), hk.1, hk.2]
    unfold qGo
    rw [sEnd_r et]
    refine ih (tPop T) M _ _ _ _ hM hH ⟨t1, t2, fun i hi => t3 i (by have : i < tN T - 1 := hi; omega), t4, t5, t6, t7⟩ g1 ⟨⟨g, rfl, hg⟩, rfl, rfl, Or.inl rfl⟩ (by omega) (sSafe_r hs et)
  · have hN : nI (tN T) = nI 0 := by assumption
    have hN' : tN T = 0 := nI_inj (by omega) (by decide) hN
    rw [if_pos hN'] at et
    refine xF_iret o_Mo_goes rfl rfl ?_
    unfold qGo
    rw [sEnd_l et]
    exact ⟨rfl, ⟨t7, t4, t5, fun _ => ⟨t6, rfl, rfl⟩⟩, (mfr.rf.F (by simp)).F (by simp)⟩
theorem L_mgo (P : sP) (hm : Nat → Option Nat) (hw : wP P) (e0 : Int32) : ∀ (k n : Nat), n ≤ k → ∀ (T : sT), mGo l G P hm e0 n T := by
  intro k
  induction k with
  | zero => intro n hn T M F D f A _ _ _ _ _ h; omega
  | succ k ih =>
    intro n hn T M F D f A hM hH hT hwT hL hmu hs
    obtain _ | n := n
    · omega
    have hT0 := hT
    have hL0 := hL
    obtain ⟨w1, w2, w3, w4, w5, w6, w7, w8, w9⟩ := id hwT
    obtain ⟨t1, t2, t3, t4, t5, t6, t7⟩ := hT
    obtain ⟨hl, hc⟩ := hM.2.2.2.1 (tF T) w5
    have hl40 := (hw.2.2.2.1 (tF T) w5).1
    obtain ⟨⟨g, rfl, g1, g2, g3⟩, rfl, rfl, hA⟩ := hL
    have hclf : (nI (tF T)).toNatClampNeg = tF T := nI_clamp (by omega)
    have hout : ((pC P (tF T)).length ≤ tA T) → ∀ (A : Int32), xF l G y_Mo_goes 175 [some (.ref 50), some (.int e0), some (.int (nI g)), some (.int (nI (tN T))), some (.int (nI (tF T))), some (.int A), none, none, none, none, none] [] (xsI M 50 (upd (M.1 50) 21 (M.1 50 21 + 0))) (qGo P hm (n + 1) T M) := by
      intro hle A
      have hfr : mfr M (xsI M 50 (upd (M.1 50) 21 (M.1 50 21 + 0))) := mfr.rf.F (by simp)
      refine xF_post (fun v M' hQ => qGo_tr hfr hQ) (L_m175 l G P hm hw e0 n T _ _ _ g (hfr.P hM) (hfr.H hH) ⟨t1, t2, t3, t4, t5, ?_, t7⟩ hwT ⟨g1, g2, g3⟩ (List.getElem?_eq_none hle) hmu hs (fun T' => ih n (by omega) T'))
      show M.1 50 21 + 0 = _
      rw [t6]; grind
    rcases hA with hA | ⟨hle, hA⟩
    · subst hA
      have hA0 : ¬ nI (tA T) < 0 := by have := nI_pos' (n := tA T) (by omega); grind
      by_cases hlt : tA T < (pC P (tF T)).length
      · have hq := List.getElem?_eq_getElem hlt
        generalize (pC P (tF T))[tA T] = q at hq
        have hvq : vN q := (hw.2.2.2.1 (tF T) w5).2 q (List.mem_of_getElem? hq)
        have hq12 := vN_le hvq
        obtain ⟨c1, c2, c3, c4⟩ := hc (tA T) q hq
        have e41 : 41 * nI (tF T) + nI (tA T) = nI (41 * tF T + tA T) := by rw [nI_41', nI_add]
        have hin : vp_in (nI (41 * tF T + tA T)) 492 := vp_in_nI (by omega) (by decide)
        have hcl : (nI (41 * tF T + tA T)).toNatClampNeg = tF T * 41 + tA T := by rw [nI_clamp (by omega)]; omega
        have et := sTurn_i (hm := hm) hq
        have h215 : (tD T = 2000 ∨ ¬ q.1 = 8) → xF l G y_Mo_goes 215 [some (.ref 50), some (.int e0), some (.int (nI g)), some (.int (nI (tN T))), some (.int (nI (tF T))), some (.int (nI (tA T))), none, none, none, none, none] [] M (qGo P hm (n + 1) T M) := by
          intro hor
          have hfr : mfr M (xsI (xsI M 50 (upd (M.1 50) 22 (nI (tF T)))) 50 (upd (upd (M.1 50) 22 (nI (tF T))) 23 (nI (tA T)))) := (mfr.rf.F (s := 22) (x := nI (tF T)) (by simp)).F (s := 23) (by simp)
          refine xF_go o_Mo_goes [239] 60 (fun K hK => ?_)
          repeat' ((conv => whnf); first | refine ⟨fun h => ?_, fun h => ?_⟩ | refine ⟨?_, ?_⟩ | refine hK _ _ _ _ ?_)
          · have hd : ¬ M.1 50 21 = nI 2000 := by assumption
            rw [t6] at hd
            have hd' : ¬ tD T = 2000 := fun z => hd (by rw [z])
            rw [if_neg hd'] at et
            clear hK K
            refine xF_post (fun v M' hQ => qGo_tr hfr hQ) (L_mcarry l G P hm hw e0 _ _ _ _ 0 0 0 0 0 T _ (hfr.P hM) (hfr.H hH) ⟨t1, t2, t3, t4, t5, t6, t7⟩ hwT hL0 q hq (hor.resolve_left hd') hs.1 _ ?_ ?_)
            · intro r hr
              rw [hr] at et
              unfold qGo
              rw [sEnd_l et]
              exact ⟨rfl, mT_X (T := T) ⟨t1, t2, t3, t4, t5, t6, t7⟩ (sCarry_r hr) rfl rfl, mfr.rf⟩
            · intro T' M' F' D' f' N' hr hT' hfr' hL'
              rw [hr] at et
              obtain ⟨g1, g2⟩ := sTurn_w hw hH.1 hwT et
              unfold qGo
              rw [sEnd_r et]
              refine xF_go o_Mo_goes [99] 60 (fun K hK => ?_)
              repeat' ((conv => whnf); first | refine ⟨fun h => ?_, fun h => ?_⟩ | refine ⟨?_, ?_⟩ | refine hK _ _ _ _ ?_)
              refine xF_lv (lv' := [some (.ref 50), some (.int e0), some (.int F'), some (.int D'), some (.int f'), some (.int N'), none, none, none, none, none]) (fun i v hi => by
                match i, hi with
                | 0, hi => exact hi
                | 1, hi => exact hi
                | 2, hi => exact hi
                | 3, hi => exact hi
                | 4, hi => exact hi
                | 5, hi => exact hi
                | 6, hi => cases hi
                | 7, hi => cases hi
                | 8, hi => cases hi
                | 9, hi => cases hi
                | 10, hi => cases hi
                | i + 11, hi => cases hi) ?_
              have hfr2 : mfr M' (xsI M' 50 (upd (M'.1 50) 21 (M'.1 50 21 + 1))) := mfr.rf.F (by simp)
              have hfr3 := (hfr.tr hfr').tr hfr2
              exact xF_post (fun v M2 hQ => qGo_tr (hfr'.tr hfr2) hQ) (ih n (by omega) (tDid T') _ _ _ _ _ (hfr3.P hM) (hfr3.H hH) (mT_did hT') g1 hL' (by omega) (sSafe_r hs et))
          · have hd : M.1 50 21 = nI 2000 := by assumption
            rw [t6] at hd
            have hd' : tD T = 2000 := nI_inj (by omega) (by decide) hd
            rw [if_pos hd'] at et
            refine xF_iret o_Mo_goes rfl rfl ?_
            unfold qGo
            rw [sEnd_l et]
            exact ⟨rfl, mT_X (T := T) ⟨t1, t2, t3, t4, t5, t6, t7⟩ (by decide) rfl rfl, hfr⟩
        have hl' : M.1 57 (nI (tF T)).toNatClampNeg = nI (pC P (tF T)).length := by rw [hclf, hl]
        have hge : nI (tA T) < M.1 57 (nI (tF T)).toNatClampNeg := by rw [hl', nI_ltI (by omega) (by omega)]; omega
        refine xF_go o_Mo_goes [99, 144, 215] 60 (fun K hK => ?_)
        repeat' ((conv => whnf); first | refine ⟨fun h => ?_, fun h => ?_⟩ | refine ⟨?_, ?_⟩ | refine hK _ _ _ _ ?_)
        · exact absurd (show nI (tA T) < 0 from by assumption) hA0
        · exact vp_in_nI w5 (by decide)
        · exact absurd hge (show ¬ nI (tA T) < M.1 57 (nI (tF T)).toNatClampNeg from by assumption)
        · rw [e41]; exact hin
        · have h8 : ¬ M.1 58 (41 * nI (tF T) + nI (tA T)).toNatClampNeg = nI 8 := by assumption
          rw [e41, hcl, c1] at h8
          exact h215 (Or.inr (fun z => h8 (by rw [z])))
        · have hd : ¬ M.1 50 21 < nI 2000 := by assumption
          rw [t6, nI_ltI (by omega) (by omega)] at hd
          exact h215 (Or.inl (by omega))
        · have hd : M.1 50 21 < nI 2000 := by assumption
          have h8 : M.1 58 (41 * nI (tF T) + nI (tA T)).toNatClampNeg = nI 8 := by assumption
          rw [t6, nI_ltI (by omega) (by omega)] at hd
          rw [e41, hcl, c1] at h8
          have h8' : q.1 = 8 := nI_inj (by omega) (by decide) h8
          rw [if_neg (by omega)] at et
          have ec : sCarry P hm T q = .inr (tTo T (pC P (tF T)).length) := by
            obtain ⟨o, a, b, c⟩ := q
            subst h8'
            rfl
          rw [ec] at et
          obtain ⟨g4, g5⟩ := sTurn_w hw hH.1 hwT et
          clear hK K
          refine xF_go o_Mo_goes [99, 175] 60 (fun K hK => ?_)
          repeat' ((conv => whnf); first | refine ⟨fun h => ?_, fun h => ?_⟩ | refine ⟨?_, ?_⟩ | refine hK _ _ _ _ ?_)
          · exact absurd (show nI (tA T) < 0 from by assumption) hA0
          · exact vp_in_nI w5 (by decide)
          · exact absurd hge (show ¬ nI (tA T) < M.1 57 (nI (tF T)).toNatClampNeg from by assumption)
          · have hfr : mfr M (xsI M 50 (upd (M.1 50) 21 (M.1 50 21 + 1))) := mfr.rf.F (by simp)
            unfold qGo
            rw [sEnd_r et]
            obtain _ | n := n
            · omega
            exact xF_post (fun v M' hQ => qGo_tr hfr hQ) (L_m175 l G P hm hw e0 n (tDid (tTo T (pC P (tF T)).length)) _ _ _ g (hfr.P hM) (hfr.H hH) (mT_did (T := tTo T (pC P (tF T)).length) hT0) g4 ⟨g1, g2, by show g ≤ tD T + 1; omega⟩ (List.getElem?_eq_none (Nat.le_refl _)) (by omega) (sSafe_r hs et) (fun T' => ih n (by omega) T'))
      · have hl' : M.1 57 (nI (tF T)).toNatClampNeg = nI (pC P (tF T)).length := by rw [hclf, hl]
        have hge : ¬ nI (tA T) < M.1 57 (nI (tF T)).toNatClampNeg := by rw [hl', nI_ltI (by omega) (by omega)]; omega
        refine xF_go o_Mo_goes [99, 144, 215] 60 (fun K hK => ?_)
        repeat' ((conv => whnf); first | refine ⟨fun h => ?_, fun h => ?_⟩ | refine ⟨?_, ?_⟩ | refine hK _ _ _ _ ?_)
        · exact absurd (show nI (tA T) < 0 from by assumption) hA0
        · exact vp_in_nI w5 (by decide)
        · clear hK K
          refine xF_go o_Mo_goes [99, 175] 60 (fun K hK => ?_)
          repeat' ((conv => whnf); first | refine ⟨fun h => ?_, fun h => ?_⟩ | refine ⟨?_, ?_⟩ | refine hK _ _ _ _ ?_)
          · exact hout (by omega) _
          · exact vp_in_nI w5 (by decide)
          · exact hout (by omega) _
          · exact absurd (show nI (tA T) < M.1 57 (nI (tF T)).toNatClampNeg from by assumption) hge
        all_goals exact absurd (show nI (tA T) < M.1 57 (nI (tF T)).toNatClampNeg from by assumption) hge
    · refine xF_go o_Mo_goes [99, 144, 215] 60 (fun K hK => ?_)
      repeat' ((conv => whnf); first | refine ⟨fun h => ?_, fun h => ?_⟩ | refine ⟨?_, ?_⟩ | refine hK _ _ _ _ ?_)
      · clear hK K
        refine xF_go o_Mo_goes [99, 175] 60 (fun K hK => ?_)
        repeat' ((conv => whnf); first | refine ⟨fun h => ?_, fun h => ?_⟩ | refine ⟨?_, ?_⟩ | refine hK _ _ _ _ ?_)
        · exact hout hle _
        all_goals exact absurd hA (show ¬ A < 0 from by assumption)
      all_goals exact absurd hA (show ¬ A < 0 from by assumption)
/-- run as told never meets what isn't kept -/
theorem safe_all {P : sP} {hm : Nat → Option Nat} {T : sT} (hw : wP P) (h : ∀ k, k < 24 → ∃ a, hm k = some a) (hwT : wT P T) : safe P hm T := by
  intro q hq
  have hvq : vN q := (hw.2.2.2.1 (tF T) hwT.2.2.2.2.1).2 q (List.mem_of_getElem? hq)
  obtain ⟨o, a, b, c⟩ := q
  refine ⟨fun z _ => ?_, fun z hl t ht => ?_⟩
  · replace z : o = 3 := z
    subst z
    obtain ⟨k, hk, e1, ek⟩ := vT_n hvq.2.1
    exact h (ix b) (by rw [ek]; exact hk)
  · replace z : o = 11 := z
    subst z
    obtain ⟨k, hk, e1, ek⟩ := vT_n hvq.2.1
    have hk' : ix b < 24 := by rw [ek]; exact hk
    exact h t (hw.2.2.1 (ix b) hk' (tR T (ix c)) (Nat.lt_of_lt_of_le hl (hw.1 (ix b) hk').1) t ht).1
theorem sSafe_all {P : sP} {hm : Nat → Option Nat} (hw : wP P) (hH : wH P hm) (h : ∀ k, k < 24 → ∃ a, hm k = some a) : ∀ (n : Nat) (T : sT), wT P T → sSafe P hm n T := by
  intro n
  induction n with
  | zero => intro T _; exact trivial
  | succ n ih =>
    intro T hT
    refine ⟨safe_all hw h hT, ?_⟩
    cases e : sTurn P hm T with
    | inl r => exact trivial
    | inr T' => exact ih T' (sTurn_w hw hH hT e).1
end XGL
