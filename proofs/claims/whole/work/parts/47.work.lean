/-! Machine.work; the class's run -/
theorem cP_fr {P : sP} {S : List Nat} {M M' : xMe} (h : xfr S M M') (hS : ∀ c, c ∈ S → 16 ≤ c) (hM : cP P M) : cP P M' := by
  have e : ∀ c, c < 16 → M'.1 c = M.1 c ∧ M'.2 c = M.2 c := fun c hc => h c (fun z => by have := hS c z; omega)
  obtain ⟨h1, h2, h3, h4, h5, h6⟩ := hM
  refine ⟨?_, ?_, ?_, ?_, ?_, ?_⟩
  · unfold cS; rw [(e 2 (by decide)).1, (e 3 (by decide)).1, (e 4 (by decide)).1, (e 5 (by decide)).1]; exact h1
  · unfold cO; rw [(e 6 (by decide)).1]; exact h2
  · unfold cR; rw [(e 8 (by decide)).2, (e 7 (by decide)).1]; exact h3
  · unfold cC; rw [(e 9 (by decide)).1, (e 10 (by decide)).1, (e 11 (by decide)).1, (e 12 (by decide)).1, (e 13 (by decide)).1]; exact h4
  · unfold cE; rw [(e 14 (by decide)).1]; exact h5
  · unfold cI; rw [(e 1 (by decide)).1, (e 15 (by decide)).1]; exact h6
theorem cT_X {P : sP} {T : sT} {M : xMe} {r : Int32} (h : cT T M) (hr : ¬ r = 0) : cX (xOf (r, T)) M := by
  obtain ⟨t1, t2, t3, t4, t5, t6, t7, t8, t9, t10, t11⟩ := h
  refine ⟨t11, t8, t9, fun _ => ⟨t10, ?_, ?_⟩⟩
  · show M.1 43 9 = oI (if r = 0 then none else some (tF T))
    rw [if_neg hr]; exact t5
  · show M.1 43 10 = oI (if r = 0 then none else some (tA T))
    rw [if_neg hr]; exact t6
theorem sCarry_r {P : sP} {hm : Nat → Option Nat} {T : sT} {q : Nat × Int32 × Int32 × Int32} {r : Int32} (e : sCarry P hm T q = .inl r) : ¬ r = 0 := by
  obtain ⟨o, a, b, c⟩ := q
  match o, e with
  | 0, e | 1, e | 2, e | 6, e | 7, e | 8, e | 9, e | 10, e => cases e
  | 3, e =>
    unfold sCarry at e
    split at e
    all_goals simp only [] at *
    all_goals (repeat' split at e)
    all_goals first | (cases e; decide) | skip
    all_goals simp_all
  | 4, e =>
    unfold sCarry at e
    split at e
    all_goals simp only [] at *
    all_goals (repeat' split at e)
    all_goals first | (cases e; decide) | skip
    all_goals simp_all
  | 5, e =>
    unfold sCarry at e
    split at e
    all_goals simp only [] at *
    all_goals (repeat' split at e)
    all_goals first | (cases e; decide) | skip
    all_goals simp_all
  | o + 11, e =>
    unfold sCarry at e
    split at e
    all_goals simp only [] at *
    all_goals (repeat' split at e)
    all_goals first | (cases e; decide) | skip
    all_goals simp_all
def c44 (M : xMe) : Prop := ∀ a, a < 1728 → ∃ v, v < 256 ∧ M.1 44 a = nI v
theorem c44_T {P : sP} {T : sT} {M : xMe} (h : cT T M) (hw : wT P T) : c44 M := fun a ha => ⟨_, hw.2.1 a ha, h.2.1 a ha⟩
section XWK
variable (l : Launch) (G : xG)
theorem L_work (P : sP) (hm : Nat → Option Nat) (hw : wP P) (e0 : Int32) : ∀ (n turn : Nat) (T : sT) (M : xMe), cP P M → cH P hm M → cT T M → wT P T → tMu T < n → turn + n ≤ 1000000 → xF l G y_Ma_work 7 [some (.ref 43), some (.int e0), some (.int (nI turn)), none] [] M (fun v M' => v = some (.int (sEnd P hm n T).1) ∧ cX (xOf (sEnd P hm n T)) M' ∧ c44 M' ∧ xfr [43, 44, 46, 47, 48, 49] M M') := by
  intro n
  induction n with
  | zero => intro turn T M _ _ _ _ h; omega
  | succ n ih =>
    intro turn T M hM hH hT hwT hmu hn
    have hT0 := hT
    obtain ⟨t1, t2, t3, t4, t5, t6, t7, t8, t9, t10, t11⟩ := hT
    obtain ⟨w1, w2, w3, w4, w5, w6, w7, w8, w9⟩ := id hwT
    obtain ⟨hl, hc⟩ := hM.2.2.2.1 (tF T) w5
    have hl40 := (hw.2.2.2.1 (tF T) w5).1
    refine xF_go o_Ma_work [7, 52, 59] 60 (fun K hK => ?_)
    repeat' ((conv => whnf); first | refine ⟨fun h => ?_, fun h => ?_⟩ | refine ⟨?_, ?_⟩ | refine hK _ _ _ _ ?_)
    · exact absurd (nI_lt (a := turn) (b := 1000000) (by omega) (by decide)) h
    · rw [t5]; exact vp_in_nI w5 (by decide)
    · rename_i hlt
      replace hlt : M.1 43 10 < M.1 9 (M.1 43 9).toNatClampNeg := by assumption
      rw [t5, nI_clamp (by omega), hl, t6, nI_ltI (by omega) (by omega)] at hlt
      have hq := List.getElem?_eq_getElem hlt
      clear hK K
      refine xF_go o_Ma_work [] 60 (fun K hK => ?_)
      repeat' ((conv => whnf); first | refine ⟨fun h => ?_, fun h => ?_⟩ | refine ⟨?_, ?_⟩ | refine hK _ _ _ _ ?_)
      · rename_i hd
        replace hd : ¬ M.1 43 13 = nI 2000 := by assumption
        rw [t10] at hd
        have hd' : ¬ tD T = 2000 := fun z => hd (by rw [z])
        rw [t5, t6, nI_40, nI_add]
        refine xF_callV o_Ma_work [.int (nI (tF T * 40 + tA T))] rfl z_Ma_carryOut i_Ma_carryOut v_Ma_carryOut l_Ma_92 rfl ⟨⟨by decide, by decide⟩, rfl, rfl⟩ (Nat.le_of_ble_eq_true rfl) rfl rfl rfl (E_carryOut l G P hm T M hM hw hH hT0 hwT _ hq) ?_
        intro v M' hQ
        clear hK K
        unfold qCarry at hQ
        cases hs : sCarry P hm T (pC P (tF T))[tA T] with
        | inl r =>
          rw [hs] at hQ
          obtain ⟨rfl, rfl, hr⟩ := hQ
          have es : sEnd P hm (n + 1) T = (r, T) := by
            show (match sTurn P hm T with | .inl r => (r, T) | .inr T' => sEnd P hm n T') = _
            unfold sTurn
            rw [hq]
            show (match (if tD T = 2000 then .inl 2 else match sCarry P hm T (pC P (tF T))[tA T] with
              | .inl r => .inl r
              | .inr T' => .inr (tDid T') : Int32 ⊕ sT) with | .inl r => (r, T) | .inr T' => sEnd P hm n T') = _
            rw [if_neg hd', hs]
          rw [es]
          refine xF_go o_Ma_work [7] 60 (fun K hK => ?_)
          repeat' ((conv => whnf); first | refine ⟨fun h => ?_, fun h => ?_⟩ | refine ⟨?_, ?_⟩ | refine hK _ _ _ _ ?_)
          · exact absurd (show r = -1 from by assumption) hr
          · show xF l G y_Ma_work 94 _ [.int r] M' _
            refine xF_iret o_Ma_work rfl rfl ?_
            exact ⟨rfl, cT_X (P := P) hT0 (sCarry_r hs), c44_T hT0 hwT, xfr.rf⟩
        | inr T' =>
          rw [hs] at hQ
          obtain ⟨rfl, hT', hfr⟩ := hQ
          have et : sTurn P hm T = .inr (tDid T') := by
            unfold sTurn
            rw [hq]
            show (if tD T = 2000 then .inl 2 else match sCarry P hm T (pC P (tF T))[tA T] with
              | .inl r => .inl r
              | .inr T' => .inr (tDid T') : Int32 ⊕ sT) = _
            rw [if_neg hd', hs]
          have es : sEnd P hm (n + 1) T = sEnd P hm n (tDid T') := by
            show (match sTurn P hm T with | .inl r => (r, T) | .inr T' => sEnd P hm n T') = _
            rw [et]
          rw [es]
          obtain ⟨g1, g2⟩ := sTurn_w hw (cH_w hH) hwT et
          refine xF_go o_Ma_work [7] 60 (fun K hK => ?_)
          repeat' ((conv => whnf); first | refine ⟨fun h => ?_, fun h => ?_⟩ | refine ⟨?_, ?_⟩ | refine hK _ _ _ _ ?_)
          · refine xF_lv (lv' := [some (.ref 43), some (.int e0), some (.int (nI turn + 1)), none]) (fun i v hi => by
              match i, hi with
              | 0, hi => exact hi
              | 1, hi => exact hi
              | 2, hi => exact hi
              | 3, hi => cases hi
              | i + 4, hi => cases hi) ?_
            rw [nI_1]
            have hfr2 : xfr [43, 44, 46, 47, 48, 49] M (xsI M' 43 (upd (M'.1 43) 13 (M'.1 43 13 + 1))) := hfr.I (by simp)
            refine xF_post (fun v M2 hQ2 => ⟨hQ2.1, hQ2.2.1, hQ2.2.2.1, hfr2.tr hQ2.2.2.2 (fun _ z => z)⟩) (ih (turn + 1) (tDid T') _ (cP_fr hfr2 (by decide) hM) ?_ ?_ g1 (by omega) (by omega))
            · intro k hk
              rw [(hfr2 45 (by decide)).1]
              exact hH k hk
            · obtain ⟨t1, t2, t3, t4, t5, t6, t7, t8, t9, t10, t11⟩ := hT'
              refine ⟨t1, t2, t3, t4, t5, t6, t7, t8, t9, ?_, t11⟩
              show M'.1 43 13 + 1 = nI (tD T' + 1)
              rw [t10, nI_1]
          · exact absurd rfl h
      · rename_i hd
        replace hd : M.1 43 13 = nI 2000 := by assumption
        rw [t10] at hd
        have hd' : tD T = 2000 := nI_inj (by omega) (by decide) hd
        have es : sEnd P hm (n + 1) T = (2, T) := by
          show (match sTurn P hm T with | .inl r => (r, T) | .inr T' => sEnd P hm n T') = _
          unfold sTurn
          rw [hq]
          show (match (if tD T = 2000 then .inl 2 else match sCarry P hm T (pC P (tF T))[tA T] with
            | .inl r => .inl r
            | .inr T' => .inr (tDid T') : Int32 ⊕ sT) with | .inl r => (r, T) | .inr T' => sEnd P hm n T') = _
          rw [if_pos hd']
        rw [es]
        refine xF_iret o_Ma_work rfl rfl ?_
        exact ⟨rfl, cT_X (P := P) hT0 (by decide), c44_T hT0 hwT, xfr.rf⟩
    · rename_i hlt _
      replace hlt : ¬ M.1 43 10 < M.1 9 (M.1 43 9).toNatClampNeg := by assumption
      rw [t5, nI_clamp (by omega), hl, t6, nI_ltI (by omega) (by omega)] at hlt
      have hq : (pC P (tF T))[tA T]? = none := List.getElem?_eq_none (by omega)
      have h8 : ¬ M.1 43 8 = 1 := by assumption
      rw [t3] at h8
      have hN : ¬ tN T = 0 := fun z => h8 (by rw [z]; rfl)
      clear hK K
      refine xF_go o_Ma_work [] 60 (fun K hK => ?_)
      repeat' ((conv => whnf); first | refine ⟨fun h => ?_, fun h => ?_⟩ | refine ⟨?_, ?_⟩ | refine hK _ _ _ _ ?_)
      refine xF_callV o_Ma_work [] rfl z_Ma_leave i_Ma_leave v_Ma_leave l_Ma_89 rfl ⟨⟨by decide, by decide⟩, rfl, rfl⟩ (Nat.le_of_ble_eq_true rfl) rfl rfl rfl (E_leave l G (tN T + 1) (by omega) (by omega) M t3) ?_
      rintro v M' ⟨rfl, rfl⟩
      clear hK K
      have et : sTurn P hm T = .inr (tPop T) := by
        unfold sTurn
        rw [hq]
        show (if tN T = 0 then .inl 0 else .inr (tPop T) : Int32 ⊕ sT) = _
        rw [if_neg hN]
      have es : sEnd P hm (n + 1) T = sEnd P hm n (tPop T) := by
        show (match sTurn P hm T with | .inl r => (r, T) | .inr T' => sEnd P hm n T') = _
        rw [et]
      rw [es]
      obtain ⟨g1, g2⟩ := sTurn_w hw (cH_w hH) hwT et
      refine xF_go o_Ma_work [7] 60 (fun K hK => ?_)
      repeat' ((conv => whnf); first | refine ⟨fun h => ?_, fun h => ?_⟩ | refine ⟨?_, ?_⟩ | refine hK _ _ _ _ ?_)
      rw [nI_1]
      refine xF_post (fun v M2 hQ2 => ⟨hQ2.1, hQ2.2.1, hQ2.2.2.1, (xfr.rf.I (by simp)).tr hQ2.2.2.2 (fun _ z => z)⟩) (ih (turn + 1) (tPop T) _ (cP_fr (xfr.rf.I (S := [43, 44, 46, 47, 48, 49]) (by simp)) (by decide) hM) hH ?_ g1 (by omega) (by omega))
      have := t4 (tN T - 1) (by omega)
      refine ⟨t1, t2, ?_, fun i hi => t4 i (by have : i < tN T - 1 := hi; omega), ?_, ?_, t7, t8, t9, t10, t11⟩
      · show nI (tN T + 1 - 1) = nI (tN T - 1 + 1)
        rw [show tN T + 1 - 1 = tN T - 1 + 1 by omega]
      · show M.1 47 (tN T + 1 - 1) = nI (tK T (tN T - 1)).1
        rw [show tN T + 1 - 1 = tN T - 1 + 1 by omega]
        exact this.1
      · show M.1 48 (tN T + 1 - 1) = nI (tK T (tN T - 1)).2
        rw [show tN T + 1 - 1 = tN T - 1 + 1 by omega]
        exact this.2
    · rename_i hlt _
      replace hlt : ¬ M.1 43 10 < M.1 9 (M.1 43 9).toNatClampNeg := by assumption
      rw [t5, nI_clamp (by omega), hl, t6, nI_ltI (by omega) (by omega)] at hlt
      have hq : (pC P (tF T))[tA T]? = none := List.getElem?_eq_none (by omega)
      have h8 : M.1 43 8 = nI 1 := by assumption
      rw [t3] at h8
      have hN : tN T = 0 := by
        have := nI_inj (by omega) (by decide) h8
        omega
      have es : sEnd P hm (n + 1) T = (0, T) := by
        show (match sTurn P hm T with | .inl r => (r, T) | .inr T' => sEnd P hm n T') = _
        unfold sTurn
        rw [hq]
        show (match (if tN T = 0 then .inl 0 else .inr (tPop T) : Int32 ⊕ sT) with | .inl r => (r, T) | .inr T' => sEnd P hm n T') = _
        rw [if_pos hN]
      rw [es]
      refine xF_iret o_Ma_work rfl rfl ?_
      refine ⟨rfl, ⟨t11, t8, t9, fun _ => ⟨t10, rfl, rfl⟩⟩, (show c44 M from c44_T (P := P) hT0 hwT), (xfr.rf.I (by simp)).I (by simp)⟩
def t0 (m : Nat → Nat) (e : Nat) : sT := (fun _ => 0, m, fun _ => (0, 0), 0, e, 0, 0, [], 0)
theorem t0_w {P : sP} {m : Nat → Nat} {e : Nat} (hm : ∀ a, a < 1728 → m a < 256) (he : e < 12) : wT P (t0 m e) := ⟨fun _ _ => Nat.le_of_ble_eq_true rfl, hm, Nat.zero_le _, fun i hi => absurd hi (Nat.not_lt_zero _), he, Nat.zero_le _, Nat.zero_le _, Nat.zero_le _, Nat.zero_le _⟩
theorem E_work (P : sP) (hm : Nat → Option Nat) (hw : wP P) (e : Nat) (he : e < 12) (m : Nat → Nat) (hm2 : ∀ a, a < 1728 → m a < 256) (M : xMe) (hM : cP P M) (hH : cH P hm M) (hMm : ∀ a, a < 1728 → M.1 44 a = nI (m a)) : xE l G y_Ma_work [.ref 43, .int (nI e)] M (fun v M' => v = some (.int (sEnd P hm 5000 (t0 m e)).1) ∧ cX (xOf (sEnd P hm 5000 (t0 m e))) M' ∧ c44 M' ∧ xfr [43, 44, 46, 47, 48, 49] M M') := by
  refine xE_of [some (.ref 43), some (.int (nI e)), none, none] (by decide +kernel) (Nat.le_of_ble_eq_true rfl) rfl ?_
  refine xF_go o_Ma_work [7] 60 (fun K hK => ?_)
  repeat' ((conv => whnf); first | refine ⟨fun h => ?_, fun h => ?_⟩ | refine ⟨?_, ?_⟩ | refine hK _ _ _ _ ?_)
  refine xF_callV o_Ma_work [.int (nI e)] rfl z_Ma_begin i_Ma_begin v_Ma_begin l_Ma_78 rfl ⟨⟨by decide, by decide⟩, rfl, rfl⟩ (Nat.le_of_ble_eq_true rfl) rfl rfl rfl (E_begin l G (nI e) M) ?_
  rintro v M' ⟨rfl, F, rfl, f7, f8, f9, f10, f11, f12, f13⟩
  clear hK K
  refine xF_go o_Ma_work [7] 60 (fun K hK => ?_)
  repeat' ((conv => whnf); first | refine ⟨fun h => ?_, fun h => ?_⟩ | refine ⟨?_, ?_⟩ | refine hK _ _ _ _ ?_)
  have hfr : xfr [43, 44, 46, 47, 48, 49] M (xsI (xsI M 46 (fun i => if i < 4 then 0 else M.1 46 i)) 43 F) := (xfr.rf.I (by simp)).I (by simp)
  refine xF_post (fun v M2 hQ2 => ⟨hQ2.1, hQ2.2.1, hQ2.2.2.1, hfr.tr hQ2.2.2.2 (fun _ z => z)⟩) (L_work l G P hm hw (nI e) 5000 0 (t0 m e) _ (cP_fr hfr (by decide) hM) hH ?_ (t0_w hm2 he) (Nat.le_of_ble_eq_true rfl) (by decide))
  refine ⟨fun r hr => ?_, hMm, f8, fun i hi => absurd hi (Nat.not_lt_zero _), f9, f10, f11, f12, (fun i v _ z => by cases z), f13, f7⟩
  show (if r < 4 then 0 else M.1 46 r) = _
  rw [if_pos hr]
  rfl
end XWK
