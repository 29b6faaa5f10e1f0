/-! a run as told, on both sides -/
def hTd : Nat → Option Nat := fun k => some (64 * k)
def tm (P : sP) : Nat → Nat := fun a => if a < 1536 then pO P (a / 64) (a % 64) else 0
def sRun (P : sP) (e : Nat) : Int32 × sT := sEnd P hTd 5000 (t0 (tm P) e)
def rRun (P : sP) (X : sX) (k : Int32) (X' : sX) (r : Int32) : Prop := (∃ e, e < 12 ∧ k = nI e ∧ pE P e = true ∧ r = (sRun P e).1 ∧ X' = xOf (sRun P e)) ∨ ((¬ ∃ e, e < 12 ∧ k = nI e ∧ pE P e = true) ∧ r = -1 ∧ X' = X)
theorem hTd_w {P : sP} (hw : wP P) : wH P hTd := by
  intro k hk a e
  have := (hw.1 k hk).1
  cases e
  omega
/-- memory behind the items as told matters to no run -/
def cut (T : sT) : sT := (tR T, fun a => if a < 1536 then tM T a else 0, T.2.2)
theorem sCarry_cut {P : sP} {T : sT} {q : Nat × Int32 × Int32 × Int32} (hw : wP P) (hT : wT P T) (hv : vN q) : sCarry P hTd (cut T) q = (sCarry P hTd T q).elim .inl (fun T' => .inr (cut T')) := by
  have hq12 := vN_le hv
  obtain ⟨o, a, b, c⟩ := q
  replace hq12 : o < 12 := hq12
  match o, hq12, hv with
  | 0, _, _ | 1, _, _ | 2, _, _ | 6, _, _ | 7, _, _ | 8, _, _ | 9, _, _ | 10, _, _ => rfl
  | 3, _, hv =>
    obtain ⟨k, hk, rfl, ek⟩ := vT_n hv.2.1
    show (if tR T (ix c) < pS P (ix (nI k)) then .inr (tPut (cut T) (ix a) (tM (cut T) (64 * ix (nI k) + tR T (ix c)))) else .inl 1 : Int32 ⊕ sT) = (if tR T (ix c) < pS P (ix (nI k)) then .inr (tPut T (ix a) (tM T (64 * ix (nI k) + tR T (ix c)))) else .inl 1 : Int32 ⊕ sT).elim .inl (fun T' => .inr (cut T'))
    rw [show ix (nI k) = k from ek]
    have := (hw.1 k hk).1
    split
    · show Sum.inr (tPut (cut T) (ix a) (if 64 * k + tR T (ix c) < 1536 then _ else _)) = _
      rw [if_pos (by omega)]
      rfl
    · rfl
  | 4, _, hv =>
    obtain ⟨k, hk, rfl, ek⟩ := vT_n hv.1
    show (if tR T (ix b) < pS P (ix (nI k)) then .inr (tTo (tR T, un (tM (cut T)) (64 * ix (nI k) + tR T (ix b)) (tR T (ix c)), T.2.2) (tA T + 1)) else .inl 1 : Int32 ⊕ sT) = (if tR T (ix b) < pS P (ix (nI k)) then .inr (tTo (tR T, un (tM T) (64 * ix (nI k) + tR T (ix b)) (tR T (ix c)), T.2.2) (tA T + 1)) else .inl 1 : Int32 ⊕ sT).elim .inl (fun T' => .inr (cut T'))
    rw [show ix (nI k) = k from ek]
    have := (hw.1 k hk).1
    split
    · show Sum.inr (tTo (tR T, un (tM (cut T)) (64 * k + tR T (ix b)) (tR T (ix c)), T.2.2) (tA T + 1)) = Sum.inr (tTo (tR T, (fun x => if x < 1536 then un (tM T) (64 * k + tR T (ix b)) (tR T (ix c)) x else 0), T.2.2) (tA T + 1))
      have e : un (tM (cut T)) (64 * k + tR T (ix b)) (tR T (ix c)) = (fun x => if x < 1536 then un (tM T) (64 * k + tR T (ix b)) (tR T (ix c)) x else 0) := by
        funext x
        show (if x = _ then _ else if x < 1536 then tM T x else 0) = (if x < 1536 then (if x = _ then _ else tM T x) else 0)
        grind
      rw [e]
    · rfl
  | 5, _, _ =>
    show (if tN T = 15 then .inl 3 else .inr _ : Int32 ⊕ sT) = (if tN T = 15 then .inl 3 else .inr _ : Int32 ⊕ sT).elim .inl (fun T' => .inr (cut T'))
    split <;> rfl
  | 11, _, hv =>
    obtain ⟨k, hk, rfl, ek⟩ := vT_n hv.2.1
    show (if tR T (ix c) < pS P (ix (nI k)) then match pR P (ix (nI k)) (tR T (ix c)) with
      | some t => .inr (tPut (cut T) (ix a) (tM (cut T) (64 * t)))
      | none => .inl 1 else .inl 1 : Int32 ⊕ sT) = (if tR T (ix c) < pS P (ix (nI k)) then match pR P (ix (nI k)) (tR T (ix c)) with
      | some t => .inr (tPut T (ix a) (tM T (64 * t)))
      | none => .inl 1 else .inl 1 : Int32 ⊕ sT).elim .inl (fun T' => .inr (cut T'))
    rw [show ix (nI k) = k from ek]
    have := (hw.1 k hk).1
    split
    · cases hr : pR P k (tR T (ix c)) with
      | none => rfl
      | some t =>
        have ht := hw.2.2.1 k hk _ (by omega) t hr
        show Sum.inr (tPut (cut T) (ix a) (if 64 * t < 1536 then _ else _)) = _
        rw [if_pos (by omega)]
        rfl
    · rfl
  | o + 12, hq, _ => omega
theorem sTurn_cut {P : sP} {T : sT} (hw : wP P) (hT : wT P T) : sTurn P hTd (cut T) = (sTurn P hTd T).elim .inl (fun T' => .inr (cut T')) := by
  cases hq : (pC P (tF T))[tA T]? with
  | none =>
    rw [sTurn_o hq, sTurn_o (T := cut T) hq]
    show (if tN T = 0 then .inl 0 else .inr _ : Int32 ⊕ sT) = _
    split <;> rfl
  | some q =>
    have hvq : vN q := (hw.2.2.2.1 (tF T) hT.2.2.2.2.1).2 q (List.mem_of_getElem? hq)
    rw [sTurn_i hq, sTurn_i (T := cut T) hq, sCarry_cut hw hT hvq]
    show (if tD T = 2000 then _ else _) = _
    split
    · rfl
    · cases sCarry P hTd T q <;> rfl
theorem sEnd_cut {P : sP} (hw : wP P) : ∀ (n : Nat) (T : sT), wT P T → sEnd P hTd n (cut T) = ((sEnd P hTd n T).1, cut (sEnd P hTd n T).2) := by
  intro n
  induction n with
  | zero => intro T _; rfl
  | succ n ih =>
    intro T hT
    have e := sTurn_cut hw hT
    cases ht : sTurn P hTd T with
    | inl r =>
      rw [ht] at e
      rw [sEnd_l ht, sEnd_l e]
    | inr T' =>
      rw [ht] at e
      rw [sEnd_r ht, sEnd_r e]
      exact ih T' (sTurn_w hw (hTd_w hw) hT ht).1
theorem run_cut {P : sP} (hw : wP P) {m m' : Nat → Nat} {e : Nat} (he : e < 12) (h : ∀ a, a < 1728 → m a < 256) (h' : ∀ a, a < 1728 → m' a < 256) (hm : ∀ a, a < 1536 → m a = m' a) : (sEnd P hTd 5000 (t0 m e)).1 = (sEnd P hTd 5000 (t0 m' e)).1 ∧ xOf (sEnd P hTd 5000 (t0 m e)) = xOf (sEnd P hTd 5000 (t0 m' e)) := by
  have e1 := sEnd_cut hw 5000 (t0 m e) (t0_w h he)
  have e2 := sEnd_cut hw 5000 (t0 m' e) (t0_w h' he)
  have e3 : cut (t0 m e) = cut (t0 m' e) := by
    have : (fun a => if a < 1536 then m a else 0) = (fun a => if a < 1536 then m' a else 0) := by
      funext a
      split
      · rename_i z; exact hm a z
      · rfl
    show ((fun _ => 0 : Nat → Nat), (fun a => if a < 1536 then m a else 0), _) = ((fun _ => 0 : Nat → Nat), (fun a => if a < 1536 then m' a else 0), _)
    rw [this]
    rfl
  rw [e3, e2] at e1
  have f1 := congrArg Prod.fst e1
  have f2 := congrArg xOf e1
  exact ⟨f1.symm, f2.symm⟩
theorem tm_w {P : sP} (hw : wP P) : ∀ a, a < 1728 → tm P a < 256 := by
  intro a ha
  unfold tm
  split
  · exact hw.2.1 _ (by omega) _ (by omega)
  · decide
section XRR
variable (l : Launch) (G : xG)
theorem E_run (P : sP) (X : sX) (M : xMe) (hM : cP P M) (hw : wP P) (hX : cX X M) (h44 : c44 M) (k : Int32) : xE l G y_DS_run [.ref 0, .int k] M (fun v M' => ∃ X' r, v = some (.int r) ∧ rRun P X k X' r ∧ cX X' M' ∧ c44 M' ∧ xfr [43, 44, 45, 46, 47, 48, 49] M M') := by
  refine xE_of [some (.ref 0), some (.int k)] (by decide +kernel) (Nat.le_of_ble_eq_true rfl) rfl ?_
  refine xF_go o_DS_run [] 60 (fun K hK => ?_)
  repeat' ((conv => whnf); first | refine ⟨fun h => ?_, fun h => ?_⟩ | refine ⟨?_, ?_⟩ | refine hK _ _ _ _ ?_)
  refine xF_callV o_DS_run [.int k] rfl z_Pr_hasEntry i_Pr_hasEntry v_Pr_hasEntry l_DS_99 rfl ⟨⟨by decide, by decide⟩, rfl, rfl⟩ (Nat.le_of_ble_eq_true rfl) rfl rfl rfl (E_hasEntry l G P M hM.2.2.2.2.1 k) ?_
  rintro w M1 ⟨rfl, b, rfl, hb⟩
  clear hK K
  refine xF_go o_DS_run [] 60 (fun K hK => ?_)
  repeat' ((conv => whnf); first | refine ⟨fun h => ?_, fun h => ?_⟩ | refine ⟨?_, ?_⟩ | refine hK _ _ _ _ ?_)
  · have h0 : ¬ b2 b = 0 := by assumption
    have hbt : b = true := by
      cases b with
      | true => rfl
      | false => exact absurd rfl h0
    obtain ⟨e, he, rfl, hpe⟩ := hb.mp hbt
    refine xF_callV o_DS_run [] rfl z_Ma_takeAsTold i_Ma_takeAsTold v_Ma_takeAsTold l_DS_102 rfl ⟨⟨by decide, by decide⟩, rfl, rfl⟩ (Nat.le_of_ble_eq_true rfl) rfl rfl rfl (E_takeAsTold l G M1) ?_
    rintro w M2 ⟨rfl, g1, g2, g3, hfr⟩
    clear hK K
    refine xF_go o_DS_run [] 60 (fun K hK => ?_)
    repeat' ((conv => whnf); first | refine ⟨fun h => ?_, fun h => ?_⟩ | refine ⟨?_, ?_⟩ | refine hK _ _ _ _ ?_)
    obtain ⟨m, hm1, hm2, hm3⟩ : ∃ m : Nat → Nat, (∀ a, a < 1728 → m a < 256) ∧ (∀ a, a < 1536 → m a = tm P a) ∧ (∀ a, a < 1728 → M2.1 44 a = nI (m a)) := by
      refine ⟨fun a => if a < 1536 then tm P a else (M1.1 44 a).toNatClampNeg, fun a ha => ?_, fun a ha => if_pos ha, fun a ha => ?_⟩
      · show (if a < 1536 then tm P a else (M1.1 44 a).toNatClampNeg) < 256
        split
        · exact tm_w hw a ha
        · obtain ⟨v, hv, e⟩ := h44 a ha
          rw [e, nI_clamp (by omega)]
          exact hv
      · show _ = nI (if a < 1536 then tm P a else (M1.1 44 a).toNatClampNeg)
        split
        · rename_i hlt
          rw [g2 a hlt]
          unfold tm
          rw [if_pos hlt]
          have := hM.2.1 (a / 64) (by omega) (a % 64) (by omega)
          rw [show a / 64 * 64 + a % 64 = a by omega] at this
          exact this
        · obtain ⟨v, hv, e⟩ := h44 a ha
          rw [g3 a (by omega), e, nI_clamp (by omega)]
    have hH : cH P hTd M2 := by
      intro k hk
      have := (hw.1 k hk).1
      refine ⟨?_, fun a z => ?_⟩
      · rw [g1 k hk]
        show nI (k * 64) = nI (64 * k)
        rw [Nat.mul_comm]
      · cases z; omega
    refine xF_callV o_DS_run [.int (nI e)] rfl z_Ma_work i_Ma_work v_Ma_work l_DS_105 rfl ⟨⟨by decide, by decide⟩, rfl, rfl⟩ (Nat.le_of_ble_eq_true rfl) rfl rfl rfl (E_work l G P hTd hw e he m hm1 M2 (cP_fr hfr (by decide) hM) hH hm3) ?_
    rintro w M3 ⟨rfl, q1, q2, q3⟩
    clear hK K
    obtain ⟨c1, c2⟩ := run_cut hw he hm1 (tm_w hw) hm2
    rw [c2] at q1
    rw [c1]
    refine xF_go o_DS_run [] 60 (fun K hK => ?_)
    repeat' ((conv => whnf); first | refine ⟨fun h => ?_, fun h => ?_⟩ | refine ⟨?_, ?_⟩ | refine hK _ _ _ _ ?_)
    refine xF_iret o_DS_run rfl rfl ?_
    exact ⟨xOf (sRun P e), _, rfl, Or.inl ⟨e, he, rfl, hpe, rfl, rfl⟩, q1, q2, (hfr.mono (by simp)).tr (q3.mono (by simp)) (fun _ z => z)⟩
  · have h0 : b2 b = 0 := by assumption
    have hbf : ¬ ∃ j, j < 12 ∧ k = nI j ∧ pE P j = true := fun z => by
      rw [hb.mpr z] at h0
      exact absurd h0 (by decide)
    refine xF_iret o_DS_run rfl rfl ?_
    exact ⟨X, -1, rfl, Or.inr ⟨hbf, rfl, rfl⟩, hX, h44, xfr.rf⟩
def mst (M : xMe) (i : Nat) : Int32 := if M.1 50 25 = 0 then (if i < 1536 then M.1 54 i else 0) else M.1 89 i
theorem L_mreg (M0 : xMe) (e : Int32) (Q : Option Value → xMe → Prop) (hnext : xF l G y_Mo_goes 37 [some (.ref 50), some (.int e), some (.int 0), some (.int (nI 4)), none, none, none, none, none, none, none] [] (xsI M0 65 (fun i => if i < 4 then 0 else M0.1 65 i)) Q) : ∀ (m k : Nat), m + k = 4 → xF l G y_Mo_goes 19 [some (.ref 50), some (.int e), some (.int 0), some (.int (nI k)), none, none, none, none, none, none, none] [] (xsI M0 65 (fun i => if i < k then 0 else M0.1 65 i)) Q := by
  intro m
  induction m with
  | zero =>
    intro k hk
    refine xF_go o_Mo_goes [19, 37] 60 (fun K hK => ?_)
    repeat' ((conv => whnf); first | refine ⟨fun h => ?_, fun h => ?_⟩ | refine ⟨?_, ?_⟩ | refine hK _ _ _ _ ?_)
    · have e : k = 4 := by omega
      subst e
      exact hnext
    all_goals exact absurd (show nI k < nI 4 from by assumption) (nI_nlt (by omega) (by omega))
  | succ m ih =>
    intro k hk
    refine xF_go o_Mo_goes [19, 37] 60 (fun K hK => ?_)
    repeat' ((conv => whnf); first | refine ⟨fun h => ?_, fun h => ?_⟩ | refine ⟨?_, ?_⟩ | refine hK _ _ _ _ ?_)
    · exact absurd (nI_lt (b := 4) (by omega) (by omega)) h
    · exact vp_in_nI (N := 4) (by omega) (by decide)
    · rw [nI_1, nI_clamp (by omega), xsI_II, xsI_s]
      have e := ih (k + 1) (by omega)
      rw [xsI_c (g := upd (fun i => if i < k then 0 else M0.1 65 i) k 0)] at e
      · exact e
      · intro i
        unfold upd
        grind
theorem L_mstand (M0 : xMe) (e : Int32) (Q : Option Value → xMe → Prop) (hnext : xF l G y_Mo_goes 91 [some (.ref 50), some (.int e), some (.int 0), some (.int (nI 3072)), none, none, none, none, none, none, none] [] (xsI M0 64 (fun i => if i < 3072 then mst M0 i else M0.1 64 i)) Q) : ∀ (m k : Nat), m + k = 3072 → xF l G y_Mo_goes 39 [some (.ref 50), some (.int e), some (.int 0), some (.int (nI k)), none, none, none, none, none, none, none] [] (xsI M0 64 (fun i => if i < k then mst M0 i else M0.1 64 i)) Q := by
  intro m
  induction m with
  | zero =>
    intro k hk
    refine xF_go o_Mo_goes [39, 91] 60 (fun K hK => ?_)
    repeat' ((conv => whnf); first | refine ⟨fun h => ?_, fun h => ?_⟩ | refine ⟨?_, ?_⟩ | refine hK _ _ _ _ ?_)
    · have e : k = 3072 := by omega
      subst e
      exact hnext
    all_goals exact absurd (show nI k < nI 3072 from by assumption) (nI_nlt (by omega) (by omega))
  | succ m ih =>
    intro k hk
    have hin : vp_in (nI k) 3072 := vp_in_nI (N := 3072) (by omega) (by decide)
    have fin : ∀ x, x = mst M0 k → xF l G y_Mo_goes 39 [some (.ref 50), some (.int e), some (.int 0), some (.int (nI k + 1)), none, none, none, none, none, none, none] [] (xsI (xsI M0 64 (fun i => if i < k then mst M0 i else M0.1 64 i)) 64 (upd ((xsI M0 64 (fun i => if i < k then mst M0 i else M0.1 64 i)).1 64) (nI k).toNatClampNeg x)) Q := by
      rintro x rfl
      rw [nI_1, nI_clamp (by omega), xsI_II, xsI_s]
      have e := ih (k + 1) (by omega)
      rw [xsI_c (g := upd (fun i => if i < k then mst M0 i else M0.1 64 i) k (mst M0 k))] at e
      · exact e
      · intro i
        unfold upd
        grind
    refine xF_go o_Mo_goes [39, 91] 60 (fun K hK => ?_)
    repeat' ((conv => whnf); first | refine ⟨fun h => ?_, fun h => ?_⟩ | refine ⟨?_, ?_⟩ | refine hK _ _ _ _ ?_)
    · exact absurd (nI_lt (b := 3072) (by omega) (by omega)) h
    · exact hin
    · have h25 : M0.1 50 25 = 0 := by assumption
      have hlt : ¬ nI k < nI 1536 := by assumption
      rw [nI_ltI (by omega) (by omega)] at hlt
      refine fin 0 ?_
      unfold mst
      rw [if_pos h25, if_neg hlt]
    · have hlt : nI k < nI 1536 := by assumption
      rw [nI_ltI (by omega) (by omega)] at hlt
      exact vp_in_nI (N := 1536) (by omega) (by decide)
    · exact hin
    · have h25 : M0.1 50 25 = 0 := by assumption
      have hlt : nI k < nI 1536 := by assumption
      rw [nI_ltI (by omega) (by omega)] at hlt
      refine fin (M0.1 54 (nI k).toNatClampNeg) ?_
      unfold mst
      rw [if_pos h25, if_pos hlt, nI_clamp (by omega)]
    · exact hin
    · exact hin
    · have h25 : ¬ M0.1 50 25 = 0 := by assumption
      refine fin (M0.1 89 (nI k).toNatClampNeg) ?_
      unfold mst
      rw [if_neg h25, nI_clamp (by omega)]
theorem E_goes (P : sP) (hm : Nat → Option Nat) (hw : wP P) (e : Nat) (he : e < 12) (m : Nat → Nat) (hm2 : ∀ a, a < 1728 → m a < 256) (M : xMe) (hM : mP P M) (hH : mH P hm M) (hMm : ∀ a, a < 1728 → mst M a = nI (m a)) (hs : sSafe P hm 5000 (t0 m e)) : xE l G y_Mo_goes [.ref 50, .int (nI e)] M (qGo P hm 5000 (t0 m e) M) := by
  refine xE_of [some (.ref 50), some (.int (nI e)), none, none, none, none, none, none, none, none, none] (by decide +kernel) (Nat.le_of_ble_eq_true rfl) rfl ?_
  refine xF_go o_Mo_goes [19] 60 (fun K hK => ?_)
  repeat' ((conv => whnf); first | refine ⟨fun h => ?_, fun h => ?_⟩ | refine ⟨?_, ?_⟩ | refine hK _ _ _ _ ?_)
  · exact Or.inr rfl
  clear hK K
  suffices hsf : ∀ M1, mfr M M1 → M1.1 50 24 = 1 → M1.1 50 20 = 0 → M1.1 50 21 = 0 → xF l G y_Mo_goes 19 [some (.ref 50), some (.int (nI e)), some (.int 0), some (.int (nI 0)), none, none, none, none, none, none, none] [] M1 (qGo P hm 5000 (t0 m e) M) from
    hsf _ (((mfr.rf.F (s := 24) (x := 1) (by simp)).F (s := 20) (x := 0) (by simp)).F (s := 21) (x := 0) (by simp)) rfl rfl rfl
  intro M1 hfr1 h24 h20 h21
  have e0 : M1 = xsI M1 65 (fun i => if i < 0 then 0 else M1.1 65 i) := (xsI_id (fun i => by rw [if_neg (by omega)])).symm
  have key := L_mreg l G M1 (nI e) (qGo P hm 5000 (t0 m e) M) ?_ 4 0 (by omega)
  · rw [← e0] at key
    exact key
  refine xF_go o_Mo_goes [39] 60 (fun K hK => ?_)
  repeat' ((conv => whnf); first | refine ⟨fun h => ?_, fun h => ?_⟩ | refine ⟨?_, ?_⟩ | refine hK _ _ _ _ ?_)
  clear hK K
  generalize hM2 : xsI M1 65 (fun i => if i < 4 then 0 else M1.1 65 i) = M2
  have hfr2 : mfr M M2 := by
    rw [← hM2]
    exact hfr1.I (by simp)
  have e0 : M2 = xsI M2 64 (fun i => if i < 0 then mst M2 i else M2.1 64 i) := (xsI_id (fun i => by rw [if_neg (by omega)])).symm
  have key := L_mstand l G M2 (nI e) (qGo P hm 5000 (t0 m e) M) ?_ 3072 0 (by omega)
  · rw [← e0] at key
    exact key
  refine xF_go o_Mo_goes [99] 60 (fun K hK => ?_)
  repeat' ((conv => whnf); first | refine ⟨fun h => ?_, fun h => ?_⟩ | refine ⟨?_, ?_⟩ | refine hK _ _ _ _ ?_)
  clear hK K
  have hfr3 : mfr M (xsI M2 64 (fun i => if i < 3072 then mst M2 i else M2.1 64 i)) := hfr2.I (by simp)
  refine xF_post (fun v M' hQ => qGo_tr hfr3 hQ) (L_mgo l G P hm hw (nI e) 5000 5000 (Nat.le_refl _) (t0 m e) _ 0 0 (nI e) 0 (hfr3.P hM) (hfr3.H hH) ?_ (t0_w hm2 he) ⟨⟨0, rfl, Nat.le_refl _, fun _ => rfl, Nat.le_refl _⟩, rfl, rfl, Or.inl rfl⟩ (Nat.le_of_ble_eq_true rfl) hs)
  refine ⟨fun r hr => ?_, fun a ha => ?_, fun i hi => absurd hi (Nat.not_lt_zero _), ?_, (fun i v _ z => by cases z), ?_, ?_⟩
  · rw [← hM2]
    show (if r < 4 then 0 else M1.1 65 r) = _
    rw [if_pos hr]
    rfl
  · show (if a < 3072 then mst M2 a else M2.1 64 a) = nI (m a)
    rw [if_pos (by omega), ← hMm a ha]
    unfold mst
    rw [hfr2.2 25 (by decide), (hfr2.1 54 (by decide)).1, (hfr2.1 89 (by decide)).1]
  · rw [← hM2]; exact h20
  · rw [← hM2]; exact h21
  · rw [← hM2]; exact h24
theorem E_Mrun (P : sP) (X : sX) (M : xMe) (hM : mP P M) (hw : wP P) (hX : mX X M) (k : Int32) (X' : sX) (r : Int32) (hr : rRun P X k X' r) : xE l G y_Mo_run [.ref 50, .int k] M (fun v M' => v = some (.int r) ∧ mX X' M' ∧ xfr [50, 64, 65, 66, 67, 68] M M' ∧ ∀ s, s ∉ [20, 21, 22, 23, 24, 25] → M'.1 50 s = M.1 50 s) := by
  refine xE_of [some (.ref 50), some (.int k)] (by decide +kernel) (Nat.le_of_ble_eq_true rfl) rfl ?_
  refine xF_go o_Mo_run [] 60 (fun K hK => ?_)
  repeat' ((conv => whnf); first | refine ⟨fun h => ?_, fun h => ?_⟩ | refine ⟨?_, ?_⟩ | refine hK _ _ _ _ ?_)
  refine xF_callS o_Mo_run [.int k, .int 0, .int 11] rfl z_Mo_in s_Mo_in l_Mo_157 rfl ⟨⟨by decide, by decide⟩, rfl, rfl⟩ (Nat.le_of_ble_eq_true rfl) rfl (E_in l G k 0 11 M) ?_
  rintro w M1 ⟨rfl, rfl⟩
  clear hK K
  by_cases hf : 0 ≤ k ∧ k ≤ 11
  · rw [if_pos hf]
    obtain ⟨e, he, rfl⟩ := nI_of12 (x := k) (by grind)
    have hcl : (nI e).toNatClampNeg = e := nI_clamp (by omega)
    have h5 := hM.2.2.2.2.1 e he
    refine xF_go o_Mo_run [] 60 (fun K hK => ?_)
    repeat' ((conv => whnf); first | refine ⟨fun h => ?_, fun h => ?_⟩ | refine ⟨?_, ?_⟩ | refine hK _ _ _ _ ?_)
    · exact absurd (show (1 : Int32) = 0 from by assumption) (by decide)
    · exact vp_in_nI he (by decide)
    · exact Or.inl rfl
    · have h0 : ¬ M1.1 62 (nI e).toNatClampNeg = 0 := by assumption
      rw [hcl, h5] at h0
      have hpe : pE P e = true := by
        cases hx : pE P e with
        | true => rfl
        | false => rw [hx] at h0; exact absurd rfl h0
      rcases hr with ⟨e', he', q1, q2, rfl, rfl⟩ | ⟨hn, -⟩
      · obtain rfl := nI_inj (by omega) (by omega) q1
        have hfr : xfr [50, 64, 65, 66, 67, 68] M1 (xsI M1 50 (upd (M1.1 50) 25 0)) := xfr.rf.I (by simp)
        have hM' : mP P (xsI M1 50 (upd (M1.1 50) 25 0)) := mP_fr hfr (by decide) rfl hM
        have hH' : mH P hTd (xsI M1 50 (upd (M1.1 50) 25 0)) := ⟨hTd_w hw, Or.inl ⟨rfl, fun _ _ => rfl⟩⟩
        have hst : ∀ a, a < 1728 → mst (xsI M1 50 (upd (M1.1 50) 25 0)) a = nI (tm P a) := by
          intro a ha
          unfold mst
          rw [if_pos (show (xsI M1 50 (upd (M1.1 50) 25 0)).1 50 25 = 0 from rfl)]
          unfold tm
          split
          · have := hM.2.1 (a / 64) (by omega) (a % 64) (by omega)
            rw [show a / 64 * 64 + a % 64 = a by omega] at this
            exact this
          · rfl
        refine xF_callV o_Mo_run [.int (nI e)] rfl z_Mo_goes i_Mo_goes v_Mo_goes l_Mo_201 rfl ⟨⟨by decide, by decide⟩, rfl, rfl⟩ (Nat.le_of_ble_eq_true rfl) rfl rfl rfl (E_goes l G P hTd hw e he (tm P) (tm_w hw) _ hM' hH' hst (sSafe_all hw (hTd_w hw) (fun k _ => ⟨_, rfl⟩) 5000 _ (t0_w (tm_w hw) he))) ?_
        rintro w M2 ⟨rfl, q1, q2⟩
        clear hK K
        refine xF_go o_Mo_run [] 60 (fun K hK => ?_)
        repeat' ((conv => whnf); first | refine ⟨fun h => ?_, fun h => ?_⟩ | refine ⟨?_, ?_⟩ | refine hK _ _ _ _ ?_)
        refine xF_iret o_Mo_run rfl rfl ?_
        refine ⟨rfl, q1, hfr.tr q2.1 (fun _ z => z), fun s hs => ?_⟩
        rw [q2.2 s (fun z => hs (by revert z; simp; omega)), xsI_s, upd_n (fun z => hs (by rw [z]; simp))]
      · exact absurd ⟨e, he, rfl, hpe⟩ hn
    · have h0 : M1.1 62 (nI e).toNatClampNeg = 0 := by assumption
      rw [hcl, h5] at h0
      rcases hr with ⟨e', he', q1, q2, rfl, rfl⟩ | ⟨hn, rfl, rfl⟩
      · obtain rfl := nI_inj (by omega) (by omega) q1
        rw [q2] at h0
        exact absurd h0 (by decide)
      · refine xF_iret o_Mo_run rfl rfl ?_
        exact ⟨rfl, hX, xfr.rf, fun _ _ => rfl⟩
  · rw [if_neg hf]
    refine xF_go o_Mo_run [] 60 (fun K hK => ?_)
    repeat' ((conv => whnf); first | refine ⟨fun h => ?_, fun h => ?_⟩ | refine ⟨?_, ?_⟩ | refine hK _ _ _ _ ?_)
    all_goals first | exact absurd rfl (show ¬ (0 : Int32) = 0 from by assumption) | skip
    rcases hr with ⟨e', he', q1, q2, rfl, rfl⟩ | ⟨hn, rfl, rfl⟩
    · exact absurd (by rw [q1]; exact ⟨nI_pos' (by omega), by have := nI_lt (b := 12) he' (by decide); have e12 : nI 12 = 12 := rfl; rw [e12] at this; grind⟩) hf
    · refine xF_iret o_Mo_run rfl rfl ?_
      exact ⟨rfl, hX, xfr.rf, fun _ _ => rfl⟩
end XRR
