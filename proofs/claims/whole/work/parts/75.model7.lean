/-! the reference's reach: returned, empty, gets -/
section XM7
variable (l : Launch) (G : xG)
theorem L_returned (k : Nat) (hk : k < 12) (M0 : xMe) (m0 : Bool) (Q : Option Value → xMe → Prop) (hQ : Q none (xsI (xsL M0 71 (oRow (M0.2 71) (16 * k) (M0.2 78) 16)) 50 (upd (M0.1 50) 39 (b2 (m0 || oGr (M0.2 71) (16 * k) (M0.2 78) 16))))) : ∀ (m w : Nat), m + w = 16 → ∀ y, xF l G y_Mo_returned 34 [some (.ref 50), some (.int (nI k)), some (.int (nI w)), y, none] [] (xsI (xsL M0 71 (oRow (M0.2 71) (16 * k) (M0.2 78) w)) 50 (upd (M0.1 50) 39 (b2 (m0 || oGr (M0.2 71) (16 * k) (M0.2 78) w)))) Q := by
  have hmem : ∀ (F : Nat → Int64) (z : Int32) (F' : Nat → Int64) (z' : Int32), xsL (xsI (xsI (xsL M0 71 F) 50 (upd (M0.1 50) 39 z)) 50 (upd (upd (M0.1 50) 39 z) 39 z')) 71 F' = xsI (xsL M0 71 F') 50 (upd (M0.1 50) 39 z') := by
    intro F z F' z'
    refine Prod.ext ?_ ?_
    · funext c i
      show (if c = 50 then upd (upd (M0.1 50) 39 z) 39 z' else if c = 50 then _ else M0.1 c) i = (if c = 50 then upd (M0.1 50) 39 z' else M0.1 c) i
      by_cases e : c = 50
      · rw [if_pos e, if_pos e]
        unfold upd
        by_cases e2 : i = 39
        · rw [if_pos e2, if_pos e2]
        · rw [if_neg e2, if_neg e2, if_neg e2]
      · rw [if_neg e, if_neg e, if_neg e]
    · funext c i
      show (if c = 71 then F' else if c = 71 then F else M0.2 c) i = (if c = 71 then F' else M0.2 c) i
      by_cases e : c = 71
      · rw [if_pos e, if_pos e]
      · rw [if_neg e, if_neg e, if_neg e]
  intro m
  induction m with
  | zero =>
    intro w hw y
    obtain rfl : w = 16 := by omega
    refine xF_go o_Mo_returned [34] 60 (fun K hK => ?_)
    repeat' ((conv => whnf); first | refine ⟨fun h => ?_, fun h => ?_⟩ | refine ⟨?_, ?_⟩ | refine hK _ _ _ _ ?_)
    · refine xF_vret o_Mo_returned rfl rfl ?_
      exact hQ
    all_goals exact absurd (show nI 16 < nI 16 from by assumption) (nI_nlt (by omega) (by omega))
  | succ m ih =>
    intro w hw y
    have e16 : 16 * nI k + nI w = nI (16 * k + w) := by rw [show 16 * nI k = nI (16 * k) from pk_mul 16 k, nI_add]
    have i1 : vp_in (16 * nI k + nI w) 192 := by rw [e16]; exact vp_in_nI (by omega) (by decide)
    have c1 : (16 * nI k + nI w).toNatClampNeg = 16 * k + w := by rw [e16, nI_clamp (by omega)]
    have c2 : (nI w).toNatClampNeg = w := nI_clamp (by omega)
    have i2 : vp_in (nI w) 16 := vp_in_nI (by omega) (by decide)
    have hih := ih (w + 1) (by omega)
    generalize hF : oRow (M0.2 71) (16 * k) (M0.2 78) w = F at *
    have f1 : F (16 * k + w) = M0.2 71 (16 * k + w) := by rw [← hF]; exact oRow_n _ _ _ _
    have es : oRow (M0.2 71) (16 * k) (M0.2 78) (w + 1) = vp_updL F (16 * k + w) (F (16 * k + w) ||| M0.2 78 w) := by rw [oRow_s, hF]
    rw [es, oGr_s, ← Bool.or_assoc] at hih
    have fin : ∀ (z' : Int32), z' = b2 (m0 || oGr (M0.2 71) (16 * k) (M0.2 78) w || decide (¬ M0.2 71 (16 * k + w) ||| M0.2 78 w = M0.2 71 (16 * k + w))) → ∀ y, xF l G y_Mo_returned 34 [some (.ref 50), some (.int (nI k)), some (.int (nI (w + 1))), y, none] [] (xsL (xsI (xsI (xsL M0 71 F) 50 (upd (M0.1 50) 39 (b2 (m0 || oGr (M0.2 71) (16 * k) (M0.2 78) w)))) 50 (upd (upd (M0.1 50) 39 (b2 (m0 || oGr (M0.2 71) (16 * k) (M0.2 78) w))) 39 z')) 71 (vp_updL F (16 * k + w) (F (16 * k + w) ||| M0.2 78 w))) Q := by
      intro z' hz y
      rw [hmem, hz]
      exact hih y
    refine xF_go o_Mo_returned [34] 60 (fun K hK => ?_)
    repeat' ((conv => whnf); first | refine ⟨fun h => ?_, fun h => ?_⟩ | refine ⟨?_, ?_⟩ | refine hK _ _ _ _ ?_)
    · exact absurd (nI_lt (b := 16) (by omega) (by omega)) h
    · exact i1
    · exact i2
    · exact Or.inr rfl
    · exact i1
    · have h0 : ¬ b2 (m0 || oGr (M0.2 71) (16 * k) (M0.2 78) w) = 0 := by assumption
      have ht : (m0 || oGr (M0.2 71) (16 * k) (M0.2 78) w) = true := by
        cases e : (m0 || oGr (M0.2 71) (16 * k) (M0.2 78) w) with
        | true => rfl
        | false => rw [e] at h0; exact absurd rfl h0
      rw [nI_1, c1, c2]
      exact fin 1 (by rw [ht, Bool.true_or]; rfl) _
    · exact i1
    · exact Or.inl rfl
    · exact i1
    · have h0 : b2 (m0 || oGr (M0.2 71) (16 * k) (M0.2 78) w) = 0 := by assumption
      have hf : (m0 || oGr (M0.2 71) (16 * k) (M0.2 78) w) = false := by
        cases e : (m0 || oGr (M0.2 71) (16 * k) (M0.2 78) w) with
        | false => rfl
        | true => rw [e] at h0; exact absurd h0 (by decide)
      have h1 : lg_cmp (F (16 * nI k + nI w).toNatClampNeg ||| M0.2 78 (nI w).toNatClampNeg) (F (16 * nI k + nI w).toNatClampNeg) = 0 := by assumption
      rw [c1, c2, xcmp0, f1] at h1
      rw [nI_1, c1, c2]
      exact fin 0 (by rw [hf, Bool.false_or, decide_eq_false (fun z => z h1)]; rfl) _
    · exact Or.inr rfl
    · exact i1
    · have h0 : b2 (m0 || oGr (M0.2 71) (16 * k) (M0.2 78) w) = 0 := by assumption
      have hf : (m0 || oGr (M0.2 71) (16 * k) (M0.2 78) w) = false := by
        cases e : (m0 || oGr (M0.2 71) (16 * k) (M0.2 78) w) with
        | false => rfl
        | true => rw [e] at h0; exact absurd h0 (by decide)
      have h1 : ¬ lg_cmp (F (16 * nI k + nI w).toNatClampNeg ||| M0.2 78 (nI w).toNatClampNeg) (F (16 * nI k + nI w).toNatClampNeg) = 0 := by assumption
      rw [c1, c2, xcmp0, f1] at h1
      rw [nI_1, c1, c2]
      exact fin 1 (by rw [hf, Bool.false_or, decide_eq_true h1]; rfl) _
theorem E_returned (U : sU) (N : Nat → Nat → Prop) (m : Bool) (M : xMe) (hU : mU U M) (hN : nw N M) (hm : mo m M) (f : Nat) (hf : f < 12) : xE l G y_Mo_returned [.ref 50, .int (nI f)] M (fun v M' => v = none ∧ mU (uRet U f N) M' ∧ (∃ b, mo (m || b) M' ∧ (b = true ↔ uRw U f N)) ∧ ufr [71, 73] M M') := by
  have hcl : (nI f).toNatClampNeg = f := nI_clamp (by omega)
  obtain ⟨h1, h2, h3, h4, h5, h6, h7, h8, h9⟩ := hU
  obtain ⟨b0, hb0, hb1⟩ := h5 f hf
  have main : ∀ z : Int32, (∃ b, z = b2 (m || b) ∧ (b = true ↔ ¬ uR U f)) → xF l G y_Mo_returned 22 [some (.ref 50), some (.int (nI f)), none, none, none] [.int z, .ref 50] M (fun v M' => v = none ∧ mU (uRet U f N) M' ∧ (∃ b, mo (m || b) M' ∧ (b = true ↔ uRw U f N)) ∧ ufr [71, 73] M M') := by
    rintro z ⟨b, hz, hbc⟩
    refine xF_go o_Mo_returned [34] 60 (fun K hK => ?_)
    repeat' ((conv => whnf); first | refine ⟨fun h => ?_, fun h => ?_⟩ | refine ⟨?_, ?_⟩ | refine hK _ _ _ _ ?_)
    · rw [hz]; exact b2_01 _
    · exact vp_in_nI (N := 12) (by omega) (by decide)
    · exact Or.inr rfl
    · rw [nI_clamp (by omega), hz]
      clear hK K
      have hmem : xsI (xsI M 50 (upd (M.1 50) 39 (b2 (m || b)))) 73 (upd (M.1 73) f 1) = xsI (xsL (xsI (xsI M 50 (upd (M.1 50) 39 (b2 (m || b)))) 73 (upd (M.1 73) f 1)) 71 (oRow (M.2 71) (16 * f) (M.2 78) 0)) 50 (upd (upd (M.1 50) 39 (b2 (m || b))) 39 (b2 (m || b || oGr (M.2 71) (16 * f) (M.2 78) 0))) := by
        rw [oRow_0, oGr_0, Bool.or_false]
        refine Prod.ext ?_ ?_
        · funext c i
          show (if c = 73 then upd (M.1 73) f 1 else if c = 50 then upd (M.1 50) 39 (b2 (m || b)) else M.1 c) i = (if c = 50 then upd (upd (M.1 50) 39 (b2 (m || b))) 39 (b2 (m || b)) else if c = 73 then upd (M.1 73) f 1 else if c = 50 then upd (M.1 50) 39 (b2 (m || b)) else M.1 c) i
          by_cases e : c = 50
          · subst e
            rw [if_neg (by decide), if_pos rfl, if_pos rfl]
            unfold upd
            by_cases e2 : i = 39
            · rw [if_pos e2, if_pos e2]
            · rw [if_neg e2, if_neg e2]
          · rw [if_neg e, if_neg e]
        · funext c i
          show M.2 c i = (if c = 71 then M.2 71 else M.2 c) i
          by_cases e : c = 71
          · rw [if_pos e, e]
          · rw [if_neg e]
      have key := L_returned l G f hf (xsI (xsI M 50 (upd (M.1 50) 39 (b2 (m || b)))) 73 (upd (M.1 73) f 1)) (m || b) (fun v M' => v = none ∧ mU (uRet U f N) M' ∧ (∃ b, mo (m || b) M' ∧ (b = true ↔ uRw U f N)) ∧ ufr [71, 73] M M') ?_ 16 0 (by omega) none
      · have key2 : xF l G y_Mo_returned 34 [some (.ref 50), some (.int (nI f)), some (.int (nI 0)), none, none] [] (xsI (xsL (xsI (xsI M 50 (upd (M.1 50) 39 (b2 (m || b)))) 73 (upd (M.1 73) f 1)) 71 (oRow (M.2 71) (16 * f) (M.2 78) 0)) 50 (upd (upd (M.1 50) 39 (b2 (m || b))) 39 (b2 (m || b || oGr (M.2 71) (16 * f) (M.2 78) 0)))) (fun v M' => v = none ∧ mU (uRet U f N) M' ∧ (∃ b, mo (m || b) M' ∧ (b = true ↔ uRw U f N)) ∧ ufr [71, 73] M M') := key
        rw [← hmem] at key2
        exact key2
      · refine ⟨rfl, ⟨h1, h2, ?_, h4, ?_, h6, h7, h8, h9⟩, ⟨b || oGr (M.2 71) (16 * f) (M.2 78) 16, ?_, ?_⟩, ?_⟩
        · intro f' hf' r hr v hv
          show sHas (oRow (M.2 71) (16 * f) (M.2 78) 16) (16 * f' + 4 * r) v = true ↔ (uB U f' r v ∨ (f' = f ∧ N r v))
          by_cases e : f' = f
          · subst e
            rw [sHas_row _ _ _ hr hv, Bool.or_eq_true, h3 f' hf' r hr v hv, hN r hr v hv]
            simp
          · rw [sHas_row_o _ _ _ hv (by omega), h3 f' hf' r hr v hv]
            exact ⟨Or.inl, fun z => z.elim id (fun z => absurd z.1 e)⟩
        · intro f' hf'
          show ∃ b, upd (M.1 73) f 1 f' = b2 b ∧ (b = true ↔ (uR U f' ∨ f' = f))
          by_cases e : f' = f
          · subst e
            exact ⟨true, by rw [upd_s]; rfl, fun _ => Or.inr rfl, fun _ => rfl⟩
          · obtain ⟨c, e1, e2⟩ := h5 f' hf'
            exact ⟨c, by rw [upd_n e]; exact e1, e2.trans ⟨Or.inl, fun z => z.elim id (fun z => absurd z e)⟩⟩
        · show b2 (m || b || oGr (M.2 71) (16 * f) (M.2 78) 16) = b2 (m || (b || oGr (M.2 71) (16 * f) (M.2 78) 16))
          rw [Bool.or_assoc]
        · rw [Bool.or_eq_true, hbc, oGr_iff]
          refine or_congr Iff.rfl ⟨fun ⟨r, hr, v, hv, z1, z2⟩ => ⟨r, hr, v, hv, (hN r hr v hv).mp z1, fun z => ?_⟩, fun ⟨r, hr, v, hv, z1, z2⟩ => ⟨r, hr, v, hv, (hN r hr v hv).mpr z1, ?_⟩⟩
          · rw [(h3 f hf r hr v hv).mpr z] at z2
            cases z2
          · cases e : sHas (M.2 71) (16 * f + 4 * r) v with
            | false => rfl
            | true => exact absurd ((h3 f hf r hr v hv).mp e) z2
        · exact (((ufr.rf.F).I (by simp) (by decide)).L (by simp)).F
  refine xE_of [some (.ref 50), some (.int (nI f)), none, none, none] (by decide +kernel) (Nat.le_of_ble_eq_true rfl) rfl ?_
  refine xF_go o_Mo_returned [22] 60 (fun K hK => ?_)
  repeat' ((conv => whnf); first | refine ⟨fun h => ?_, fun h => ?_⟩ | refine ⟨?_, ?_⟩ | refine hK _ _ _ _ ?_)
  · have h0 : ¬ M.1 50 39 = 0 := by assumption
    rw [hm] at h0
    have hmt : m = true := by
      cases m with
      | true => rfl
      | false => exact absurd rfl h0
    subst hmt
    refine main 1 ?_
    by_cases hc : uR U f
    · exact ⟨false, rfl, (fun z => by cases z), fun z => absurd hc z⟩
    · exact ⟨true, rfl, fun _ => hc, fun _ => rfl⟩
  · exact vp_in_nI hf (by decide)
  · have h0 : M.1 50 39 = 0 := by assumption
    rw [hm] at h0
    have hmf : m = false := by
      cases m with
      | false => rfl
      | true => exact absurd h0 (by decide)
    have hc0 : ¬ M.1 73 (nI f).toNatClampNeg = 0 := by assumption
    rw [hcl, hb0] at hc0
    have hbt : b0 = true := by
      cases b0 with
      | true => rfl
      | false => exact absurd rfl hc0
    subst hmf
    exact main 0 ⟨false, rfl, (fun z => by cases z), fun z => absurd (hb1.mp hbt) z⟩
  · have h0 : M.1 50 39 = 0 := by assumption
    rw [hm] at h0
    have hmf : m = false := by
      cases m with
      | false => rfl
      | true => exact absurd h0 (by decide)
    have hc0 : M.1 73 (nI f).toNatClampNeg = 0 := by assumption
    rw [hcl, hb0] at hc0
    subst hmf
    refine main 1 ⟨true, rfl, fun _ z => ?_, fun _ => rfl⟩
    rw [hb1.mpr z] at hc0
    exact absurd hc0 (by decide)
theorem updL_lt {g h : Nat → Int64} {k i : Nat} : vp_updL (fun j => if j < k then h j else g j) k (h k) i = if i < k + 1 then h i else g i := by
  unfold vp_updL
  by_cases e : i = k
  · subst e
    rw [if_pos rfl, if_pos (by omega)]
  · rw [if_neg e]
    by_cases e2 : i < k
    · rw [if_pos (show i < k + 1 by omega)]; exact if_pos e2
    · rw [if_neg (show ¬ i < k + 1 by omega)]; exact if_neg e2
theorem L_empty (M0 : xMe) (Q : Option Value → xMe → Prop) (hQ : Q none (xsL M0 79 (fun i => if i < 4 then 0 else M0.2 79 i))) : ∀ (m w : Nat), m + w = 4 → xF l G y_Mo_empty 2 [some (.ref 50), some (.int (nI w))] [] (xsL M0 79 (fun i => if i < w then 0 else M0.2 79 i)) Q := by
  intro m
  induction m with
  | zero =>
    intro w hw
    obtain rfl : w = 4 := by omega
    refine xF_go o_Mo_empty [2] 60 (fun K hK => ?_)
    repeat' ((conv => whnf); first | refine ⟨fun h => ?_, fun h => ?_⟩ | refine ⟨?_, ?_⟩ | refine hK _ _ _ _ ?_)
    · refine xF_vret o_Mo_empty rfl rfl ?_
      exact hQ
    all_goals exact absurd (show nI 4 < nI 4 from by assumption) (nI_nlt (by omega) (by omega))
  | succ m ih =>
    intro w hw
    have hih := ih (w + 1) (by omega)
    refine xF_go o_Mo_empty [2] 60 (fun K hK => ?_)
    repeat' ((conv => whnf); first | refine ⟨fun h => ?_, fun h => ?_⟩ | refine ⟨?_, ?_⟩ | refine hK _ _ _ _ ?_)
    · exact absurd (nI_lt (b := 4) (by omega) (by omega)) h
    · exact vp_in_nI (N := 4) (by omega) (by decide)
    · rw [nI_1, nI_clamp (by omega), xsL_LL]
      rw [xsL_c (g := vp_updL (fun i => if i < w then 0 else M0.2 79 i) w 0) (fun i => (updL_lt (h := fun _ => 0)).symm)] at hih
      exact hih
theorem E_empty (M : xMe) : xE l G y_Mo_empty [.ref 50] M (fun v M' => v = none ∧ stZ (fun _ => False) M' ∧ ufr [79] M M' ∧ M'.1 = M.1) := by
  refine xE_of [some (.ref 50), none] (by decide +kernel) (Nat.le_of_ble_eq_true rfl) rfl ?_
  refine xF_go o_Mo_empty [2] 60 (fun K hK => ?_)
  repeat' ((conv => whnf); first | refine ⟨fun h => ?_, fun h => ?_⟩ | refine ⟨?_, ?_⟩ | refine hK _ _ _ _ ?_)
  have e0 : M = xsL M 79 (fun i => if i < 0 then 0 else M.2 79 i) := (xsL_id (fun i => by rw [if_neg (by omega)])).symm
  have key := L_empty l G M (fun v M' => v = none ∧ stZ (fun _ => False) M' ∧ ufr [79] M M' ∧ M'.1 = M.1) ⟨rfl, fun v hv => ?_, ufr.rf.L (by simp), rfl⟩ 4 0 (by omega)
  · rw [← e0] at key
    exact key
  · show xbit (if 0 + v / 64 < 4 then (0 : Int64) else M.2 79 (0 + v / 64)) (v % 64) = true ↔ False
    rw [if_pos (by omega), xbit_0]
    simp
theorem L_gets (r : Nat) (hr : r < 4) (M0 : xMe) (Q : Option Value → xMe → Prop) (hQ : Q none (xsL M0 78 (fun j => if 4 * r ≤ j ∧ j < 4 * r + 4 then M0.2 79 (j - 4 * r) else M0.2 78 j))) : ∀ (m w : Nat), m + w = 4 → xF l G y_Mo_gets 2 [some (.ref 50), some (.int (nI r)), some (.int (nI w))] [] (xsL M0 78 (fun j => if 4 * r ≤ j ∧ j < 4 * r + w then M0.2 79 (j - 4 * r) else M0.2 78 j)) Q := by
  intro m
  induction m with
  | zero =>
    intro w hw
    obtain rfl : w = 4 := by omega
    refine xF_go o_Mo_gets [2] 60 (fun K hK => ?_)
    repeat' ((conv => whnf); first | refine ⟨fun h => ?_, fun h => ?_⟩ | refine ⟨?_, ?_⟩ | refine hK _ _ _ _ ?_)
    · refine xF_vret o_Mo_gets rfl rfl ?_
      exact hQ
    all_goals exact absurd (show nI 4 < nI 4 from by assumption) (nI_nlt (by omega) (by omega))
  | succ m ih =>
    intro w hw
    have hih := ih (w + 1) (by omega)
    have e4 : 4 * nI r + nI w = nI (4 * r + w) := by rw [show 4 * nI r = nI (4 * r) from pk_mul 4 r, nI_add]
    refine xF_go o_Mo_gets [2] 60 (fun K hK => ?_)
    repeat' ((conv => whnf); first | refine ⟨fun h => ?_, fun h => ?_⟩ | refine ⟨?_, ?_⟩ | refine hK _ _ _ _ ?_)
    · exact absurd (nI_lt (b := 4) (by omega) (by omega)) h
    · exact vp_in_nI (N := 4) (by omega) (by decide)
    · rw [e4]; exact vp_in_nI (N := 16) (by omega) (by decide)
    · rw [e4, nI_1, nI_clamp (n := w) (by omega), nI_clamp (by omega), xsL_LL]
      rw [xsL_c (g := vp_updL (fun j => if 4 * r ≤ j ∧ j < 4 * r + w then M0.2 79 (j - 4 * r) else M0.2 78 j) (4 * r + w) (M0.2 79 w))] at hih
      · exact hih
      · intro i
        unfold vp_updL
        by_cases e : i = 4 * r + w
        · subst e
          rw [if_pos (by omega), if_pos rfl, show 4 * r + w - 4 * r = w by omega]
        · rw [if_neg e]
          by_cases e2 : 4 * r ≤ i ∧ i < 4 * r + w
          · rw [if_pos (by omega)]; exact (if_pos e2).symm
          · rw [if_neg (by omega)]; exact (if_neg e2).symm
theorem E_gets (N : Nat → Nat → Prop) (Z : Nat → Prop) (M : xMe) (hN : nw N M) (hZ : stZ Z M) (r : Nat) (hr : r < 4) : xE l G y_Mo_gets [.ref 50, .int (nI r)] M (fun v M' => v = none ∧ nw (rs N r Z) M' ∧ ufr [78] M M' ∧ M'.1 = M.1) := by
  refine xE_of [some (.ref 50), some (.int (nI r)), none] (by decide +kernel) (Nat.le_of_ble_eq_true rfl) rfl ?_
  refine xF_go o_Mo_gets [2] 60 (fun K hK => ?_)
  repeat' ((conv => whnf); first | refine ⟨fun h => ?_, fun h => ?_⟩ | refine ⟨?_, ?_⟩ | refine hK _ _ _ _ ?_)
  have e0 : M = xsL M 78 (fun j => if 4 * r ≤ j ∧ j < 4 * r + 0 then M.2 79 (j - 4 * r) else M.2 78 j) := (xsL_id (fun i => by rw [if_neg (by omega)])).symm
  have key := L_gets l G r hr M (fun v M' => v = none ∧ nw (rs N r Z) M' ∧ ufr [78] M M' ∧ M'.1 = M.1) ⟨rfl, fun q hq v hv => ?_, ufr.rf.L (by simp), rfl⟩ 4 0 (by omega)
  · rw [← e0] at key
    exact key
  · unfold sHas
    show xbit (if 4 * r ≤ 4 * q + v / 64 ∧ 4 * q + v / 64 < 4 * r + 4 then M.2 79 (4 * q + v / 64 - 4 * r) else M.2 78 (4 * q + v / 64)) (v % 64) = true ↔ _
    unfold rs
    by_cases e : q = r
    · subst e
      rw [if_pos (by omega), show 4 * q + v / 64 - 4 * q = v / 64 by omega]
      have := hZ v hv
      unfold sHas at this
      rw [Nat.zero_add] at this
      rw [this]
      simp
    · rw [if_neg (by omega)]
      have := hN q hq v hv
      unfold sHas at this
      rw [this]
      simp [e]
end XM7
