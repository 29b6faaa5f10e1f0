/-! the reference's reach: stores -/
theorem sHas_row4 (f g : Nat → Int64) (t : Nat) {v : Nat} (hv : v < 256) : sHas (oRow f t g 4) t v = (sHas f t v || sHas g 0 v) := by
  unfold sHas oRow
  rw [if_pos (by omega), xbit_or, show t + v / 64 - t = 0 + v / 64 by omega]
theorem sHas_row4_o (f g : Nat → Int64) (t : Nat) {t' v : Nat} (hv : v < 256) (h : t + 4 ≤ t' ∨ t' + 4 ≤ t) : sHas (oRow f t g 4) t' v = sHas f t' v := by
  unfold sHas oRow
  rw [if_neg (by omega)]
theorem oGr4_iff (f g : Nat → Int64) (t : Nat) : oGr f t g 4 = true ↔ ∃ v, v < 256 ∧ sHas g 0 v = true ∧ sHas f t v = false := by
  unfold oGr
  rw [decide_eq_true_iff]
  constructor
  · rintro ⟨w, hw, h⟩
    have : ∃ q, q < 64 ∧ ¬ xbit (f (t + w) ||| g w) q = xbit (f (t + w)) q := by
      refine Classical.byContradiction (fun hn => h (xbit_ext (fun q hq => Classical.byContradiction (fun z => hn ⟨q, hq, z⟩))))
    obtain ⟨q, hq, hb⟩ := this
    rw [xbit_or] at hb
    refine ⟨64 * w + q, by omega, ?_, ?_⟩
    · unfold sHas
      rw [show 0 + (64 * w + q) / 64 = w by omega, show (64 * w + q) % 64 = q by omega]
      cases e : xbit (g w) q with
      | true => rfl
      | false => rw [e, Bool.or_false] at hb; exact absurd rfl hb
    · unfold sHas
      rw [show t + (64 * w + q) / 64 = t + w by omega, show (64 * w + q) % 64 = q by omega]
      cases e : xbit (f (t + w)) q with
      | false => rfl
      | true => rw [e, Bool.true_or] at hb; exact absurd rfl hb
  · rintro ⟨v, hv, h1, h2⟩
    refine ⟨v / 64, by omega, fun z => ?_⟩
    have := congrArg (fun x => xbit x (v % 64)) z
    simp only [xbit_or] at this
    unfold sHas at h1 h2
    rw [Nat.zero_add] at h1
    rw [h1, h2] at this
    cases this
theorem mem70 (M0 : xMe) (F : Nat → Int64) (z : Int32) (F' : Nat → Int64) (z' : Int32) : xsL (xsI (xsI (xsL M0 70 F) 50 (upd (M0.1 50) 39 z)) 50 (upd (upd (M0.1 50) 39 z) 39 z')) 70 F' = xsI (xsL M0 70 F') 50 (upd (M0.1 50) 39 z') := by
  refine Prod.ext ?_ ?_
  · funext c i
    show (if c = 50 then upd (upd (M0.1 50) 39 z) 39 z' else if c = 50 then _ else M0.1 c) i = (if c = 50 then upd (M0.1 50) 39 z' else M0.1 c) i
    by_cases e : c = 50
    · rw [if_pos e, if_pos e]
      unfold upd
      by_cases e2 : i = 39
      · rw [if_pos e2, if_pos e2]
      · rw [if_neg e2, if_neg e2, if_neg e2]
    · rw [if_neg e, if_neg e, if_neg e]
  · funext c i
    show (if c = 70 then F' else if c = 70 then F else M0.2 c) i = (if c = 70 then F' else M0.2 c) i
    by_cases e : c = 70
    · rw [if_pos e, if_pos e]
    · rw [if_neg e, if_neg e, if_neg e]
section XSW
variable (l : Launch) (G : xG)
theorem L_stw (k p r : Nat) (hk : k < 24) (hp : p < 64) (hr : r < 4) (q s : Int32) (M0 : xMe) (m0 : Bool) (g : Nat → Int64) (hg : g = fun w => M0.2 78 (4 * r + w)) (Q : Option Value → xMe → Prop) (hQ : ∀ y1 y2 y3, xF l G y_Mo_stores 124 [some (.ref 50), some (.int (nI k)), some (.int q), some (.int (nI r)), some (.int s), some (.int (nI p)), y1, y2, y3, none] [] (xsI (xsL M0 70 (oRow (M0.2 70) (4 * (64 * k + p)) g 4)) 50 (upd (M0.1 50) 39 (b2 (m0 || oGr (M0.2 70) (4 * (64 * k + p)) g 4)))) Q) : ∀ (m w : Nat), m + w = 4 → ∀ y2 y3, xF l G y_Mo_stores 39 [some (.ref 50), some (.int (nI k)), some (.int q), some (.int (nI r)), some (.int s), some (.int (nI p)), some (.int (nI w)), y2, y3, none] [] (xsI (xsL M0 70 (oRow (M0.2 70) (4 * (64 * k + p)) g w)) 50 (upd (M0.1 50) 39 (b2 (m0 || oGr (M0.2 70) (4 * (64 * k + p)) g w)))) Q := by
  intro m
  induction m with
  | zero =>
    intro w hw y2 y3
    obtain rfl : w = 4 := by omega
    refine xF_go o_Mo_stores [39, 124] 60 (fun K hK => ?_)
    repeat' ((conv => whnf); first | refine ⟨fun h => ?_, fun h => ?_⟩ | refine ⟨?_, ?_⟩ | refine hK _ _ _ _ ?_)
    · exact hQ _ _ _
    all_goals exact absurd (show nI 4 < nI 4 from by assumption) (nI_nlt (by omega) (by omega))
  | succ m ih =>
    intro w hw y2 y3
    have e1 : 4 * (64 * nI k + nI p) + nI w = nI (4 * (64 * k + p) + w) := may_n k p w
    have e2 : 4 * nI r + nI w = nI (4 * r + w) := by rw [four_n, nI_add]
    have i1 : vp_in (4 * (64 * nI k + nI p) + nI w) 6144 := by rw [e1]; exact vp_in_nI (by omega) (by decide)
    have i2 : vp_in (4 * nI r + nI w) 16 := by rw [e2]; exact vp_in_nI (by omega) (by decide)
    have c1 : (4 * (64 * nI k + nI p) + nI w).toNatClampNeg = 4 * (64 * k + p) + w := by rw [e1, nI_clamp (by omega)]
    have c2 : (4 * nI r + nI w).toNatClampNeg = 4 * r + w := by rw [e2, nI_clamp (by omega)]
    have hih := ih (w + 1) (by omega)
    generalize hF : oRow (M0.2 70) (4 * (64 * k + p)) g w = F at *
    have f1 : F (4 * (64 * k + p) + w) = M0.2 70 (4 * (64 * k + p) + w) := by rw [← hF]; exact oRow_n _ _ _ _
    have es : oRow (M0.2 70) (4 * (64 * k + p)) g (w + 1) = vp_updL F (4 * (64 * k + p) + w) (F (4 * (64 * k + p) + w) ||| g w) := by rw [oRow_s, hF]
    have egw : g w = M0.2 78 (4 * r + w) := by rw [hg]
    rw [es, oGr_s, ← Bool.or_assoc, egw] at hih
    have fin : ∀ (z' : Int32), z' = b2 (m0 || oGr (M0.2 70) (4 * (64 * k + p)) g w || decide (¬ M0.2 70 (4 * (64 * k + p) + w) ||| M0.2 78 (4 * r + w) = M0.2 70 (4 * (64 * k + p) + w))) → ∀ y2 y3, xF l G y_Mo_stores 39 [some (.ref 50), some (.int (nI k)), some (.int q), some (.int (nI r)), some (.int s), some (.int (nI p)), some (.int (nI (w + 1))), y2, y3, none] [] (xsL (xsI (xsI (xsL M0 70 F) 50 (upd (M0.1 50) 39 (b2 (m0 || oGr (M0.2 70) (4 * (64 * k + p)) g w)))) 50 (upd (upd (M0.1 50) 39 (b2 (m0 || oGr (M0.2 70) (4 * (64 * k + p)) g w))) 39 z')) 70 (vp_updL F (4 * (64 * k + p) + w) (F (4 * (64 * k + p) + w) ||| M0.2 78 (4 * r + w)))) Q := by
      intro z' hz y2 y3
      rw [mem70, hz]
      exact hih y2 y3
    refine xF_go o_Mo_stores [39, 124] 60 (fun K hK => ?_)
    repeat' ((conv => whnf); first | refine ⟨fun h => ?_, fun h => ?_⟩ | refine ⟨?_, ?_⟩ | refine hK _ _ _ _ ?_)
    · exact absurd (nI_lt (b := 4) (by omega) (by omega)) h
    · exact i1
    · exact i2
    · exact Or.inr rfl
    · exact i1
    · have h0 : ¬ b2 (m0 || oGr (M0.2 70) (4 * (64 * k + p)) g w) = 0 := by assumption
      have ht : (m0 || oGr (M0.2 70) (4 * (64 * k + p)) g w) = true := by
        cases e : (m0 || oGr (M0.2 70) (4 * (64 * k + p)) g w) with
        | true => rfl
        | false => rw [e] at h0; exact absurd rfl h0
      rw [nI_1, c1, c2]
      exact fin 1 (by rw [ht, Bool.true_or]; rfl) _ _
    · exact i1
    · exact Or.inl rfl
    · exact i1
    · have h0 : b2 (m0 || oGr (M0.2 70) (4 * (64 * k + p)) g w) = 0 := by assumption
      have hf : (m0 || oGr (M0.2 70) (4 * (64 * k + p)) g w) = false := by
        cases e : (m0 || oGr (M0.2 70) (4 * (64 * k + p)) g w) with
        | false => rfl
        | true => rw [e] at h0; exact absurd h0 (by decide)
      have h1 : lg_cmp (F (4 * (64 * nI k + nI p) + nI w).toNatClampNeg ||| M0.2 78 (4 * nI r + nI w).toNatClampNeg) (F (4 * (64 * nI k + nI p) + nI w).toNatClampNeg) = 0 := by assumption
      rw [c1, c2, xcmp0, f1] at h1
      rw [nI_1, c1, c2]
      exact fin 0 (by rw [hf, Bool.false_or, decide_eq_false (fun z => z h1)]; rfl) _ _
    · exact Or.inr rfl
    · exact i1
    · have h0 : b2 (m0 || oGr (M0.2 70) (4 * (64 * k + p)) g w) = 0 := by assumption
      have hf : (m0 || oGr (M0.2 70) (4 * (64 * k + p)) g w) = false := by
        cases e : (m0 || oGr (M0.2 70) (4 * (64 * k + p)) g w) with
        | false => rfl
        | true => rw [e] at h0; exact absurd h0 (by decide)
      have h1 : ¬ lg_cmp (F (4 * (64 * nI k + nI p) + nI w).toNatClampNeg ||| M0.2 78 (4 * nI r + nI w).toNatClampNeg) (F (4 * (64 * nI k + nI p) + nI w).toNatClampNeg) = 0 := by assumption
      rw [c1, c2, xcmp0, f1] at h1
      rw [nI_1, c1, c2]
      exact fin 1 (by rw [hf, Bool.false_or, decide_eq_true h1]; rfl) _ _
theorem L_stores (P : sP) (hw : wP P) (N : Nat → Nat → Prop) (Y : Nat → Nat → Nat → Prop) (k q r : Nat) (hk : k < 24) (hq : q < 4) (hr : r < 4) (m0 : Bool) (M0 : xMe) (hS : mS P M0) (hN : nw N M0) (Q : Option Value → xMe → Prop) (hQ : ∀ M (b c : Bool) y1 y2 y3 y4, ufr [70] M0 M → mo (m0 || c) M → (b = true ↔ ∃ p, p < pS P k ∧ N q p) → (c = true ↔ ∃ p, (p < pS P k ∧ N q p) ∧ ∃ v, v < 256 ∧ N r v ∧ ¬ Y k p v) → m70 (fun k' p v => Y k' p v ∨ (k' = k ∧ (p < pS P k ∧ N q p) ∧ N r v)) M → xF l G y_Mo_stores 130 [some (.ref 50), some (.int (nI k)), some (.int (nI q)), some (.int (nI r)), some (.int (b2 b)), y1, y2, y3, y4, none] [] M Q) : ∀ (m p : Nat), m + p = pS P k → ∀ M (b c : Bool) y2 y3 y4, ufr [70] M0 M → mo (m0 || c) M → (b = true ↔ ∃ x, x < p ∧ N q x) → (c = true ↔ ∃ x, (x < p ∧ N q x) ∧ ∃ v, v < 256 ∧ N r v ∧ ¬ Y k x v) → m70 (fun k' x v => Y k' x v ∨ (k' = k ∧ (x < p ∧ N q x) ∧ N r v)) M → xF l G y_Mo_stores 6 [some (.ref 50), some (.int (nI k)), some (.int (nI q)), some (.int (nI r)), some (.int (b2 b)), some (.int (nI p)), y2, y3, y4, none] [] M Q := by
  have hs64 := (hw.1 k hk).1
  have hcl : (nI k).toNatClampNeg = k := nI_clamp (by omega)
  intro m
  induction m with
  | zero =>
    intro p hp M b c y2 y3 y4 hfr hm hb hc hY
    obtain rfl : p = pS P k := by omega
    have hsz : M.1 51 (nI k).toNatClampNeg = nI (pS P k) := by rw [hcl, (hfr.1 51 (by decide)).1]; exact (hS k hk).1
    refine xF_go o_Mo_stores [6, 130] 60 (fun K hK => ?_)
    repeat' ((conv => whnf); first | refine ⟨fun h => ?_, fun h => ?_⟩ | refine ⟨?_, ?_⟩ | refine hK _ _ _ _ ?_)
    · exact vp_in_nI hk (by decide)
    · exact hQ M b c _ _ _ _ hfr hm hb hc hY
    all_goals
      have hlt : nI (pS P k) < M.1 51 (nI k).toNatClampNeg := by assumption
      rw [hsz, nI_ltI (by omega) (by omega)] at hlt
      omega
  | succ m ih =>
    intro p hp M b c y2 y3 y4 hfr hm hb hc hY
    have hsz : M.1 51 (nI k).toNatClampNeg = nI (pS P k) := by rw [hcl, (hfr.1 51 (by decide)).1]; exact (hS k hk).1
    have hp' : p < pS P k := by omega
    refine xF_go o_Mo_stores [6, 39, 130] 60 (fun K hK => ?_)
    repeat' ((conv => whnf); first | refine ⟨fun h => ?_, fun h => ?_⟩ | refine ⟨?_, ?_⟩ | refine hK _ _ _ _ ?_)
    · exact vp_in_nI hk (by decide)
    · have hlt : ¬ nI p < M.1 51 (nI k).toNatClampNeg := by assumption
      rw [hsz, nI_ltI (by omega) (by omega)] at hlt
      omega
    · rw [four_n]
      refine xF_callV o_Mo_stores [.ref 78, .int (nI (4 * q)), .int (nI p)] rfl z_Mo_hasValue i_Mo_hasValue v_Mo_hasValue l_Mo_214 rfl ⟨⟨by decide, by decide⟩, rfl, rfl⟩ (Nat.le_of_ble_eq_true rfl) rfl rfl rfl (E_hasValue l G 78 (by simp) (4 * q) p (by omega) (by show _ < 16; omega) M) ?_
      rintro v M1 ⟨rfl, rfl⟩
      clear hK K
      have hnp : sHas (M1.2 78) (4 * q) p = true ↔ N q p := by
        rw [(hfr.1 78 (by decide)).2]
        exact hN q hq p (by omega)
      cases hh : sHas (M1.2 78) (4 * q) p with
      | false =>
        have hno : ¬ N q p := fun z => by rw [hnp.mpr z] at hh; cases hh
        have hx : ∀ x, (x < p ∧ N q x) ↔ (x < p + 1 ∧ N q x) := by
          intro x
          constructor
          · exact fun z => ⟨by omega, z.2⟩
          · intro z
            refine ⟨?_, z.2⟩
            by_cases e : x = p
            · exact absurd (e ▸ z.2) hno
            · omega
        refine xF_go o_Mo_stores [6, 39, 130] 60 (fun K hK => ?_)
        repeat' ((conv => whnf); first | refine ⟨fun h => ?_, fun h => ?_⟩ | refine ⟨?_, ?_⟩ | refine hK _ _ _ _ ?_)
        all_goals first | exact absurd rfl (show ¬ b2 false = 0 from by assumption) | skip
        rw [nI_1]
        refine ih (p + 1) (by omega) M1 b c _ _ _ hfr hm (hb.trans ⟨fun ⟨x, z⟩ => ⟨x, (hx x).mp z⟩, fun ⟨x, z⟩ => ⟨x, (hx x).mpr z⟩⟩) (hc.trans ⟨fun ⟨x, z, z2⟩ => ⟨x, (hx x).mp z, z2⟩, fun ⟨x, z, z2⟩ => ⟨x, (hx x).mpr z, z2⟩⟩) (fun a ha x hx' v hv => (hY a ha x hx' v hv).trans (or_congr Iff.rfl (and_congr Iff.rfl (and_congr (hx x) Iff.rfl))))
      | true =>
        have hyes : N q p := hnp.mp hh
        have hx : ∀ x, (x < p + 1 ∧ N q x) ↔ ((x < p ∧ N q x) ∨ x = p) := by
          intro x
          constructor
          · intro z
            by_cases e : x = p
            · exact Or.inr e
            · exact Or.inl ⟨by omega, z.2⟩
          · rintro (z | rfl)
            · exact ⟨by omega, z.2⟩
            · exact ⟨by omega, hyes⟩
        refine xF_go o_Mo_stores [6, 39, 130] 60 (fun K hK => ?_)
        repeat' ((conv => whnf); first | refine ⟨fun h => ?_, fun h => ?_⟩ | refine ⟨?_, ?_⟩ | refine hK _ _ _ _ ?_)
        · exact absurd (show b2 true = 0 from by assumption) (by decide)
        · clear hK K
          have hgs : ∀ v, v < 256 → (sHas (fun w => M1.2 78 (4 * r + w)) 0 v = true ↔ N r v) := by
            intro v hv
            have := hN r hr v hv
            rw [← (hfr.1 78 (by decide)).2] at this
            unfold sHas at this ⊢
            rw [Nat.zero_add]
            exact this
          have e0 : M1 = xsI (xsL M1 70 (oRow (M1.2 70) (4 * (64 * k + p)) (fun w => M1.2 78 (4 * r + w)) 0)) 50 (upd (M1.1 50) 39 (b2 (m0 || c || oGr (M1.2 70) (4 * (64 * k + p)) (fun w => M1.2 78 (4 * r + w)) 0))) := by
            rw [oRow_0, oGr_0, Bool.or_false]
            have e1 : xsL M1 70 (M1.2 70) = M1 := xsL_id (fun i => rfl)
            rw [e1]
            refine (xsI_id (fun i => ?_)).symm
            unfold upd
            by_cases e : i = 39
            · rw [if_pos e, e]; exact hm.symm
            · rw [if_neg e]
          have key := L_stw l G k p r hk (by omega) hr (nI q) 1 M1 (m0 || c) _ rfl Q ?_ 4 0 (by omega)
          · rw [← e0] at key
            exact key _ _
          · intro z1 z2 z3
            refine xF_go o_Mo_stores [6] 60 (fun K hK => ?_)
            repeat' ((conv => whnf); first | refine ⟨fun h => ?_, fun h => ?_⟩ | refine ⟨?_, ?_⟩ | refine hK _ _ _ _ ?_)
            rw [nI_1]
            refine ih (p + 1) (by omega) _ true (c || oGr (M1.2 70) (4 * (64 * k + p)) (fun w => M1.2 78 (4 * r + w)) 4) _ _ _ ((hfr.L (by simp)).F) ?_ ⟨fun _ => ⟨p, by omega, hyes⟩, fun _ => rfl⟩ ?_ ?_
            · show b2 (m0 || c || oGr (M1.2 70) (4 * (64 * k + p)) (fun w => M1.2 78 (4 * r + w)) 4) = b2 (m0 || (c || oGr (M1.2 70) (4 * (64 * k + p)) (fun w => M1.2 78 (4 * r + w)) 4))
              rw [Bool.or_assoc]
            · rw [Bool.or_eq_true, hc, oGr4_iff]
              constructor
              · rintro (⟨x, z, z2⟩ | ⟨v, hv, z1, z2⟩)
                · exact ⟨x, (hx x).mpr (Or.inl z), z2⟩
                · refine ⟨p, (hx p).mpr (Or.inr rfl), v, hv, (hgs v hv).mp z1, fun z => ?_⟩
                  rw [(hY k hk p (by omega) v hv).mpr (Or.inl z)] at z2
                  cases z2
              · rintro ⟨x, z, v, hv, z1, z2⟩
                rcases (hx x).mp z with z3 | z3
                · exact Or.inl ⟨x, z3, v, hv, z1, z2⟩
                · refine Or.inr ⟨v, hv, (hgs v hv).mpr z1, ?_⟩
                  cases e : sHas (M1.2 70) (4 * (64 * k + p)) v with
                  | false => rfl
                  | true =>
                    rcases (hY k hk p (by omega) v hv).mp e with z4 | z4
                    · exact absurd (z3 ▸ z4) z2
                    · exact absurd z4.2.1.1 (Nat.lt_irrefl _)
            · intro a ha x hx' v hv
              show sHas (oRow (M1.2 70) (4 * (64 * k + p)) (fun w => M1.2 78 (4 * r + w)) 4) (4 * (64 * a + x)) v = true ↔ _
              by_cases e : a = k ∧ x = p
              · obtain ⟨rfl, rfl⟩ := e
                rw [sHas_row4 _ _ _ hv, Bool.or_eq_true, hY a ha x hx' v hv, hgs v hv]
                constructor
                · rintro ((z | z) | z)
                  · exact Or.inl z
                  · exact absurd z.2.1.1 (Nat.lt_irrefl _)
                  · exact Or.inr ⟨rfl, (hx x).mpr (Or.inr rfl), z⟩
                · rintro (z | z)
                  · exact Or.inl (Or.inl z)
                  · exact Or.inr z.2.2
              · rw [sHas_row4_o _ _ _ hv (by omega), hY a ha x hx' v hv]
                refine or_congr Iff.rfl ⟨fun z => ⟨z.1, (hx x).mpr (Or.inl z.2.1), z.2.2⟩, fun z => ⟨z.1, ?_, z.2.2⟩⟩
                exact ((hx x).mp z.2.1).resolve_right (fun z3 => e ⟨z.1, z3⟩)
theorem E_stores (P : sP) (hw : wP P) (U : sU) (N : Nat → Nat → Prop) (m : Bool) (M : xMe) (hS : mS P M) (hU : mU U M) (hN : nw N M) (hm : mo m M) (k q r : Nat) (hk : k < 24) (hq : q < 4) (hr : r < 4) : xE l G y_Mo_stores [.ref 50, .int (nI k), .int (nI q), .int (nI r)] M (fun v M' => ∃ b, v = some (.int (b2 b)) ∧ (b = true ↔ ∃ p, p < pS P k ∧ N q p) ∧ mU (uStore U k (fun p => p < pS P k ∧ N q p) (N r)) M' ∧ nw N M' ∧ (∃ c, mo (m || c) M' ∧ (c = true ↔ ∃ p, (p < pS P k ∧ N q p) ∧ ∃ v, v < 256 ∧ N r v ∧ ¬ uY U k p v)) ∧ ufr [70, 76] M M') := by
  obtain ⟨h1, h2, h3, h4, h5, h6, h7, h8, h9⟩ := hU
  have hcl : (nI k).toNatClampNeg = k := nI_clamp (by omega)
  refine xE_of [some (.ref 50), some (.int (nI k)), some (.int (nI q)), some (.int (nI r)), none, none, none, none, none, none] (by decide +kernel) (Nat.le_of_ble_eq_true rfl) rfl ?_
  refine xF_go o_Mo_stores [6] 60 (fun K hK => ?_)
  repeat' ((conv => whnf); first | refine ⟨fun h => ?_, fun h => ?_⟩ | refine ⟨?_, ?_⟩ | refine hK _ _ _ _ ?_)
  refine L_stores l G P hw N (uY U) k q r hk hq hr m M hS hN _ ?_ (pS P k) 0 (by omega) M false false _ _ _ ufr.rf (by rw [Bool.or_false]; exact hm) ⟨(fun z => by cases z), fun ⟨x, z, _⟩ => by omega⟩ ⟨(fun z => by cases z), fun ⟨x, z, _⟩ => by omega⟩ (fun a ha x hx v hv => (h2 a ha x hx v hv).trans ⟨Or.inl, fun z => z.elim id (fun z => by omega)⟩)
  clear hK K
  intro M2 b c y1 y2 y3 y4 hfr hmo hb hc hY
  obtain ⟨w0, hw0, hw1⟩ := h8 k hk
  have h76 : M2.1 76 (nI k).toNatClampNeg = b2 w0 := by rw [hcl, (hfr.1 76 (by decide)).1]; exact hw0
  have fin : ∀ z : Int32, (∃ d, z = b2 d ∧ (d = true ↔ (uWr U k ∨ b = true))) → (fun (v : Option Value) (M' : xMe) => ∃ b, v = some (Value.int (b2 b)) ∧ (b = true ↔ ∃ p, p < pS P k ∧ N q p) ∧ mU (uStore U k (fun p => p < pS P k ∧ N q p) (N r)) M' ∧ nw N M' ∧ (∃ c, mo (m || c) M' ∧ (c = true ↔ ∃ p, (p < pS P k ∧ N q p) ∧ ∃ v, v < 256 ∧ N r v ∧ ¬ uY U k p v)) ∧ ufr [70, 76] M M') (some (Value.int (b2 b))) (xsI M2 76 (upd (M2.1 76) k z)) := by
    rintro z ⟨d, hz, hd⟩
    have hfr' : ufr [70, 76] M (xsI M2 76 (upd (M2.1 76) k z)) := (hfr.mono (by simp)).I (by simp) (by decide)
    refine ⟨b, rfl, hb, ⟨?_, hY, ?_, ?_, ?_, ?_, ?_, ?_, ?_⟩, ?_, ⟨c, hmo, hc⟩, hfr'⟩
    · unfold m69; rw [(hfr'.1 69 (by decide)).2]; exact h1
    · unfold m71; rw [(hfr'.1 71 (by decide)).2]; exact h3
    · unfold m72; rw [(hfr'.1 72 (by decide)).1]; exact h4
    · unfold m73; rw [(hfr'.1 73 (by decide)).1]; exact h5
    · unfold mKP; rw [(hfr'.1 74 (by decide)).1]; exact h6
    · unfold mKP; rw [(hfr'.1 75 (by decide)).1]; exact h7
    · intro k' hk'
      rw [xsI_s]
      by_cases e : k' = k
      · subst e
        refine ⟨d, by rw [upd_s]; exact hz, hd.trans (or_congr Iff.rfl (hb.trans ⟨fun z => ⟨rfl, z⟩, fun z => z.2⟩))⟩
      · obtain ⟨x, e1, e2⟩ := h8 k' hk'
        exact ⟨x, by rw [upd_n e, (hfr.1 76 (by decide)).1]; exact e1, e2.trans ⟨Or.inl, fun z => z.elim id (fun z => absurd z.1 e)⟩⟩
    · unfold cZ; rw [(hfr'.1 77 (by decide)).1]; exact h9
    · unfold nw; rw [(hfr'.1 78 (by decide)).2]; exact hN
  refine xF_go o_Mo_stores [] 60 (fun K hK => ?_)
  repeat' ((conv => whnf); first | refine ⟨fun h => ?_, fun h => ?_⟩ | refine ⟨?_, ?_⟩ | refine hK _ _ _ _ ?_)
  · exact vp_in_nI hk (by decide)
  · exact vp_in_nI hk (by decide)
  · exact Or.inr rfl
  · have h0 : ¬ M2.1 76 (nI k).toNatClampNeg = 0 := by assumption
    rw [h76] at h0
    have hwt : w0 = true := by
      cases w0 with
      | true => rfl
      | false => exact absurd rfl h0
    rw [hcl]
    show xF l G y_Mo_stores 157 _ [.int (b2 b)] _ _
    refine xF_zret o_Mo_stores rfl rfl (b2_01 _) ?_
    exact fin 1 ⟨true, rfl, fun _ => Or.inl (hw1.mp hwt), fun _ => rfl⟩
  · exact vp_in_nI hk (by decide)
  · exact Or.inl rfl
  · have h0 : M2.1 76 (nI k).toNatClampNeg = 0 := by assumption
    rw [h76] at h0
    have hb0 : b2 b = 0 := by assumption
    rw [hcl]
    show xF l G y_Mo_stores 157 _ [.int (b2 b)] _ _
    refine xF_zret o_Mo_stores rfl rfl (b2_01 _) ?_
    refine fin 0 ⟨false, rfl, (fun z => by cases z), fun z => ?_⟩
    rcases z with z | z
    · rw [hw1.mpr z] at h0
      exact absurd h0 (by decide)
    · rw [z] at hb0
      exact absurd hb0 (by decide)
  · exact vp_in_nI hk (by decide)
  · exact Or.inr rfl
  · have hb0 : ¬ b2 b = 0 := by assumption
    have hbt : b = true := by
      cases b with
      | true => rfl
      | false => exact absurd rfl hb0
    rw [hcl]
    show xF l G y_Mo_stores 157 _ [.int (b2 b)] _ _
    refine xF_zret o_Mo_stores rfl rfl (b2_01 _) ?_
    exact fin 1 ⟨true, rfl, fun _ => Or.inr hbt, fun _ => rfl⟩
end XSW
