/-! Reach: an instruction taken on -/
def rs (st : Nat → Nat → Prop) (a : Nat) (Z : Nat → Prop) : Nat → Nat → Prop := fun r v => (r = a ∧ Z v) ∨ (¬ r = a ∧ st r v)
def vLnk (V : sV) (a b : Nat) : sV := (vS V, vY V, vC V, vW V, vRd V, vWr V, vCm V, fun x y => vLk V x y ∨ (x = a ∧ y = b))
def vComp (V : sV) (a b : Nat) : sV := (vS V, vY V, vC V, vW V, vRd V, vWr V, fun k => vCm V k ∨ (¬ a = b ∧ (k = a ∨ k = b)), vLk V)
/-- an instruction taken on, as a relation -/
def tkq (P : sP) (V : sV) (f i : Nat) (q : Nat × Int32 × Int32 × Int32) (V' : sV) : Prop :=
  match q.1 with
  | 0 => V' = vAdd V f (place P f (nI i + 1)) (rs (vS V f i) (ix q.2.1) (fun v => v = ix q.2.2.1))
  | 1 => V' = vAdd V f (place P f (nI i + 1)) (rs (vS V f i) (ix q.2.1) (fun v => ∃ u, u < 256 ∧ vS V f i (ix q.2.1) u ∧ (u + ix (q.2.2.1 + 255) + 1) % 256 = v))
  | 2 => V' = vAdd V f (place P f (nI i + 1)) (rs (vS V f i) (ix q.2.1) (fun v => ∃ u, u < 256 ∧ vS V f i (ix q.2.1) u ∧ u &&& ix q.2.2.1 = v))
  | 3 => ((¬ ∃ p, p < pS P (ix q.2.2.1) ∧ vS V f i (ix q.2.2.2) p) ∧ V' = V) ∨ ((∃ p, p < pS P (ix q.2.2.1) ∧ vS V f i (ix q.2.2.2) p) ∧ V' = vAdd (vLoad V f (ix q.2.2.1) (fun p => p < pS P (ix q.2.2.1) ∧ vS V f i (ix q.2.2.2) p)) f (place P f (nI i + 1)) (rs (vS V f i) (ix q.2.1) (fun v => ∃ p, (p < pS P (ix q.2.2.1) ∧ vS V f i (ix q.2.2.2) p) ∧ vY V (ix q.2.2.1) p v)))
  | 4 => ((¬ ∃ p, p < pS P (ix q.2.1) ∧ vS V f i (ix q.2.2.1) p) ∧ V' = V) ∨ ((∃ p, p < pS P (ix q.2.1) ∧ vS V f i (ix q.2.2.1) p) ∧ V' = vAdd (vStore P V (ix q.2.1) (fun p => p < pS P (ix q.2.1) ∧ vS V f i (ix q.2.2.1) p) (vS V f i (ix q.2.2.2))) f (place P f (nI i + 1)) (vS V f i))
  | 5 => ∃ V1, V1 = vAdd (vLnk V f (ix q.2.1)) (ix q.2.1) (place P (ix q.2.1) 0) (vS V f i) ∧ ((vC V1 (ix q.2.1) 40 ∧ V' = vAdd V1 f (place P f (nI i + 1)) (vS V1 (ix q.2.1) 40)) ∨ (¬ vC V1 (ix q.2.1) 40 ∧ V' = V1))
  | 6 => ∃ V1, ((vS V f i (ix q.2.1) 0 ∧ V1 = vAdd V f (place P f (nI i + q.2.2.1 + 1)) (rs (vS V f i) (ix q.2.1) (fun v => v = 0))) ∨ (¬ vS V f i (ix q.2.1) 0 ∧ V1 = V)) ∧ (((∃ v, v < 256 ∧ ¬ v = 0 ∧ vS V1 f i (ix q.2.1) v) ∧ V' = vAdd V1 f (place P f (nI i + 1)) (rs (vS V1 f i) (ix q.2.1) (fun v => ¬ v = 0 ∧ vS V1 f i (ix q.2.1) v))) ∨ ((¬ ∃ v, v < 256 ∧ ¬ v = 0 ∧ vS V1 f i (ix q.2.1) v) ∧ V' = V1))
  | 7 => V' = vAdd V f (place P f (nI i + 1)) (vS V f i)
  | 8 => V' = vAdd V f 40 (vS V f i)
  | 9 => V' = vAdd V f (place P f (nI i + 1)) (rs (vS V f i) (ix q.2.1) (fun _ => True))
  | 10 => V' = vAdd (vComp V (ix q.2.2.1) (ix q.2.2.2)) f (place P f (nI i + 1)) (rs (vS V f i) (ix q.2.1) (fun v => (ix q.2.2.1 = ix q.2.2.2 ∧ v = 1) ∨ (¬ ix q.2.2.1 = ix q.2.2.2 ∧ v = 0)))
  | _ => ((¬ ∃ p, p < 64 ∧ vS V f i (ix q.2.2.2) p ∧ (pR P (ix q.2.2.1) p).isSome) ∧ V' = V) ∨ ((∃ p, p < 64 ∧ vS V f i (ix q.2.2.2) p ∧ (pR P (ix q.2.2.1) p).isSome) ∧ V' = vAdd (vFollow P V f (ix q.2.2.1) (fun p => p < 64 ∧ vS V f i (ix q.2.2.2) p ∧ (pR P (ix q.2.2.1) p).isSome)) f (place P f (nI i + 1)) (rs (vS V f i) (ix q.2.1) (fun v => ∃ p, (p < 64 ∧ vS V f i (ix q.2.2.2) p ∧ (pR P (ix q.2.2.1) p).isSome) ∧ ∃ t, pR P (ix q.2.2.1) p = some t ∧ vY V t 0 v)))
def tk (P : sP) (V : sV) (f i : Nat) (V' : sV) : Prop := match (pC P f)[i]? with
  | none => V' = vWake P V f
  | some q => tkq P V f i q V'
theorem cV_fr {P : sP} {V : sV} {S : List Nat} {M M' : xMe} (h : xfr S M M') (hS : ∀ c, c ∈ S → c ∉ [18, 21, 22, 23, 24, 27, 28, 29]) (hV : cV P V M) : cV P V M' := by
  have e : ∀ c, c ∈ [18, 21, 22, 23, 24, 27, 28, 29] → M'.1 c = M.1 c ∧ M'.2 c = M.2 c := fun c hc => h c (fun z => hS c z hc)
  obtain ⟨h1, h2, h3, h4, h5, h6, h7, h8⟩ := hV
  refine ⟨?_, ?_, ?_, ?_, ?_, ?_, ?_, ?_⟩
  · unfold cS21; rw [(e 21 (by decide)).2]; exact h1
  · unfold cY22; rw [(e 22 (by decide)).2]; exact h2
  · unfold cB; rw [(e 23 (by decide)).2]; exact h3
  · unfold cB; rw [(e 24 (by decide)).2]; exact h4
  · unfold cB; rw [(e 27 (by decide)).2]; exact h5
  · unfold cZ; rw [(e 28 (by decide)).1]; exact h6
  · unfold cZ; rw [(e 29 (by decide)).1]; exact h7
  · unfold cB; rw [(e 18 (by decide)).2]; exact h8
set_option maxRecDepth 20000 in
theorem ac_Re : xAC y_Re_makeRest.1.cls 113 := ⟨xtbm (List.mem_of_getElem? (i := 627) rfl) rfl, xtbm (List.mem_of_getElem? (i := 500) rfl) rfl, xtbm (List.mem_of_getElem? (i := 499) rfl) rfl, xtbm (List.mem_of_getElem? (i := 93) rfl) rfl⟩
section XTO
variable (l : Launch) (G : xG)
theorem E_flowN (P : sP) (V : sV) (M : xMe) (hV : cV P V M) (hk : cK P M) (hw : wP P) (g i f : Nat) (hg : g < 12) (hi : i < 41) (hf : f < 12) (x : Int32) : xE l G y_Re_flow [.ref 16, .int (nI (g * 41 + i)), .int (nI f), .int x, .int (-1)] M (fun v M' => v = none ∧ cV P (vAdd V f (place P f x) (vS V g i)) M' ∧ xfr [21, 23, 24] M M') := by
  refine E_flow l G P V M hV hk hw g i f hg hi hf x (-1) (vS V g i) (fun q hq v hv => ?_)
  have : ¬ nI q = -1 := fun z => by
    have := nI_pos' (n := q) (by omega)
    rw [z] at this
    exact absurd this (by decide)
  rw [if_neg this]
theorem E_flowR (P : sP) (V : sV) (M : xMe) (hV : cV P V M) (hk : cK P M) (hw : wP P) (g i f : Nat) (hg : g < 12) (hi : i < 41) (hf : f < 12) (x : Int32) (a : Nat) (ha : a < 4) (Z : Nat → Prop) (hZ : ∀ v, v < 256 → (sHas (M.2 26) 0 v = true ↔ Z v)) : xE l G y_Re_flow [.ref 16, .int (nI (g * 41 + i)), .int (nI f), .int x, .int (nI a)] M (fun v M' => v = none ∧ cV P (vAdd V f (place P f x) (rs (vS V g i) a Z)) M' ∧ xfr [21, 23, 24] M M') := by
  refine E_flow l G P V M hV hk hw g i f hg hi hf x (nI a) (rs (vS V g i) a Z) (fun q hq v hv => ?_)
  unfold rs
  by_cases e : q = a
  · subst e
    rw [if_pos rfl, hZ v hv]
    simp
  · rw [if_neg (fun z => e (nI_inj (by omega) (by omega) z))]
    simp [e]
theorem E_compare (P : sP) (V : sV) (M : xMe) (hV : cV P V M) (a b : Nat) (ha : a < 24) (hb : b < 24) : xE l G y_Re_compare [.ref 16, .int (nI a), .int (nI b)] M (fun v M' => v = none ∧ cV P (vComp V a b) M' ∧ xfr [29] M M') := by
  obtain ⟨h1, h2, h3, h4, h5, h6, h7, h8⟩ := hV
  refine xE_of [some (.ref 16), some (.int (nI a)), some (.int (nI b))] (by decide +kernel) (Nat.le_of_ble_eq_true rfl) rfl ?_
  by_cases e : a = b
  · subst e
    refine xF_go o_Re_compare [] 60 (fun K hK => ?_)
    repeat' ((conv => whnf); first | refine ⟨fun h => ?_, fun h => ?_⟩ | refine ⟨?_, ?_⟩ | refine hK _ _ _ _ ?_)
    all_goals first | exact absurd rfl (show ¬ nI a = nI a from by assumption) | skip
    refine xF_vret o_Re_compare rfl rfl ?_
    refine ⟨rfl, ⟨h1, h2, h3, h4, h5, h6, fun k hk => ?_, h8⟩, xfr.rf⟩
    obtain ⟨c, e1, e2⟩ := h7 k hk
    exact ⟨c, e1, e2.trans ⟨Or.inl, fun z => z.elim id (fun z => absurd rfl z.1)⟩⟩
  · have hne : ¬ nI a = nI b := fun z => e (nI_inj (by omega) (by omega) z)
    refine xF_go o_Re_compare [] 60 (fun K hK => ?_)
    repeat' ((conv => whnf); first | refine ⟨fun h => ?_, fun h => ?_⟩ | refine ⟨?_, ?_⟩ | refine hK _ _ _ _ ?_)
    all_goals first | exact absurd (show nI a = nI b from by assumption) hne | skip
    · exact vp_in_nI ha (by decide)
    · exact Or.inr rfl
    · exact vp_in_nI hb (by decide)
    · exact Or.inr rfl
    · rw [nI_clamp (by omega), nI_clamp (by omega)]
      refine xF_vret o_Re_compare rfl rfl ?_
      refine ⟨rfl, ⟨h1, h2, h3, h4, h5, h6, fun k hk => ?_, h8⟩, (xfr.rf.I (by simp)).I (by simp)⟩
      show ∃ c, upd (upd (M.1 29) a 1) b 1 k = b2 c ∧ (c = true ↔ (vCm V k ∨ (¬ a = b ∧ (k = a ∨ k = b))))
      by_cases e1 : k = b
      · exact ⟨true, by rw [e1, upd_s]; rfl, fun _ => Or.inr ⟨e, Or.inr e1⟩, fun _ => rfl⟩
      · rw [upd_n e1]
        by_cases e2 : k = a
        · exact ⟨true, by rw [e2, upd_s]; rfl, fun _ => Or.inr ⟨e, Or.inl e2⟩, fun _ => rfl⟩
        · rw [upd_n e2]
          obtain ⟨c, z1, z2⟩ := h7 k hk
          exact ⟨c, z1, z2.trans ⟨Or.inl, fun z => z.elim id (fun z => z.2.elim (fun z => absurd z e2) (fun z => absurd z e1))⟩⟩
theorem E_makeRest (P : sP) (V : sV) (M : xMe) (hV : cV P V M) (f i a : Nat) (hf : f < 12) (hi : i < 41) (ha : a < 4) : xE l G y_Re_makeRest [.ref 16, .int (nI (f * 41 + i)), .int (nI a)] M (fun v M' => ∃ b, v = some (.int (b2 b)) ∧ (b = true ↔ ∃ v, v < 256 ∧ ¬ v = 0 ∧ vS V f i a v) ∧ (∀ v, v < 256 → (sHas (M'.2 26) 0 v = true ↔ (¬ v = 0 ∧ vS V f i a v))) ∧ xfr [26] M M') := by
  have t1 : xtl 21 = 7872 := rfl
  have h1 := hV.1
  refine xE_of [some (.ref 16), some (.int (nI (f * 41 + i))), some (.int (nI a))] (by decide +kernel) (Nat.le_of_ble_eq_true rfl) rfl ?_
  refine xF_go o_Re_makeRest [] 60 (fun K hK => ?_)
  repeat' ((conv => whnf); first | refine ⟨fun h => ?_, fun h => ?_⟩ | refine ⟨?_, ?_⟩ | refine hK _ _ _ _ ?_)
  refine xF_callS o_Re_makeRest [.int (nI (f * 41 + i)), .int (nI a)] rfl z_Re_setAt s_Re_setAt l_Re_95 rfl ⟨⟨by decide, by decide⟩, rfl, rfl⟩ (Nat.le_of_ble_eq_true rfl) rfl (E_setAt l G (nI (f * 41 + i)) (nI a) M) ?_
  rintro v M' ⟨rfl, rfl⟩
  rw [set_n]
  clear hK K
  refine xF_go o_Re_makeRest [] 60 (fun K hK => ?_)
  repeat' ((conv => whnf); first | refine ⟨fun h => ?_, fun h => ?_⟩ | refine ⟨?_, ?_⟩ | refine hK _ _ _ _ ?_)
  refine xF_copyl o_Re_makeRest rfl ac_Re rfl rfl (by decide) (by decide) ((f * 41 + i) * 16 + a * 4) 0 4 rfl rfl rfl (by omega) (by decide) ⟨by omega, by decide, by decide⟩ (Nat.le_of_ble_eq_true rfl) (by decide) ?_
  clear hK K
  refine xF_go o_Re_makeRest [] 60 (fun K hK => ?_)
  repeat' ((conv => whnf); first | refine ⟨fun h => ?_, fun h => ?_⟩ | refine ⟨?_, ?_⟩ | refine hK _ _ _ _ ?_)
  · exact vp_in_nI (n := 0) (N := 4) (by omega) (by decide)
  · exact vp_in_nI (n := 0) (N := 4) (by omega) (by decide)
  · clear hK K
    have hX : ∀ v, v < 256 → (sHas (vp_updL (va_cpy (M'.2 21) (M'.2 26) ((f * 41 + i) * 16 + a * 4) 0 4) 0 (va_cpy (M'.2 21) (M'.2 26) ((f * 41 + i) * 16 + a * 4) 0 4 0 &&& -2)) 0 v = true ↔ (¬ v = 0 ∧ vS V f i a v)) := by
      intro v hv
      rw [← h1 f hf i hi a ha v hv]
      have e2 : ∀ q, q < 64 → xbit (-2 : Int64) q = decide (¬ q = 0) := by decide +kernel
      unfold sHas vp_updL va_cpy
      by_cases e : v / 64 = 0
      · rw [if_pos (by omega), if_pos (by omega), xbit_and, e2 _ (by omega), Bool.and_eq_true, decide_eq_true_iff, e]
        rw [show v % 64 = 0 ↔ v = 0 by omega]
        exact ⟨fun z => ⟨z.2, z.1⟩, fun z => ⟨z.2, z.1⟩⟩
      · rw [if_neg (by omega), if_pos (by omega), show (f * 41 + i) * 16 + a * 4 + (0 + v / 64 - 0) = (f * 41 + i) * 16 + a * 4 + v / 64 by omega]
        exact ⟨fun z => ⟨fun z' => e (by rw [z']), z⟩, fun z => z.2⟩
    refine xF_callS o_Re_makeRest [.ref 26] rfl z_OS_isEmpty s_OS_isEmpty l_Re_237 rfl ⟨⟨by decide, by decide⟩, rfl, rfl⟩ (Nat.le_of_ble_eq_true rfl) rfl (E_isEmpty l G _) ?_
    rintro v M ⟨rfl, b, rfl, hb⟩
    have hb' : b = true ↔ ¬ ∃ v, v < 256 ∧ ¬ v = 0 ∧ vS V f i a v := by
      rw [hb]
      constructor
      · rintro z ⟨v, z1, z2⟩
        have h9 := (hX v z1).mpr z2
        have h10 : sHas (vp_updL (va_cpy (M'.2 21) (M'.2 26) ((f * 41 + i) * 16 + a * 4) 0 4) 0 (va_cpy (M'.2 21) (M'.2 26) ((f * 41 + i) * 16 + a * 4) 0 4 0 &&& -2)) 0 v = false := z v z1
        rw [h9] at h10
        cases h10
      · intro z u hu
        cases e : sHas (vp_updL (va_cpy (M'.2 21) (M'.2 26) ((f * 41 + i) * 16 + a * 4) 0 4) 0 (va_cpy (M'.2 21) (M'.2 26) ((f * 41 + i) * 16 + a * 4) 0 4 0 &&& -2)) 0 u with
        | false => exact e
        | true => exact absurd ⟨u, hu, (hX u hu).mp e⟩ z
    refine xF_go o_Re_makeRest [] 60 (fun K hK => ?_)
    repeat' ((conv => whnf); first | refine ⟨fun h => ?_, fun h => ?_⟩ | refine ⟨?_, ?_⟩ | refine hK _ _ _ _ ?_)
    · have h0 : ¬ b2 b = 0 := by assumption
      have hbt : b = true := by
        cases b with
        | true => rfl
        | false => exact absurd rfl h0
      refine xF_zret o_Re_makeRest rfl rfl (Or.inl rfl) ?_
      exact ⟨false, rfl, ⟨(fun z => by cases z), fun z => absurd z (hb'.mp hbt)⟩, hX, (xfr.rf.L (by simp)).L (by simp)⟩
    · have h0 : b2 b = 0 := by assumption
      have hbf : ¬ b = true := fun z => by rw [z] at h0; exact absurd h0 (by decide)
      refine xF_zret o_Re_makeRest rfl rfl (Or.inr rfl) ?_
      exact ⟨true, rfl, ⟨fun _ => Classical.byContradiction (fun z => hbf (hb'.mpr z)), fun _ => rfl⟩, hX, (xfr.rf.L (by simp)).L (by simp)⟩
end XTO
