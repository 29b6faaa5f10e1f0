/-! the reference's reach, whole -/
def finU (P : sP) (U : sU) : Prop := cls P (toV P U) ∧ (∀ Z, cls P Z → subU P U Z) ∧ (∀ f, f < 12 → ∀ i q, (pC P f)[i]? = some q → vC (toV P U) f i → (∀ k p, rdq P (toV P U) f i q k p → uRd U k p) ∧ (∀ k p, foq P (toV P U) f i q k p → uFo U k p) ∧ (∀ k, wrq P (toV P U) f i q k → uWr U k) ∧ (∀ k, cmq q k → uCm U k))
/-- functions that are come to are come to at their start -/
def staU (P : sP) (U : sU) : Prop := (∀ f, f < 12 → pE P f = true → uC U f (atU P f 0)) ∧ (∀ f, f < 12 → ∀ i q, (pC P f)[i]? = some q → q.1 = 5 → uC U f i → uC U (ix q.2.1) (atU P (ix q.2.1) 0))
theorem fix_sta {P : sP} (hw : wP P) {U0 U : sU} (h : pinv P U0 12 0 U false) (hi : iniU P U0) : staU P U := by
  have hs : usm U0 U := Classical.byContradiction (fun z => by have := h.1.2.mpr z; cases this)
  refine ⟨fun f hf he => h.1.1.1.2.2.1 _ _ (hi.1 f hf he).1, fun f hf i q hq h5 hc => ?_⟩
  have hv : vN q := (hw.2.2.2.1 f hf).2 q (List.mem_of_getElem? hq)
  have hl := (hw.2.2.2.1 f hf).1
  have hlt : i < (pC P f).length := (List.getElem?_eq_some_iff.mp hq).1
  have hc0 := hs.2.2.1 f hf i (by omega) hc
  obtain ⟨Ut, Ut', a1, a2, a3, a4⟩ := h.2.2 f i hf (by omega) (Or.inl hf) hc0
  have b1 := (a4.2 q hq (by omega)).1
  have he : eg P (toV P Ut) f i q (ix q.2.1) (place P (ix q.2.1) 0) (vS (toV P Ut) f i) := by
    obtain ⟨o, a, bb, cc⟩ := q
    replace h5 : o = 5 := h5
    subst h5
    exact ⟨rfl, rfl, rfl⟩
  have h12 : ix q.2.1 < 12 := by
    obtain ⟨o, a, bb, cc⟩ := q
    replace h5 : o = 5 := h5
    subst h5
    obtain ⟨k', hk', x1, ek⟩ := vF_n hv.1
    show ix a < 12
    rw [ek]; exact hk'
  have t1 := (b1 _ _ _ he).1
  rw [slt_place (hw.2.2.2.1 _ h12).1] at t1
  exact a3.1.2.2.1 _ _ t1
section XME
variable (l : Launch) (G : xG)
theorem E_reach (P : sP) (hw : wP P) (M : xMe) (hP : mP P M) (hb : ∀ f, f < 12 → ∃ b, M.1 73 f = b2 b) (hmo : ∃ m, mo m M) : xE l G y_Mo_reach [.ref 50] M (fun v M' => v = none ∧ ∃ U, mU U M' ∧ (finU P U ∧ staU P U) ∧ ufr ufS M M') := by
  obtain ⟨m, hm⟩ := hmo
  refine xE_of [some (.ref 50), none, none] (by decide +kernel) (Nat.le_of_ble_eq_true rfl) rfl ?_
  refine xF_go o_Mo_reach [2] 60 (fun K hK => ?_)
  repeat' ((conv => whnf); first | refine ⟨fun h => ?_, fun h => ?_⟩ | refine ⟨?_, ?_⟩ | refine hK _ _ _ _ ?_)
  clear hK K
  have e1 : M = xsL M 69 (fun i => if i < 0 then 0 else M.2 69 i) := (xsL_id (fun i => by rw [if_neg (by omega)])).symm
  have key := L_z69 l G M none (fun v M' => v = none ∧ ∃ U, mU U M' ∧ (finU P U ∧ staU P U) ∧ ufr ufS M M') ?_ 7872 0 (by omega)
  · rw [← e1] at key
    exact key
  intro x1
  have hf1 : ufr ufS M (xsL M 69 (fun i => if i < 7872 then 0 else M.2 69 i)) := ufr.rf.L (by simp)
  have z69 : ∀ i, i < 7872 → (xsL M 69 (fun i => if i < 7872 then 0 else M.2 69 i)).2 69 i = 0 := fun i hi => if_pos hi
  have hm1 : mo m (xsL M 69 (fun i => if i < 7872 then 0 else M.2 69 i)) := hm
  have hb1 : ∀ f, f < 12 → ∃ b, (xsL M 69 (fun i => if i < 7872 then 0 else M.2 69 i)).1 73 f = b2 b := hb
  generalize xsL M 69 (fun i => if i < 7872 then 0 else M.2 69 i) = M1 at *
  refine xF_go o_Mo_reach [26] 60 (fun K hK => ?_)
  repeat' ((conv => whnf); first | refine ⟨fun h => ?_, fun h => ?_⟩ | refine ⟨?_, ?_⟩ | refine hK _ _ _ _ ?_)
  clear hK K
  have e2 : M1 = xsL M1 71 (fun i => if i < 0 then 0 else M1.2 71 i) := (xsL_id (fun i => by rw [if_neg (by omega)])).symm
  have key := L_z71 l G M1 none (fun v M' => v = none ∧ ∃ U, mU U M' ∧ (finU P U ∧ staU P U) ∧ ufr ufS M M') ?_ 192 0 (by omega)
  · rw [← e2] at key
    exact key
  intro x2
  have hf2 : ufr ufS M (xsL M1 71 (fun i => if i < 192 then 0 else M1.2 71 i)) := hf1.L (by simp)
  have z71 : ∀ i, i < 192 → (xsL M1 71 (fun i => if i < 192 then 0 else M1.2 71 i)).2 71 i = 0 := fun i hi => if_pos hi
  have z69' : ∀ i, i < 7872 → (xsL M1 71 (fun i => if i < 192 then 0 else M1.2 71 i)).2 69 i = 0 := z69
  have hm2 : mo m (xsL M1 71 (fun i => if i < 192 then 0 else M1.2 71 i)) := hm1
  have hb2 : ∀ f, f < 12 → ∃ b, (xsL M1 71 (fun i => if i < 192 then 0 else M1.2 71 i)).1 73 f = b2 b := hb1
  generalize xsL M1 71 (fun i => if i < 192 then 0 else M1.2 71 i) = M2 at *
  refine xF_go o_Mo_reach [48] 60 (fun K hK => ?_)
  repeat' ((conv => whnf); first | refine ⟨fun h => ?_, fun h => ?_⟩ | refine ⟨?_, ?_⟩ | refine hK _ _ _ _ ?_)
  clear hK K
  have e3 : M2 = xsI M2 72 (fun i => if i < 0 then 0 else M2.1 72 i) := (xsI_id (fun i => by rw [if_neg (by omega)])).symm
  have key := L_z72 l G M2 none (fun v M' => v = none ∧ ∃ U, mU U M' ∧ (finU P U ∧ staU P U) ∧ ufr ufS M M') ?_ 492 0 (by omega)
  · rw [← e3] at key
    exact key
  intro x3
  have hf3 : ufr ufS M (xsI M2 72 (fun i => if i < 492 then 0 else M2.1 72 i)) := hf2.I (by simp) (by decide)
  have z72 : ∀ i, i < 492 → (xsI M2 72 (fun i => if i < 492 then 0 else M2.1 72 i)).1 72 i = 0 := fun i hi => if_pos hi
  have z71' : ∀ i, i < 192 → (xsI M2 72 (fun i => if i < 492 then 0 else M2.1 72 i)).2 71 i = 0 := z71
  have z69'' : ∀ i, i < 7872 → (xsI M2 72 (fun i => if i < 492 then 0 else M2.1 72 i)).2 69 i = 0 := z69'
  have hm3 : mo m (xsI M2 72 (fun i => if i < 492 then 0 else M2.1 72 i)) := hm2
  have hb3 : ∀ f, f < 12 → ∃ b, (xsI M2 72 (fun i => if i < 492 then 0 else M2.1 72 i)).1 73 f = b2 b := hb2
  generalize xsI M2 72 (fun i => if i < 492 then 0 else M2.1 72 i) = M3 at *
  refine xF_go o_Mo_reach [70] 60 (fun K hK => ?_)
  repeat' ((conv => whnf); first | refine ⟨fun h => ?_, fun h => ?_⟩ | refine ⟨?_, ?_⟩ | refine hK _ _ _ _ ?_)
  clear hK K
  have hP3 : mP P M3 := hf3.P (by decide) hP
  refine L_may1 l G P hw M3 hP3.2.1 none _ ?_ 1536 0 (by omega) M3 _ xfr.rf (fun j hj => by omega)
  intro M4 x4 y4 hx4 hz4
  have hf4 : ufr ufS M M4 := hf3.tr (S' := [70, 74, 75]) ⟨hx4.mono (by simp), fun s _ => by rw [(hx4 50 (by decide)).1]⟩ (by simp)
  refine xF_go o_Mo_reach [150] 60 (fun K hK => ?_)
  repeat' ((conv => whnf); first | refine ⟨fun h => ?_, fun h => ?_⟩ | refine ⟨?_, ?_⟩ | refine hK _ _ _ _ ?_)
  clear hK K
  refine L_z24 l G M4 _ _ ?_ 24 0 (by omega) M4 xfr.rf (fun j hj => by omega)
  intro M5 x5 hx5 hz5
  have hf5 : ufr ufS M M5 := hf4.tr (S' := [76, 77]) ⟨hx5.mono (by simp), fun s _ => by rw [(hx5 50 (by decide)).1]⟩ (by simp)
  have hP5 : mP P M5 := hf5.P (by decide) hP
  have hm5 : mo m M5 := by unfold mo; rw [(hx5 50 (by decide)).1, (hx4 50 (by decide)).1]; exact hm3
  have hU5 : mU (uIni P 0 (fun f => M5.1 73 f = 1)) M5 := by
    refine ⟨fun f hf i hi r hr v hv => ?_, fun k hk p hp v hv => ?_, fun f hf r hr v hv => ?_, fun f hf i hi => ?_, fun f hf => ?_, fun k hk p hp => ?_, fun k hk p hp => ?_, fun k hk => ?_, fun k hk => ?_⟩
    · rw [(hx5 69 (by decide)).2, (hx4 69 (by decide)).2]
      unfold sHas
      rw [z69'' _ (by omega), xbit_0]
      exact ⟨(fun z => by cases z), fun z => by have := z.1.1; omega⟩
    · rw [(hx5 70 (by decide)).2, (hz4 (64 * k + p) (by omega)).2.2 v hv, decide_eq_true_iff, show (64 * k + p) / 64 = k by omega, show (64 * k + p) % 64 = p by omega]
      exact Iff.rfl
    · rw [(hx5 71 (by decide)).2, (hx4 71 (by decide)).2]
      unfold sHas
      rw [z71' _ (by omega), xbit_0]
      exact ⟨(fun z => by cases z), fun z => z.elim⟩
    · rw [(hx5 72 (by decide)).1, (hx4 72 (by decide)).1]
      exact ⟨false, z72 _ (by omega), (fun z => by cases z), fun z => by have := z.1; omega⟩
    · obtain ⟨b, e⟩ := hb3 f hf
      rw [← (hx4 73 (by decide)).1, ← (hx5 73 (by decide)).1] at e
      refine ⟨b, e, ?_⟩
      show b = true ↔ (0 ≤ f ∧ M5.1 73 f = 1)
      rw [e]
      cases b <;> simp [b2]
    · rw [(hx5 74 (by decide)).1]
      exact ⟨false, (hz4 _ (by omega)).1, (fun z => by cases z), fun z => z.elim⟩
    · rw [(hx5 75 (by decide)).1]
      exact ⟨false, (hz4 _ (by omega)).2.1, (fun z => by cases z), fun z => z.elim⟩
    · exact ⟨false, (hz5 k hk).1, (fun z => by cases z), fun z => z.elim⟩
    · exact ⟨false, (hz5 k hk).2, (fun z => by cases z), fun z => z.elim⟩
  refine xF_go o_Mo_reach [178] 60 (fun K hK => ?_)
  repeat' ((conv => whnf); first | refine ⟨fun h => ?_, fun h => ?_⟩ | refine ⟨?_, ?_⟩ | refine hK _ _ _ _ ?_)
  clear hK K
  refine L_ents l G P hw _ M5 hP5 _ ?_ 12 0 (by omega) M5 m _ ufr.rf hm5 hU5
  intro M6 m6 x6 y6 hf6 hm6 hU6
  have hf6' : ufr ufS M M6 := hf5.tr hf6 (fun _ z => z)
  refine xF_go o_Mo_reach [248] 60 (fun K hK => ?_)
  repeat' ((conv => whnf); first | refine ⟨fun h => ?_, fun h => ?_⟩ | refine ⟨?_, ?_⟩ | refine hK _ _ _ _ ?_)
  · exact Or.inr rfl
  clear hK K
  refine L_while l G P hw M hP _ ?_ (MU (uIni P 12 (fun f => M5.1 73 f = 1)) + 1) (uIni P 12 (fun f => M5.1 73 f = 1)) _ true _ _ (mU_fr (S := [50]) (xfr.rf.I (by simp)) (by decide) hU6) rfl hf6'.F (fun Z hz => uIni_sub hw hz) ?_ (fun _ => Nat.lt_succ_self _) (fun z => by cases z)
  · intro U0 U M7 hU7 hf7 hp hs hi
    obtain ⟨c1, c2⟩ := fix_cls hw hp hi
    exact ⟨rfl, U, hU7, ⟨⟨c1, fun Z hz => hp.2.1 Z hz (hs Z hz), c2⟩, fix_sta hw hp hi⟩, hf7⟩
  · refine ⟨fun f hf he => ⟨⟨hf, he, rfl⟩, fun r hr => ⟨⟨hf, he, rfl⟩, rfl⟩⟩, fun k hk p hp => rfl⟩
end XME
