/-! the reference's chains, joined -/
section XCY
variable (l : Launch) (G : xG)
theorem E_chains (P : sP) (hw : wP P) (V : sV) (U : sU) (hV : fin P V) (hF : finU P U) (M : xMe) (hP : mP P M) (hU : mU U M) (hC0 : ∀ x y, vLk V x y → x < 36 → y < 36) : xE l G y_Mo_chains [.ref 50] M (fun v M' => v = none ∧ (∀ x, x < 36 → rD (ent P) (vLk V) x (M'.1 82 x)) ∧ mo false M' ∧ ufr [82] M M') := by
  obtain ⟨s1, s2, s3, s4, s5, s6, s7⟩ := same_VU hw hV hF
  obtain ⟨_, _, _, f4⟩ := fin_aux hw hV
  have hlk : ∀ f i q a b, f < 12 → (pC P f)[i]? = some q → uC U f i → lk3 P U f i q a b → vLk V a b := by
    intro f i q a b hf hq hc z
    have hlt : i < (pC P f).length := (List.getElem?_eq_some_iff.mp hq).1
    have hv : vN q := (hw.2.2.2.1 f hf).2 q (List.mem_of_getElem? hq)
    have hl := (hw.2.2.2.1 f hf).1
    refine (f4 a b).mpr ⟨f, i, q, hf, hq, (s1 f hf i hlt).mp hc, ?_⟩
    have hS : ∀ r, r < 4 → ∀ v, v < 256 → vS (toV P U) f i r v → vS V f i r v := fun r hr v hv2 z => by
      rw [toV_S hl hlt] at z
      exact (s2 f hf i hlt r hr v hv2).mp z
    refine lkq_mono hw hv hS ?_
    unfold lkq
    rw [toV_S hl hlt]
    rcases z with z | z | ⟨e, z1, z2, p, z3, z4, z5⟩
    · exact Or.inl z
    · exact Or.inr (Or.inl z)
    · refine Or.inr (Or.inr (Or.inl ⟨e, z1, z2, p, ?_, z4, z5⟩))
      obtain ⟨o, a', bb, cc⟩ := q
      replace e : o = 11 := e
      subst e
      obtain ⟨k, hk, x1, ek⟩ := vT_n hv.2.1
      have := (hw.1 (ix bb) (by rw [ek]; exact hk)).1
      have z3' : p < pS P (ix bb) := z3
      omega
  have hFs : ∀ k x, uFo U k x → (pR P k x).isSome := fun k x z => by
    obtain ⟨f, i, q, hf, hq, hc, hr⟩ := (s7 k x).mp z
    exact hr.2.2.2.2
  have hLf : ∀ k x t, uFo U k x → pR P k x = some t → vLk V (12 + k) (12 + t) := fun k x t z ht => by
    obtain ⟨f, i, q, hf, hq, hc, hr⟩ := (s7 k x).mp z
    refine (f4 _ _).mpr ⟨f, i, q, hf, hq, hc, Or.inr (Or.inr (Or.inr ⟨hr.1, by rw [hr.2.1], x, t, hr.2.2.1, hr.2.2.2.1, ?_, rfl⟩))⟩
    rw [← hr.2.1]
    exact ht
  have hall : ∀ a b, vLk V a b → tIn P U 12 0 a b ∨ tFo P U 1536 a b := by
    intro a b z
    obtain ⟨f, i, q, hf, hq, hc, hr⟩ := (f4 a b).mp z
    have hlt : i < (pC P f).length := (List.getElem?_eq_some_iff.mp hq).1
    have hv : vN q := (hw.2.2.2.1 f hf).2 q (List.mem_of_getElem? hq)
    have hcU := (s1 f hf i hlt).mpr hc
    rcases hr with y | ⟨y0, y1, y2, p, y3, y4⟩ | ⟨y0, y1, y2, p, y3, y4, y5⟩ | ⟨y0, y1, p, t, y3, y4, y5, y6⟩
    · exact Or.inl ⟨f, i, q, hf, Or.inl hf, hq, hcU, Or.inl y⟩
    · refine Or.inl ⟨f, i, q, hf, Or.inl hf, hq, hcU, Or.inr (Or.inl ⟨y0, y1, y2, p, y3, ?_⟩)⟩
      obtain ⟨o, a', bb, cc⟩ := q
      replace y0 : o = 3 := y0
      subst y0
      obtain ⟨k, hk, x1, ek⟩ := vT_n hv.2.1
      obtain ⟨rc, hrc, x2, erc⟩ := vR_n hv.2.2
      have := (hw.1 (ix bb) (by rw [ek]; exact hk)).1
      exact (s2 f hf i hlt _ (by show ix cc < 4; rw [erc]; exact hrc) p (by have : p < pS P (ix bb) := y3; omega)).mpr y4
    · obtain ⟨t, ht⟩ := Option.isSome_iff_exists.mp y5
      refine Or.inl ⟨f, i, q, hf, Or.inl hf, hq, hcU, Or.inr (Or.inr ⟨y0, y1, y2, p, ?_, ?_, y5⟩)⟩
      · obtain ⟨o, a', bb, cc⟩ := q
        replace y0 : o = 11 := y0
        subst y0
        obtain ⟨k, hk, x1, ek⟩ := vT_n hv.2.1
        exact (hw.2.2.1 (ix bb) (by rw [ek]; exact hk) p y3 t ht).2.1
      · obtain ⟨o, a', bb, cc⟩ := q
        replace y0 : o = 11 := y0
        subst y0
        obtain ⟨rc, hrc, x2, erc⟩ := vR_n hv.2.2
        exact (s2 f hf i hlt _ (by show ix cc < 4; rw [erc]; exact hrc) p (by omega)).mpr y4
    · have hk24 : ix q.2.2.1 < 24 := by
        obtain ⟨o, a', bb, cc⟩ := q
        replace y0 : o = 11 := y0
        subst y0
        obtain ⟨k, hk, x1, ek⟩ := vT_n hv.2.1
        show ix bb < 24
        rw [ek]; exact hk
      refine Or.inr ⟨ix q.2.2.1, p, t, by omega, hk24, y3, (s7 _ _).mpr ⟨f, i, q, hf, hq, hc, y0, rfl, y3, y4, ?_⟩, y5, y1, y6⟩
      rw [y5]
      rfl
  refine xE_of [some (.ref 50), none, none, none] (by decide +kernel) (Nat.le_of_ble_eq_true rfl) rfl ?_
  refine xF_go o_Mo_chains [2] 60 (fun K hK => ?_)
  repeat' ((conv => whnf); first | refine ⟨fun h => ?_, fun h => ?_⟩ | refine ⟨?_, ?_⟩ | refine hK _ _ _ _ ?_)
  clear hK K
  have e0 : M = xsI M 82 (fun i => if i < 0 then oI (dIni P i) else M.1 82 i) := (xsI_id (fun i => by rw [if_neg (by omega)])).symm
  have key := L_why l G P M hP.2.2.2.2.1 (fun v M' => v = none ∧ (∀ x, x < 36 → rD (ent P) (vLk V) x (M'.1 82 x)) ∧ mo false M' ∧ ufr [82] M M') ?_ 36 0 (by omega)
  · rw [← e0] at key
    exact key
  intro x
  refine xF_go o_Mo_chains [45] 60 (fun K hK => ?_)
  repeat' ((conv => whnf); first | refine ⟨fun h => ?_, fun h => ?_⟩ | refine ⟨?_, ?_⟩ | refine hK _ _ _ _ ?_)
  · exact Or.inr rfl
  clear hK K
  refine L_cwhile l G P hw U (ent P) (vLk V) M hP hU hlk hFs hLf _ ?_ (muD (dIni P) + 1) (dIni P) true _ _ _ _ (fun x hx => if_pos hx) rfl ((ufr.rf.I (by simp) (by decide)).F) dIni_i (fun _ => Nat.lt_succ_self _) (fun z => by cases z)
  intro D M2 hD hm hfr hi hn
  refine ⟨rfl, fun x hx => ?_, hm, hfr⟩
  rw [hD x hx]
  exact iD_end hi (fun x z => by have := z.1; omega) (fun a b ha z => hC0 a b z ha) (fun a b _ z => hn a b (hall a b z)) hx
end XCY
