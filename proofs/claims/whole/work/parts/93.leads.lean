/-! the reference's chains: one link -/
def mD (D : Nat → Option Nat) (M : xMe) : Prop := ∀ x, x < 36 → M.1 82 x = oI (D x)
def dLf (D : Nat → Option Nat) (a b : Nat) : Option Nat := match D a with
  | none => none
  | some d => match D b with
    | none => some (d + 1)
    | some e => if d + 1 < e then some (d + 1) else none
def dLd (D : Nat → Option Nat) (a b : Nat) : Nat → Option Nat := match dLf D a b with
  | none => D
  | some d => un D b (some d)
theorem oI_none {o : Option Nat} (h : ∀ d, o = some d → d < 2 ^ 31) : oI o = -1 ↔ o = none := by
  cases o with
  | none => exact ⟨fun _ => rfl, fun _ => rfl⟩
  | some d =>
    refine ⟨fun z => ?_, fun z => by cases z⟩
    have z2 : nI d = -1 := z
    have := nI_pos' (n := d) (h d rfl)
    rw [z2] at this
    exact absurd this (by decide)
section XLD
variable (l : Launch) (G : xG)
theorem E_leads (D : Nat → Option Nat) (hD : ∀ x d, D x = some d → d < 2 ^ 30) (m : Bool) (M : xMe) (hM : mD D M) (hm : mo m M) (a b : Nat) (ha : a < 36) (hb : b < 36) : xE l G y_Mo_leads [.ref 50, .int (nI a), .int (nI b)] M (fun v M' => v = none ∧ mD (dLd D a b) M' ∧ mo (m || (dLf D a b).isSome) M' ∧ ufr [82] M M') := by
  have ca : (nI a).toNatClampNeg = a := nI_clamp (by omega)
  have cb : (nI b).toNatClampNeg = b := nI_clamp (by omega)
  have va : M.1 82 (nI a).toNatClampNeg = oI (D a) := by rw [ca]; exact hM a ha
  have vb : M.1 82 (nI b).toNatClampNeg = oI (D b) := by rw [cb]; exact hM b hb
  have na := oI_none (o := D a) (fun d e => by have := hD a d e; omega)
  have nb := oI_none (o := D b) (fun d e => by have := hD b d e; omega)
  have ia : vp_in (nI a) 36 := vp_in_nI ha (by decide)
  have ib : vp_in (nI b) 36 := vp_in_nI hb (by decide)
  have none_post : dLf D a b = none → xF l G y_Mo_leads 56 [some (.ref 50), some (.int (nI a)), some (.int (nI b))] [] M (fun v M' => v = none ∧ mD (dLd D a b) M' ∧ mo (m || (dLf D a b).isSome) M' ∧ ufr [82] M M') := by
    intro e
    refine xF_vret o_Mo_leads rfl rfl ?_
    unfold dLd
    rw [e]
    exact ⟨rfl, hM, by rw [show (none : Option Nat).isSome = false from rfl, Bool.or_false]; exact hm, ufr.rf⟩
  have some_post : ∀ d, D a = some d → dLf D a b = some (d + 1) → xF l G y_Mo_leads 37 [some (.ref 50), some (.int (nI a)), some (.int (nI b))] [] M (fun v M' => v = none ∧ mD (dLd D a b) M' ∧ mo (m || (dLf D a b).isSome) M' ∧ ufr [82] M M') := by
    intro d ed e
    refine xF_go o_Mo_leads [] 60 (fun K hK => ?_)
    repeat' ((conv => whnf); first | refine ⟨fun h => ?_, fun h => ?_⟩ | refine ⟨?_, ?_⟩ | refine hK _ _ _ _ ?_)
    · exact ia
    · exact ib
    · exact Or.inr rfl
    · refine xF_vret o_Mo_leads rfl rfl ?_
      unfold dLd
      rw [e, va, cb, ed]
      refine ⟨rfl, fun x hx => ?_, ?_, (ufr.rf.I (by simp) (by decide)).F⟩
      · show upd (M.1 82) b (nI d + 1) x = oI (un D b (some (d + 1)) x)
        by_cases ex : x = b
        · subst ex
          rw [upd_s, un_s, nI_1]
          rfl
        · rw [upd_n ex, un_n ex]
          exact hM x hx
      · rw [show (some (d + 1)).isSome = true from rfl, Bool.or_true]
        rfl
  refine xE_of [some (.ref 50), some (.int (nI a)), some (.int (nI b))] (by decide +kernel) (Nat.le_of_ble_eq_true rfl) rfl ?_
  refine xF_go o_Mo_leads [37, 56] 60 (fun K hK => ?_)
  repeat' ((conv => whnf); first | refine ⟨fun h => ?_, fun h => ?_⟩ | refine ⟨?_, ?_⟩ | refine hK _ _ _ _ ?_)
  · exact ia
  · have h0 : M.1 82 (nI a).toNatClampNeg = -1 := by assumption
    rw [va, na] at h0
    exact none_post (by unfold dLf; rw [h0])
  · exact ib
  · have h0 : ¬ M.1 82 (nI a).toNatClampNeg = -1 := by assumption
    have h1 : M.1 82 (nI b).toNatClampNeg = -1 := by assumption
    rw [va, na] at h0
    rw [vb, nb] at h1
    cases ed : D a with
    | none => exact absurd ed h0
    | some d => exact some_post d ed (by unfold dLf; rw [ed, h1])
  · exact ib
  · exact ia
  · have h0 : ¬ M.1 82 (nI a).toNatClampNeg = -1 := by assumption
    have h1 : ¬ M.1 82 (nI b).toNatClampNeg = -1 := by assumption
    have h2 : ¬ M.1 82 (nI a).toNatClampNeg + 1 < M.1 82 (nI b).toNatClampNeg := by assumption
    rw [va] at h0 h2
    rw [vb] at h1 h2
    rw [na] at h0
    rw [nb] at h1
    cases ed : D a with
    | none => exact absurd ed h0
    | some d =>
      cases ee : D b with
      | none => exact absurd ee h1
      | some e =>
        rw [ed, ee] at h2
        have h3 : ¬ nI d + 1 < nI e := h2
        have := hD a d ed
        have := hD b e ee
        rw [nI_1, nI_ltI (by omega) (by omega)] at h3
        exact none_post (by unfold dLf; rw [ed, ee]; exact if_neg h3)
  · have h0 : ¬ M.1 82 (nI a).toNatClampNeg = -1 := by assumption
    have h1 : ¬ M.1 82 (nI b).toNatClampNeg = -1 := by assumption
    have h2 : M.1 82 (nI a).toNatClampNeg + 1 < M.1 82 (nI b).toNatClampNeg := by assumption
    rw [va] at h0 h2
    rw [vb] at h1 h2
    rw [na] at h0
    rw [nb] at h1
    cases ed : D a with
    | none => exact absurd ed h0
    | some d =>
      cases ee : D b with
      | none => exact absurd ee h1
      | some e =>
        rw [ed, ee] at h2
        have h3 : nI d + 1 < nI e := h2
        have := hD a d ed
        have := hD b e ee
        rw [nI_1, nI_ltI (by omega) (by omega)] at h3
        exact some_post d ed (by unfold dLf; rw [ed, ee]; exact if_pos h3)
end XLD
