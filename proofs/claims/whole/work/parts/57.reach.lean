/-! the sets worked out: what the class's Reach holds, as a mathematical value -/
abbrev sV : Type := (Nat → Nat → Nat → Nat → Prop) × (Nat → Nat → Nat → Prop) × (Nat → Nat → Prop) × (Nat → Nat → Prop) × (Nat → Nat → Prop) × (Nat → Prop) × (Nat → Prop) × (Nat → Nat → Prop)
abbrev vS (V : sV) : Nat → Nat → Nat → Nat → Prop := V.1
abbrev vY (V : sV) : Nat → Nat → Nat → Prop := V.2.1
abbrev vC (V : sV) : Nat → Nat → Prop := V.2.2.1
abbrev vW (V : sV) : Nat → Nat → Prop := V.2.2.2.1
abbrev vRd (V : sV) : Nat → Nat → Prop := V.2.2.2.2.1
abbrev vWr (V : sV) : Nat → Prop := V.2.2.2.2.2.1
abbrev vCm (V : sV) : Nat → Prop := V.2.2.2.2.2.2.1
abbrev vLk (V : sV) : Nat → Nat → Prop := V.2.2.2.2.2.2.2
/-- the thing whose change an instruction must hear of -/
def waker (q : Nat × Int32 × Int32 × Int32) : Option Nat := if q.1 = 5 then some (ix q.2.1) else if q.1 = 3 then some (12 + ix q.2.2.1) else if q.1 = 11 then some 36 else none
def site (P : sP) (w f i : Nat) : Prop := ∃ q, (pC P f)[i]? = some q ∧ waker q = some w
def cS21 (S : Nat → Nat → Nat → Nat → Prop) (M : xMe) : Prop := ∀ f, f < 12 → ∀ i, i < 41 → ∀ r, r < 4 → ∀ v, v < 256 → (sHas (M.2 21) ((f * 41 + i) * 16 + r * 4) v = true ↔ S f i r v)
def cY22 (P : sP) (Y : Nat → Nat → Nat → Prop) (M : xMe) : Prop := ∀ k, k < 24 → ∀ p, p < pS P k → ∀ v, v < 256 → (sHas (M.2 22) ((k * 64 + p) * 4) v = true ↔ Y k p v)
def cB (c n : Nat) (X : Nat → Nat → Prop) (M : xMe) : Prop := ∀ a, a < n → ∀ b, b < 64 → (xbit (M.2 c a) b = true ↔ X a b)
def cZ (c : Nat) (X : Nat → Prop) (M : xMe) : Prop := ∀ k, k < 24 → ∃ b, M.1 c k = b2 b ∧ (b = true ↔ X k)
def cV (P : sP) (V : sV) (M : xMe) : Prop := cS21 (vS V) M ∧ cY22 P (vY V) M ∧ cB 23 12 (vC V) M ∧ cB 24 12 (vW V) M ∧ cB 27 24 (vRd V) M ∧ cZ 28 (vWr V) M ∧ cZ 29 (vCm V) M ∧ cB 18 36 (vLk V) M
/-- lengths and sites: they stand while the sets are worked out -/
def cK (P : sP) (M : xMe) : Prop := (∀ f, f < 12 → M.1 20 f = nI (pC P f).length) ∧ (∀ w, w < 37 → ∀ f, f < 12 → ∀ i, i < 64 → (xbit (M.2 25 (w * 12 + f)) i = true ↔ site P w f i))
theorem cK_fr {P : sP} {S : List Nat} {M M' : xMe} (h : xfr S M M') (hS : 20 ∉ S ∧ 25 ∉ S) (hM : cK P M) : cK P M' := by
  unfold cK
  rw [(h 20 hS.1).1, (h 25 hS.2).2]
  exact hM
def vGrew (V : sV) (f j : Nat) (X : Nat → Nat → Prop) : Prop := ∃ r, r < 4 ∧ ∃ v, v < 256 ∧ X r v ∧ ¬ vS V f j r v
def vAdd (V : sV) (f j : Nat) (X : Nat → Nat → Prop) : sV := (fun f' i r v => vS V f' i r v ∨ (f' = f ∧ i = j ∧ X r v), vY V, fun f' i => vC V f' i ∨ (f' = f ∧ i = j ∧ vGrew V f j X), fun f' i => vW V f' i ∨ (f' = f ∧ i = j ∧ vGrew V f j X), V.2.2.2.2)
def vWake (P : sP) (V : sV) (w : Nat) : sV := (vS V, vY V, vC V, fun f i => vW V f i ∨ (site P w f i ∧ vC V f i), V.2.2.2.2)
def place (P : sP) (f : Nat) (x : Int32) : Nat := if x < 0 ∨ ¬ x < nI (pC P f).length then 40 else ix x
theorem place_lt {P : sP} (hw : wP P) {f : Nat} (hf : f < 12) (x : Int32) : place P f x < 41 := by
  have hl := (hw.2.2.2.1 f hf).1
  unfold place
  split
  · omega
  · rename_i h
    have h1 : ¬ x < 0 := fun z => h (Or.inl z)
    have h2 : x < nI (pC P f).length := Classical.byContradiction (fun z => h (Or.inr z))
    obtain ⟨n, hn, e⟩ := nI_ofN (x := x) (n := (pC P f).length) (by omega) (by grind) h2
    rw [e, ix_nI (by omega)]
    omega
theorem set_n (s q : Nat) : nI s * 16 + nI q * 4 = nI (s * 16 + q * 4) := by
  rw [← nI_add, show nI (s * 16) = nI s * 16 from (pk_mul s 16).symm, show nI (q * 4) = nI q * 4 from (pk_mul q 4).symm]
theorem stand_n (k p : Nat) : (nI k * 64 + nI p) * 4 = nI ((k * 64 + p) * 4) := by
  rw [show nI k * 64 = nI (k * 64) from pk_mul k 64, nI_add]
  exact pk_mul (k * 64 + p) 4
theorem b2_or (a b : Bool) : (b2 a ||| b2 b : Int32) = b2 (a || b) := by cases a <;> cases b <;> decide
theorem bit_upd {g : Nat → Int64} {f j : Nat} (hj : j < 64) {f' i : Nat} : xbit (vp_updL g f (g f ||| (1 : Int64) <<< ((nI j).toInt64 &&& 63)) f') i = (xbit (g f') i || decide (f' = f ∧ i = j)) := by
  unfold vp_updL
  by_cases e : f' = f
  · subst e
    rw [if_pos rfl, xbit_or, xbit_1 hj]
    simp
  · rw [if_neg e]
    simp [e]
section XRE
variable (l : Launch) (G : xG)
theorem E_arriveAt (f j : Nat) (hf : f < 12) (hj : j < 64) (M : xMe) : xE l G y_Re_arriveAt [.ref 16, .int (nI f), .int (nI j)] M (fun r M' => r = none ∧ M' = xsL (xsL M 23 (vp_updL (M.2 23) f (M.2 23 f ||| (1 : Int64) <<< ((nI j).toInt64 &&& 63)))) 24 (vp_updL (M.2 24) f (M.2 24 f ||| (1 : Int64) <<< ((nI j).toInt64 &&& 63)))) := by
  refine xE_of [some (.ref 16), some (.int (nI f)), some (.int (nI j))] (by decide +kernel) (Nat.le_of_ble_eq_true rfl) rfl ?_
  refine xF_go o_Re_arriveAt [] 60 (fun K hK => ?_)
  repeat' ((conv => whnf); first | refine ⟨fun h => ?_, fun h => ?_⟩ | refine ⟨?_, ?_⟩ | refine hK _ _ _ _ ?_)
  · exact vp_in_nI hf (by decide)
  · exact vp_in_nI hf (by decide)
  · exact vp_in_nI hf (by decide)
  · exact vp_in_nI hf (by decide)
  · refine xF_vret o_Re_arriveAt rfl rfl ?_
    rw [nI_clamp (by omega)]
    exact ⟨rfl, rfl⟩
theorem E_placeIn (P : sP) (M : xMe) (hK : cK P M) (hw : wP P) (f : Nat) (hf : f < 12) (x : Int32) : xE l G y_Re_placeIn [.ref 16, .int (nI f), .int x] M (fun r M' => M' = M ∧ r = some (.int (nI (place P f x)))) := by
  have hl := hK.1 f hf
  have hl40 := (hw.2.2.2.1 f hf).1
  have hcl : (nI f).toNatClampNeg = f := nI_clamp (by omega)
  clear hK
  refine xE_of [some (.ref 16), some (.int (nI f)), some (.int x)] (by decide +kernel) (Nat.le_of_ble_eq_true rfl) rfl ?_
  refine xF_go o_Re_placeIn [] 60 (fun K hK => ?_)
  repeat' ((conv => whnf); first | refine ⟨fun h => ?_, fun h => ?_⟩ | refine ⟨?_, ?_⟩ | refine hK _ _ _ _ ?_)
  · have h0 : x < 0 := by assumption
    refine xF_iret o_Re_placeIn rfl rfl ?_
    unfold place
    rw [if_pos (Or.inl h0)]
    exact ⟨rfl, rfl⟩
  · exact vp_in_nI hf (by decide)
  · have h0 : ¬ x < 0 := by assumption
    have h1 : x < M.1 20 (nI f).toNatClampNeg := by assumption
    rw [hcl, hl] at h1
    refine xF_iret o_Re_placeIn rfl rfl ?_
    unfold place
    rw [if_neg (fun z => z.elim h0 (fun z => z h1))]
    obtain ⟨n, hn, e⟩ := nI_ofN (x := x) (n := (pC P f).length) (by omega) (by grind) h1
    rw [e, ix_nI (by omega)]
    exact ⟨rfl, rfl⟩
  · have h1 : ¬ x < M.1 20 (nI f).toNatClampNeg := by assumption
    rw [hcl, hl] at h1
    refine xF_iret o_Re_placeIn rfl rfl ?_
    unfold place
    rw [if_pos (Or.inr h1)]
    exact ⟨rfl, rfl⟩
theorem E_placesIn (s q : Nat) (hs : s < 492) (hq : q < 4) (M : xMe) : xE l G y_Re_placesIn [.ref 16, .int (nI s), .int (nI q)] M (fun r M' => M' = M ∧ r = some (.long (M.2 21 (s * 16 + q * 4)))) := by
  refine xE_of [some (.ref 16), some (.int (nI s)), some (.int (nI q))] (by decide +kernel) (Nat.le_of_ble_eq_true rfl) rfl ?_
  refine xF_go o_Re_placesIn [] 60 (fun K hK => ?_)
  repeat' ((conv => whnf); first | refine ⟨fun h => ?_, fun h => ?_⟩ | refine ⟨?_, ?_⟩ | refine hK _ _ _ _ ?_)
  refine xF_callS o_Re_placesIn [.int (nI s), .int (nI q)] rfl z_Re_setAt s_Re_setAt l_Re_95 rfl ⟨⟨by decide, by decide⟩, rfl, rfl⟩ (Nat.le_of_ble_eq_true rfl) rfl (E_setAt l G (nI s) (nI q) M) ?_
  rintro v M' ⟨rfl, rfl⟩
  clear hK K
  rw [set_n]
  refine xF_go o_Re_placesIn [] 60 (fun K hK => ?_)
  repeat' ((conv => whnf); first | refine ⟨fun h => ?_, fun h => ?_⟩ | refine ⟨?_, ?_⟩ | refine hK _ _ _ _ ?_)
  · exact vp_in_nI (N := 7872) (by omega) (by decide)
  · rw [nI_clamp (by omega)]
    refine xF_lret o_Re_placesIn rfl rfl ?_
    exact ⟨rfl, rfl⟩
theorem L_wake (w : Nat) (hw : w < 37) (M0 : xMe) (Q : Option Value → xMe → Prop) (hQ : Q none (xsL M0 24 (fun f => if f < 12 then M0.2 24 f ||| (M0.2 25 (w * 12 + f) &&& M0.2 23 f) else M0.2 24 f))) : ∀ (m f : Nat), m + f = 12 → xF l G y_Re_wake 2 [some (.ref 16), some (.int (nI w)), some (.int (nI f))] [] (xsL M0 24 (fun j => if j < f then M0.2 24 j ||| (M0.2 25 (w * 12 + j) &&& M0.2 23 j) else M0.2 24 j)) Q := by
  intro m
  induction m with
  | zero =>
    intro f hf
    obtain rfl : f = 12 := by omega
    refine xF_go o_Re_wake [2] 60 (fun K hK => ?_)
    repeat' ((conv => whnf); first | refine ⟨fun h => ?_, fun h => ?_⟩ | refine ⟨?_, ?_⟩ | refine hK _ _ _ _ ?_)
    · refine xF_vret o_Re_wake rfl rfl ?_
      exact hQ
    all_goals exact absurd (show nI 12 < nI 12 from by assumption) (nI_nlt (by omega) (by omega))
  | succ m ih =>
    intro f hf
    have i1 : vp_in (nI f) 12 := vp_in_nI (by omega) (by decide)
    have e1 : nI w * 12 + nI f = nI (w * 12 + f) := by rw [← nI_add, show nI (w * 12) = nI w * 12 from (pk_mul w 12).symm]
    have i2 : vp_in (nI w * 12 + nI f) 444 := by rw [e1]; exact vp_in_nI (by omega) (by decide)
    have hih := ih (f + 1) (by omega)
    refine xF_go o_Re_wake [2] 60 (fun K hK => ?_)
    repeat' ((conv => whnf); first | refine ⟨fun h => ?_, fun h => ?_⟩ | refine ⟨?_, ?_⟩ | refine hK _ _ _ _ ?_)
    · exact absurd (nI_lt (b := 12) (by omega) (by omega)) h
    · exact i1
    · exact i2
    · exact i1
    · exact i1
    · rw [e1, nI_1, nI_clamp (n := f) (by omega), nI_clamp (by omega), xsL_LL]
      rw [xsL_c (g := vp_updL (fun j => if j < f then M0.2 24 j ||| (M0.2 25 (w * 12 + j) &&& M0.2 23 j) else M0.2 24 j) f ((if f < f then M0.2 24 f ||| (M0.2 25 (w * 12 + f) &&& M0.2 23 f) else M0.2 24 f) ||| (M0.2 25 (w * 12 + f) &&& M0.2 23 f)))] at hih
      · exact hih
      · intro i
        unfold vp_updL
        rw [if_neg (Nat.lt_irrefl f)]
        by_cases e : i = f
        · subst e
          rw [if_pos (by omega), if_pos rfl]
        · rw [if_neg e]
          grind
theorem E_wake (P : sP) (V : sV) (M : xMe) (hV : cV P V M) (hK : cK P M) (w : Nat) (hw : w < 37) : xE l G y_Re_wake [.ref 16, .int (nI w)] M (fun r M' => r = none ∧ cV P (vWake P V w) M' ∧ xfr [24] M M') := by
  have hsite := hK.2 w hw
  clear hK
  obtain ⟨h1, h2, h3, h4, h5, h6, h7, h8⟩ := hV
  refine xE_of [some (.ref 16), some (.int (nI w)), none] (by decide +kernel) (Nat.le_of_ble_eq_true rfl) rfl ?_
  refine xF_go o_Re_wake [2] 60 (fun K hK => ?_)
  repeat' ((conv => whnf); first | refine ⟨fun h => ?_, fun h => ?_⟩ | refine ⟨?_, ?_⟩ | refine hK _ _ _ _ ?_)
  have e0 : M = xsL M 24 (fun j => if j < 0 then M.2 24 j ||| (M.2 25 (w * 12 + j) &&& M.2 23 j) else M.2 24 j) := (xsL_id (fun i => by rw [if_neg (by omega)])).symm
  have key := L_wake l G w hw M (fun r M' => r = none ∧ cV P (vWake P V w) M' ∧ xfr [24] M M') ?_ 12 0 (by omega)
  · rw [← e0] at key
    exact key
  · refine ⟨rfl, ⟨h1, h2, h3, fun f hf i hi => ?_, h5, h6, h7, h8⟩, xfr.rf.L (by simp)⟩
    show xbit (if f < 12 then M.2 24 f ||| (M.2 25 (w * 12 + f) &&& M.2 23 f) else M.2 24 f) i = true ↔ (vW V f i ∨ (site P w f i ∧ vC V f i))
    rw [if_pos hf, xbit_or, xbit_and, Bool.or_eq_true, Bool.and_eq_true, h4 f hf i hi, h3 f hf i hi, hsite f hf i hi]
/-- one register's set joined: of the states' row alone -/
theorem S21_join {S : Nat → Nat → Nat → Nat → Prop} {M : xMe} (h : cS21 S M) {f j q : Nat} (hf : f < 12) (hj : j < 41) (hq : q < 4) {g : Nat → Int64} {s : Nat} {Z : Nat → Prop} (hZ : ∀ v, v < 256 → (sHas g s v = true ↔ Z v)) : cS21 (fun f' i r v => S f' i r v ∨ (f' = f ∧ i = j ∧ r = q ∧ Z v)) (xsL M 21 (fJoin (M.2 21) ((f * 41 + j) * 16 + q * 4) g s)) := by
  intro f' hf' i hi r hr v hv
  rw [xsL_2, if_pos rfl]
  by_cases e : f' = f ∧ i = j ∧ r = q
  · obtain ⟨rfl, rfl, rfl⟩ := e
    rw [sHas_join _ _ _ _ hv, Bool.or_eq_true, h f' hf' i hi r hr v hv, hZ v hv]
    simp
  · rw [sHas_join_o _ _ _ _ _ hv (by omega), h f' hf' i hi r hr v hv]
    constructor
    · exact Or.inl
    · rintro (z | z)
      · exact z
      · exact absurd ⟨z.1, z.2.1, z.2.2.1⟩ e
theorem S21_grew {S : Nat → Nat → Nat → Nat → Prop} {M : xMe} (h : cS21 S M) {f j q : Nat} (hf : f < 12) (hj : j < 41) (hq : q < 4) {g : Nat → Int64} {s : Nat} {Z : Nat → Prop} (hZ : ∀ v, v < 256 → (sHas g s v = true ↔ Z v)) : gGrew (M.2 21) ((f * 41 + j) * 16 + q * 4) g s 4 = true ↔ ∃ v, v < 256 ∧ Z v ∧ ¬ S f j q v := by
  rw [grew_iff]
  constructor
  · rintro ⟨v, hv, h1, h2⟩
    refine ⟨v, hv, (hZ v hv).mp h1, fun z => ?_⟩
    rw [(h f hf j hj q hq v hv).mpr z] at h2
    cases h2
  · rintro ⟨v, hv, h1, h2⟩
    refine ⟨v, hv, (hZ v hv).mpr h1, ?_⟩
    cases hh : sHas (M.2 21) ((f * 41 + j) * 16 + q * 4) v with
    | false => rfl
    | true => exact absurd ((h f hf j hj q hq v hv).mp hh) h2
theorem L_flow (P : sP) (V : sV) (M0 : xMe) (hV : cS21 (vS V) M0) (g i f j : Nat) (hg : g < 12) (hi : i < 41) (hf : f < 12) (hj : j < 41) (x r : Int32) (X : Nat → Nat → Prop) (hX : ∀ q, q < 4 → ∀ v, v < 256 → (X q v ↔ if nI q = r then sHas (M0.2 26) 0 v = true else vS V g i q v)) (Q : Option Value → xMe → Prop)
    (hQ : ∀ (F : Nat → Int64) (b : Bool), cS21 (fun f' i r v => vS V f' i r v ∨ (f' = f ∧ i = j ∧ X r v)) (xsL M0 21 F) → (b = true ↔ vGrew V f j X) → xF l G y_Re_flow 97 [some (.ref 16), some (.int (nI (g * 41 + i))), some (.int (nI f)), some (.int x), some (.int r), some (.int (nI j)), some (.int (nI (f * 41 + j))), some (.int (b2 b)), some (.int (nI 4))] [] (xsL M0 21 F) Q) :
    ∀ (m q : Nat), m + q = 4 → ∀ (F : Nat → Int64) (b : Bool), cS21 (fun f' i r v => vS V f' i r v ∨ (f' = f ∧ i = j ∧ r < q ∧ X r v)) (xsL M0 21 F) → (b = true ↔ ∃ r, r < q ∧ ∃ v, v < 256 ∧ X r v ∧ ¬ vS V f j r v) → xF l G y_Re_flow 22 [some (.ref 16), some (.int (nI (g * 41 + i))), some (.int (nI f)), some (.int x), some (.int r), some (.int (nI j)), some (.int (nI (f * 41 + j))), some (.int (b2 b)), some (.int (nI q))] [] (xsL M0 21 F) Q := by
  intro m
  induction m with
  | zero =>
    intro q hq F b hS hb
    obtain rfl : q = 4 := by omega
    refine xF_go o_Re_flow [22, 97] 60 (fun K hK => ?_)
    repeat' ((conv => whnf); first | refine ⟨fun h => ?_, fun h => ?_⟩ | refine ⟨?_, ?_⟩ | refine hK _ _ _ _ ?_)
    · refine hQ F b ?_ hb
      intro f' hf' i' hi' r' hr' v hv
      rw [hS f' hf' i' hi' r' hr' v hv]
      constructor
      · rintro (z | z)
        · exact Or.inl z
        · exact Or.inr ⟨z.1, z.2.1, z.2.2.2⟩
      · rintro (z | z)
        · exact Or.inl z
        · exact Or.inr ⟨z.1, z.2.1, hr', z.2.2⟩
    all_goals exact absurd (show nI 4 < nI 4 from by assumption) (nI_nlt (by omega) (by omega))
  | succ m ih =>
    intro q hq F b hS hb
    have fin : ∀ (g' : Nat → Int64) (s : Nat), (∀ v, v < 256 → (sHas g' s v = true ↔ X q v)) → xF l G y_Re_flow 91 [some (.ref 16), some (.int (nI (g * 41 + i))), some (.int (nI f)), some (.int x), some (.int r), some (.int (nI j)), some (.int (nI (f * 41 + j))), some (.int (b2 (b || gGrew ((xsL M0 21 F).2 21) ((f * 41 + j) * 16 + q * 4) g' s 4))), some (.int (nI q))] [] (xsL (xsL M0 21 F) 21 (fJoin ((xsL M0 21 F).2 21) ((f * 41 + j) * 16 + q * 4) g' s)) Q := by
      intro g' s hZ
      have c1 := S21_join hS hf hj (show q < 4 by omega) hZ
      have c2 := S21_grew hS hf hj (show q < 4 by omega) hZ
      rw [xsL_LL] at c1
      refine xF_go o_Re_flow [22, 97] 60 (fun K hK => ?_)
      repeat' ((conv => whnf); first | refine ⟨fun h => ?_, fun h => ?_⟩ | refine ⟨?_, ?_⟩ | refine hK _ _ _ _ ?_)
      rw [nI_1, xsL_LL]
      refine ih (q + 1) (by omega) _ _ ?_ ?_
      · intro f' hf' i' hi' r' hr' v hv
        rw [c1 f' hf' i' hi' r' hr' v hv]
        constructor
        · rintro ((z | z) | z)
          · exact Or.inl z
          · exact Or.inr ⟨z.1, z.2.1, by omega, z.2.2.2⟩
          · exact Or.inr ⟨z.1, z.2.1, by omega, z.2.2.1 ▸ z.2.2.2⟩
        · rintro (z | z)
          · exact Or.inl (Or.inl z)
          · by_cases e : r' = q
            · exact Or.inr ⟨z.1, z.2.1, e, e ▸ z.2.2.2⟩
            · exact Or.inl (Or.inr ⟨z.1, z.2.1, by omega, z.2.2.2⟩)
      · rw [Bool.or_eq_true, hb, c2]
        constructor
        · rintro (⟨r', z1, z2⟩ | ⟨v, z1, z2, z3⟩)
          · exact ⟨r', by omega, z2⟩
          · exact ⟨q, by omega, v, z1, z2, fun z => z3 (Or.inl z)⟩
        · rintro ⟨r', z1, v, z2, z3, z4⟩
          by_cases e : r' = q
          · subst e
            refine Or.inr ⟨v, z2, z3, ?_⟩
            rintro (z | z)
            · exact z4 z
            · omega
          · exact Or.inl ⟨r', by omega, v, z2, z3, z4⟩
    have t1 : xtl 21 = 7872 := rfl
    refine xF_go o_Re_flow [22, 97] 60 (fun K hK => ?_)
    repeat' ((conv => whnf); first | refine ⟨fun h => ?_, fun h => ?_⟩ | refine ⟨?_, ?_⟩ | refine hK _ _ _ _ ?_)
    · exact absurd (nI_lt (b := 4) (by omega) (by omega)) h
    · have h0 : ¬ nI q = r := by assumption
      refine xF_callS o_Re_flow [.int (nI (f * 41 + j)), .int (nI q)] rfl z_Re_setAt s_Re_setAt l_Re_95 rfl ⟨⟨by decide, by decide⟩, rfl, rfl⟩ (Nat.le_of_ble_eq_true rfl) rfl (E_setAt l G (nI (f * 41 + j)) (nI q) (xsL M0 21 F)) ?_
      rintro v M' ⟨rfl, rfl⟩
      rw [set_n]
      clear hK K
      refine xF_go o_Re_flow [22, 97] 60 (fun K hK => ?_)
      repeat' ((conv => whnf); first | refine ⟨fun h => ?_, fun h => ?_⟩ | refine ⟨?_, ?_⟩ | refine hK _ _ _ _ ?_)
      refine xF_callS o_Re_flow [.int (nI (g * 41 + i)), .int (nI q)] rfl z_Re_setAt s_Re_setAt l_Re_95 rfl ⟨⟨by decide, by decide⟩, rfl, rfl⟩ (Nat.le_of_ble_eq_true rfl) rfl (E_setAt l G (nI (g * 41 + i)) (nI q) (xsL M0 21 F)) ?_
      rintro v M' ⟨rfl, rfl⟩
      rw [set_n]
      clear hK K
      refine xF_go o_Re_flow [22, 97] 60 (fun K hK => ?_)
      repeat' ((conv => whnf); first | refine ⟨fun h => ?_, fun h => ?_⟩ | refine ⟨?_, ?_⟩ | refine hK _ _ _ _ ?_)
      refine xF_callS o_Re_flow [.ref 21, .int (nI ((f * 41 + j) * 16 + q * 4)), .ref 21, .int (nI ((g * 41 + i) * 16 + q * 4))] rfl z_OS_join s_OS_join l_Re_155 rfl ⟨⟨by decide, by decide⟩, rfl, rfl⟩ (Nat.le_of_ble_eq_true rfl) rfl (E_join_21_21 l G ((f * 41 + j) * 16 + q * 4) ((g * 41 + i) * 16 + q * 4) (by omega) (by omega) (by omega) (xsL M0 21 F)) ?_
      rintro v M' ⟨rfl, rfl⟩
      clear hK K
      refine xF_go o_Re_flow [22, 91, 97] 60 (fun K hK => ?_)
      repeat' ((conv => whnf); first | refine ⟨fun h => ?_, fun h => ?_⟩ | refine ⟨?_, ?_⟩ | refine hK _ _ _ _ ?_)
      rw [b2_or]
      refine fin _ _ (fun v hv => ?_)
      rw [hS g hg i hi q (by omega) v hv, hX q (by omega) v hv, if_neg h0]
      constructor
      · rintro (z | z)
        · exact z
        · omega
      · exact Or.inl
    · have h0 : nI q = r := by assumption
      refine xF_callS o_Re_flow [.int (nI (f * 41 + j)), .int (nI q)] rfl z_Re_setAt s_Re_setAt l_Re_95 rfl ⟨⟨by decide, by decide⟩, rfl, rfl⟩ (Nat.le_of_ble_eq_true rfl) rfl (E_setAt l G (nI (f * 41 + j)) (nI q) (xsL M0 21 F)) ?_
      rintro v M' ⟨rfl, rfl⟩
      rw [set_n]
      clear hK K
      refine xF_go o_Re_flow [22, 97] 60 (fun K hK => ?_)
      repeat' ((conv => whnf); first | refine ⟨fun h => ?_, fun h => ?_⟩ | refine ⟨?_, ?_⟩ | refine hK _ _ _ _ ?_)
      refine xF_callS o_Re_flow [.ref 21, .int (nI ((f * 41 + j) * 16 + q * 4)), .ref 26, .int (nI 0)] rfl z_OS_join s_OS_join l_Re_155 rfl ⟨⟨by decide, by decide⟩, rfl, rfl⟩ (Nat.le_of_ble_eq_true rfl) rfl (E_join_21_26 l G ((f * 41 + j) * 16 + q * 4) 0 (by omega) (by decide) (by omega) (xsL M0 21 F)) ?_
      rintro v M' ⟨rfl, rfl⟩
      clear hK K
      refine xF_go o_Re_flow [22, 91, 97] 60 (fun K hK => ?_)
      repeat' ((conv => whnf); first | refine ⟨fun h => ?_, fun h => ?_⟩ | refine ⟨?_, ?_⟩ | refine hK _ _ _ _ ?_)
      rw [b2_or]
      refine fin _ _ (fun v hv => ?_)
      rw [hX q (by omega) v hv, if_pos h0]
      rfl
theorem E_flow (P : sP) (V : sV) (M : xMe) (hV : cV P V M) (hk : cK P M) (hw : wP P) (g i f : Nat) (hg : g < 12) (hi : i < 41) (hf : f < 12) (x r : Int32) (X : Nat → Nat → Prop) (hX : ∀ q, q < 4 → ∀ v, v < 256 → (X q v ↔ if nI q = r then sHas (M.2 26) 0 v = true else vS V g i q v)) : xE l G y_Re_flow [.ref 16, .int (nI (g * 41 + i)), .int (nI f), .int x, .int r] M (fun v M' => v = none ∧ cV P (vAdd V f (place P f x) X) M' ∧ xfr [21, 23, 24] M M') := by
  have hj := place_lt hw hf x
  obtain ⟨h1, h2, h3, h4, h5, h6, h7, h8⟩ := hV
  refine xE_of [some (.ref 16), some (.int (nI (g * 41 + i))), some (.int (nI f)), some (.int x), some (.int r), none, none, none, none] (by decide +kernel) (Nat.le_of_ble_eq_true rfl) rfl ?_
  refine xF_go o_Re_flow [22] 60 (fun K hK => ?_)
  repeat' ((conv => whnf); first | refine ⟨fun h => ?_, fun h => ?_⟩ | refine ⟨?_, ?_⟩ | refine hK _ _ _ _ ?_)
  refine xF_callV o_Re_flow [.int (nI f), .int x] rfl z_Re_placeIn i_Re_placeIn v_Re_placeIn l_Re_152 rfl ⟨⟨by decide, by decide⟩, rfl, rfl⟩ (Nat.le_of_ble_eq_true rfl) rfl rfl rfl (E_placeIn l G P M hk hw f hf x) ?_
  rintro v M' ⟨rfl, rfl⟩
  clear hK K
  generalize place P f x = j at *
  refine xF_go o_Re_flow [22] 60 (fun K hK => ?_)
  repeat' ((conv => whnf); first | refine ⟨fun h => ?_, fun h => ?_⟩ | refine ⟨?_, ?_⟩ | refine hK _ _ _ _ ?_)
  refine xF_callS o_Re_flow [.int (nI f), .int (nI j)] rfl z_Re_slotOf s_Re_slotOf l_Re_91 rfl ⟨⟨by decide, by decide⟩, rfl, rfl⟩ (Nat.le_of_ble_eq_true rfl) rfl (E_slotOf l G (nI f) (nI j) M') ?_
  rintro v M ⟨rfl, rfl⟩
  rw [nI_41, nI_add]
  clear hK K
  refine xF_go o_Re_flow [22] 60 (fun K hK => ?_)
  repeat' ((conv => whnf); first | refine ⟨fun h => ?_, fun h => ?_⟩ | refine ⟨?_, ?_⟩ | refine hK _ _ _ _ ?_)
  have e0 : M = xsL M 21 (M.2 21) := (xsL_id (fun i => rfl)).symm
  have key := L_flow l G P V M h1 g i f j hg hi hf hj x r X hX (fun v M' => v = none ∧ cV P (vAdd V f j X) M' ∧ xfr [21, 23, 24] M M') ?_ 4 0 (by omega) (M.2 21) false ?_ ?_
  · rw [← e0] at key
    exact key
  · clear hK K
    intro F b hS hb
    refine xF_go o_Re_flow [] 60 (fun K hK => ?_)
    repeat' ((conv => whnf); first | refine ⟨fun h => ?_, fun h => ?_⟩ | refine ⟨?_, ?_⟩ | refine hK _ _ _ _ ?_)
    · have h0 : b2 b = 0 := by assumption
      have hn : ¬ vGrew V f j X := fun z => by
        rw [hb.mpr z] at h0
        exact absurd h0 (by decide)
      refine xF_vret o_Re_flow rfl rfl ?_
      refine ⟨rfl, ⟨hS, h2, fun f' hf' i' hi' => ?_, fun f' hf' i' hi' => ?_, h5, h6, h7, h8⟩, xfr.rf.L (by simp)⟩
      · show xbit (M.2 23 f') i' = true ↔ (vC V f' i' ∨ (f' = f ∧ i' = j ∧ vGrew V f j X))
        rw [h3 f' hf' i' hi']
        exact ⟨Or.inl, fun z => z.elim id (fun z => absurd z.2.2 hn)⟩
      · show xbit (M.2 24 f') i' = true ↔ (vW V f' i' ∨ (f' = f ∧ i' = j ∧ vGrew V f j X))
        rw [h4 f' hf' i' hi']
        exact ⟨Or.inl, fun z => z.elim id (fun z => absurd z.2.2 hn)⟩
    · have h0 : ¬ b2 b = 0 := by assumption
      have hn : vGrew V f j X := by
        refine hb.mp ?_
        cases b with
        | true => rfl
        | false => exact absurd rfl h0
      refine xF_callV o_Re_flow [.int (nI f), .int (nI j)] rfl z_Re_arriveAt i_Re_arriveAt v_Re_arriveAt l_Re_159 rfl ⟨⟨by decide, by decide⟩, rfl, rfl⟩ (Nat.le_of_ble_eq_true rfl) rfl rfl rfl (E_arriveAt l G f j hf (by omega) (xsL M 21 F)) ?_
      rintro v M' ⟨rfl, rfl⟩
      clear hK K
      refine xF_go o_Re_flow [] 60 (fun K hK => ?_)
      repeat' ((conv => whnf); first | refine ⟨fun h => ?_, fun h => ?_⟩ | refine ⟨?_, ?_⟩ | refine hK _ _ _ _ ?_)
      refine xF_vret o_Re_flow rfl rfl ?_
      refine ⟨rfl, ⟨hS, h2, fun f' hf' i' hi' => ?_, fun f' hf' i' hi' => ?_, h5, h6, h7, h8⟩, ((xfr.rf.L (by simp)).L (by simp)).L (by simp)⟩
      · show xbit (vp_updL (M.2 23) f (M.2 23 f ||| (1 : Int64) <<< ((nI j).toInt64 &&& 63)) f') i' = true ↔ (vC V f' i' ∨ (f' = f ∧ i' = j ∧ vGrew V f j X))
        rw [bit_upd (by omega), ← h3 f' hf' i' hi', Bool.or_eq_true, decide_eq_true_iff]
        exact ⟨fun z => z.elim Or.inl (fun z => Or.inr ⟨z.1, z.2, hn⟩), fun z => z.elim Or.inl (fun z => Or.inr ⟨z.1, z.2.1⟩)⟩
      · show xbit (vp_updL (M.2 24) f (M.2 24 f ||| (1 : Int64) <<< ((nI j).toInt64 &&& 63)) f') i' = true ↔ (vW V f' i' ∨ (f' = f ∧ i' = j ∧ vGrew V f j X))
        rw [bit_upd (by omega), ← h4 f' hf' i' hi', Bool.or_eq_true, decide_eq_true_iff]
        exact ⟨fun z => z.elim Or.inl (fun z => Or.inr ⟨z.1, z.2, hn⟩), fun z => z.elim Or.inl (fun z => Or.inr ⟨z.1, z.2.1⟩)⟩
  · intro f' hf' i' hi' r' hr' v hv
    rw [← e0, h1 f' hf' i' hi' r' hr' v hv]
    exact ⟨Or.inl, fun z => z.elim id (fun z => by omega)⟩
  · exact ⟨(fun z => by cases z), fun ⟨r, z, _⟩ => by omega⟩
end XRE
