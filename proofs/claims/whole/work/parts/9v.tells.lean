/-! what is told of the latest shrink: the class -/
abbrev sZ : Type := Option (sP × sV × List Nat)
theorem rD_one {E : Nat → Prop} {L : Nat → Nat → Prop} {x : Nat} {r r' : Int32} (h : rD E L x r) (h' : rD E L x r') : r = r' := by
  by_cases e : ∃ n, pth E L n x
  · obtain ⟨n, hn⟩ := e
    obtain ⟨m, _, hm⟩ := isd_ex n hn
    rw [h.1 m hm, h'.1 m hm]
  · have e' : ∀ n, ¬ pth E L n x := fun n z => e ⟨n, z⟩
    rw [h.2 e', h'.2 e']
def hadI (P : sP) (k : Int32) : Prop := ∃ j, j < 24 ∧ k = nI j ∧ 0 < pS P j
def rKept (Z : sZ) (k w r : Int32) : Prop := match Z with
  | none => r = -1
  | some (P, V, R) => (¬ hadI P k → r = -1) ∧ ∀ j, j < 24 → k = nI j → 0 < pS P j → (w = 0 → r = b2 (tb (kpt P V j))) ∧ (w = 1 → r = nI (cnt (fun p => tb (vRd V j p)) 64)) ∧ (w = 2 → r = b2 (tb (vWr V j))) ∧ (w = 3 → r = b2 (tb (vCm V j))) ∧ (w = 4 → r = oI (ad2 P (stl P V) R j)) ∧ (w = 5 → r = oI (hol P (stl P V) j)) ∧ (w = 6 → rD (ent P) (vLk V) (12 + j) r) ∧ (¬ w = 0 → ¬ w = 1 → ¬ w = 2 → ¬ w = 3 → ¬ w = 4 → ¬ w = 5 → ¬ w = 6 → r = -1)
theorem rKept_one {Z : sZ} {k w r r' : Int32} (h : rKept Z k w r) (h' : rKept Z k w r') : r = r' := by
  match Z, h, h' with
  | none, h, h' => exact h.trans h'.symm
  | some (P, V, R), h, h' =>
    by_cases e : hadI P k
    · obtain ⟨j, hj, hk, hs⟩ := e
      obtain ⟨a0, a1, a2, a3, a4, a5, a6, a7⟩ := h.2 j hj hk hs
      obtain ⟨b0, b1, b2', b3, b4, b5, b6, b7⟩ := h'.2 j hj hk hs
      by_cases e0 : w = 0
      · rw [a0 e0, b0 e0]
      by_cases e1 : w = 1
      · rw [a1 e1, b1 e1]
      by_cases e2 : w = 2
      · rw [a2 e2, b2' e2]
      by_cases e3 : w = 3
      · rw [a3 e3, b3 e3]
      by_cases e4 : w = 4
      · rw [a4 e4, b4 e4]
      by_cases e5 : w = 5
      · rw [a5 e5, b5 e5]
      by_cases e6 : w = 6
      · exact rD_one (a6 e6) (b6 e6)
      rw [a7 e0 e1 e2 e3 e4 e5 e6, b7 e0 e1 e2 e3 e4 e5 e6]
    · rw [h.1 e, h'.1 e]
def rRead (Z : sZ) (k p r : Int32) : Prop := match Z with
  | none => r = -1
  | some (P, V, _) => (∀ j q, j < 24 → k = nI j → q < pS P j → p = nI q → r = b2 (tb (vRd V j q))) ∧ ((¬ ∃ j q, j < 24 ∧ k = nI j ∧ q < pS P j ∧ p = nI q) → r = -1)
theorem rRead_one {Z : sZ} {k p r r' : Int32} (h : rRead Z k p r) (h' : rRead Z k p r') : r = r' := by
  match Z, h, h' with
  | none, h, h' => exact h.trans h'.symm
  | some (P, V, R), h, h' =>
    by_cases e : ∃ j q, j < 24 ∧ k = nI j ∧ q < pS P j ∧ p = nI q
    · obtain ⟨j, q, h1, h2, h3, h4⟩ := e
      rw [h.1 j q h1 h2 h3 h4, h'.1 j q h1 h2 h3 h4]
    · rw [h.2 e, h'.2 e]
def rFunc (Z : sZ) (k w r : Int32) : Prop := match Z with
  | none => r = -1
  | some (P, V, _) => ((¬ ∃ f, f < 12 ∧ k = nI f) → r = -1) ∧ ∀ f, f < 12 → k = nI f → (w = 0 → r = b2 (tb (∃ i, i < 64 ∧ vC V f i))) ∧ (w = 1 → r = nI (cnt (fun i => tb (vC V f i)) (pC P f).length)) ∧ (w = 2 → rD (ent P) (vLk V) f r) ∧ (¬ w = 0 → ¬ w = 1 → ¬ w = 2 → r = -1)
theorem rFunc_one {Z : sZ} {k w r r' : Int32} (h : rFunc Z k w r) (h' : rFunc Z k w r') : r = r' := by
  match Z, h, h' with
  | none, h, h' => exact h.trans h'.symm
  | some (P, V, R), h, h' =>
    by_cases e : ∃ f, f < 12 ∧ k = nI f
    · obtain ⟨f, hf, hk⟩ := e
      obtain ⟨a0, a1, a2, a3⟩ := h.2 f hf hk
      obtain ⟨b0, b1, b2', b3⟩ := h'.2 f hf hk
      by_cases e0 : w = 0
      · rw [a0 e0, b0 e0]
      by_cases e1 : w = 1
      · rw [a1 e1, b1 e1]
      by_cases e2 : w = 2
      · exact rD_one (a2 e2) (b2' e2)
      rw [a3 e0 e1 e2, b3 e0 e1 e2]
    · rw [h.1 e, h'.1 e]
def rVals (Z : sZ) (f i q r : Int32) : Prop := match Z with
  | none => r = -1
  | some (P, V, _) => (∀ f' i' q', f' < 12 → f = nI f' → i' < (pC P f').length → i = nI i' → q' < 4 → q = nI q' → r = nI (cnt (fun v => tb (vS V f' i' q' v)) 256)) ∧ ((¬ ∃ f' i' q', f' < 12 ∧ f = nI f' ∧ i' < (pC P f').length ∧ i = nI i' ∧ q' < 4 ∧ q = nI q') → r = -1)
theorem rVals_one {Z : sZ} {f i q r r' : Int32} (h : rVals Z f i q r) (h' : rVals Z f i q r') : r = r' := by
  match Z, h, h' with
  | none, h, h' => exact h.trans h'.symm
  | some (P, V, R), h, h' =>
    by_cases e : ∃ f' i' q', f' < 12 ∧ f = nI f' ∧ i' < (pC P f').length ∧ i = nI i' ∧ q' < 4 ∧ q = nI q'
    · obtain ⟨f', i', q', h1, h2, h3, h4, h5, h6⟩ := e
      rw [h.1 f' i' q' h1 h2 h3 h4 h5 h6, h'.1 f' i' q' h1 h2 h3 h4 h5 h6]
    · rw [h.2 e, h'.2 e]
noncomputable def totZ (P : sP) (V : sV) (R : List Nat) : Nat := ene (aln P (stl P V)) (pS P) 0 R
def rOct (Z : sZ) (i r : Int32) : Prop := match Z with
  | none => r = -1
  | some (P, V, R) => (∀ a, a < totZ P V R → i = nI a → r = nI (oct (aln P (stl P V)) (pS P) (pO P) 0 R (fun _ => 0) a)) ∧ ((¬ ∃ a, a < totZ P V R ∧ i = nI a) → r = -1)
theorem rOct_one {Z : sZ} {i r r' : Int32} (h : rOct Z i r) (h' : rOct Z i r') : r = r' := by
  match Z, h, h' with
  | none, h, h' => exact h.trans h'.symm
  | some (P, V, R), h, h' =>
    by_cases e : ∃ a, a < totZ P V R ∧ i = nI a
    · obtain ⟨a, h1, h2⟩ := e
      rw [h.1 a h1 h2, h'.1 a h1 h2]
    · rw [h.2 e, h'.2 e]
/-- sizes of dropped ones -/
noncomputable def dsz (P : sP) (V : sV) : Nat → Nat
  | 0 => 0
  | n + 1 => dsz P V n + (if tb (0 < pS P n ∧ ¬ kpt P V n) then pS P n else 0)
theorem dsz_le {P : sP} (hw : wP P) {V : sV} : ∀ n, n ≤ 24 → dsz P V n ≤ 64 * n
  | 0, _ => Nat.le_refl _
  | n + 1, h => by
    have := dsz_le hw (V := V) n (by omega)
    have := (hw.1 n (by omega)).1
    unfold dsz
    split <;> omega
def rShr (Z : sZ) (w r : Int32) : Prop := match Z with
  | none => r = -1
  | some (P, V, R) => (w = 0 → r = nI (cnt (fun k => tb (kpt P V k)) 24)) ∧ (w = 1 → r = nI (cnt (fun k => tb (0 < pS P k ∧ ¬ kpt P V k)) 24)) ∧ (w = 2 → r = nI (dsz P V 24)) ∧ (w = 3 → r = nI R.length) ∧ (w = 4 → r = nI (cnt (fun k => (sfr P (stl P V) k).isSome) 24)) ∧ (w = 5 → r = nI (cnt (fun k => (ouf P (stl P V) k).isSome) 24)) ∧ (w = 6 → r = nI (totZ P V R)) ∧ (¬ w = 0 → ¬ w = 1 → ¬ w = 2 → ¬ w = 3 → ¬ w = 4 → ¬ w = 5 → ¬ w = 6 → r = -1)
theorem rShr_one {Z : sZ} {w r r' : Int32} (h : rShr Z w r) (h' : rShr Z w r') : r = r' := by
  match Z, h, h' with
  | none, h, h' => exact h.trans h'.symm
  | some (P, V, R), h, h' =>
    obtain ⟨a0, a1, a2, a3, a4, a5, a6, a7⟩ := h
    obtain ⟨b0, b1, b2', b3, b4, b5, b6, b7⟩ := h'
    by_cases e0 : w = 0
    · rw [a0 e0, b0 e0]
    by_cases e1 : w = 1
    · rw [a1 e1, b1 e1]
    by_cases e2 : w = 2
    · rw [a2 e2, b2' e2]
    by_cases e3 : w = 3
    · rw [a3 e3, b3 e3]
    by_cases e4 : w = 4
    · rw [a4 e4, b4 e4]
    by_cases e5 : w = 5
    · rw [a5 e5, b5 e5]
    by_cases e6 : w = 6
    · rw [a6 e6, b6 e6]
    rw [a7 e0 e1 e2 e3 e4 e5 e6, b7 e0 e1 e2 e3 e4 e5 e6]
/-- what a class's memory has of the latest shrink -/
def cW (Z : sZ) (M : xMe) : Prop := M.1 0 4 = b2 Z.isSome ∧ ∀ P V R, Z = some (P, V, R) → wP P ∧ fin P V ∧ isR P V R ∧ cSh P V R M
theorem b2_if {b : Bool} : (if b2 b = 0 then 0 else 1 : Int32) = b2 b := by cases b <;> rfl
theorem le_of_lt {k : Int32} {n : Nat} (hn : n < 2 ^ 30) : (0 ≤ k ∧ k ≤ nI n - 1) ↔ ∃ j, j < n ∧ k = nI j := by
  constructor
  · rintro ⟨h1, h2⟩
    rcases Nat.eq_zero_or_pos n with h0 | h0
    · subst h0
      have : (nI 0 - 1 : Int32) = -1 := by decide
      rw [this] at h2
      grind
    · rw [show (nI n - 1 : Int32) = nI (n - 1) from pk_sub (b := 1) (by omega)] at h2
      obtain ⟨q, hq, e⟩ := nI_ofN (x := k) (n := n) (by omega) h1 (by
        have h3 : nI (n - 1) < nI n := nI_lt (by omega) (by omega)
        grind)
      exact ⟨q, hq, e⟩
  · rintro ⟨j, hj, rfl⟩
    refine ⟨nI_pos' (by omega), ?_⟩
    rw [show (nI n - 1 : Int32) = nI (n - 1) from pk_sub (b := 1) (by omega)]
    exact nI_le (by omega) (by omega)
/-- nothing told yet -/
def sP0 : sP := (fun _ => 0, fun _ => 0, fun _ => 0, fun _ => false, fun _ _ => 0, fun _ _ => none, fun _ => [], fun _ => false, [])
theorem sP0_w : wP sP0 := by
  refine ⟨fun k _ => ⟨Nat.zero_le _, Nat.zero_le _, fun z => absurd z (Nat.lt_irrefl 0)⟩, fun k _ p _ => (show (0 : Nat) < 256 by omega), fun k _ p _ t z => ?_, fun f _ => ⟨Nat.zero_le _, fun q z => ?_⟩, Nat.zero_le _, fun v z => ?_⟩
  · cases z
  · cases z
  · cases z
section XTL
variable (l : Launch) (G : xG)
theorem E_DShadItem (P : sP) (hw : wP P) (b : Bool) (M : xMe) (h4 : M.1 0 4 = b2 b) (h34 : b = true → c34 P M) (k : Int32) : xE l G y_DS_hadItem [.ref 0, .int k] M (fun r M' => M' = M ∧ r = some (.int (b2 (tb (b = true ∧ hadI P k))))) := by
  refine xE_of [some (.ref 0), some (.int k)] (by decide +kernel) (Nat.le_of_ble_eq_true rfl) rfl ?_
  refine xF_go o_DS_hadItem [] 60 (fun K hK => ?_)
  repeat' ((conv => whnf); first | refine ⟨fun h => ?_, fun h => ?_⟩ | refine ⟨?_, ?_⟩ | refine hK _ _ _ _ ?_)
  · have h0 : M.1 0 4 = 0 := by assumption
    rw [h4, b2_0] at h0
    refine xF_zret o_DS_hadItem rfl rfl (Or.inl rfl) ?_
    refine ⟨rfl, ?_⟩
    rw [tb_f.mpr (fun z => by rw [h0] at z; cases z.1)]
    rfl
  · have h0 : ¬ M.1 0 4 = 0 := by assumption
    rw [h4, b2_ne] at h0
    refine xF_callS o_DS_hadItem [.int k] rfl z_DS_isItemNumber s_DS_isItemNumber l_DS_212 rfl ⟨⟨by decide, by decide⟩, rfl, rfl⟩ (Nat.le_of_ble_eq_true rfl) rfl (E_isItemNumber l G k M) ?_
    rintro v M' ⟨eM, rfl⟩; obtain rfl := eM.symm
    clear hK K
    by_cases e : 0 ≤ k ∧ k < 24
    · obtain ⟨j, hj, rfl⟩ := nI_of24 e
      have hs64 := (hw.1 j hj).1
      have v34 : M.1 34 (nI j).toNatClampNeg = nI (pS P j) := by rw [nI_clamp (by omega)]; exact h34 h0 j hj
      rw [if_pos e]
      refine xF_go o_DS_hadItem [] 60 (fun K hK => ?_)
      repeat' ((conv => whnf); first | refine ⟨fun h => ?_, fun h => ?_⟩ | refine ⟨?_, ?_⟩ | refine hK _ _ _ _ ?_)
      · exact absurd (show (1 : Int32) = 0 from by assumption) (by decide)
      · exact vp_in_nI hj (by decide)
      · have h1 : ¬ 0 < M.1 34 (nI j).toNatClampNeg := by assumption
        rw [v34, nI_0lt (by omega)] at h1
        refine xF_zret o_DS_hadItem rfl rfl (Or.inl rfl) ?_
        refine ⟨rfl, ?_⟩
        rw [tb_f.mpr (fun z => ?_)]
        · rfl
        · obtain ⟨j', j1, j2, j3⟩ := z.2
          have := nI_inj (by omega) (by omega) j2
          subst this
          exact h1 j3
      · have h1 : 0 < M.1 34 (nI j).toNatClampNeg := by assumption
        rw [v34, nI_0lt (by omega)] at h1
        refine xF_zret o_DS_hadItem rfl rfl (Or.inr rfl) ?_
        refine ⟨rfl, ?_⟩
        rw [tb_t.mpr ⟨h0, j, hj, rfl, h1⟩]
        rfl
    · rw [if_neg e]
      refine xF_go o_DS_hadItem [] 60 (fun K hK => ?_)
      repeat' ((conv => whnf); first | refine ⟨fun h => ?_, fun h => ?_⟩ | refine ⟨?_, ?_⟩ | refine hK _ _ _ _ ?_)
      · refine xF_zret o_DS_hadItem rfl rfl (Or.inl rfl) ?_
        refine ⟨rfl, ?_⟩
        rw [tb_f.mpr (fun z => ?_)]
        · rfl
        · obtain ⟨j', j1, j2, j3⟩ := z.2
          exact e (j2 ▸ nI_24 j1)
      all_goals exact absurd rfl (show ¬ (0 : Int32) = 0 from by assumption)
theorem E_DSkept (Z : sZ) (M : xMe) (hZ : cW Z M) (k w : Int32) : xE l G y_DS_kept [.ref 0, .int k, .int w] M (fun r M' => M' = M ∧ ∃ r0, r = some (.int r0) ∧ rKept Z k w r0) := by
  refine xE_cps (fun Q hQ => ?_)
  refine xE_of [some (.ref 0), some (.int k), some (.int w)] (by decide +kernel) (Nat.le_of_ble_eq_true rfl) rfl ?_
  match Z, hZ, hQ with
  | none, hZ, hQ =>
    refine xF_go o_DS_kept [] 60 (fun K hK => ?_)
    repeat' ((conv => whnf); first | refine ⟨fun h => ?_, fun h => ?_⟩ | refine ⟨?_, ?_⟩ | refine hK _ _ _ _ ?_)
    refine xF_callV o_DS_kept [.int k] rfl z_DS_hadItem i_DS_hadItem v_DS_hadItem l_DS_128 rfl ⟨⟨by decide, by decide⟩, rfl, rfl⟩ (Nat.le_of_ble_eq_true rfl) rfl rfl rfl (E_DShadItem l G sP0 sP0_w false M hZ.1 (fun z => by cases z) k) ?_
    rintro v M' ⟨eM, rfl⟩; obtain rfl := eM.symm
    clear hK K
    rw [tb_f.mpr (fun z => by cases z.1)]
    refine xF_go o_DS_kept [10] 60 (fun K hK => ?_)
    repeat' ((conv => whnf); first | refine ⟨fun h => ?_, fun h => ?_⟩ | refine ⟨?_, ?_⟩ | refine hK _ _ _ _ ?_)
    · exact absurd rfl (show ¬ b2 false = 0 from by assumption)
    · refine xF_iret o_DS_kept rfl rfl ?_
      exact hQ _ _ ⟨rfl, _, rfl, rfl⟩
  | some (P, V, R), hZ, hQ =>
    obtain ⟨h4, hZ2⟩ := hZ
    obtain ⟨hw, hfin, hR, hSh⟩ := hZ2 P V R rfl
    obtain ⟨hL, s21, s23, s27, s28, s29, s20, s19⟩ := hSh
    obtain ⟨l34, l36, l38, l39, l40, l11, l13, l42⟩ := hL
    refine xF_go o_DS_kept [] 60 (fun K hK => ?_)
    repeat' ((conv => whnf); first | refine ⟨fun h => ?_, fun h => ?_⟩ | refine ⟨?_, ?_⟩ | refine hK _ _ _ _ ?_)
    refine xF_callV o_DS_kept [.int k] rfl z_DS_hadItem i_DS_hadItem v_DS_hadItem l_DS_128 rfl ⟨⟨by decide, by decide⟩, rfl, rfl⟩ (Nat.le_of_ble_eq_true rfl) rfl rfl rfl (E_DShadItem l G P hw true M h4 (fun _ => l34) k) ?_
    rintro v M' ⟨eM, rfl⟩; obtain rfl := eM.symm
    clear hK K
    by_cases e : hadI P k
    · rw [tb_t.mpr ⟨rfl, e⟩]
      obtain ⟨j, hj, rfl, hs⟩ := e
      have hcl : (nI j).toNatClampNeg = j := nI_clamp (by omega)
      have res : ∀ r0, (w = 0 → r0 = b2 (tb (kpt P V j))) ∧ (w = 1 → r0 = nI (cnt (fun p => tb (vRd V j p)) 64)) ∧ (w = 2 → r0 = b2 (tb (vWr V j))) ∧ (w = 3 → r0 = b2 (tb (vCm V j))) ∧ (w = 4 → r0 = oI (ad2 P (stl P V) R j)) ∧ (w = 5 → r0 = oI (hol P (stl P V) j)) ∧ (w = 6 → rD (ent P) (vLk V) (12 + j) r0) ∧ (¬ w = 0 → ¬ w = 1 → ¬ w = 2 → ¬ w = 3 → ¬ w = 4 → ¬ w = 5 → ¬ w = 6 → r0 = -1) → Q (some (.int r0)) M := by
        intro r0 hr
        refine hQ _ _ ⟨rfl, r0, rfl, fun z => absurd ⟨j, hj, rfl, hs⟩ z, fun j' hj' ej _ => ?_⟩
        have := nI_inj (by omega) (by omega) ej
        subst this
        exact hr
      have n01 : ∀ {a b : Int32} {p : Prop}, w = a → ¬ a = b → w = b → p := fun h1 h2 h3 => absurd (h1.symm.trans h3) h2
      refine xF_go o_DS_kept [52, 65, 78, 91, 104, 114, 123, 139] 60 (fun K hK => ?_)
      repeat' ((conv => whnf); first | refine ⟨fun h => ?_, fun h => ?_⟩ | refine ⟨?_, ?_⟩ | refine hK _ _ _ _ ?_)
      · have hw0 : w = 0 := by assumption
        clear hK K
        refine xF_go o_DS_kept [] 60 (fun K hK => ?_)
        repeat' ((conv => whnf); first | refine ⟨fun h => ?_, fun h => ?_⟩ | refine ⟨?_, ?_⟩ | refine hK _ _ _ _ ?_)
        · exact vp_in_nI hj (by decide)
        · rw [hcl, l36 j hj]
          refine xF_callS o_DS_kept [.int (b2 (tb (kpt P V j)))] rfl z_DS_asNumber s_DS_asNumber l_DS_134 rfl ⟨⟨by decide, by decide⟩, rfl, rfl⟩ (Nat.le_of_ble_eq_true rfl) rfl (E_asNumber l G _ M) ?_
          rintro v M' ⟨eM, rfl⟩; obtain rfl := eM.symm
          clear hK K
          rw [b2_if]
          refine xF_go o_DS_kept [] 60 (fun K hK => ?_)
          repeat' ((conv => whnf); first | refine ⟨fun h => ?_, fun h => ?_⟩ | refine ⟨?_, ?_⟩ | refine hK _ _ _ _ ?_)
          refine xF_iret o_DS_kept rfl rfl ?_
          exact res _ ⟨fun _ => rfl, n01 hw0 (by decide), n01 hw0 (by decide), n01 hw0 (by decide), n01 hw0 (by decide), n01 hw0 (by decide), n01 hw0 (by decide), fun z => absurd hw0 z⟩
      · have hw0 : w = 1 := by assumption
        clear hK K
        refine xF_go o_DS_kept [] 60 (fun K hK => ?_)
        repeat' ((conv => whnf); first | refine ⟨fun h => ?_, fun h => ?_⟩ | refine ⟨?_, ?_⟩ | refine hK _ _ _ _ ?_)
        · exact vp_in_nI hj (by decide)
        · rw [hcl]
          refine xF_callS o_DS_kept [.long (M.2 27 j)] rfl z_JL_bitCount s_JL_bitCount l_DS_142 rfl ⟨⟨by decide, by decide⟩, rfl, rfl⟩ (Nat.le_of_ble_eq_true rfl) rfl (E_bitCount l G (M.2 27 j) M) ?_
          rintro v M' ⟨eM, rfl⟩; obtain rfl := eM.symm
          clear hK K
          rw [cnt_c (g := fun p => tb (vRd V j p)) 64 (fun i hi => tb_b (s27 j hj i hi))]
          refine xF_go o_DS_kept [] 60 (fun K hK => ?_)
          repeat' ((conv => whnf); first | refine ⟨fun h => ?_, fun h => ?_⟩ | refine ⟨?_, ?_⟩ | refine hK _ _ _ _ ?_)
          refine xF_iret o_DS_kept rfl rfl ?_
          exact res _ ⟨n01 hw0 (by decide), fun _ => rfl, n01 hw0 (by decide), n01 hw0 (by decide), n01 hw0 (by decide), n01 hw0 (by decide), n01 hw0 (by decide), fun _ z => absurd hw0 z⟩
      · have hw0 : w = 2 := by assumption
        clear hK K
        refine xF_go o_DS_kept [] 60 (fun K hK => ?_)
        repeat' ((conv => whnf); first | refine ⟨fun h => ?_, fun h => ?_⟩ | refine ⟨?_, ?_⟩ | refine hK _ _ _ _ ?_)
        · exact vp_in_nI hj (by decide)
        · rw [hcl, cZ_36 s28 j hj]
          refine xF_callS o_DS_kept [.int (b2 (tb (vWr V j)))] rfl z_DS_asNumber s_DS_asNumber l_DS_134 rfl ⟨⟨by decide, by decide⟩, rfl, rfl⟩ (Nat.le_of_ble_eq_true rfl) rfl (E_asNumber l G _ M) ?_
          rintro v M' ⟨eM, rfl⟩; obtain rfl := eM.symm
          clear hK K
          rw [b2_if]
          refine xF_go o_DS_kept [] 60 (fun K hK => ?_)
          repeat' ((conv => whnf); first | refine ⟨fun h => ?_, fun h => ?_⟩ | refine ⟨?_, ?_⟩ | refine hK _ _ _ _ ?_)
          refine xF_iret o_DS_kept rfl rfl ?_
          exact res _ ⟨n01 hw0 (by decide), n01 hw0 (by decide), fun _ => rfl, n01 hw0 (by decide), n01 hw0 (by decide), n01 hw0 (by decide), n01 hw0 (by decide), fun _ _ z => absurd hw0 z⟩
      · have hw0 : w = 3 := by assumption
        clear hK K
        refine xF_go o_DS_kept [] 60 (fun K hK => ?_)
        repeat' ((conv => whnf); first | refine ⟨fun h => ?_, fun h => ?_⟩ | refine ⟨?_, ?_⟩ | refine hK _ _ _ _ ?_)
        · exact vp_in_nI hj (by decide)
        · rw [hcl, cZ_36 s29 j hj]
          refine xF_callS o_DS_kept [.int (b2 (tb (vCm V j)))] rfl z_DS_asNumber s_DS_asNumber l_DS_134 rfl ⟨⟨by decide, by decide⟩, rfl, rfl⟩ (Nat.le_of_ble_eq_true rfl) rfl (E_asNumber l G _ M) ?_
          rintro v M' ⟨eM, rfl⟩; obtain rfl := eM.symm
          clear hK K
          rw [b2_if]
          refine xF_go o_DS_kept [] 60 (fun K hK => ?_)
          repeat' ((conv => whnf); first | refine ⟨fun h => ?_, fun h => ?_⟩ | refine ⟨?_, ?_⟩ | refine hK _ _ _ _ ?_)
          refine xF_iret o_DS_kept rfl rfl ?_
          exact res _ ⟨n01 hw0 (by decide), n01 hw0 (by decide), n01 hw0 (by decide), fun _ => rfl, n01 hw0 (by decide), n01 hw0 (by decide), n01 hw0 (by decide), fun _ _ _ z => absurd hw0 z⟩
      · have hw0 : w = 4 := by assumption
        clear hK K
        refine xF_go o_DS_kept [] 60 (fun K hK => ?_)
        repeat' ((conv => whnf); first | refine ⟨fun h => ?_, fun h => ?_⟩ | refine ⟨?_, ?_⟩ | refine hK _ _ _ _ ?_)
        · exact vp_in_nI hj (by decide)
        · rw [hcl, l40 j hj]
          refine xF_iret o_DS_kept rfl rfl ?_
          exact res _ ⟨n01 hw0 (by decide), n01 hw0 (by decide), n01 hw0 (by decide), n01 hw0 (by decide), fun _ => rfl, n01 hw0 (by decide), n01 hw0 (by decide), fun _ _ _ _ z => absurd hw0 z⟩
      · have hw0 : w = 5 := by assumption
        clear hK K
        refine xF_go o_DS_kept [] 60 (fun K hK => ?_)
        repeat' ((conv => whnf); first | refine ⟨fun h => ?_, fun h => ?_⟩ | refine ⟨?_, ?_⟩ | refine hK _ _ _ _ ?_)
        refine xF_callV o_DS_kept [.int (nI j)] rfl z_La_holderOf i_La_holderOf v_La_holderOf l_DS_157 rfl ⟨⟨by decide, by decide⟩, rfl, rfl⟩ (Nat.le_of_ble_eq_true rfl) rfl rfl rfl (E_LholderOf l G P (stl P V) j hj M l38 l39) ?_
        rintro v M' ⟨eM, rfl⟩; obtain rfl := eM.symm
        clear hK K
        refine xF_go o_DS_kept [] 60 (fun K hK => ?_)
        repeat' ((conv => whnf); first | refine ⟨fun h => ?_, fun h => ?_⟩ | refine ⟨?_, ?_⟩ | refine hK _ _ _ _ ?_)
        refine xF_iret o_DS_kept rfl rfl ?_
        exact res _ ⟨n01 hw0 (by decide), n01 hw0 (by decide), n01 hw0 (by decide), n01 hw0 (by decide), n01 hw0 (by decide), fun _ => rfl, n01 hw0 (by decide), fun _ _ _ _ _ z => absurd hw0 z⟩
      · have hw0 : w = 6 := by assumption
        have e12 : (12 : Int32) + nI j = nI (12 + j) := nI_add 12 j
        clear hK K
        refine xF_go o_DS_kept [] 60 (fun K hK => ?_)
        repeat' ((conv => whnf); first | refine ⟨fun h => ?_, fun h => ?_⟩ | refine ⟨?_, ?_⟩ | refine hK _ _ _ _ ?_)
        · rw [e12]; exact vp_in_nI (by show _ < 36; omega) (by decide)
        · rw [e12, nI_clamp (by omega)]
          refine xF_iret o_DS_kept rfl rfl ?_
          exact res _ ⟨n01 hw0 (by decide), n01 hw0 (by decide), n01 hw0 (by decide), n01 hw0 (by decide), n01 hw0 (by decide), n01 hw0 (by decide), fun _ => s19 _ (by omega), fun _ _ _ _ _ _ z => absurd hw0 z⟩
      · have e0 : ¬ w = 0 := by assumption
        have e1 : ¬ w = 1 := by assumption
        have e2 : ¬ w = 2 := by assumption
        have e3 : ¬ w = 3 := by assumption
        have e4 : ¬ w = 4 := by assumption
        have e5 : ¬ w = 5 := by assumption
        have e6 : ¬ w = 6 := by assumption
        clear hK K
        refine xF_go o_DS_kept [] 60 (fun K hK => ?_)
        repeat' ((conv => whnf); first | refine ⟨fun h => ?_, fun h => ?_⟩ | refine ⟨?_, ?_⟩ | refine hK _ _ _ _ ?_)
        refine xF_iret o_DS_kept rfl rfl ?_
        exact res _ ⟨fun z => absurd z e0, fun z => absurd z e1, fun z => absurd z e2, fun z => absurd z e3, fun z => absurd z e4, fun z => absurd z e5, fun z => absurd z e6, fun _ _ _ _ _ _ _ => rfl⟩
      · exact absurd (show b2 true = 0 from by assumption) (by decide)
    · rw [tb_f.mpr (fun z => e z.2)]
      refine xF_go o_DS_kept [10] 60 (fun K hK => ?_)
      repeat' ((conv => whnf); first | refine ⟨fun h => ?_, fun h => ?_⟩ | refine ⟨?_, ?_⟩ | refine hK _ _ _ _ ?_)
      · exact absurd rfl (show ¬ b2 false = 0 from by assumption)
      · refine xF_iret o_DS_kept rfl rfl ?_
        refine hQ _ _ ⟨rfl, _, rfl, fun _ => rfl, fun j hj ek hs => absurd ⟨j, hj, ek, hs⟩ e⟩
end XTL
