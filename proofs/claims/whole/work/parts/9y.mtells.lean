/-! what is told of the latest shrink: the reference -/
def mW (Z : sZ) (M : xMe) : Prop := M.1 50 27 = b2 Z.isSome ∧ ∀ P V R, Z = some (P, V, R) → wP P ∧ fin P V ∧ isR P V R ∧ mSh P V R M
theorem in_iff {k : Int32} {n : Nat} (hn : n < 2 ^ 30) (h0 : 0 < n) : (0 ≤ k ∧ k ≤ nI (n - 1)) ↔ ∃ j, j < n ∧ k = nI j := by
  rw [← le_of_lt hn, show (nI n - 1 : Int32) = nI (n - 1) from pk_sub (b := 1) h0]
section XUT
variable (l : Launch) (G : xG)
theorem E_MwasItem (P : sP) (hw : wP P) (b : Bool) (M : xMe) (h4 : M.1 50 27 = b2 b) (h83 : b = true → ∀ k, k < 24 → M.1 83 k = nI (pS P k)) (k : Int32) : xE l G y_Mo_wasItem [.ref 50, .int k] M (fun r M' => M' = M ∧ r = some (.int (b2 (tb (b = true ∧ hadI P k))))) := by
  refine xE_of [some (.ref 50), some (.int k)] (by decide +kernel) (Nat.le_of_ble_eq_true rfl) rfl ?_
  refine xF_go o_Mo_wasItem [] 60 (fun K hK => ?_)
  repeat' ((conv => whnf); first | refine ⟨fun h => ?_, fun h => ?_⟩ | refine ⟨?_, ?_⟩ | refine hK _ _ _ _ ?_)
  · have h0 : M.1 50 27 = 0 := by assumption
    rw [h4, b2_0] at h0
    refine xF_zret o_Mo_wasItem rfl rfl (Or.inl rfl) ?_
    refine ⟨rfl, ?_⟩
    rw [tb_f.mpr (fun z => by rw [h0] at z; cases z.1)]
    rfl
  · have h0 : ¬ M.1 50 27 = 0 := by assumption
    rw [h4, b2_ne] at h0
    refine xF_callS o_Mo_wasItem [.int k, .int 0, .int 23] rfl z_Mo_in s_Mo_in l_Mo_157 rfl ⟨⟨by decide, by decide⟩, rfl, rfl⟩ (Nat.le_of_ble_eq_true rfl) rfl (E_in l G k 0 23 M) ?_
    rintro v M' ⟨eM, rfl⟩; obtain rfl := eM.symm
    clear hK K
    by_cases e : 0 ≤ k ∧ k ≤ 23
    · obtain ⟨j, hj, rfl⟩ := nI_of24 (x := k) (by grind)
      have hs64 := (hw.1 j hj).1
      have v34 : M.1 83 (nI j).toNatClampNeg = nI (pS P j) := by rw [nI_clamp (by omega)]; exact h83 h0 j hj
      rw [if_pos e]
      refine xF_go o_Mo_wasItem [] 60 (fun K hK => ?_)
      repeat' ((conv => whnf); first | refine ⟨fun h => ?_, fun h => ?_⟩ | refine ⟨?_, ?_⟩ | refine hK _ _ _ _ ?_)
      · exact absurd (show (1 : Int32) = 0 from by assumption) (by decide)
      · exact vp_in_nI hj (by decide)
      · have h1 : ¬ 0 < M.1 83 (nI j).toNatClampNeg := by assumption
        rw [v34, nI_0lt (by omega)] at h1
        refine xF_zret o_Mo_wasItem rfl rfl (Or.inl rfl) ?_
        refine ⟨rfl, ?_⟩
        rw [tb_f.mpr (fun z => ?_)]
        · rfl
        · obtain ⟨j', j1, j2, j3⟩ := z.2
          have := nI_inj (by omega) (by omega) j2
          subst this
          exact h1 j3
      · have h1 : 0 < M.1 83 (nI j).toNatClampNeg := by assumption
        rw [v34, nI_0lt (by omega)] at h1
        refine xF_zret o_Mo_wasItem rfl rfl (Or.inr rfl) ?_
        refine ⟨rfl, ?_⟩
        rw [tb_t.mpr ⟨h0, j, hj, rfl, h1⟩]
        rfl
    · rw [if_neg e]
      refine xF_go o_Mo_wasItem [] 60 (fun K hK => ?_)
      repeat' ((conv => whnf); first | refine ⟨fun h => ?_, fun h => ?_⟩ | refine ⟨?_, ?_⟩ | refine hK _ _ _ _ ?_)
      · refine xF_zret o_Mo_wasItem rfl rfl (Or.inl rfl) ?_
        refine ⟨rfl, ?_⟩
        rw [tb_f.mpr (fun z => ?_)]
        · rfl
        · obtain ⟨j', j1, j2, j3⟩ := z.2
          have := nI_24 j1
          rw [← j2] at this
          exact e ⟨this.1, by grind⟩
      all_goals exact absurd rfl (show ¬ (0 : Int32) = 0 from by assumption)
theorem E_Mkept (Z : sZ) (M : xMe) (hZ : mW Z M) (k w : Int32) : xE l G y_Mo_kept [.ref 50, .int k, .int w] M (fun r M' => M' = M ∧ ∃ r0, r = some (.int r0) ∧ rKept Z k w r0) := by
  refine xE_cps (fun Q hQ => ?_)
  refine xE_of [some (.ref 50), some (.int k), some (.int w), none, none] (by decide +kernel) (Nat.le_of_ble_eq_true rfl) rfl ?_
  match Z, hZ, hQ with
  | none, hZ, hQ =>
    refine xF_go o_Mo_kept [] 60 (fun K hK => ?_)
    repeat' ((conv => whnf); first | refine ⟨fun h => ?_, fun h => ?_⟩ | refine ⟨?_, ?_⟩ | refine hK _ _ _ _ ?_)
    refine xF_callV o_Mo_kept [.int k] rfl z_Mo_wasItem i_Mo_wasItem v_Mo_wasItem l_Mo_301 rfl ⟨⟨by decide, by decide⟩, rfl, rfl⟩ (Nat.le_of_ble_eq_true rfl) rfl rfl rfl (E_MwasItem l G sP0 sP0_w false M hZ.1 (fun z => by cases z) k) ?_
    rintro v M' ⟨eM, rfl⟩; obtain rfl := eM.symm
    clear hK K
    rw [tb_f.mpr (fun z => by cases z.1)]
    refine xF_go o_Mo_kept [10] 60 (fun K hK => ?_)
    repeat' ((conv => whnf); first | refine ⟨fun h => ?_, fun h => ?_⟩ | refine ⟨?_, ?_⟩ | refine hK _ _ _ _ ?_)
    · exact absurd rfl (show ¬ b2 false = 0 from by assumption)
    · refine xF_iret o_Mo_kept rfl rfl ?_
      exact hQ _ _ ⟨rfl, _, rfl, rfl⟩
  | some (P, V, R), hZ, hQ =>
    obtain ⟨h4, hZ2⟩ := hZ
    obtain ⟨hw, hfin, hR, hSh⟩ := hZ2 P V R rfl
    obtain ⟨⟨l86, l87, l85, l56, l57, l89⟩, s80, s83, s81, s72, s69, s74, s76, s77, s82⟩ := hSh
    refine xF_go o_Mo_kept [] 60 (fun K hK => ?_)
    repeat' ((conv => whnf); first | refine ⟨fun h => ?_, fun h => ?_⟩ | refine ⟨?_, ?_⟩ | refine hK _ _ _ _ ?_)
    refine xF_callV o_Mo_kept [.int k] rfl z_Mo_wasItem i_Mo_wasItem v_Mo_wasItem l_Mo_301 rfl ⟨⟨by decide, by decide⟩, rfl, rfl⟩ (Nat.le_of_ble_eq_true rfl) rfl rfl rfl (E_MwasItem l G P hw true M h4 (fun _ => s83) k) ?_
    rintro v M' ⟨eM, rfl⟩; obtain rfl := eM.symm
    clear hK K
    by_cases e : hadI P k
    · rw [tb_t.mpr ⟨rfl, e⟩]
      obtain ⟨j, hj, rfl, hs⟩ := e
      have hs64 := (hw.1 j hj).1
      have hcl : (nI j).toNatClampNeg = j := nI_clamp (by omega)
      have v83 : M.1 83 (nI j).toNatClampNeg = nI (pS P j) := by rw [hcl]; exact s83 j hj
      have v80 : M.1 80 (nI j).toNatClampNeg = b2 (tb (kpt P V j)) := by rw [hcl]; exact s80 j hj
      have v76 : M.1 76 (nI j).toNatClampNeg = b2 (tb (vWr V j)) := by rw [hcl]; exact s76 j hj
      have v77 : M.1 77 (nI j).toNatClampNeg = b2 (tb (vCm V j)) := by rw [hcl]; exact s77 j hj
      have v86 : M.1 86 (nI j).toNatClampNeg = oI (sfr P (stl P V) j) := by rw [hcl]; exact l86 j hj
      have v87 : M.1 87 (nI j).toNatClampNeg = oI (ouf P (stl P V) j) := by rw [hcl]; exact l87 j hj
      have hno := oI_none (o := sfr P (stl P V) j) (fun d e => by have := (sfr_some.mp e).1; omega)
      have res : ∀ r0, (w = 0 → r0 = b2 (tb (kpt P V j))) ∧ (w = 1 → r0 = nI (cnt (fun p => tb (vRd V j p)) 64)) ∧ (w = 2 → r0 = b2 (tb (vWr V j))) ∧ (w = 3 → r0 = b2 (tb (vCm V j))) ∧ (w = 4 → r0 = oI (ad2 P (stl P V) R j)) ∧ (w = 5 → r0 = oI (hol P (stl P V) j)) ∧ (w = 6 → rD (ent P) (vLk V) (12 + j) r0) ∧ (¬ w = 0 → ¬ w = 1 → ¬ w = 2 → ¬ w = 3 → ¬ w = 4 → ¬ w = 5 → ¬ w = 6 → r0 = -1) → Q (some (.int r0)) M := by
        intro r0 hr
        refine hQ _ _ ⟨rfl, r0, rfl, fun z => absurd ⟨j, hj, rfl, hs⟩ z, fun j' hj' ej _ => ?_⟩
        have := nI_inj (by omega) (by omega) ej
        subst this
        exact hr
      have n01 : ∀ {a b : Int32} {p : Prop}, w = a → ¬ a = b → w = b → p := fun h1 h2 h3 => absurd (h1.symm.trans h3) h2
      have ecnt : cnt (fun p => tb (vRd V j p)) 64 = cnt (fun p => tb (vRd V j p)) (pS P j) := by
        have h1 := cnt_add (fun p => tb (vRd V j p)) (pS P j) (64 - pS P j)
        rw [show pS P j + (64 - pS P j) = 64 by omega] at h1
        rw [h1, cnt_0 (f := fun i => tb (vRd V j (pS P j + i))), Nat.add_zero]
        intro i hi
        exact tb_f.mpr (fun z => by have := (rd_lt hw hfin z).2; omega)
      -- the count is made; then what was asked
      have fin1 : ∀ x4, xF l G y_Mo_kept 55 [some (.ref 50), some (.int (nI j)), some (.int w), some (.int (nI (cnt (fun p => tb (vRd V j p)) (pS P j)))), x4] [] M Q := by
        intro x4
        refine xF_go o_Mo_kept [] 60 (fun K hK => ?_)
        repeat' ((conv => whnf); first | refine ⟨fun h => ?_, fun h => ?_⟩ | refine ⟨?_, ?_⟩ | refine hK _ _ _ _ ?_)
        all_goals try exact vp_in_nI hj (by decide)
        · have hw0 : w = 0 := by assumption
          have h1 : M.1 80 (nI j).toNatClampNeg = 0 := by assumption
          rw [v80, b2_0] at h1
          refine xF_iret o_Mo_kept rfl rfl ?_
          exact res _ ⟨fun _ => (by rw [h1]; rfl), n01 hw0 (by decide), n01 hw0 (by decide), n01 hw0 (by decide), n01 hw0 (by decide), n01 hw0 (by decide), n01 hw0 (by decide), fun z => absurd hw0 z⟩
        · have hw0 : w = 0 := by assumption
          have h1 : ¬ M.1 80 (nI j).toNatClampNeg = 0 := by assumption
          rw [v80, b2_ne] at h1
          refine xF_iret o_Mo_kept rfl rfl ?_
          exact res _ ⟨fun _ => (by rw [h1]; rfl), n01 hw0 (by decide), n01 hw0 (by decide), n01 hw0 (by decide), n01 hw0 (by decide), n01 hw0 (by decide), n01 hw0 (by decide), fun z => absurd hw0 z⟩
        · have hw0 : w = 1 := by assumption
          refine xF_iret o_Mo_kept rfl rfl ?_
          exact res _ ⟨n01 hw0 (by decide), fun _ => (by rw [ecnt]), n01 hw0 (by decide), n01 hw0 (by decide), n01 hw0 (by decide), n01 hw0 (by decide), n01 hw0 (by decide), fun _ z => absurd hw0 z⟩
        · have hw0 : w = 2 := by assumption
          have h1 : M.1 76 (nI j).toNatClampNeg = 0 := by assumption
          rw [v76, b2_0] at h1
          refine xF_iret o_Mo_kept rfl rfl ?_
          exact res _ ⟨n01 hw0 (by decide), n01 hw0 (by decide), fun _ => (by rw [h1]; rfl), n01 hw0 (by decide), n01 hw0 (by decide), n01 hw0 (by decide), n01 hw0 (by decide), fun _ _ z => absurd hw0 z⟩
        · have hw0 : w = 2 := by assumption
          have h1 : ¬ M.1 76 (nI j).toNatClampNeg = 0 := by assumption
          rw [v76, b2_ne] at h1
          refine xF_iret o_Mo_kept rfl rfl ?_
          exact res _ ⟨n01 hw0 (by decide), n01 hw0 (by decide), fun _ => (by rw [h1]; rfl), n01 hw0 (by decide), n01 hw0 (by decide), n01 hw0 (by decide), n01 hw0 (by decide), fun _ _ z => absurd hw0 z⟩
        · have hw0 : w = 3 := by assumption
          have h1 : M.1 77 (nI j).toNatClampNeg = 0 := by assumption
          rw [v77, b2_0] at h1
          refine xF_iret o_Mo_kept rfl rfl ?_
          exact res _ ⟨n01 hw0 (by decide), n01 hw0 (by decide), n01 hw0 (by decide), fun _ => (by rw [h1]; rfl), n01 hw0 (by decide), n01 hw0 (by decide), n01 hw0 (by decide), fun _ _ _ z => absurd hw0 z⟩
        · have hw0 : w = 3 := by assumption
          have h1 : ¬ M.1 77 (nI j).toNatClampNeg = 0 := by assumption
          rw [v77, b2_ne] at h1
          refine xF_iret o_Mo_kept rfl rfl ?_
          exact res _ ⟨n01 hw0 (by decide), n01 hw0 (by decide), n01 hw0 (by decide), fun _ => (by rw [h1]; rfl), n01 hw0 (by decide), n01 hw0 (by decide), n01 hw0 (by decide), fun _ _ _ z => absurd hw0 z⟩
        · have hw0 : w = 4 := by assumption
          have h1 : M.1 80 (nI j).toNatClampNeg = 0 := by assumption
          rw [v80, b2_0, tb_f] at h1
          refine xF_iret o_Mo_kept rfl rfl ?_
          refine res _ ⟨n01 hw0 (by decide), n01 hw0 (by decide), n01 hw0 (by decide), n01 hw0 (by decide), fun _ => ?_, n01 hw0 (by decide), n01 hw0 (by decide), fun _ _ _ _ z => absurd hw0 z⟩
          cases ea : ad2 P (stl P V) R j with
          | none => rfl
          | some a => exact absurd ((ad2_kept hw hR hj).mp ⟨a, ea⟩) h1
        · have hw0 : w = 4 := by assumption
          have h1 : ¬ M.1 80 (nI j).toNatClampNeg = 0 := by assumption
          rw [v80, b2_ne, tb_t] at h1
          obtain ⟨a, ea⟩ := (ad2_kept hw hR hj).mpr h1
          refine xF_iret o_Mo_kept rfl rfl ?_
          rw [hcl, l85 j hj a ea]
          exact res _ ⟨n01 hw0 (by decide), n01 hw0 (by decide), n01 hw0 (by decide), n01 hw0 (by decide), fun _ => (by rw [ea]; rfl), n01 hw0 (by decide), n01 hw0 (by decide), fun _ _ _ _ z => absurd hw0 z⟩
        · have hw0 : w = 5 := by assumption
          have h1 : M.1 86 (nI j).toNatClampNeg = -1 := by assumption
          rw [v86, hno] at h1
          refine xF_iret o_Mo_kept rfl rfl ?_
          rw [v87]
          refine res _ ⟨n01 hw0 (by decide), n01 hw0 (by decide), n01 hw0 (by decide), n01 hw0 (by decide), n01 hw0 (by decide), fun _ => ?_, n01 hw0 (by decide), fun _ _ _ _ _ z => absurd hw0 z⟩
          unfold hol
          rw [h1]
        · have hw0 : w = 5 := by assumption
          have h1 : ¬ M.1 86 (nI j).toNatClampNeg = -1 := by assumption
          rw [v86, hno] at h1
          refine xF_iret o_Mo_kept rfl rfl ?_
          rw [v86]
          refine res _ ⟨n01 hw0 (by decide), n01 hw0 (by decide), n01 hw0 (by decide), n01 hw0 (by decide), n01 hw0 (by decide), fun _ => ?_, n01 hw0 (by decide), fun _ _ _ _ _ z => absurd hw0 z⟩
          unfold hol
          cases e : sfr P (stl P V) j with
          | none => exact absurd e h1
          | some i => rfl
        · have e12 : (12 : Int32) + nI j = nI (12 + j) := nI_add 12 j
          rw [e12]; exact vp_in_nI (by show _ < 36; omega) (by decide)
        · have hw0 : w = 6 := by assumption
          have e12 : (12 : Int32) + nI j = nI (12 + j) := nI_add 12 j
          rw [e12, nI_clamp (by omega)]
          refine xF_iret o_Mo_kept rfl rfl ?_
          exact res _ ⟨n01 hw0 (by decide), n01 hw0 (by decide), n01 hw0 (by decide), n01 hw0 (by decide), n01 hw0 (by decide), n01 hw0 (by decide), fun _ => s82 _ (by omega), fun _ _ _ _ _ _ z => absurd hw0 z⟩
        · have e0 : ¬ w = 0 := by assumption
          have e1 : ¬ w = 1 := by assumption
          have e2 : ¬ w = 2 := by assumption
          have e3 : ¬ w = 3 := by assumption
          have e4 : ¬ w = 4 := by assumption
          have e5 : ¬ w = 5 := by assumption
          have e6 : ¬ w = 6 := by assumption
          refine xF_iret o_Mo_kept rfl rfl ?_
          exact res _ ⟨fun z => absurd z e0, fun z => absurd z e1, fun z => absurd z e2, fun z => absurd z e3, fun z => absurd z e4, fun z => absurd z e5, fun z => absurd z e6, fun _ _ _ _ _ _ _ => rfl⟩
      refine xF_go o_Mo_kept [15] 60 (fun K hK => ?_)
      repeat' ((conv => whnf); first | refine ⟨fun h => ?_, fun h => ?_⟩ | refine ⟨?_, ?_⟩ | refine hK _ _ _ _ ?_)
      · clear hK K
        refine loopN (σ := Unit) (pS P j) (fun _ _ => True) (fun p _ => xF l G y_Mo_kept 15 [some (.ref 50), some (.int (nI j)), some (.int w), some (.int (nI (cnt (fun p => tb (vRd V j p)) p))), some (.int (nI p))] [] M Q) ?_ ?_ (pS P j) 0 rfl () trivial
        · intro p hp _ _ next
          have e64 : 64 * nI j + nI p = nI (64 * j + p) := by rw [nI_64, nI_add]
          have v74 : M.1 74 (nI (64 * j + p)).toNatClampNeg = b2 (tb (vRd V j p)) := by rw [nI_clamp (by omega)]; exact mKP_b s74 hj (by omega)
          have hd : cnt (fun p => tb (vRd V j p)) (p + 1) = cnt (fun p => tb (vRd V j p)) p + (if tb (vRd V j p) = true then 1 else 0) := rfl
          refine xF_go o_Mo_kept [15, 55] 60 (fun K hK => ?_)
          repeat' ((conv => whnf); first | refine ⟨fun h => ?_, fun h => ?_⟩ | refine ⟨?_, ?_⟩ | refine hK _ _ _ _ ?_)
          · exact vp_in_nI hj (by decide)
          · have h0 := (show ¬ nI p < M.1 83 (nI j).toNatClampNeg from by assumption)
            rw [v83, nI_ltI (by omega) (by omega)] at h0
            omega
          · rw [e64]; exact vp_in_nI (by show _ < 1536; omega) (by decide)
          · have h0 := (show M.1 74 (64 * nI j + nI p).toNatClampNeg = 0 from by assumption)
            rw [e64, v74, b2_0] at h0
            rw [nI_1, show nI (cnt (fun p => tb (vRd V j p)) p) + 0 = nI (cnt (fun p => tb (vRd V j p)) (p + 1)) by rw [hd, h0]; exact nI_add _ 0]
            exact next () trivial
          · have h0 := (show ¬ M.1 74 (64 * nI j + nI p).toNatClampNeg = 0 from by assumption)
            rw [e64, v74, b2_ne] at h0
            rw [nI_1, nI_1, show cnt (fun p => tb (vRd V j p)) p + 1 = cnt (fun p => tb (vRd V j p)) (p + 1) by rw [hd, h0]; rfl]
            exact next () trivial
        · intro _ _
          refine xF_go o_Mo_kept [15, 55] 60 (fun K hK => ?_)
          repeat' ((conv => whnf); first | refine ⟨fun h => ?_, fun h => ?_⟩ | refine ⟨?_, ?_⟩ | refine hK _ _ _ _ ?_)
          · exact vp_in_nI hj (by decide)
          · exact fin1 _
          all_goals
            have h0 := (show nI (pS P j) < M.1 83 (nI j).toNatClampNeg from by assumption)
            rw [v83, nI_ltI (by omega) (by omega)] at h0
            omega
      · exact absurd (show b2 true = 0 from by assumption) (by decide)
    · rw [tb_f.mpr (fun z => e z.2)]
      refine xF_go o_Mo_kept [10] 60 (fun K hK => ?_)
      repeat' ((conv => whnf); first | refine ⟨fun h => ?_, fun h => ?_⟩ | refine ⟨?_, ?_⟩ | refine hK _ _ _ _ ?_)
      · exact absurd rfl (show ¬ b2 false = 0 from by assumption)
      · refine xF_iret o_Mo_kept rfl rfl ?_
        refine hQ _ _ ⟨rfl, _, rfl, fun _ => rfl, fun j hj ek hs => absurd ⟨j, hj, ek, hs⟩ e⟩
theorem E_Mread (Z : sZ) (M : xMe) (hZ : mW Z M) (k p : Int32) : xE l G y_Mo_read [.ref 50, .int k, .int p] M (fun r M' => M' = M ∧ ∃ r0, r = some (.int r0) ∧ rRead Z k p r0) := by
  refine xE_cps (fun Q hQ => ?_)
  refine xE_of [some (.ref 50), some (.int k), some (.int p)] (by decide +kernel) (Nat.le_of_ble_eq_true rfl) rfl ?_
  match Z, hZ, hQ with
  | none, hZ, hQ =>
    refine xF_go o_Mo_read [] 60 (fun K hK => ?_)
    repeat' ((conv => whnf); first | refine ⟨fun h => ?_, fun h => ?_⟩ | refine ⟨?_, ?_⟩ | refine hK _ _ _ _ ?_)
    refine xF_callV o_Mo_read [.int k] rfl z_Mo_wasItem i_Mo_wasItem v_Mo_wasItem l_Mo_301 rfl ⟨⟨by decide, by decide⟩, rfl, rfl⟩ (Nat.le_of_ble_eq_true rfl) rfl rfl rfl (E_MwasItem l G sP0 sP0_w false M hZ.1 (fun z => by cases z) k) ?_
    rintro v M' ⟨eM, rfl⟩; obtain rfl := eM.symm
    clear hK K
    rw [tb_f.mpr (fun z => by cases z.1)]
    refine xF_go o_Mo_read [] 60 (fun K hK => ?_)
    repeat' ((conv => whnf); first | refine ⟨fun h => ?_, fun h => ?_⟩ | refine ⟨?_, ?_⟩ | refine hK _ _ _ _ ?_)
    · refine xF_iret o_Mo_read rfl rfl ?_
      exact hQ _ _ ⟨rfl, _, rfl, rfl⟩
    all_goals exact absurd rfl (show ¬ b2 false = 0 from by assumption)
  | some (P, V, R), hZ, hQ =>
    obtain ⟨h4, hZ2⟩ := hZ
    obtain ⟨hw, hfin, hR, hSh⟩ := hZ2 P V R rfl
    obtain ⟨⟨l86, l87, l85, l56, l57, l89⟩, s80, s83, s81, s72, s69, s74, s76, s77, s82⟩ := hSh
    refine xF_go o_Mo_read [] 60 (fun K hK => ?_)
    repeat' ((conv => whnf); first | refine ⟨fun h => ?_, fun h => ?_⟩ | refine ⟨?_, ?_⟩ | refine hK _ _ _ _ ?_)
    refine xF_callV o_Mo_read [.int k] rfl z_Mo_wasItem i_Mo_wasItem v_Mo_wasItem l_Mo_301 rfl ⟨⟨by decide, by decide⟩, rfl, rfl⟩ (Nat.le_of_ble_eq_true rfl) rfl rfl rfl (E_MwasItem l G P hw true M h4 (fun _ => s83) k) ?_
    rintro v M' ⟨eM, rfl⟩; obtain rfl := eM.symm
    clear hK K
    by_cases e : hadI P k
    · rw [tb_t.mpr ⟨rfl, e⟩]
      obtain ⟨j, hj, rfl, hs⟩ := e
      have hs64 := (hw.1 j hj).1
      have hcl : (nI j).toNatClampNeg = j := nI_clamp (by omega)
      refine xF_go o_Mo_read [] 60 (fun K hK => ?_)
      repeat' ((conv => whnf); first | refine ⟨fun h => ?_, fun h => ?_⟩ | refine ⟨?_, ?_⟩ | refine hK _ _ _ _ ?_)
      · exact absurd (show b2 true = 0 from by assumption) (by decide)
      · exact vp_in_nI hj (by decide)
      · rw [hcl, s83 j hj]
        refine xF_callS o_Mo_read [.int p, .int 0, .int (nI (pS P j) - 1)] rfl z_Mo_in s_Mo_in l_Mo_157 rfl ⟨⟨by decide, by decide⟩, rfl, rfl⟩ (Nat.le_of_ble_eq_true rfl) rfl (E_in l G p 0 (nI (pS P j) - 1) M) ?_
        rintro v M' ⟨eM, rfl⟩; obtain rfl := eM.symm
        clear hK K
        by_cases e2 : 0 ≤ p ∧ p ≤ nI (pS P j) - 1
        · rw [if_pos e2]
          obtain ⟨q, hq, rfl⟩ := (le_of_lt (by omega)).mp e2
          have e64 : 64 * nI j + nI q = nI (64 * j + q) := by rw [nI_64, nI_add]
          have v74 : M.1 74 (nI (64 * j + q)).toNatClampNeg = b2 (tb (vRd V j q)) := by rw [nI_clamp (by omega)]; exact mKP_b s74 hj (by omega)
          have res : Q (some (.int (b2 (tb (vRd V j q))))) M := by
            refine hQ _ _ ⟨rfl, _, rfl, fun j' q' a1 a2 a3 a4 => ?_, fun z => absurd ⟨j, q, hj, rfl, hq, rfl⟩ z⟩
            have := nI_inj (by omega) (by omega) a2
            subst this
            have := nI_inj (by omega) (by omega) a4
            subst this
            rfl
          refine xF_go o_Mo_read [] 60 (fun K hK => ?_)
          repeat' ((conv => whnf); first | refine ⟨fun h => ?_, fun h => ?_⟩ | refine ⟨?_, ?_⟩ | refine hK _ _ _ _ ?_)
          · exact absurd (show (1 : Int32) = 0 from by assumption) (by decide)
          · rw [e64]; exact vp_in_nI (by show _ < 1536; omega) (by decide)
          · have h0 := (show M.1 74 (64 * nI j + nI q).toNatClampNeg = 0 from by assumption)
            rw [e64, v74, b2_0] at h0
            rw [h0] at res
            refine xF_iret o_Mo_read rfl rfl ?_
            exact res
          · have h0 := (show ¬ M.1 74 (64 * nI j + nI q).toNatClampNeg = 0 from by assumption)
            rw [e64, v74, b2_ne] at h0
            rw [h0] at res
            refine xF_iret o_Mo_read rfl rfl ?_
            exact res
        · rw [if_neg e2]
          refine xF_go o_Mo_read [] 60 (fun K hK => ?_)
          repeat' ((conv => whnf); first | refine ⟨fun h => ?_, fun h => ?_⟩ | refine ⟨?_, ?_⟩ | refine hK _ _ _ _ ?_)
          · refine xF_iret o_Mo_read rfl rfl ?_
            refine hQ _ _ ⟨rfl, _, rfl, fun j' q' a1 a2 a3 a4 => ?_, fun _ => rfl⟩
            have := nI_inj (by omega) (by omega) a2
            subst this
            exact absurd ((le_of_lt (by omega)).mpr ⟨q', a3, a4⟩) e2
          all_goals exact absurd rfl (show ¬ (0 : Int32) = 0 from by assumption)
    · rw [tb_f.mpr (fun z => e z.2)]
      refine xF_go o_Mo_read [] 60 (fun K hK => ?_)
      repeat' ((conv => whnf); first | refine ⟨fun h => ?_, fun h => ?_⟩ | refine ⟨?_, ?_⟩ | refine hK _ _ _ _ ?_)
      · refine xF_iret o_Mo_read rfl rfl ?_
        refine hQ _ _ ⟨rfl, _, rfl, fun j' q' a1 a2 a3 a4 => absurd ⟨j', a1, a2, by omega⟩ e, fun _ => rfl⟩
      all_goals exact absurd rfl (show ¬ b2 false = 0 from by assumption)
end XUT
