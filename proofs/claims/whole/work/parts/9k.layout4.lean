/-! Layout: listBlocks, placeBlocks -/
theorem bls_mem {P : sP} {K T : Nat → Prop} {k : Nat} : ∀ n, k ∈ bls P K T n ↔ k < n ∧ K k ∧ sfr P T k = none ∧ ouf P T k = none
  | 0 => ⟨fun z => by simp [bls] at z, fun z => absurd z.1 (Nat.not_lt_zero _)⟩
  | n + 1 => by
    have ih := bls_mem (P := P) (K := K) (T := T) (k := k) n
    unfold bls
    by_cases e : K n ∧ sfr P T n = none ∧ ouf P T n = none
    · rw [if_tb e, List.mem_append, ih, List.mem_singleton]
      constructor
      · rintro (z | z)
        · exact ⟨by omega, z.2⟩
        · rw [z]; exact ⟨by omega, e⟩
      · rintro ⟨z1, z2⟩
        by_cases q : k = n
        · exact Or.inr q
        · exact Or.inl ⟨by omega, z2⟩
    · rw [if_nt e, ih]
      constructor
      · exact fun z => ⟨by omega, z.2⟩
      · rintro ⟨z1, z2⟩
        have : k ≠ n := fun q => e (q ▸ z2)
        exact ⟨by omega, z2⟩
theorem bls_nd {P : sP} {K T : Nat → Prop} : ∀ n, (bls P K T n).Nodup
  | 0 => List.nodup_nil
  | n + 1 => by
    have ih := bls_nd (P := P) (K := K) (T := T) n
    unfold bls
    by_cases e : K n ∧ sfr P T n = none ∧ ouf P T n = none
    · rw [if_tb e, List.nodup_append]
      refine ⟨ih, List.nodup_cons.mpr ⟨by simp, List.nodup_nil⟩, fun a ha b hb z => ?_⟩
      rw [List.mem_singleton] at hb
      have := ((bls_mem n).mp ha).1
      omega
    · rw [if_nt e]; exact ih
theorem bls_len {P : sP} {K T : Nat → Prop} : ∀ n, (bls P K T n).length ≤ n
  | 0 => Nat.le_refl _
  | n + 1 => by
    have ih := bls_len (P := P) (K := K) (T := T) n
    unfold bls
    by_cases e : K n ∧ sfr P T n = none ∧ ouf P T n = none
    · rw [if_tb e, List.length_append]
      show _ + 1 ≤ _
      omega
    · rw [if_nt e]; omega
/-- the order in which blocks are laid -/
def iso (A S : Nat → Nat) (Bl R : List Nat) : Prop := (Bl.length ≤ 7 → ∃ p, fst1 (fun i => A (Bl.getD i 0)) (fun i => S (Bl.getD i 0)) Bl.length (fun _ => False) 0 p ∧ R = p.map (fun i => Bl.getD i 0)) ∧ (¬ Bl.length ≤ 7 → R = Bl)
theorem iso_1 {A S : Nat → Nat} {Bl R R' : List Nat} (h : iso A S Bl R) (h' : iso A S Bl R') : R = R' := by
  by_cases e : Bl.length ≤ 7
  · obtain ⟨p, p1, p2⟩ := h.1 e
    obtain ⟨q, q1, q2⟩ := h'.1 e
    rw [p2, q2, fst1_1 p1 q1]
  · rw [h.2 e, h'.2 e]
theorem getD_mem {Bl : List Nat} {i : Nat} (h : i < Bl.length) : Bl.getD i 0 ∈ Bl := by
  rw [List.getD_eq_getElem?_getD, List.getElem?_eq_getElem h]
  exact List.getElem_mem h
theorem iso_ok {A S : Nat → Nat} {Bl R : List Nat} (hn : Bl.Nodup) (h : iso A S Bl R) : (∀ x, x ∈ R ↔ x ∈ Bl) ∧ R.Nodup ∧ R.length = Bl.length := by
  by_cases e : Bl.length ≤ 7
  · obtain ⟨p, p1, rfl⟩ := h.1 e
    have hp := p1.1
    have hlen : p.length = Bl.length := by
      rw [oks_len p hp]
      have : ∀ n, lft (fun _ => False) n = n := by
        intro n
        induction n with
        | zero => rfl
        | succ n ih =>
          show lft (fun _ => False) n + (if tb False = true then 0 else 1) = n + 1
          rw [ih, if_nt (fun z => z)]
      exact this _
    refine ⟨fun x => ?_, ?_, by rw [List.length_map, hlen]⟩
    · rw [List.mem_map]
      constructor
      · rintro ⟨i, h1, rfl⟩
        exact getD_mem ((hp.2 i).mp h1).1
      · intro hx
        obtain ⟨i, hi, rfl⟩ := List.getElem_of_mem hx
        exact ⟨i, (hp.2 i).mpr ⟨hi, fun z => z⟩, by rw [List.getD_eq_getElem?_getD, List.getElem?_eq_getElem hi]; rfl⟩
    · unfold List.Nodup
      rw [List.pairwise_map]
      refine List.Pairwise.imp_of_mem ?_ hp.1
      intro a b ha hb hab z
      apply hab
      have ha' := ((hp.2 a).mp ha).1
      have hb' := ((hp.2 b).mp hb).1
      rw [List.getD_eq_getElem?_getD, List.getElem?_eq_getElem ha', List.getD_eq_getElem?_getD, List.getElem?_eq_getElem hb'] at z
      exact (List.getElem?_inj ha' hn).mp (by rw [List.getElem?_eq_getElem ha', List.getElem?_eq_getElem hb']; exact congrArg some z)
  · rw [h.2 e]
    exact ⟨fun _ => Iff.rfl, hn, rfl⟩
noncomputable def hol (P : sP) (T : Nat → Prop) (k : Nat) : Option Nat := match sfr P T k with
  | some i => some i
  | none => ouf P T k
theorem hol_none {P : sP} {T : Nat → Prop} {k : Nat} : hol P T k = none ↔ sfr P T k = none ∧ ouf P T k = none := by
  unfold hol
  cases sfr P T k with
  | some i => simp
  | none => simp
theorem hol_24 {P : sP} {T : Nat → Prop} {k d : Nat} (hk : k < 24) (h : hol P T k = some d) : d < 24 := by
  unfold hol at h
  cases e : sfr P T k with
  | some i =>
    rw [e] at h
    cases h
    have := (sfr_some.mp e).1
    omega
  | none =>
    rw [e] at h
    exact (ouf_some hk h).2.1
section XL4
variable (l : Launch) (G : xG)
theorem E_LholderOf (P : sP) (T : Nat → Prop) (k : Nat) (hk : k < 24) (M : xMe) (h38 : c38 38 (sfr P T) M) (h39 : c38 39 (ouf P T) M) : xE l G y_La_holderOf [.ref 30, .int (nI k)] M (fun r M' => M' = M ∧ r = some (.int (oI (hol P T k)))) := by
  have hcl : (nI k).toNatClampNeg = k := nI_clamp (by omega)
  have v38 : M.1 38 (nI k).toNatClampNeg = oI (sfr P T k) := by rw [hcl]; exact h38 k hk
  have v39 : M.1 39 (nI k).toNatClampNeg = oI (ouf P T k) := by rw [hcl]; exact h39 k hk
  have hno := oI_none (o := sfr P T k) (fun d e => by have := (sfr_some.mp e).1; omega)
  refine xE_of [some (.ref 30), some (.int (nI k))] (by decide +kernel) (Nat.le_of_ble_eq_true rfl) rfl ?_
  refine xF_go o_La_holderOf [] 60 (fun K hK => ?_)
  repeat' ((conv => whnf); first | refine ⟨fun h => ?_, fun h => ?_⟩ | refine ⟨?_, ?_⟩ | refine hK _ _ _ _ ?_)
  · exact vp_in_nI hk (by decide)
  · exact vp_in_nI hk (by decide)
  · have h0 : M.1 38 (nI k).toNatClampNeg = -1 := by assumption
    rw [v38, hno] at h0
    refine xF_iret o_La_holderOf rfl rfl ?_
    refine ⟨rfl, ?_⟩
    unfold hol
    rw [h0, v39]
  · exact vp_in_nI hk (by decide)
  · have h0 : ¬ M.1 38 (nI k).toNatClampNeg = -1 := by assumption
    rw [v38, hno] at h0
    refine xF_iret o_La_holderOf rfl rfl ?_
    refine ⟨rfl, ?_⟩
    unfold hol
    rw [v38]
    cases e : sfr P T k with
    | none => exact absurd e h0
    | some i => rfl
/-- the row of blocks -/
def c41 (R : List Nat) (M : xMe) : Prop := M.1 30 11 = nI R.length ∧ ∀ i x, R[i]? = some x → M.1 41 i = nI x
theorem E_LlistBlocks (P : sP) (hw : wP P) (X T : Nat → Prop) (hX : ∀ j, X j → 0 < pS P j) (hT : ∀ j, T j → j < 24 ∧ 0 < pS P j) (M : xMe) (h34 : c34 P M) (h35 : ∀ k, k < 24 → M.1 35 k = nI (aln P T k)) (h36 : c36 36 X M) (h38 : c38 38 (sfr P T) M) (h39 : c38 39 (ouf P T) M) : xE l G y_La_listBlocks [.ref 30] M (fun r M' => r = none ∧ xfr [30, 32, 33, 41] M M' ∧ ∃ R, iso (aln P T) (pS P) (bls P X T 24) R ∧ c41 R M') := by
  refine xE_cps (fun Q hQ => ?_)
  refine xE_of [some (.ref 30), none] (by decide +kernel) (Nat.le_of_ble_eq_true rfl) rfl ?_
  refine xF_go o_La_listBlocks [7] 60 (fun K hK => ?_)
  repeat' ((conv => whnf); first | refine ⟨fun h => ?_, fun h => ?_⟩ | refine ⟨?_, ?_⟩ | refine hK _ _ _ _ ?_)
  clear hK K
  refine loopN (σ := xMe) 24 (fun k M1 => xfr [30, 41] M M1 ∧ c41 (bls P X T k) M1) (fun k M1 => xF l G y_La_listBlocks 7 [some (.ref 30), some (.int (nI k))] [] M1 Q) ?_ ?_ 24 0 rfl _ ⟨xfr.rf.I (by simp), rfl, fun i x z => by simp [bls] at z⟩
  · intro k hk M1 hI next
    obtain ⟨hf, g1, g2⟩ := hI
    have hcl : (nI k).toNatClampNeg = k := nI_clamp (by omega)
    have v36 : M1.1 36 (nI k).toNatClampNeg = b2 (tb (X k)) := by rw [hcl, (hf 36 (by decide)).1]; exact h36 k hk
    have w38 : c38 38 (sfr P T) M1 := fun j hj => by rw [(hf 38 (by decide)).1]; exact h38 j hj
    have w39 : c38 39 (ouf P T) M1 := fun j hj => by rw [(hf 39 (by decide)).1]; exact h39 j hj
    have hlen := bls_len (P := P) (K := X) (T := T) k
    have hho := oI_none (o := hol P T k) (fun d e => by have := hol_24 hk e; omega)
    have skip : ¬ (X k ∧ sfr P T k = none ∧ ouf P T k = none) → xF l G y_La_listBlocks 51 [some (.ref 30), some (.int (nI k))] [] M1 Q := by
      intro hn
      have e : bls P X T (k + 1) = bls P X T k := if_nt hn
      refine xF_go o_La_listBlocks [7, 57] 60 (fun K hK => ?_)
      repeat' ((conv => whnf); first | refine ⟨fun h => ?_, fun h => ?_⟩ | refine ⟨?_, ?_⟩ | refine hK _ _ _ _ ?_)
      rw [nI_1]
      refine next _ ⟨hf, ?_⟩
      rw [e]
      exact ⟨g1, g2⟩
    refine xF_go o_La_listBlocks [7, 51, 57] 60 (fun K hK => ?_)
    repeat' ((conv => whnf); first | refine ⟨fun h => ?_, fun h => ?_⟩ | refine ⟨?_, ?_⟩ | refine hK _ _ _ _ ?_)
    · exact absurd (nI_lt (b := 24) hk (by decide)) h
    · exact vp_in_nI hk (by decide)
    · have h0 : M1.1 36 (nI k).toNatClampNeg = 0 := by assumption
      rw [v36, b2_0, tb_f] at h0
      exact skip (fun z => h0 z.1)
    · have h0 : ¬ M1.1 36 (nI k).toNatClampNeg = 0 := by assumption
      rw [v36, b2_ne, tb_t] at h0
      refine xF_callV o_La_listBlocks [.int (nI k)] rfl z_La_holderOf i_La_holderOf v_La_holderOf l_La_158 rfl ⟨⟨by decide, by decide⟩, rfl, rfl⟩ (Nat.le_of_ble_eq_true rfl) rfl rfl rfl (E_LholderOf l G P T k hk M1 w38 w39) ?_
      rintro v M' ⟨eM, rfl⟩; obtain rfl := eM.symm
      clear hK K
      refine xF_go o_La_listBlocks [7, 51, 57] 60 (fun K hK => ?_)
      repeat' ((conv => whnf); first | refine ⟨fun h => ?_, fun h => ?_⟩ | refine ⟨?_, ?_⟩ | refine hK _ _ _ _ ?_)
      · have h1 : ¬ oI (hol P T k) = -1 := by assumption
        rw [hho, hol_none] at h1
        exact skip (fun z => h1 z.2)
      · rw [g1]
        exact vp_in_nI (by show _ < 24; omega) (by decide)
      · have h1 : oI (hol P T k) = -1 := by assumption
        rw [hho, hol_none] at h1
        have e : bls P X T (k + 1) = bls P X T k ++ [k] := if_tb ⟨h0, h1⟩
        rw [show (xsI M1 41 (upd (M1.1 41) (M1.1 30 11).toNatClampNeg (nI k))).1 30 = M1.1 30 from rfl, g1, nI_clamp (by omega)]
        clear hK K
        refine xF_go o_La_listBlocks [7, 57] 60 (fun K hK => ?_)
        repeat' ((conv => whnf); first | refine ⟨fun h => ?_, fun h => ?_⟩ | refine ⟨?_, ?_⟩ | refine hK _ _ _ _ ?_)
        rw [nI_1, nI_1]
        refine next _ ⟨(hf.I (by simp)).I (by simp), ?_, fun i x hx => ?_⟩
        · rw [xsI_s, upd_s, e, List.length_append]
          rfl
        · show upd (M1.1 41) (bls P X T k).length (nI k) i = nI x
          rw [e] at hx
          by_cases q : i = (bls P X T k).length
          · subst q
            rw [List.getElem?_append_right (Nat.le_refl _)] at hx
            simp at hx
            rw [upd_s, hx]
          · rw [upd_n q]
            refine g2 i x ?_
            have hlt : i < (bls P X T k ++ [k]).length := (List.getElem?_eq_some_iff.mp hx).1
            rw [List.length_append] at hlt
            replace hlt : i < (bls P X T k).length + 1 := hlt
            rw [List.getElem?_append_left (by omega)] at hx
            exact hx
  · intro M1 hI
    obtain ⟨hf, g1, g2⟩ := hI
    generalize eB : bls P X T 24 = Bl at hQ g1 g2
    have hmem : ∀ k, k ∈ Bl → k < 24 ∧ one8 (aln P T k) ∧ pS P k ≤ 64 := by
      intro k hk
      rw [← eB, bls_mem] at hk
      exact ⟨hk.1, aln_one hw hT hk.1 (hX k hk.2.1), (hw.1 k hk.1).1⟩
    have hlen : Bl.length ≤ 24 := by rw [← eB]; exact bls_len 24
    have w3 : ∀ k, k < 24 → M1.1 34 k = nI (pS P k) ∧ M1.1 35 k = nI (aln P T k) := fun k hk => by
      rw [(hf 34 (by decide)).1, (hf 35 (by decide)).1]
      exact ⟨h34 k hk, h35 k hk⟩
    refine xF_go o_La_listBlocks [7, 57] 60 (fun K hK => ?_)
    repeat' ((conv => whnf); first | refine ⟨fun h => ?_, fun h => ?_⟩ | refine ⟨?_, ?_⟩ | refine hK _ _ _ _ ?_)
    · clear hK K
      refine xF_go o_La_listBlocks [7] 60 (fun K hK => ?_)
      repeat' ((conv => whnf); first | refine ⟨fun h => ?_, fun h => ?_⟩ | refine ⟨?_, ?_⟩ | refine hK _ _ _ _ ?_)
      · have h0 := (show nI 7 < M1.1 30 11 from by assumption)
        rw [g1, nI_ltI (by omega) (by omega)] at h0
        refine xF_vret o_La_listBlocks rfl rfl ?_
        refine hQ _ _ ⟨rfl, hf.mono (by simp), Bl, ⟨fun z => by omega, fun _ => rfl⟩, g1, g2⟩
      · have h0 := (show ¬ nI 7 < M1.1 30 11 from by assumption)
        rw [g1, nI_ltI (by omega) (by omega)] at h0
        rw [g1]
        refine xF_callV o_La_listBlocks [.ref 41, .int (nI Bl.length), .ref 34, .ref 35] rfl z_BO_arrange i_BO_arrange v_BO_arrange l_La_161 rfl ⟨⟨by decide, by decide⟩, rfl, rfl⟩ (Nat.le_of_ble_eq_true rfl) rfl rfl rfl (E_arrange l G (aln P T) (pS P) Bl (by omega) hmem M1 w3 g2) ?_
        rintro v M2 ⟨rfl, f2, p, p1, p2, p3⟩
        clear hK K
        refine xF_go o_La_listBlocks [7] 60 (fun K hK => ?_)
        repeat' ((conv => whnf); first | refine ⟨fun h => ?_, fun h => ?_⟩ | refine ⟨?_, ?_⟩ | refine hK _ _ _ _ ?_)
        refine xF_vret o_La_listBlocks rfl rfl ?_
        refine hQ _ _ ⟨rfl, (hf.mono (by simp)).tr f2 (by simp), p.map (fun i => Bl.getD i 0), ⟨fun _ => ⟨p, p1, rfl⟩, fun z => absurd (show Bl.length ≤ 7 by omega) z⟩, ?_, fun i x hx => ?_⟩
        · rw [(f2 30 (by decide)).1, g1, List.length_map, p2]
        · rw [List.getElem?_map] at hx
          cases e : p[i]? with
          | none => rw [e] at hx; cases hx
          | some y =>
            rw [e] at hx
            cases hx
            exact p3 i y e
    all_goals exact absurd (show nI 24 < nI 24 from by assumption) (nI_nlt (by omega) (by omega))
theorem L_LplaceBlocks (A S : Nat → Nat) (Q : Option Value → xMe → Prop) : ∀ (t : List Nat) (n e : Nat) (M1 : xMe) (x2 : Option Value), n + t.length ≤ 24 → M1.1 30 11 = nI (n + t.length) → M1.1 30 13 = nI e → e ≤ 71 * n → (∀ i k, t[i]? = some k → M1.1 41 (n + i) = nI k) → (∀ k, k ∈ t → k < 24 ∧ one8 (A k) ∧ S k ≤ 64) → t.Nodup → (∀ k, k < 24 → M1.1 34 k = nI (S k) ∧ M1.1 35 k = nI (A k)) → (∀ M2, xfr [30, 40] M1 M2 → M2.1 30 11 = M1.1 30 11 → M2.1 30 13 = nI (ene A S e t) → (∀ k, k < 24 → M2.1 40 k = if k ∈ t then nI (adr A S k e t) else M1.1 40 k) → Q none M2) → xF l G y_La_placeBlocks 7 [some (.ref 30), some (.int (nI n)), x2] [] M1 Q := by
  intro t
  induction t with
  | nil =>
    intro n e M1 x2 hn h11 h13 he h41 hk hnd h34 hQ
    refine xF_go o_La_placeBlocks [7] 60 (fun K hK => ?_)
    repeat' ((conv => whnf); first | refine ⟨fun h => ?_, fun h => ?_⟩ | refine ⟨?_, ?_⟩ | refine hK _ _ _ _ ?_)
    · refine xF_vret o_La_placeBlocks rfl rfl ?_
      refine hQ M1 xfr.rf rfl h13 (fun k hk => ?_)
      rw [if_neg (by simp)]
    all_goals
      have h0 := (show nI n < M1.1 30 11 from by assumption)
      rw [h11, nI_ltI (by omega) (by simp; omega)] at h0
      simp at h0
  | cons b t ih =>
    intro n e M1 x2 hn h11 h13 he h41 hk hnd h34 hQ
    rw [List.length_cons] at hn
    rw [List.length_cons] at h11
    obtain ⟨b1, b2', b3⟩ := hk b List.mem_cons_self
    have hcn : (nI n).toNatClampNeg = n := nI_clamp (by omega)
    have hcb : (nI b).toNatClampNeg = b := nI_clamp (by omega)
    have v41 : M1.1 41 (nI n).toNatClampNeg = nI b := by rw [hcn]; exact h41 0 b rfl
    have hge := nx_ge (e := e) b2'
    have hnd' := List.nodup_cons.mp hnd
    refine xF_go o_La_placeBlocks [7] 60 (fun K hK => ?_)
    repeat' ((conv => whnf); first | refine ⟨fun h => ?_, fun h => ?_⟩ | refine ⟨?_, ?_⟩ | refine hK _ _ _ _ ?_)
    · have h0 := (show ¬ nI n < M1.1 30 11 from by assumption)
      rw [h11, nI_ltI (by omega) (by omega)] at h0
      omega
    · exact vp_in_nI (by show n < 24; omega) (by decide)
    · rw [v41]; exact vp_in_nI b1 (by decide)
    · rw [v41, hcb, (h34 b b1).2, h13]
      refine xF_callS o_La_placeBlocks [.int (nI e), .int (nI (A b))] rfl z_BO_gap s_BO_gap l_La_168 rfl ⟨⟨by decide, by decide⟩, rfl, rfl⟩ (Nat.le_of_ble_eq_true rfl) rfl (E_gap l G (nI e) (nI (A b)) M1) ?_
      rintro v M' ⟨eM, rfl⟩; obtain rfl := eM.symm
      rw [gap_n b2' (by omega)]
      clear hK K
      refine xF_go o_La_placeBlocks [7, 44] 60 (fun K hK => ?_)
      repeat' ((conv => whnf); first | refine ⟨fun h => ?_, fun h => ?_⟩ | refine ⟨?_, ?_⟩ | refine hK _ _ _ _ ?_)
      rw [nI_add, show e + (nx e (A b) - e) = nx e (A b) by omega]
      generalize hM2 : xsI M1 30 (upd (M1.1 30) 13 (nI (nx e (A b)))) = M2
      have f2 : xfr [30] M1 M2 := by rw [← hM2]; exact xfr.rf.I (by simp)
      have t13 : M2.1 30 13 = nI (nx e (A b)) := by rw [← hM2]; rfl
      have t11 : M2.1 30 11 = M1.1 30 11 := by rw [← hM2]; rfl
      have t34 : M2.1 34 b = nI (S b) := by rw [(f2 34 (by decide)).1]; exact (h34 b b1).1
      clear hM2 hK K
      refine xF_go o_La_placeBlocks [7] 60 (fun K hK => ?_)
      repeat' ((conv => whnf); first | refine ⟨fun h => ?_, fun h => ?_⟩ | refine ⟨?_, ?_⟩ | refine hK _ _ _ _ ?_)
      · exact vp_in_nI b1 (by decide)
      · exact vp_in_nI b1 (by decide)
      · rw [nI_1, hcb]
        rw [show (xsI M2 40 (upd (M2.1 40) b (M2.1 30 13))).1 34 = M2.1 34 from rfl, show (xsI M2 40 (upd (M2.1 40) b (M2.1 30 13))).1 30 = M2.1 30 from rfl, t13, t34, nI_add]
        refine ih (n + 1) (nx e (A b) + S b) _ _ (by omega) ?_ ?_ (by omega) (fun i k hi => ?_) (fun k hk' => hk k (List.mem_cons_of_mem _ hk')) hnd'.2 (fun k hk' => ?_) (fun M3 f3 k11 k13 k40 => ?_)
        · show M2.1 30 11 = _
          rw [t11, h11]
          congr 1
          omega
        · rfl
        · show M2.1 41 (n + 1 + i) = nI k
          rw [(f2 41 (by decide)).1, show n + 1 + i = n + (i + 1) by omega]
          exact h41 (i + 1) k hi
        · show M2.1 34 k = _ ∧ M2.1 35 k = _
          rw [(f2 34 (by decide)).1, (f2 35 (by decide)).1]
          exact h34 k hk'
        · refine hQ M3 (((f2.mono (by simp)).I (by simp)).I (by simp) |>.tr f3 (fun _ z => z)) (k11.trans t11) k13 (fun k hk' => ?_)
          rw [k40 k hk']
          show (if k ∈ t then nI (adr A S k (nx e (A b) + S b) t) else upd (M2.1 40) b (nI (nx e (A b))) k) = _
          by_cases q : k = b
          · subst q
            rw [if_neg hnd'.1, upd_s, if_pos List.mem_cons_self]
            show _ = nI (if k = k then _ else _)
            rw [if_pos rfl]
          · have q2 : adr A S k e (b :: t) = adr A S k (nx e (A b) + S b) t := if_neg (fun z => q z.symm)
            rw [q2]
            by_cases q3 : k ∈ t
            · rw [if_pos q3, if_pos (List.mem_cons_of_mem _ q3)]
            · rw [if_neg q3, upd_n q, if_neg (fun z => (List.mem_cons.mp z).elim q q3), (f2 40 (by decide)).1]
theorem E_LplaceBlocks (A S : Nat → Nat) (R : List Nat) (hR : R.length ≤ 24) (hk : ∀ k, k ∈ R → k < 24 ∧ one8 (A k) ∧ S k ≤ 64) (hnd : R.Nodup) (M : xMe) (h41 : c41 R M) (h34 : ∀ k, k < 24 → M.1 34 k = nI (S k) ∧ M.1 35 k = nI (A k)) : xE l G y_La_placeBlocks [.ref 30] M (fun r M' => r = none ∧ xfr [30, 40] M M' ∧ M'.1 30 11 = nI R.length ∧ M'.1 30 13 = nI (ene A S 0 R) ∧ (∀ k, k < 24 → M'.1 40 k = if k ∈ R then nI (adr A S k 0 R) else M.1 40 k)) := by
  refine xE_cps (fun Q hQ => ?_)
  refine xE_of [some (.ref 30), none, none] (by decide +kernel) (Nat.le_of_ble_eq_true rfl) rfl ?_
  refine xF_go o_La_placeBlocks [7] 60 (fun K hK => ?_)
  repeat' ((conv => whnf); first | refine ⟨fun h => ?_, fun h => ?_⟩ | refine ⟨?_, ?_⟩ | refine hK _ _ _ _ ?_)
  refine L_LplaceBlocks l G A S Q R 0 0 _ none (by omega) ?_ rfl (by omega) (fun i k hi => ?_) hk hnd (fun k hk' => h34 k hk') (fun M2 f2 k11 k13 k40 => hQ _ _ ⟨rfl, (xfr.rf.I (by simp)).tr f2 (fun _ z => z), k11.trans h41.1, k13, k40⟩)
  · rw [Nat.zero_add]
    exact h41.1
  · rw [Nat.zero_add]
    exact h41.2 i k hi
end XL4
