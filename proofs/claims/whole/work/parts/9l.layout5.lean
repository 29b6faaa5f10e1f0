/-! Layout: placeOthers, writeOctets, work -/
/-- addresses: blocks, then tails, then those that another one stands for -/
noncomputable def ad0 (A S : Nat → Nat) (R : List Nat) (k : Nat) : Option Nat := if k ∈ R then some (adr A S k 0 R) else none
noncomputable def ad1 (P : sP) (T : Nat → Prop) (R : List Nat) (k : Nat) : Option Nat := match ouf P T k with
  | some y => some (adr (aln P T) (pS P) y 0 R + pS P y - pS P k)
  | none => ad0 (aln P T) (pS P) R k
noncomputable def ad2 (P : sP) (T : Nat → Prop) (R : List Nat) (k : Nat) : Option Nat := match sfr P T k with
  | some i => ad1 P T R i
  | none => ad1 P T R k
/-- a block's place in the row: it stands within the whole -/
theorem adr_at {A S : Nat → Nat} {k : Nat} {t : List Nat} : ∀ (pre : List Nat) (e : Nat), k ∉ pre → adr A S k e (pre ++ k :: t) = nx (ene A S e pre) (A k)
  | [], e, _ => if_pos rfl
  | b :: u, e, h => by
    have h1 : b ≠ k := fun z => h (z ▸ List.mem_cons_self)
    have h2 := adr_at (A := A) (S := S) (t := t) u (nx e (A b) + S b) (fun z => h (List.mem_cons_of_mem _ z))
    show (if b = k then _ else adr A S k (nx e (A b) + S b) (u ++ k :: t)) = _
    rw [if_neg h1]
    exact h2
theorem adr_le {A S : Nat → Nat} {k : Nat} : ∀ (R : List Nat) (e : Nat), (∀ b, b ∈ R → one8 (A b)) → k ∈ R → e ≤ adr A S k e R ∧ adr A S k e R + S k ≤ ene A S e R
  | [], e, _, h => by simp at h
  | b :: t, e, hA, h => by
    have hb := nx_ge (e := e) (hA b List.mem_cons_self)
    have ht := fun c hc => hA c (List.mem_cons_of_mem b hc)
    show e ≤ (if b = k then nx e (A b) else adr A S k (nx e (A b) + S b) t) ∧ (if b = k then nx e (A b) else adr A S k (nx e (A b) + S b) t) + S k ≤ ene A S (nx e (A b) + S b) t
    by_cases q : b = k
    · rw [if_pos q]
      subst q
      exact ⟨hb.1, ene_ge t _ ht⟩
    · rw [if_neg q]
      have := adr_le (A := A) (S := S) t (nx e (A b) + S b) ht ((List.mem_cons.mp h).elim (fun z => absurd z.symm q) id)
      omega
theorem oct_lt {A S : Nat → Nat} {O : Nat → Nat → Nat} : ∀ (R : List Nat) (e : Nat) (m : Nat → Nat) (a : Nat), (∀ b, b ∈ R → one8 (A b)) → a < e → oct A S O e R m a = m a
  | [], _, _, _, _, _ => rfl
  | b :: t, e, m, a, hA, h => by
    have hb := nx_ge (e := e) (hA b List.mem_cons_self)
    show oct A S O (nx e (A b) + S b) t _ a = _
    rw [oct_lt t _ _ a (fun c hc => hA c (List.mem_cons_of_mem b hc)) (by omega)]
    show (if _ then _ else _) = _
    rw [if_neg (by omega)]
theorem oct_at {A S : Nat → Nat} {O : Nat → Nat → Nat} {k : Nat} : ∀ (R : List Nat) (e : Nat) (m : Nat → Nat) (p : Nat), (∀ b, b ∈ R → one8 (A b)) → k ∈ R → p < S k → oct A S O e R m (adr A S k e R + p) = O k p
  | [], _, _, _, _, h, _ => by simp at h
  | b :: t, e, m, p, hA, h, hp => by
    have hb := nx_ge (e := e) (hA b List.mem_cons_self)
    have ht := fun c hc => hA c (List.mem_cons_of_mem b hc)
    show oct A S O (nx e (A b) + S b) t _ ((if b = k then nx e (A b) else adr A S k (nx e (A b) + S b) t) + p) = _
    by_cases q : b = k
    · subst q
      rw [if_pos rfl, oct_lt t _ _ _ ht (by omega)]
      show (if _ then _ else _) = _
      rw [if_pos (by omega)]
      congr 1
      omega
    · rw [if_neg q]
      exact oct_at t _ _ p ht ((List.mem_cons.mp h).elim (fun z => absurd z.symm q) id) hp
theorem oct_256 {A S : Nat → Nat} {O : Nat → Nat → Nat} : ∀ (R : List Nat) (e : Nat) (m : Nat → Nat), (∀ b, b ∈ R → ∀ p, p < S b → O b p < 256) → (∀ a, m a < 256) → ∀ a, oct A S O e R m a < 256
  | [], _, m, _, h, a => h a
  | b :: t, e, m, hO, h, a => by
    refine oct_256 t _ _ (fun c hc => hO c (List.mem_cons_of_mem b hc)) (fun a => ?_) a
    show (if _ then _ else _) < 256
    split
    · exact hO b List.mem_cons_self _ (by omega)
    · exact h a
/-- what a row of blocks must be -/
def okR (P : sP) (T : Nat → Prop) (R : List Nat) : Prop := R.length ≤ 24 ∧ R.Nodup ∧ (∀ k, k ∈ R → k < 24 ∧ one8 (aln P T k) ∧ pS P k ≤ 64) ∧ (∀ k, k < 24 → sts P T k → ouf P T k = none → k ∈ R) ∧ (∀ k, k ∈ R → sfr P T k = none ∧ ouf P T k = none)
theorem okR_tot {P : sP} {T : Nat → Prop} {R : List Nat} (h : okR P T R) : ene (aln P T) (pS P) 0 R ≤ 1704 := by
  have := ene_le (A := aln P T) (S := pS P) R 0 (fun b hb => (h.2.2.1 b hb).2)
  have := h.1
  omega
theorem okR_y {P : sP} {T : Nat → Prop} {R : List Nat} (h : okR P T R) {k y : Nat} (hk : k < 24) (e : ouf P T k = some y) : y < 24 ∧ y ∈ R ∧ pS P k < pS P y ∧ ouf P T y = none := by
  obtain ⟨a, b, c, d, f, g⟩ := ouf_some hk e
  exact ⟨b, h.2.2.2.1 y b c g, d, g⟩
theorem ad0_le {P : sP} {T : Nat → Prop} {R : List Nat} (h : okR P T R) {k a : Nat} (e : ad0 (aln P T) (pS P) R k = some a) : k ∈ R ∧ a = adr (aln P T) (pS P) k 0 R ∧ a + pS P k ≤ 1704 := by
  unfold ad0 at e
  by_cases q : k ∈ R
  · rw [if_pos q] at e
    cases e
    have := adr_le (A := aln P T) (S := pS P) R 0 (fun b hb => (h.2.2.1 b hb).2.1) q
    have := okR_tot h
    exact ⟨q, rfl, by omega⟩
  · rw [if_neg q] at e
    cases e
theorem ad1_le {P : sP} {T : Nat → Prop} {R : List Nat} (h : okR P T R) {k a : Nat} (hk : k < 24) (e : ad1 P T R k = some a) : a + pS P k ≤ 1704 := by
  unfold ad1 at e
  cases q : ouf P T k with
  | none => rw [q] at e; exact (ad0_le h e).2.2
  | some y =>
    rw [q] at e
    obtain ⟨y1, y2, y3, y4⟩ := okR_y h hk q
    have := adr_le (A := aln P T) (S := pS P) R 0 (fun b hb => (h.2.2.1 b hb).2.1) y2
    have := okR_tot h
    cases e
    omega
theorem ad2_le {P : sP} {T : Nat → Prop} {R : List Nat} (h : okR P T R) {k a : Nat} (hk : k < 24) (e : ad2 P T R k = some a) : a + pS P k ≤ 1704 := by
  unfold ad2 at e
  cases q : sfr P T k with
  | none => rw [q] at e; exact ad1_le h hk e
  | some i =>
    rw [q] at e
    obtain ⟨z1, z2, z3⟩ := sfr_some.mp q
    have := ad1_le h (k := i) (by omega) e
    have := z2.2.2.1
    omega
section XL5
variable (l : Launch) (G : xG)
theorem E_LplaceOthers (P : sP) (hw : wP P) (T : Nat → Prop) (R : List Nat) (hR : okR P T R) (M : xMe) (h34 : c34 P M) (h38 : c38 38 (sfr P T) M) (h39 : c38 39 (ouf P T) M) (h40 : c38 40 (ad0 (aln P T) (pS P) R) M) : xE l G y_La_placeOthers [.ref 30] M (fun r M' => r = none ∧ xfr [40] M M' ∧ c38 40 (ad2 P T R) M') := by
  refine xE_cps (fun Q hQ => ?_)
  have second : ∀ M1, xfr [40] M M1 → c38 40 (ad1 P T R) M1 → xF l G y_La_placeOthers 62 [some (.ref 30), some (.int (nI 0))] [] M1 Q := by
    intro M1 f1 g1
    refine loopN (σ := xMe) 24 (fun k M2 => xfr [40] M M2 ∧ ∀ j, j < 24 → M2.1 40 j = oI (if j < k then ad2 P T R j else ad1 P T R j)) (fun k M2 => xF l G y_La_placeOthers 62 [some (.ref 30), some (.int (nI k))] [] M2 Q) ?_ ?_ 24 0 rfl M1 ⟨f1, fun j hj => by rw [if_neg (by omega)]; exact g1 j hj⟩
    · intro k hk M2 hI next
      obtain ⟨f2, g2⟩ := hI
      have hcl : (nI k).toNatClampNeg = k := nI_clamp (by omega)
      have v38 : M2.1 38 (nI k).toNatClampNeg = oI (sfr P T k) := by rw [hcl, (f2 38 (by decide)).1]; exact h38 k hk
      have hno := oI_none (o := sfr P T k) (fun d e => by have := (sfr_some.mp e).1; omega)
      refine xF_go o_La_placeOthers [2, 62] 60 (fun K hK => ?_)
      repeat' ((conv => whnf); first | refine ⟨fun h => ?_, fun h => ?_⟩ | refine ⟨?_, ?_⟩ | refine hK _ _ _ _ ?_)
      · exact absurd (nI_lt (b := 24) hk (by decide)) h
      · exact vp_in_nI hk (by decide)
      · have h0 : M2.1 38 (nI k).toNatClampNeg = -1 := by assumption
        rw [v38, hno] at h0
        rw [nI_1]
        refine next _ ⟨f2, fun j hj => (g2 j hj).trans (congrArg oI ?_)⟩
        by_cases q : j = k
        · subst q
          rw [if_neg (Nat.lt_irrefl _), if_pos (by omega)]
          unfold ad2
          rw [h0]
        · by_cases q2 : j < k
          · rw [if_pos q2, if_pos (by omega)]
          · rw [if_neg q2, if_neg (by omega)]
      · exact vp_in_nI hk (by decide)
      · have h0 : ¬ M2.1 38 (nI k).toNatClampNeg = -1 := by assumption
        rw [v38, hno] at h0
        cases e : sfr P T k with
        | none => exact absurd e h0
        | some i =>
          have := (sfr_some.mp e).1
          rw [v38, e]
          exact vp_in_nI (n := i) (by show _ < 24; omega) (by decide)
      · exact vp_in_nI hk (by decide)
      · have h0 : ¬ M2.1 38 (nI k).toNatClampNeg = -1 := by assumption
        rw [v38, hno] at h0
        cases e : sfr P T k with
        | none => exact absurd e h0
        | some i =>
          have hi := (sfr_some.mp e).1
          have hst := sfr_st e
          rw [v38, e, nI_1, hcl, show (oI (some i)).toNatClampNeg = i from nI_clamp (n := i) (by omega), g2 i (by omega), if_pos hi]
          have e2 : ad2 P T R i = ad1 P T R i := by
            unfold ad2
            rw [hst.2]
          refine next _ ⟨f2.I (by simp), fun j hj => ?_⟩
          rw [xsI_s]
          by_cases q : j = k
          · subst q
            rw [upd_s, if_pos (by omega), e2]
            unfold ad2
            rw [e]
          · rw [upd_n q, g2 j hj]
            by_cases q2 : j < k
            · rw [if_pos q2, if_pos (by omega)]
            · rw [if_neg q2, if_neg (by omega)]
    · intro M2 hI
      obtain ⟨f2, g2⟩ := hI
      refine xF_go o_La_placeOthers [2, 62] 60 (fun K hK => ?_)
      repeat' ((conv => whnf); first | refine ⟨fun h => ?_, fun h => ?_⟩ | refine ⟨?_, ?_⟩ | refine hK _ _ _ _ ?_)
      · refine xF_vret o_La_placeOthers rfl rfl ?_
        exact hQ _ _ ⟨rfl, f2, fun k hk => by rw [g2 k hk, if_pos hk]⟩
      all_goals exact absurd (show nI 24 < nI 24 from by assumption) (nI_nlt (by omega) (by omega))
  refine xE_of [some (.ref 30), none] (by decide +kernel) (Nat.le_of_ble_eq_true rfl) rfl ?_
  refine xF_go o_La_placeOthers [2] 60 (fun K hK => ?_)
  repeat' ((conv => whnf); first | refine ⟨fun h => ?_, fun h => ?_⟩ | refine ⟨?_, ?_⟩ | refine hK _ _ _ _ ?_)
  clear hK K
  refine loopN (σ := xMe) 24 (fun k M2 => xfr [40] M M2 ∧ ∀ j, j < 24 → M2.1 40 j = oI (if j < k then ad1 P T R j else ad0 (aln P T) (pS P) R j)) (fun k M2 => xF l G y_La_placeOthers 2 [some (.ref 30), some (.int (nI k))] [] M2 Q) ?_ ?_ 24 0 rfl M ⟨xfr.rf, fun j hj => by rw [if_neg (by omega)]; exact h40 j hj⟩
  · intro k hk M2 hI next
    obtain ⟨f2, g2⟩ := hI
    have hcl : (nI k).toNatClampNeg = k := nI_clamp (by omega)
    have hs64 := (hw.1 k hk).1
    have v39 : M2.1 39 (nI k).toNatClampNeg = oI (ouf P T k) := by rw [hcl, (f2 39 (by decide)).1]; exact h39 k hk
    have v34 : M2.1 34 (nI k).toNatClampNeg = nI (pS P k) := by rw [hcl, (f2 34 (by decide)).1]; exact h34 k hk
    have hno := oI_none (o := ouf P T k) (fun d e => by have := (ouf_some hk e).2.1; omega)
    have hy : ¬ ouf P T k = none → ∃ y, ouf P T k = some y ∧ y < 24 ∧ y ∈ R ∧ pS P k < pS P y ∧ ouf P T y = none := by
      intro h0
      cases e : ouf P T k with
      | none => exact absurd e h0
      | some y => exact ⟨y, rfl, okR_y hR hk e⟩
    refine xF_go o_La_placeOthers [2, 62] 60 (fun K hK => ?_)
    repeat' ((conv => whnf); first | refine ⟨fun h => ?_, fun h => ?_⟩ | refine ⟨?_, ?_⟩ | refine hK _ _ _ _ ?_)
    · exact absurd (nI_lt (b := 24) hk (by decide)) h
    · exact vp_in_nI hk (by decide)
    · have h0 : M2.1 39 (nI k).toNatClampNeg = -1 := by assumption
      rw [v39, hno] at h0
      rw [nI_1]
      refine next _ ⟨f2, fun j hj => (g2 j hj).trans (congrArg oI ?_)⟩
      by_cases q : j = k
      · subst q
        rw [if_neg (Nat.lt_irrefl _), if_pos (by omega)]
        unfold ad1
        rw [h0]
      · by_cases q2 : j < k
        · rw [if_pos q2, if_pos (by omega)]
        · rw [if_neg q2, if_neg (by omega)]
    · exact vp_in_nI hk (by decide)
    · have h0 : ¬ M2.1 39 (nI k).toNatClampNeg = -1 := by assumption
      rw [v39, hno] at h0
      obtain ⟨y, y0, y1, y2⟩ := hy h0
      rw [v39, y0]
      exact vp_in_nI (n := y) y1 (by decide)
    · exact vp_in_nI hk (by decide)
    · have h0 : ¬ M2.1 39 (nI k).toNatClampNeg = -1 := by assumption
      rw [v39, hno] at h0
      obtain ⟨y, y0, y1, y2⟩ := hy h0
      rw [v39, y0]
      exact vp_in_nI (n := y) y1 (by decide)
    · exact vp_in_nI hk (by decide)
    · exact vp_in_nI hk (by decide)
    · have h0 : ¬ M2.1 39 (nI k).toNatClampNeg = -1 := by assumption
      rw [v39, hno] at h0
      obtain ⟨y, y0, y1, y2, y3, y4⟩ := hy h0
      have v34y : M2.1 34 y = nI (pS P y) := by rw [(f2 34 (by decide)).1]; exact h34 y y1
      have v40y : M2.1 40 y = nI (adr (aln P T) (pS P) y 0 R) := by
        rw [g2 y y1]
        have e0 : ad0 (aln P T) (pS P) R y = some (adr (aln P T) (pS P) y 0 R) := if_pos y2
        have e1 : ad1 P T R y = some (adr (aln P T) (pS P) y 0 R) := by
          unfold ad1
          rw [y4]
          exact e0
        rw [e0, e1]
        split <;> rfl
      rw [v39, y0, nI_1, v34, hcl, show (oI (some y)).toNatClampNeg = y from nI_clamp (n := y) (by omega), v34y, v40y, nI_add, show (nI (adr (aln P T) (pS P) y 0 R + pS P y) - nI (pS P k) : Int32) = nI (adr (aln P T) (pS P) y 0 R + pS P y - pS P k) from pk_sub (by omega)]
      refine next _ ⟨f2.I (by simp), fun j hj => ?_⟩
      rw [xsI_s]
      by_cases q : j = k
      · subst q
        rw [upd_s, if_pos (by omega)]
        unfold ad1
        rw [y0]
        rfl
      · rw [upd_n q, g2 j hj]
        by_cases q2 : j < k
        · rw [if_pos q2, if_pos (by omega)]
        · rw [if_neg q2, if_neg (by omega)]
  · intro M2 hI
    obtain ⟨f2, g2⟩ := hI
    refine xF_go o_La_placeOthers [2, 62] 60 (fun K hK => ?_)
    repeat' ((conv => whnf); first | refine ⟨fun h => ?_, fun h => ?_⟩ | refine ⟨?_, ?_⟩ | refine hK _ _ _ _ ?_)
    · exact second M2 f2 (fun j hj => by rw [g2 j hj, if_pos hj])
    all_goals exact absurd (show nI 24 < nI 24 from by assumption) (nI_nlt (by omega) (by omega))
theorem L_LwriteOctets (P : sP) (hw : wP P) (A S : Nat → Nat) (R : List Nat) (hA : ∀ b, b ∈ R → b < 24 ∧ one8 (A b)) (hS : S = pS P) (hnd : R.Nodup) (hR : R.length ≤ 24) (htot : ene A S 0 R ≤ 1728) (Q : Option Value → xMe → Prop) : ∀ (t pre : List Nat) (F : Nat → Nat) (M1 : xMe) (x2 : Option Value), R = pre ++ t → c41 R M1 → c34 P M1 → cO P M1 → (∀ k, k ∈ R → M1.1 40 k = nI (adr A S k 0 R)) → (∀ a, a < 1728 → M1.1 42 a = nI (F a)) → (∀ M2, xfr [42] M1 M2 → (∀ a, a < 1728 → M2.1 42 a = nI (oct A S (pO P) (ene A S 0 pre) t F a)) → Q none M2) → xF l G y_La_writeOctets 2 [some (.ref 30), some (.int (nI pre.length)), x2] [] M1 Q := by
  subst hS
  intro t
  induction t with
  | nil =>
    intro pre F M1 x2 eR h41 h34 hO h40 h42 hQ
    rw [List.append_nil] at eR
    subst eR
    refine xF_go o_La_writeOctets [2] 60 (fun K hK => ?_)
    repeat' ((conv => whnf); first | refine ⟨fun h => ?_, fun h => ?_⟩ | refine ⟨?_, ?_⟩ | refine hK _ _ _ _ ?_)
    · refine xF_vret o_La_writeOctets rfl rfl ?_
      exact hQ M1 xfr.rf h42
    all_goals
      have h0 := (show nI R.length < M1.1 30 11 from by assumption)
      rw [h41.1, nI_ltI (by omega) (by omega)] at h0
      omega
  | cons b t ih =>
    intro pre F M1 x2 eR h41 h34 hO h40 h42 hQ
    have hmem : b ∈ R := by rw [eR]; simp
    obtain ⟨b1, b2'⟩ := hA b hmem
    have hbp : b ∉ pre := by
      rw [eR, List.nodup_append] at hnd
      exact fun z => hnd.2.2 b z b List.mem_cons_self rfl
    have hlen : R.length = pre.length + (t.length + 1) := by rw [eR, List.length_append, List.length_cons]
    have hs64 := (hw.1 b b1).1
    have hadr : adr A (pS P) b 0 R = nx (ene A (pS P) 0 pre) (A b) := by rw [eR]; exact adr_at pre 0 hbp
    have hle := (adr_le (A := A) (S := pS P) R 0 (fun c hc => (hA c hc).2) hmem).2
    have hcn : (nI pre.length).toNatClampNeg = pre.length := nI_clamp (by omega)
    have hcb : (nI b).toNatClampNeg = b := nI_clamp (by omega)
    have v41 : M1.1 41 (nI pre.length).toNatClampNeg = nI b := by
      rw [hcn]
      refine h41.2 _ _ ?_
      rw [eR, List.getElem?_append_right (Nat.le_refl _), Nat.sub_self]
      rfl
    refine xF_go o_La_writeOctets [2] 60 (fun K hK => ?_)
    repeat' ((conv => whnf); first | refine ⟨fun h => ?_, fun h => ?_⟩ | refine ⟨?_, ?_⟩ | refine hK _ _ _ _ ?_)
    · have h0 := (show ¬ nI pre.length < M1.1 30 11 from by assumption)
      rw [h41.1, nI_ltI (by omega) (by omega)] at h0
      omega
    · exact vp_in_nI (by show _ < 24; omega) (by decide)
    · rw [v41]; exact vp_in_nI b1 (by decide)
    · rw [v41]; exact vp_in_nI b1 (by decide)
    · rw [v41, hcb, h40 b hmem, h34 b b1, nI_16]
      refine xF_copyi o_La_writeOctets rfl ac_La rfl rfl (by decide) (by decide) (b * 64) (adr A (pS P) b 0 R) (pS P b) rfl rfl rfl (by show _ ≤ 1536; omega) (by show _ ≤ 1728; omega) ⟨by omega, by omega, by omega⟩ (Nat.le_of_ble_eq_true rfl) (by decide) ?_
      clear hK K
      refine xF_go o_La_writeOctets [2] 60 (fun K hK => ?_)
      repeat' ((conv => whnf); first | refine ⟨fun h => ?_, fun h => ?_⟩ | refine ⟨?_, ?_⟩ | refine hK _ _ _ _ ?_)
      rw [nI_1]
      have ih' := ih (pre ++ [b]) (fun a => if nx (ene A (pS P) 0 pre) (A b) ≤ a ∧ a < nx (ene A (pS P) 0 pre) (A b) + pS P b then pO P b (a - nx (ene A (pS P) 0 pre) (A b)) else F a) (xsI M1 42 (va_cpy (M1.1 6) (M1.1 42) (b * 64) (adr A (pS P) b 0 R) (pS P b))) (some (.int (nI b))) (by rw [eR, List.append_assoc]; rfl) h41 h34 hO h40 (fun a ha => ?_) (fun M2 f2 g2 => hQ M2 ((xfr.rf.I (by simp)).tr f2 (fun _ z => z)) (fun a ha => ?_))
      · rw [List.length_append] at ih'
        exact ih'
      · rw [xsI_s, hadr]
        by_cases q : nx (ene A (pS P) 0 pre) (A b) ≤ a ∧ a < nx (ene A (pS P) 0 pre) (A b) + pS P b
        · rw [if_pos q, pk_cpy_in q.1 q.2]
          exact hO b b1 _ (by omega)
        · rw [if_neg q, pk_cpy_out (by omega)]
          exact h42 a ha
      · rw [g2 a ha, ene_app]
        rfl
theorem E_LwriteOctets (P : sP) (hw : wP P) (A : Nat → Nat) (R : List Nat) (hA : ∀ b, b ∈ R → b < 24 ∧ one8 (A b)) (hnd : R.Nodup) (hR : R.length ≤ 24) (htot : ene A (pS P) 0 R ≤ 1728) (M : xMe) (h41 : c41 R M) (h34 : c34 P M) (hO : cO P M) (h40 : ∀ k, k ∈ R → M.1 40 k = nI (adr A (pS P) k 0 R)) (h42 : ∀ a, a < 1728 → M.1 42 a = 0) : xE l G y_La_writeOctets [.ref 30] M (fun r M' => r = none ∧ xfr [42] M M' ∧ (∀ a, a < 1728 → M'.1 42 a = nI (oct A (pS P) (pO P) 0 R (fun _ => 0) a))) := by
  refine xE_cps (fun Q hQ => ?_)
  refine xE_of [some (.ref 30), none, none] (by decide +kernel) (Nat.le_of_ble_eq_true rfl) rfl ?_
  refine xF_go o_La_writeOctets [2] 60 (fun K hK => ?_)
  repeat' ((conv => whnf); first | refine ⟨fun h => ?_, fun h => ?_⟩ | refine ⟨?_, ?_⟩ | refine hK _ _ _ _ ?_)
  exact L_LwriteOctets l G P hw A (pS P) R hA rfl hnd hR htot Q R [] (fun _ => 0) M none rfl h41 h34 hO h40 (fun a ha => h42 a ha) (fun M2 f2 g2 => hQ _ _ ⟨rfl, f2, g2⟩)
end XL5
