/-! Reach: a round, all rounds -/
noncomputable def NN (V : sV) : Nat := TE V + ind (∃ g j, vW V g j)
def jj (V0 V : sV) (f : Nat) (b : Bool) : Prop := TE V ≤ TE V0 ∧ (TE V < TE V0 ∨ ∀ g j, vW V g j → vW V0 g j ∧ f ≤ g) ∧ (b = false → V = V0) ∧ (b = true → ∃ g j, vW V0 g j)
abbrev rfr : List Nat := [18, 21, 22, 23, 24, 26, 27, 28, 29]
section XRD
variable (l : Launch) (G : xG)
theorem L_inner (P : sP) (hw : wP P) (V0 : sV) (M0 : xMe) (hP : cP P M0) (hk : cK P M0) (f : Nat) (hf : f < 12) (Q : Option Value → xMe → Prop) (hQ : ∀ (V : sV) (M : xMe) (b : Bool) (y x : Option Value), cV P V M → Inv P V → xfr rfr M0 M → jj V0 V f b → (∀ j, ¬ vW V f j) → xF l G y_Re_goRound 72 [some (.ref 16), some (.int (b2 b)), some (.int (nI f)), y, x] [] M Q) : ∀ (n turn : Nat) (V : sV) (M : xMe) (b : Bool) (x : Option Value), cV P V M → Inv P V → xfr rfr M0 M → jj V0 V f b → phi P V f < n → turn + n ≤ 1000000 → xF l G y_Re_goRound 12 [some (.ref 16), some (.int (b2 b)), some (.int (nI f)), some (.int (nI turn)), x] [] M Q := by
  have hcl : (nI f).toNatClampNeg = f := nI_clamp (by omega)
  have hl := (hw.2.2.2.1 f hf).1
  intro n
  induction n with
  | zero => intro _ _ _ _ _ _ _ _ _ h; omega
  | succ n ih =>
    intro turn V M b x hV hI hfr hj hphi hn
    refine xF_go o_Re_goRound [72] 60 (fun K hK => ?_)
    repeat' ((conv => whnf); first | refine ⟨fun h => ?_, fun h => ?_⟩ | refine ⟨?_, ?_⟩ | refine hK _ _ _ _ ?_)
    · exact absurd (nI_lt (a := turn) (b := 1000000) (by omega) (by decide)) h
    · exact vp_in_nI hf (by decide)
    · have h0 : lg_cmp (M.2 24 (nI f).toNatClampNeg) 0 = 0 := by assumption
      rw [hcl, xcmp0] at h0
      refine hQ V M b _ _ hV hI hfr hj (fun j z => ?_)
      have hr := hI.1.1 f j (hI.1.2.1 f j z)
      have := (hV.2.2.2.1 f hf j (by omega)).mpr z
      rw [h0, xbit_0] at this
      cases this
    · exact vp_in_nI hf (by decide)
    · have h0 : ¬ lg_cmp (M.2 24 (nI f).toNatClampNeg) 0 = 0 := by assumption
      rw [hcl, xcmp0] at h0
      rw [hcl]
      refine xF_callS o_Re_goRound [.long (M.2 24 f)] rfl z_JL_numberOfTrailingZeros s_JL_numberOfTrailingZeros l_Re_163 rfl ⟨⟨by decide, by decide⟩, rfl, rfl⟩ (Nat.le_of_ble_eq_true rfl) rfl (E_lnz l G (M.2 24 f) h0 M) ?_
      rintro v M1 ⟨rfl, t, ht, rfl, hb, -⟩
      clear hK K
      have hWt : vW V f t := (hV.2.2.2.1 f hf t ht).mp hb
      have hr := (hI.1.1 f t (hI.1.2.1 f t hWt)).2
      refine xF_go o_Re_goRound [72] 60 (fun K hK => ?_)
      repeat' ((conv => whnf); first | refine ⟨fun h => ?_, fun h => ?_⟩ | refine ⟨?_, ?_⟩ | refine hK _ _ _ _ ?_)
      · exact vp_in_nI hf (by decide)
      · exact vp_in_nI hf (by decide)
      · rw [hcl]
        have hVc : cV P (clr V f t) (xsL M1 24 (vp_updL (M1.2 24) f (M1.2 24 f &&& ((1 : Int64) <<< ((nI t).toInt64 &&& 63) ^^^ -1)))) := by
          obtain ⟨h1, h2, h3, h4, h5, h6, h7, h8⟩ := hV
          refine ⟨h1, h2, h3, fun g hg j hj64 => ?_, h5, h6, h7, h8⟩
          show xbit (vp_updL (M1.2 24) f (M1.2 24 f &&& ((1 : Int64) <<< ((nI t).toInt64 &&& 63) ^^^ -1)) g) j = true ↔ (vW V g j ∧ ¬ (g = f ∧ j = t))
          unfold vp_updL
          by_cases e : g = f
          · subst e
            rw [if_pos rfl, xbit_and, xbit_not _ hj64, xbit_1 ht, Bool.and_eq_true, h4 g hg j hj64]
            simp
          · rw [if_neg e, h4 g hg j hj64]
            simp [e]
        have hfr1 : xfr rfr M0 (xsL M1 24 (vp_updL (M1.2 24) f (M1.2 24 f &&& ((1 : Int64) <<< ((nI t).toInt64 &&& 63) ^^^ -1)))) := hfr.L (by simp)
        refine xF_callV o_Re_goRound [.int (nI f), .int (nI t)] rfl z_Re_takeOn i_Re_takeOn v_Re_takeOn l_Re_168 rfl ⟨⟨by decide, by decide⟩, rfl, rfl⟩ (Nat.le_of_ble_eq_true rfl) rfl rfl rfl (E_takeOn l G P (clr V f t) _ (cP_fr hfr1 (by decide) hP) hVc (cK_fr hfr1 (by decide) hk) hw f t hf (by omega)) ?_
        rintro v M2 ⟨rfl, ⟨V', htk, hV'⟩, hfr2⟩
        clear hK K
        have hI' := tk_inv hw hI hf hWt htk
        have hph' := tk_phi hw hf hWt hr htk
        obtain ⟨m1, m2⟩ := tk_mpc hw hf hWt hr htk
        obtain ⟨j1, j2, j3, j4⟩ := hj
        have hj' : jj V0 V' f true := by
          refine ⟨Nat.le_trans m1 j1, ?_, (fun z => by cases z), fun _ => ?_⟩
          · rcases m2 with z | z
            · exact Or.inl (Nat.lt_of_lt_of_le z j1)
            · rcases j2 with y | y
              · exact Or.inl (Nat.lt_of_le_of_lt m1 y)
              · exact Or.inr (fun g j w => y g j (z g j w).1)
          · cases b with
            | true => exact j4 rfl
            | false => exact ⟨f, t, j3 rfl ▸ hWt⟩
        refine xF_go o_Re_goRound [12, 72] 60 (fun K hK => ?_)
        repeat' ((conv => whnf); first | refine ⟨fun h => ?_, fun h => ?_⟩ | refine ⟨?_, ?_⟩ | refine hK _ _ _ _ ?_)
        rw [nI_1]
        exact ih (turn + 1) V' M2 true _ hV' hI' (hfr1.tr hfr2 (fun _ z => z)) hj' (by omega) (by omega)
theorem L_round (P : sP) (hw : wP P) (V0 : sV) (M0 : xMe) (hP : cP P M0) (hk : cK P M0) (Q : Option Value → xMe → Prop) (hQ : ∀ (V : sV) (M : xMe) (b : Bool), cV P V M → Inv P V → xfr rfr M0 M → jj V0 V 12 b → Q (some (.int (b2 b))) M) : ∀ (m f : Nat), m + f = 12 → ∀ (V : sV) (M : xMe) (b : Bool) (y x : Option Value), cV P V M → Inv P V → xfr rfr M0 M → jj V0 V f b → xF l G y_Re_goRound 4 [some (.ref 16), some (.int (b2 b)), some (.int (nI f)), y, x] [] M Q := by
  intro m
  induction m with
  | zero =>
    intro f hf V M b y x hV hI hfr hj
    obtain rfl : f = 12 := by omega
    refine xF_go o_Re_goRound [12] 60 (fun K hK => ?_)
    repeat' ((conv => whnf); first | refine ⟨fun h => ?_, fun h => ?_⟩ | refine ⟨?_, ?_⟩ | refine hK _ _ _ _ ?_)
    · show xF l G y_Re_goRound 79 _ [.int (b2 b)] M _
      refine xF_zret o_Re_goRound rfl rfl (b2_01 _) ?_
      exact hQ V M b hV hI hfr hj
    all_goals exact absurd (show nI 12 < nI 12 from by assumption) (nI_nlt (by omega) (by omega))
  | succ m ih =>
    intro f hf V M b y x hV hI hfr hj
    refine xF_go o_Re_goRound [12] 60 (fun K hK => ?_)
    repeat' ((conv => whnf); first | refine ⟨fun h => ?_, fun h => ?_⟩ | refine ⟨?_, ?_⟩ | refine hK _ _ _ _ ?_)
    · exact absurd (nI_lt (b := 12) (by omega) (by omega)) h
    · clear hK K
      refine L_inner l G P hw V0 M0 hP hk f (by omega) Q ?_ (phi P V f + 1) 0 V M b _ hV hI hfr hj (by omega) (by have := phi_bd P V f; omega)
      intro V' M' b' y' x' hV' hI' hfr' hj' hno
      refine xF_go o_Re_goRound [4] 60 (fun K hK => ?_)
      repeat' ((conv => whnf); first | refine ⟨fun h => ?_, fun h => ?_⟩ | refine ⟨?_, ?_⟩ | refine hK _ _ _ _ ?_)
      rw [nI_1]
      refine ih (f + 1) (by omega) V' M' b' _ _ hV' hI' hfr' ?_
      obtain ⟨j1, j2, j3, j4⟩ := hj'
      refine ⟨j1, ?_, j3, j4⟩
      rcases j2 with z | z
      · exact Or.inl z
      · refine Or.inr (fun g j w => ⟨(z g j w).1, ?_⟩)
        have h1 := (z g j w).2
        have h2 : g ≠ f := fun e => hno j (e ▸ w)
        omega
theorem E_goRound (P : sP) (hw : wP P) (V : sV) (M : xMe) (hP : cP P M) (hk : cK P M) (hV : cV P V M) (hI : Inv P V) : xE l G y_Re_goRound [.ref 16] M (fun v M' => ∃ V' b, v = some (.int (b2 b)) ∧ cV P V' M' ∧ Inv P V' ∧ xfr rfr M M' ∧ (b = false → ∀ g j, ¬ vW V' g j) ∧ (b = true → NN V' < NN V)) := by
  refine xE_of [some (.ref 16), none, none, none, none] (by decide +kernel) (Nat.le_of_ble_eq_true rfl) rfl ?_
  refine xF_go o_Re_goRound [4] 60 (fun K hK => ?_)
  repeat' ((conv => whnf); first | refine ⟨fun h => ?_, fun h => ?_⟩ | refine ⟨?_, ?_⟩ | refine hK _ _ _ _ ?_)
  refine L_round l G P hw V M hP hk _ ?_ 12 0 (by omega) V M false _ _ hV hI xfr.rf ⟨Nat.le_refl _, Or.inr (fun g j w => ⟨w, Nat.zero_le _⟩), fun _ => rfl, (fun z => by cases z)⟩
  intro V' M' b hV' hI' hfr' hj
  obtain ⟨j1, j2, j3, j4⟩ := hj
  refine ⟨V', b, rfl, hV', hI', hfr', fun e g j w => ?_, fun e => ?_⟩
  · have e2 := j3 e
    subst e2
    rcases j2 with z | z
    · omega
    · have h1 := (z g j w).2
      have h2 := (hI'.1.1 g j (hI'.1.2.1 g j w)).1
      omega
  · unfold NN
    rw [ind_t (j4 e)]
    rcases j2 with z | z
    · have := ind_le (∃ g j, vW V' g j)
      omega
    · rw [ind_f (p := ∃ g j, vW V' g j) (fun ⟨g, j, w⟩ => by
        have h1 := (z g j w).2
        have h2 := (hI'.1.1 g j (hI'.1.2.1 g j w)).1
        omega)]
      omega
theorem L_rounds (P : sP) (hw : wP P) (M0 : xMe) (hP : cP P M0) (hk : cK P M0) (Q : Option Value → xMe → Prop) (hQ : ∀ (V : sV) (M : xMe) (y x : Option Value), cV P V M → Inv P V → xfr rfr M0 M → (∀ g j, ¬ vW V g j) → xF l G y_Re_work 41 [some (.ref 16), y, x] [] M Q) : ∀ (n r : Nat) (V : sV) (M : xMe) (b : Bool), cV P V M → Inv P V → xfr rfr M0 M → (b = false → ∀ g j, ¬ vW V g j) → (b = true → NN V < n) → r + n ≤ 999999 → xF l G y_Re_work 20 [some (.ref 16), some (.int (b2 b)), some (.int (nI r))] [] M Q := by
  intro n
  induction n with
  | zero =>
    intro r V M b hV hI hfr hb hn hr
    have hbf : b = false := by
      cases b with
      | false => rfl
      | true => exact absurd (hn rfl) (Nat.not_lt_zero _)
    subst hbf
    refine xF_go o_Re_work [20, 41] 60 (fun K hK => ?_)
    repeat' ((conv => whnf); first | refine ⟨fun h => ?_, fun h => ?_⟩ | refine ⟨?_, ?_⟩ | refine hK _ _ _ _ ?_)
    · exact absurd (nI_lt (a := r) (b := 1000000) (by omega) (by decide)) h
    · exact hQ V M _ _ hV hI hfr (hb rfl)
    · exact absurd rfl (show ¬ b2 false = 0 from by assumption)
  | succ n ih =>
    intro r V M b hV hI hfr hb hn hr
    refine xF_go o_Re_work [20, 41] 60 (fun K hK => ?_)
    repeat' ((conv => whnf); first | refine ⟨fun h => ?_, fun h => ?_⟩ | refine ⟨?_, ?_⟩ | refine hK _ _ _ _ ?_)
    · exact absurd (nI_lt (a := r) (b := 1000000) (by omega) (by decide)) h
    · have h0 : b2 b = 0 := by assumption
      have hbf : b = false := by
        cases b with
        | false => rfl
        | true => exact absurd h0 (by decide)
      exact hQ V M _ _ hV hI hfr (hb hbf)
    · have h0 : ¬ b2 b = 0 := by assumption
      have hbt : b = true := by
        cases b with
        | true => rfl
        | false => exact absurd rfl h0
      have hn' := hn hbt
      refine xF_callV o_Re_work [] rfl z_Re_goRound i_Re_goRound v_Re_goRound l_Re_70 rfl ⟨⟨by decide, by decide⟩, rfl, rfl⟩ (Nat.le_of_ble_eq_true rfl) rfl rfl rfl (E_goRound l G P hw V M (cP_fr hfr (by decide) hP) (cK_fr hfr (by decide) hk) hV hI) ?_
      rintro v M' ⟨V', b', rfl, hV', hI', hfr', h1, h2⟩
      clear hK K
      refine xF_go o_Re_work [20, 41] 60 (fun K hK => ?_)
      repeat' ((conv => whnf); first | refine ⟨fun h => ?_, fun h => ?_⟩ | refine ⟨?_, ?_⟩ | refine hK _ _ _ _ ?_)
      rw [nI_1]
      exact ih (r + 1) V' M' b' hV' hI' (hfr.tr hfr' (fun _ z => z)) h1 (fun e => by have := h2 e; omega) (by omega)
theorem NN_bd (V : sV) : NN V < 909326 := by
  have h1 := TE_bd V
  have h2 := ind_le (∃ g j, vW V g j)
  unfold NN
  omega
end XRD
/-- when nothing waits, all is closed -/
theorem inv_cls {P : sP} {V : sV} (h : Inv P V) (hn : ∀ g j, ¬ vW V g j) : cls P V ∧ (∀ f, f < 12 → ∀ i q, (pC P f)[i]? = some q → vC V f i → okx P V f i q) := by
  refine ⟨⟨h.2.1, fun f hf i q hq hc => ?_⟩, fun f hf i q hq hc => ?_⟩
  · obtain ⟨⟨a1, a2, a3⟩, a4⟩ := h.2.2.1 f hf i q hq hc (hn f i) (fun z => z)
    exact ⟨a1, fun e z => Or.inr ((a2 e z).resolve_left (hn _ _)), a3⟩
  · exact (h.2.2.1 f hf i q hq hc (hn f i) (fun z => z)).2
