/-! the reference's reach: skips -/
def rowIn (f : Nat → Int64) (t n : Nat) (h : Nat → Int64) : Nat → Int64 := fun j => if t ≤ j ∧ j < t + n then h (j - t) else f j
theorem rowIn_0 (f h : Nat → Int64) (t : Nat) : rowIn f t 0 h = f := by
  funext j
  exact if_neg (by omega)
theorem rowIn_s (f h : Nat → Int64) (t n : Nat) : rowIn f t (n + 1) h = vp_updL (rowIn f t n h) (t + n) (h n) := by
  funext j
  unfold vp_updL rowIn
  by_cases e : j = t + n
  · subst e
    rw [if_pos (by omega), if_pos rfl, show t + n - t = n by omega]
  · rw [if_neg e]
    by_cases e2 : t ≤ j ∧ j < t + n
    · rw [if_pos (by omega), if_pos e2]
    · rw [if_neg (by omega), if_neg e2]
theorem nw_row {N : Nat → Nat → Prop} {M : xMe} (hN : nw N M) {r : Nat} (hr : r < 4) {h : Nat → Int64} {Z : Nat → Prop} (hZ : ∀ v, v < 256 → (sHas h 0 v = true ↔ Z v)) {M' : xMe} (e : M'.2 78 = rowIn (M.2 78) (4 * r) 4 h) : nw (rs N r Z) M' := by
  intro q hq v hv
  rw [e]
  unfold sHas rowIn rs
  by_cases e : q = r
  · subst e
    rw [if_pos (by omega), show 4 * q + v / 64 - 4 * q = 0 + v / 64 by omega]
    have := hZ v hv
    unfold sHas at this
    rw [this]
    simp
  · rw [if_neg (by omega)]
    have := hN q hq v hv
    unfold sHas at this
    rw [this]
    simp [e]
section XSK
variable (l : Launch) (G : xG)
theorem L_sk1 (r : Nat) (hr : r < 4) (f i n : Int32) (M0 : xMe) (Q : Option Value → xMe → Prop) (hQ : ∀ y, xF l G y_Mo_skips 33 [some (.ref 50), some (.int f), some (.int i), some (.int (nI r)), some (.int n), y] [] (xsL M0 79 (rowIn (M0.2 79) 0 4 (fun w => M0.2 78 (4 * r + w)))) Q) : ∀ (m w : Nat), m + w = 4 → xF l G y_Mo_skips 3 [some (.ref 50), some (.int f), some (.int i), some (.int (nI r)), some (.int n), some (.int (nI w))] [] (xsL M0 79 (rowIn (M0.2 79) 0 w (fun w => M0.2 78 (4 * r + w)))) Q := by
  intro m
  induction m with
  | zero =>
    intro w hw
    obtain rfl : w = 4 := by omega
    refine xF_go o_Mo_skips [3, 33] 60 (fun K hK => ?_)
    repeat' ((conv => whnf); first | refine ⟨fun h => ?_, fun h => ?_⟩ | refine ⟨?_, ?_⟩ | refine hK _ _ _ _ ?_)
    · exact hQ _
    all_goals exact absurd (show nI 4 < nI 4 from by assumption) (nI_nlt (by omega) (by omega))
  | succ m ih =>
    intro w hw
    have hih := ih (w + 1) (by omega)
    have e2 : 4 * nI r + nI w = nI (4 * r + w) := by rw [four_n, nI_add]
    rw [rowIn_s, Nat.zero_add] at hih
    refine xF_go o_Mo_skips [3, 33] 60 (fun K hK => ?_)
    repeat' ((conv => whnf); first | refine ⟨fun h => ?_, fun h => ?_⟩ | refine ⟨?_, ?_⟩ | refine hK _ _ _ _ ?_)
    · exact absurd (nI_lt (b := 4) (by omega) (by omega)) h
    · rw [e2]; exact vp_in_nI (N := 16) (by omega) (by decide)
    · exact vp_in_nI (N := 4) (by omega) (by decide)
    · rw [e2, nI_1, nI_clamp (n := w) (by omega), nI_clamp (by omega), xsL_LL]
      exact hih
theorem L_sk2 (r : Nat) (hr : r < 4) (f i n : Int32) (M0 : xMe) (Q : Option Value → xMe → Prop) (hQ : ∀ y, xF l G y_Mo_skips 82 [some (.ref 50), some (.int f), some (.int i), some (.int (nI r)), some (.int n), y] [] (xsL M0 78 (rowIn (M0.2 78) (4 * r) 4 (fun w => if w = 0 then 1 else 0))) Q) : ∀ (m w : Nat), m + w = 4 → xF l G y_Mo_skips 49 [some (.ref 50), some (.int f), some (.int i), some (.int (nI r)), some (.int n), some (.int (nI w))] [] (xsL M0 78 (rowIn (M0.2 78) (4 * r) w (fun w => if w = 0 then 1 else 0))) Q := by
  intro m
  induction m with
  | zero =>
    intro w hw
    obtain rfl : w = 4 := by omega
    refine xF_go o_Mo_skips [49, 82] 60 (fun K hK => ?_)
    repeat' ((conv => whnf); first | refine ⟨fun h => ?_, fun h => ?_⟩ | refine ⟨?_, ?_⟩ | refine hK _ _ _ _ ?_)
    · exact hQ _
    all_goals exact absurd (show nI 4 < nI 4 from by assumption) (nI_nlt (by omega) (by omega))
  | succ m ih =>
    intro w hw
    have hih := ih (w + 1) (by omega)
    have e2 : 4 * nI r + nI w = nI (4 * r + w) := by rw [four_n, nI_add]
    have i2 : vp_in (4 * nI r + nI w) 16 := by rw [e2]; exact vp_in_nI (by omega) (by decide)
    rw [rowIn_s] at hih
    refine xF_go o_Mo_skips [49, 82] 60 (fun K hK => ?_)
    repeat' ((conv => whnf); first | refine ⟨fun h => ?_, fun h => ?_⟩ | refine ⟨?_, ?_⟩ | refine hK _ _ _ _ ?_)
    · exact absurd (nI_lt (b := 4) (by omega) (by omega)) h
    · exact i2
    · have h0 : ¬ nI w = 0 := by assumption
      rw [if_neg (fun z => h0 (by rw [z]; rfl))] at hih
      rw [e2, nI_1, nI_clamp (by omega), xsL_LL]
      exact hih
    · exact i2
    · have h0 : nI w = nI 0 := by assumption
      have h00 : w = 0 := nI_inj (by omega) (by decide) h0
      rw [if_pos h00] at hih
      rw [e2, nI_1, nI_clamp (by omega), xsL_LL]
      exact hih
theorem L_sk3 (r : Nat) (hr : r < 4) (f i n : Int32) (M0 : xMe) (Q : Option Value → xMe → Prop) (hQ : ∀ y, xF l G y_Mo_skips 126 [some (.ref 50), some (.int f), some (.int i), some (.int (nI r)), some (.int n), y] [] (xsL M0 78 (rowIn (M0.2 78) (4 * r) 4 (M0.2 79))) Q) : ∀ (m w : Nat), m + w = 4 → xF l G y_Mo_skips 96 [some (.ref 50), some (.int f), some (.int i), some (.int (nI r)), some (.int n), some (.int (nI w))] [] (xsL M0 78 (rowIn (M0.2 78) (4 * r) w (M0.2 79))) Q := by
  intro m
  induction m with
  | zero =>
    intro w hw
    obtain rfl : w = 4 := by omega
    refine xF_go o_Mo_skips [96, 126] 60 (fun K hK => ?_)
    repeat' ((conv => whnf); first | refine ⟨fun h => ?_, fun h => ?_⟩ | refine ⟨?_, ?_⟩ | refine hK _ _ _ _ ?_)
    · exact hQ _
    all_goals exact absurd (show nI 4 < nI 4 from by assumption) (nI_nlt (by omega) (by omega))
  | succ m ih =>
    intro w hw
    have hih := ih (w + 1) (by omega)
    have e2 : 4 * nI r + nI w = nI (4 * r + w) := by rw [four_n, nI_add]
    rw [rowIn_s] at hih
    refine xF_go o_Mo_skips [96, 126] 60 (fun K hK => ?_)
    repeat' ((conv => whnf); first | refine ⟨fun h => ?_, fun h => ?_⟩ | refine ⟨?_, ?_⟩ | refine hK _ _ _ _ ?_)
    · exact absurd (nI_lt (b := 4) (by omega) (by omega)) h
    · exact vp_in_nI (N := 4) (by omega) (by decide)
    · rw [e2]; exact vp_in_nI (N := 16) (by omega) (by decide)
    · rw [e2, nI_1, nI_clamp (n := w) (by omega), nI_clamp (by omega), xsL_LL]
      exact hih
/-- the end: whether anything is left -/
theorem L_sk4 (N : Nat → Nat → Prop) (r : Nat) (hr : r < 4) (f i n : Int32) (y : Option Value) (M : xMe) (hN : nw N M) (Q : Option Value → xMe → Prop) (hQ : ∀ b : Bool, (b = true ↔ ∃ v, v < 256 ∧ N r v) → Q (some (.int (b2 b))) M) : xF l G y_Mo_skips 140 [some (.ref 50), some (.int f), some (.int i), some (.int (nI r)), some (.int n), y] [] M Q := by
  have e0 : 4 * nI r = nI (4 * r) := four_n r
  have e1 : 4 * nI r + 1 = nI (4 * r + 1) := by rw [four_n]; exact nI_1 _
  have e2 : 4 * nI r + 2 = nI (4 * r + 2) := by rw [four_n]; exact nI_add (4 * r) 2
  have e3 : 4 * nI r + 3 = nI (4 * r + 3) := by rw [four_n]; exact nI_add (4 * r) 3
  have key : (M.2 78 (4 * r) ||| M.2 78 (4 * r + 1) ||| M.2 78 (4 * r + 2) ||| M.2 78 (4 * r + 3) = 0) ↔ ¬ ∃ v, v < 256 ∧ N r v := by
    rw [xbit_zero]
    constructor
    · rintro h ⟨v, hv, z⟩
      have h1 := h (v % 64) (by omega)
      rw [xbit_or, xbit_or, xbit_or] at h1
      simp only [Bool.or_eq_false_iff] at h1
      obtain ⟨⟨⟨h0, h1⟩, h2⟩, h3⟩ := h1
      have z2 := (hN r hr v hv).mpr z
      unfold sHas at z2
      have : v / 64 < 4 := by omega
      match hq : v / 64, this with
      | 0, _ => rw [hq] at z2; rw [show 4 * r + 0 = 4 * r by omega] at z2; rw [h0] at z2; cases z2
      | 1, _ => rw [hq] at z2; rw [h1] at z2; cases z2
      | 2, _ => rw [hq] at z2; rw [h2] at z2; cases z2
      | 3, _ => rw [hq] at z2; rw [h3] at z2; cases z2
      | n + 4, hq => omega
    · intro h q hq
      have hx : ∀ w, w < 4 → xbit (M.2 78 (4 * r + w)) q = false := by
        intro w hw
        cases e : xbit (M.2 78 (4 * r + w)) q with
        | false => rfl
        | true =>
          refine absurd ⟨64 * w + q, by omega, (hN r hr _ (by omega)).mp ?_⟩ h
          unfold sHas
          rw [show (64 * w + q) / 64 = w by omega, show (64 * w + q) % 64 = q by omega]
          exact e
      rw [xbit_or, xbit_or, xbit_or, hx 1 (by omega), hx 2 (by omega), hx 3 (by omega)]
      have := hx 0 (by omega)
      rw [Nat.add_zero] at this
      rw [this]
      rfl
  have i0 : vp_in (4 * nI r) 16 := by rw [e0]; exact vp_in_nI (by omega) (by decide)
  have i1 : vp_in (4 * nI r + 1) 16 := by rw [e1]; exact vp_in_nI (by omega) (by decide)
  have i2 : vp_in (4 * nI r + 2) 16 := by rw [e2]; exact vp_in_nI (by omega) (by decide)
  have i3 : vp_in (4 * nI r + 3) 16 := by rw [e3]; exact vp_in_nI (by omega) (by decide)
  have hcmp : (M.2 78 (4 * nI r).toNatClampNeg ||| M.2 78 (4 * nI r + 1).toNatClampNeg ||| M.2 78 (4 * nI r + 2).toNatClampNeg ||| M.2 78 (4 * nI r + 3).toNatClampNeg = 0) ↔ ¬ ∃ v, v < 256 ∧ N r v := by
    rw [e1, e2, e3, e0, nI_clamp (by omega), nI_clamp (by omega), nI_clamp (by omega), nI_clamp (by omega)]
    exact key
  refine xF_go o_Mo_skips [] 60 (fun K hK => ?_)
  repeat' ((conv => whnf); first | refine ⟨fun h => ?_, fun h => ?_⟩ | refine ⟨?_, ?_⟩ | refine hK _ _ _ _ ?_)
  · exact i0
  · exact i1
  · exact i2
  · exact i3
  · have h0 : lg_cmp (M.2 78 (4 * nI r).toNatClampNeg ||| M.2 78 (4 * nI r + 1).toNatClampNeg ||| M.2 78 (4 * nI r + 2).toNatClampNeg ||| M.2 78 (4 * nI r + 3).toNatClampNeg) 0 = 0 := by assumption
    rw [xcmp0, hcmp] at h0
    refine xF_zret o_Mo_skips rfl rfl (Or.inl rfl) ?_
    exact hQ false ⟨(fun z => by cases z), fun z => absurd z h0⟩
  · have h0 : ¬ lg_cmp (M.2 78 (4 * nI r).toNatClampNeg ||| M.2 78 (4 * nI r + 1).toNatClampNeg ||| M.2 78 (4 * nI r + 2).toNatClampNeg ||| M.2 78 (4 * nI r + 3).toNatClampNeg) 0 = 0 := by assumption
    rw [xcmp0, hcmp] at h0
    refine xF_zret o_Mo_skips rfl rfl (Or.inr rfl) ?_
    exact hQ true ⟨fun _ => Classical.byContradiction h0, fun _ => rfl⟩
theorem E_skips (P : sP) (hw : wP P) (U : sU) (N : Nat → Nat → Prop) (m : Bool) (M : xMe) (hP : mP P M) (hU : mU U M) (hN : nw N M) (hm : mo m M) (f : Nat) (hf : f < 12) (i : Int32) (r : Nat) (hr : r < 4) (n : Int32) : xE l G y_Mo_skips [.ref 50, .int (nI f), .int i, .int (nI r), .int n] M (fun v M' => ∃ b, v = some (.int (b2 b)) ∧ (b = true ↔ ∃ v, v < 256 ∧ ¬ v = 0 ∧ N r v) ∧ ((N r 0 ∧ mU (uAdd U f (atU P f (i + n + 1)) (rs N r (fun v => v = 0))) M' ∧ ∃ c, mo (m || c) M' ∧ (c = true ↔ uGw U f (atU P f (i + n + 1)) (rs N r (fun v => v = 0)))) ∨ (¬ N r 0 ∧ mU U M' ∧ mo m M')) ∧ nw (rs N r (fun v => ¬ v = 0 ∧ N r v)) M' ∧ ufr [69, 72, 78, 79] M M') := by
  have hgs : ∀ v, v < 256 → (sHas (fun w => M.2 78 (4 * r + w)) 0 v = true ↔ N r v) := by
    intro v hv
    have := hN r hr v hv
    unfold sHas at this ⊢
    rw [Nat.zero_add]
    exact this
  have hbit : M.2 78 (4 * r) &&& 1 = 1 ↔ N r 0 := by
    rw [← hN r hr 0 (by omega)]
    unfold sHas
    rw [show 0 / 64 = 0 from rfl, show 0 % 64 = 0 from rfl, Nat.add_zero]
    constructor
    · intro h
      have := congrArg (fun x => xbit x 0) h
      simp only [xbit_and, xbit_one] at this
      simpa using this
    · intro h
      refine xbit_ext (fun q hq => ?_)
      rw [xbit_and, xbit_one]
      by_cases e : q = 0
      · subst e; simpa using h
      · simp [e]
  refine xE_of [some (.ref 50), some (.int (nI f)), some (.int i), some (.int (nI r)), some (.int n), none] (by decide +kernel) (Nat.le_of_ble_eq_true rfl) rfl ?_
  refine xF_go o_Mo_skips [3] 60 (fun K hK => ?_)
  repeat' ((conv => whnf); first | refine ⟨fun h => ?_, fun h => ?_⟩ | refine ⟨?_, ?_⟩ | refine hK _ _ _ _ ?_)
  have e0 : M = xsL M 79 (rowIn (M.2 79) 0 0 (fun w => M.2 78 (4 * r + w))) := by
    rw [rowIn_0]
    exact (xsL_id (fun i => rfl)).symm
  have key := L_sk1 l G r hr (nI f) i n M (fun v M' => ∃ b, v = some (.int (b2 b)) ∧ (b = true ↔ ∃ v, v < 256 ∧ ¬ v = 0 ∧ N r v) ∧ ((N r 0 ∧ mU (uAdd U f (atU P f (i + n + 1)) (rs N r (fun v => v = 0))) M' ∧ ∃ c, mo (m || c) M' ∧ (c = true ↔ uGw U f (atU P f (i + n + 1)) (rs N r (fun v => v = 0)))) ∨ (¬ N r 0 ∧ mU U M' ∧ mo m M')) ∧ nw (rs N r (fun v => ¬ v = 0 ∧ N r v)) M' ∧ ufr [69, 72, 78, 79] M M') ?_ 4 0 (by omega)
  · rw [← e0] at key
    exact key
  clear hK K
  intro y
  have f79 : ∀ w, w < 4 → rowIn (M.2 79) 0 4 (fun w => M.2 78 (4 * r + w)) w = M.2 78 (4 * r + w) := by
    intro w hw
    unfold rowIn
    rw [if_pos (by omega), Nat.sub_zero]
  have h0eq : rowIn (M.2 79) 0 4 (fun w => M.2 78 (4 * r + w)) 0 = M.2 78 (4 * r) := by rw [f79 0 (by omega), Nat.add_zero]
  generalize hM1 : xsL M 79 (rowIn (M.2 79) 0 4 (fun w => M.2 78 (4 * r + w))) = M1
  have q79 : M1.2 79 = rowIn (M.2 79) 0 4 (fun w => M.2 78 (4 * r + w)) := by rw [← hM1]; rfl
  have q78 : M1.2 78 = M.2 78 := by rw [← hM1]; rfl
  have q1 : M1.1 = M.1 := by rw [← hM1]; rfl
  have hfr1 : ufr [69, 72, 78, 79] M M1 := by rw [← hM1]; exact ufr.rf.L (by simp)
  have hx1 : xfr [79] M M1 := by rw [← hM1]; exact xfr.rf.L (by simp)
  have hU1 : mU U M1 := mU_fr hx1 (by decide) hU
  have hP1 : mP P M1 := hfr1.P (by decide) hP
  have hN1 : nw N M1 := by unfold nw; rw [q78]; exact hN
  have hm1 : mo m M1 := by unfold mo; rw [q1]; exact hm
  refine xF_go o_Mo_skips [49, 140] 60 (fun K hK => ?_)
  repeat' ((conv => whnf); first | refine ⟨fun h => ?_, fun h => ?_⟩ | refine ⟨?_, ?_⟩ | refine hK _ _ _ _ ?_)
  · exact vp_in_nI (n := 0) (N := 4) (by omega) (by decide)
  · have h0 : ¬ lg_cmp (M1.2 79 0 &&& 1) 1 = 0 := by assumption
    rw [xcmp0, q79, h0eq, hbit] at h0
    refine L_sk4 l G N r hr (nI f) i n y M1 hN1 _ (fun b hb => ⟨b, rfl, hb.trans ⟨fun ⟨v, hv, z⟩ => ⟨v, hv, fun e => h0 (e ▸ z), z⟩, fun ⟨v, hv, _, z⟩ => ⟨v, hv, z⟩⟩, Or.inr ⟨h0, hU1, hm1⟩, ?_, hfr1⟩)
    intro q hq v hv
    rw [hN1 q hq v hv]
    unfold rs
    by_cases e : q = r
    · subst e
      constructor
      · exact fun z => Or.inl ⟨rfl, fun e => h0 (e ▸ z), z⟩
      · rintro (z | z)
        · exact z.2.2
        · exact z.2
    · constructor
      · exact fun z => Or.inr ⟨e, z⟩
      · rintro (z | z)
        · exact absurd z.1 e
        · exact z.2
  · have h0 : lg_cmp (M1.2 79 0 &&& 1) 1 = 0 := by assumption
    rw [xcmp0, q79, h0eq, hbit] at h0
    clear hK K
    have e1 : M1 = xsL M1 78 (rowIn (M1.2 78) (4 * r) 0 (fun w => if w = 0 then 1 else 0)) := by
      rw [rowIn_0]
      exact (xsL_id (fun i => rfl)).symm
    have key2 := L_sk2 l G r hr (nI f) i n M1 (fun v M' => ∃ b, v = some (.int (b2 b)) ∧ (b = true ↔ ∃ v, v < 256 ∧ ¬ v = 0 ∧ N r v) ∧ ((N r 0 ∧ mU (uAdd U f (atU P f (i + n + 1)) (rs N r (fun v => v = 0))) M' ∧ ∃ c, mo (m || c) M' ∧ (c = true ↔ uGw U f (atU P f (i + n + 1)) (rs N r (fun v => v = 0)))) ∨ (¬ N r 0 ∧ mU U M' ∧ mo m M')) ∧ nw (rs N r (fun v => ¬ v = 0 ∧ N r v)) M' ∧ ufr [69, 72, 78, 79] M M') ?_ 4 0 (by omega)
    · rw [← e1] at key2
      exact key2
    intro y2
    have hN2 : nw (rs N r (fun v => v = 0)) (xsL M1 78 (rowIn (M1.2 78) (4 * r) 4 (fun w => if w = 0 then 1 else 0))) := by
      refine nw_row hN1 hr (h := fun w => if w = 0 then 1 else 0) (fun v hv => ?_) rfl
      unfold sHas
      show xbit (if 0 + v / 64 = 0 then 1 else 0) (v % 64) = true ↔ v = 0
      by_cases e : v / 64 = 0
      · rw [if_pos (by omega), xbit_one, decide_eq_true_iff]
        omega
      · rw [if_neg (by omega), xbit_0]
        constructor
        · intro z; cases z
        · intro z; omega
    have hfr2 : ufr [69, 72, 78, 79] M (xsL M1 78 (rowIn (M1.2 78) (4 * r) 4 (fun w => if w = 0 then 1 else 0))) := hfr1.L (by simp)
    refine xF_go o_Mo_skips [96] 60 (fun K hK => ?_)
    repeat' ((conv => whnf); first | refine ⟨fun h => ?_, fun h => ?_⟩ | refine ⟨?_, ?_⟩ | refine hK _ _ _ _ ?_)
    refine xF_callV o_Mo_skips [.int (nI f), .int (i + n + 1)] rfl z_Mo_comes i_Mo_comes v_Mo_comes l_Mo_234 rfl ⟨⟨by decide, by decide⟩, rfl, rfl⟩ (Nat.le_of_ble_eq_true rfl) rfl rfl rfl (E_comes l G P hw U (rs N r (fun v => v = 0)) m _ (hfr2.P (by decide) hP) (mU_fr (S := [78]) (xfr.rf.L (by simp)) (by decide) hU1) hN2 hm1 f hf (i + n + 1)) ?_
    rintro v M3 ⟨rfl, hU3, ⟨c, hc1, hc2⟩, hfr3⟩
    clear hK K
    have hfr3' := hfr2.tr hfr3 (by simp)
    have p79 : M3.2 79 = M1.2 79 := (hfr3.1 79 (by decide)).2
    refine xF_go o_Mo_skips [96] 60 (fun K hK => ?_)
    repeat' ((conv => whnf); first | refine ⟨fun h => ?_, fun h => ?_⟩ | refine ⟨?_, ?_⟩ | refine hK _ _ _ _ ?_)
    clear hK K
    have e3 : M3 = xsL M3 78 (rowIn (M3.2 78) (4 * r) 0 (M3.2 79)) := by
      rw [rowIn_0]
      exact (xsL_id (fun i => rfl)).symm
    have key3 := L_sk3 l G r hr (nI f) i n M3 (fun v M' => ∃ b, v = some (.int (b2 b)) ∧ (b = true ↔ ∃ v, v < 256 ∧ ¬ v = 0 ∧ N r v) ∧ ((N r 0 ∧ mU (uAdd U f (atU P f (i + n + 1)) (rs N r (fun v => v = 0))) M' ∧ ∃ c, mo (m || c) M' ∧ (c = true ↔ uGw U f (atU P f (i + n + 1)) (rs N r (fun v => v = 0)))) ∨ (¬ N r 0 ∧ mU U M' ∧ mo m M')) ∧ nw (rs N r (fun v => ¬ v = 0 ∧ N r v)) M' ∧ ufr [69, 72, 78, 79] M M') ?_ 4 0 (by omega)
    · rw [← e3] at key3
      exact key3
    intro y3
    have i4 : vp_in (4 * nI r) 16 := by rw [four_n]; exact vp_in_nI (by omega) (by decide)
    have c4 : (4 * nI r).toNatClampNeg = 4 * r := by rw [four_n, nI_clamp (by omega)]
    refine xF_go o_Mo_skips [140] 60 (fun K hK => ?_)
    repeat' ((conv => whnf); first | refine ⟨fun h => ?_, fun h => ?_⟩ | refine ⟨?_, ?_⟩ | refine hK _ _ _ _ ?_)
    · exact i4
    · exact i4
    · rw [c4]
      clear hK K
      have hN4 : nw (rs N r (fun v => ¬ v = 0 ∧ N r v)) (xsL (xsL M3 78 (rowIn (M3.2 78) (4 * r) 4 (M3.2 79))) 78 (vp_updL (rowIn (M3.2 78) (4 * r) 4 (M3.2 79)) (4 * r) (rowIn (M3.2 78) (4 * r) 4 (M3.2 79) (4 * r) &&& -2))) := by
        have e2 : ∀ q, q < 64 → xbit (-2 : Int64) q = decide (¬ q = 0) := by decide +kernel
        have hN3 : nw (rs N r (fun v => v = 0)) M3 := by
          unfold nw
          rw [(hfr3.1 78 (by decide)).2]
          exact hN2
        intro q hq v hv
        show sHas (vp_updL (rowIn (M3.2 78) (4 * r) 4 (M3.2 79)) (4 * r) (rowIn (M3.2 78) (4 * r) 4 (M3.2 79) (4 * r) &&& -2)) (4 * q) v = true ↔ _
        by_cases e : q = r
        · subst e
          have hz : xbit (M.2 78 (4 * q + (0 + v / 64))) (v % 64) = true ↔ N q v := hgs v hv
          have hrow : ∀ w, w < 4 → rowIn (M3.2 78) (4 * q) 4 (M3.2 79) (4 * q + w) = M.2 78 (4 * q + w) := by
            intro w hw
            unfold rowIn
            rw [if_pos (by omega), show 4 * q + w - 4 * q = w by omega, p79, q79, f79 w hw]
          unfold sHas vp_updL rs
          by_cases ev : v / 64 = 0
          · rw [if_pos (by omega), xbit_and, e2 _ (by omega), Bool.and_eq_true, decide_eq_true_iff]
            have hr0 := hrow 0 (by omega)
            rw [Nat.add_zero] at hr0
            rw [hr0]
            rw [show 4 * q + (0 + v / 64) = 4 * q by omega] at hz
            rw [hz, show v % 64 = 0 ↔ v = 0 by omega]
            simp only [true_and, not_true, false_and, or_false]
            exact ⟨fun z => ⟨z.2, z.1⟩, fun z => ⟨z.2, z.1⟩⟩
          · rw [if_neg (by omega), hrow (v / 64) (by omega)]
            rw [show 4 * q + (0 + v / 64) = 4 * q + v / 64 by omega] at hz
            rw [hz]
            simp only [true_and, not_true, false_and, or_false]
            exact ⟨fun z => ⟨fun e => by omega, z⟩, fun z => z.2⟩
        · have h3 := hN3 q hq v hv
          unfold sHas at h3 ⊢
          unfold vp_updL rowIn
          rw [if_neg (by omega), if_neg (by omega), h3]
          unfold rs
          constructor
          · rintro (z | z)
            · exact absurd z.1 e
            · exact Or.inr z
          · rintro (z | z)
            · exact absurd z.1 e
            · exact Or.inr z
      refine L_sk4 l G (rs N r (fun v => ¬ v = 0 ∧ N r v)) r hr (nI f) i n y3 _ hN4 _ (fun b hb => ⟨b, rfl, hb.trans ⟨fun ⟨v, hv, z⟩ => ⟨v, hv, z.elim (fun z => z.2) (fun z => absurd rfl z.1)⟩, fun ⟨v, hv, z⟩ => ⟨v, hv, Or.inl ⟨rfl, z⟩⟩⟩, Or.inl ⟨h0, mU_fr (S := [78]) ((xfr.rf.L (by simp)).L (by simp)) (by decide) hU3, c, hc1, hc2⟩, hN4, (hfr3'.L (by simp)).L (by simp)⟩)
end XSK
