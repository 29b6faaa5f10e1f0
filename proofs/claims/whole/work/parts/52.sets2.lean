/-! sets of 0 to 255: joined, made of one, empty -/
theorem sHas_upd (f : Nat → Int64) (t : Nat) {v u : Nat} (hv : v < 256) (hu : u < 256) : sHas (vp_updL f (t + v / 64) (f (t + v / 64) ||| (1 : Int64) <<< ((nI (v % 64)).toInt64 &&& 63))) t u = (sHas f t u || decide (u = v)) := by
  unfold sHas vp_updL
  by_cases e : u / 64 = v / 64
  · rw [e, if_pos rfl, xbit_or, xbit_1 (by omega)]
    congr 1
    by_cases e2 : u = v
    · subst e2; simp
    · simp [e2]; omega
  · rw [if_neg (by omega)]
    have : u ≠ v := fun z => e (by rw [z])
    simp [this]
theorem sHas_upd_o (f : Nat → Int64) (t t' : Nat) {v u : Nat} {x : Int64} (hv : v < 256) (hu : u < 256) (h : t + 4 ≤ t' ∨ t' + 4 ≤ t) : sHas (vp_updL f (t + v / 64) x) t' u = sHas f t' u := by
  unfold sHas vp_updL
  rw [if_neg (by omega)]
def fJoin (f : Nat → Int64) (t : Nat) (g : Nat → Int64) (s : Nat) : Nat → Int64 := fun j => if t ≤ j ∧ j < t + 4 then f j ||| g (s + (j - t)) else f j
def gGrew (f : Nat → Int64) (t : Nat) (g : Nat → Int64) (s n : Nat) : Bool := decide (∃ w, w < n ∧ ¬ g (s + w) &&& (f (t + w) ^^^ -1) = 0)
theorem sHas_join (f g : Nat → Int64) (t s : Nat) {v : Nat} (hv : v < 256) : sHas (fJoin f t g s) t v = (sHas f t v || sHas g s v) := by
  unfold sHas fJoin
  rw [if_pos (by omega), xbit_or, show t + v / 64 - t = v / 64 by omega]
theorem sHas_join_o (f g : Nat → Int64) (t s t' : Nat) {v : Nat} (hv : v < 256) (h : t + 4 ≤ t' ∨ t' + 4 ≤ t) : sHas (fJoin f t g s) t' v = sHas f t' v := by
  unfold sHas fJoin
  rw [if_neg (by omega)]
theorem grew_iff (f g : Nat → Int64) (t s : Nat) : gGrew f t g s 4 = true ↔ ∃ v, v < 256 ∧ sHas g s v = true ∧ sHas f t v = false := by
  unfold gGrew
  rw [decide_eq_true_iff]
  constructor
  · rintro ⟨w, hw, h⟩
    rw [xbit_zero] at h
    have : ∃ q, q < 64 ∧ xbit (g (s + w) &&& (f (t + w) ^^^ -1)) q = true := by
      refine Classical.byContradiction (fun hn => h (fun q hq => ?_))
      cases hh : xbit (g (s + w) &&& (f (t + w) ^^^ -1)) q with
      | false => rfl
      | true => exact absurd ⟨q, hq, hh⟩ hn
    obtain ⟨q, hq, hb⟩ := this
    rw [xbit_and, xbit_not _ hq] at hb
    refine ⟨64 * w + q, by omega, ?_, ?_⟩
    · unfold sHas
      rw [show (64 * w + q) / 64 = w by omega, show (64 * w + q) % 64 = q by omega]
      simp at hb
      exact hb.1
    · unfold sHas
      rw [show (64 * w + q) / 64 = w by omega, show (64 * w + q) % 64 = q by omega]
      simp at hb
      exact hb.2
  · rintro ⟨v, hv, h1, h2⟩
    refine ⟨v / 64, by omega, fun z => ?_⟩
    rw [xbit_zero] at z
    have := z (v % 64) (by omega)
    rw [xbit_and, xbit_not _ (by omega)] at this
    unfold sHas at h1 h2
    rw [h1, h2] at this
    cases this
theorem gGrew_s (f g : Nat → Int64) (t s n : Nat) : gGrew f t g s (n + 1) = (gGrew f t g s n || decide (¬ g (s + n) &&& (f (t + n) ^^^ -1) = 0)) := by
  unfold gGrew
  rw [Bool.eq_iff_iff]
  simp only [decide_eq_true_iff, Bool.or_eq_true]
  constructor
  · rintro ⟨w, hw, h⟩
    by_cases e : w = n
    · subst e; exact Or.inr h
    · exact Or.inl ⟨w, by omega, h⟩
  · rintro (⟨w, hw, h⟩ | h)
    · exact ⟨w, by omega, h⟩
    · exact ⟨n, by omega, h⟩
theorem or_more (a b : Int64) : a ||| (b &&& (a ^^^ -1)) = a ||| b := by
  refine xbit_ext (fun q hq => ?_)
  rw [xbit_or, xbit_or, xbit_and, xbit_not _ hq]
  cases xbit a q <;> cases xbit b q <;> rfl
theorem or_nomore {a b : Int64} (h : b &&& (a ^^^ -1) = 0) : a ||| b = a := by
  rw [← or_more, h]
  refine xbit_ext (fun q hq => ?_)
  rw [xbit_or, xbit_0, Bool.or_false]
theorem gGrew_0 (f g : Nat → Int64) (t s : Nat) : gGrew f t g s 0 = false := decide_eq_false (fun ⟨_, h, _⟩ => absurd h (Nat.not_lt_zero _))
section XS2
variable (l : Launch) (G : xG)
theorem E_makeOnly (v : Nat) (hv : v < 256) (M : xMe) : xE l G y_OS_makeOnly [.ref 26, .int (nI v)] M (fun r M' => r = none ∧ xfr [26] M M' ∧ ∀ u, u < 256 → sHas (M'.2 26) 0 u = decide (u = v)) := by
  refine xE_of [some (.ref 26), some (.int (nI v))] (by decide +kernel) (Nat.le_of_ble_eq_true rfl) rfl ?_
  refine xF_go o_OS_makeOnly [] 60 (fun K hK => ?_)
  repeat' ((conv => whnf); first | refine ⟨fun h => ?_, fun h => ?_⟩ | refine ⟨?_, ?_⟩ | refine hK _ _ _ _ ?_)
  refine xF_callS o_OS_makeOnly [.ref 26, .long 0] rfl z_JA_fill2 s_JA_fill2 l_OS_9 rfl ⟨⟨by decide, by decide⟩, rfl, rfl⟩ (Nat.le_of_ble_eq_true rfl) rfl (E_fill2 l G 26 (by simp) 0 M) ?_
  rintro r M' ⟨rfl, rfl⟩
  clear hK K
  refine xF_go o_OS_makeOnly [] 60 (fun K hK => ?_)
  repeat' ((conv => whnf); first | refine ⟨fun h => ?_, fun h => ?_⟩ | refine ⟨?_, ?_⟩ | refine hK _ _ _ _ ?_)
  refine xF_callS o_OS_makeOnly [.ref 26, .int (nI 0), .int (nI v)] rfl z_OS_add s_OS_add l_OS_15 rfl ⟨⟨by decide, by decide⟩, rfl, rfl⟩ (Nat.le_of_ble_eq_true rfl) rfl (E_add l G 26 (by simp) 0 v hv (by show _ < 4; omega) _) ?_
  rintro r M' ⟨rfl, rfl⟩
  clear hK K
  refine xF_go o_OS_makeOnly [] 60 (fun K hK => ?_)
  repeat' ((conv => whnf); first | refine ⟨fun h => ?_, fun h => ?_⟩ | refine ⟨?_, ?_⟩ | refine hK _ _ _ _ ?_)
  refine xF_vret o_OS_makeOnly rfl rfl ?_
  refine ⟨rfl, (xfr.rf.L (by simp)).L (by simp), fun u hu => ?_⟩
  rw [xsL_2, if_pos rfl, sHas_upd _ 0 hv hu]
  have : sHas ((xsL M 26 fun i => if i < xtl 26 then 0 else M.2 26 i).2 26) 0 u = false := by
    unfold sHas
    rw [xsL_2, if_pos rfl, if_pos (by show _ < 4; omega), xbit_0]
  rw [this, Bool.false_or]
theorem E_isEmpty (M : xMe) : xE l G y_OS_isEmpty [.ref 26] M (fun r M' => M' = M ∧ ∃ b, r = some (.int (b2 b)) ∧ (b = true ↔ ∀ u, u < 256 → sHas (M.2 26) 0 u = false)) := by
  have key : (M.2 26 0 ||| M.2 26 1 ||| M.2 26 2 ||| M.2 26 3 = 0) ↔ ∀ u, u < 256 → sHas (M.2 26) 0 u = false := by
    rw [xbit_zero]
    constructor
    · intro h u hu
      have h1 := h (u % 64) (by omega)
      rw [xbit_or, xbit_or, xbit_or] at h1
      simp only [Bool.or_eq_false_iff] at h1
      obtain ⟨⟨⟨h0, h1⟩, h2⟩, h3⟩ := h1
      unfold sHas
      have : u / 64 < 4 := by omega
      match hq : u / 64, this with
      | 0, _ => exact h0
      | 1, _ => exact h1
      | 2, _ => exact h2
      | 3, _ => exact h3
      | n + 4, hq => omega
    · intro h q hq
      rw [xbit_or, xbit_or, xbit_or]
      have h0 := h q (by omega)
      have h1 := h (64 + q) (by omega)
      have h2 := h (128 + q) (by omega)
      have h3 := h (192 + q) (by omega)
      unfold sHas at h0 h1 h2 h3
      rw [show q / 64 = 0 by omega, show q % 64 = q by omega] at h0
      rw [show (64 + q) / 64 = 1 by omega, show (64 + q) % 64 = q by omega] at h1
      rw [show (128 + q) / 64 = 2 by omega, show (128 + q) % 64 = q by omega] at h2
      rw [show (192 + q) / 64 = 3 by omega, show (192 + q) % 64 = q by omega] at h3
      rw [h0, h1, h2, h3]
      rfl
  refine xE_of [some (.ref 26)] (by decide +kernel) (Nat.le_of_ble_eq_true rfl) rfl ?_
  refine xF_go o_OS_isEmpty [] 60 (fun K hK => ?_)
  repeat' ((conv => whnf); first | refine ⟨fun h => ?_, fun h => ?_⟩ | refine ⟨?_, ?_⟩ | refine hK _ _ _ _ ?_)
  all_goals first | exact vp_in_nI (n := 0) (N := 4) (by omega) (by decide) | exact vp_in_nI (n := 1) (N := 4) (by omega) (by decide) | exact vp_in_nI (n := 2) (N := 4) (by omega) (by decide) | exact vp_in_nI (n := 3) (N := 4) (by omega) (by decide) | skip
  · have h1 : ¬ lg_cmp (M.2 26 0 ||| M.2 26 1 ||| M.2 26 2 ||| M.2 26 3) 0 = 0 := by assumption
    rw [xcmp0, key] at h1
    refine xF_zret o_OS_isEmpty rfl rfl (Or.inl rfl) ?_
    exact ⟨rfl, false, rfl, (fun z => by cases z), fun z => absurd z h1⟩
  · have h1 : lg_cmp (M.2 26 0 ||| M.2 26 1 ||| M.2 26 2 ||| M.2 26 3) 0 = 0 := by assumption
    rw [xcmp0, key] at h1
    refine xF_zret o_OS_isEmpty rfl rfl (Or.inr rfl) ?_
    exact ⟨rfl, true, rfl, fun _ => h1, fun _ => rfl⟩
theorem E_moveWord (a b : Nat) (ha : a < 4) (hb : b < 4) (M : xMe) : xE l G y_OS_moveWord [.ref 26, .int (nI a), .int (nI b)] M (fun r M' => r = none ∧ M' = xsL M 26 (vp_updL (vp_updL (M.2 26) b (M.2 26 b ||| M.2 26 a)) a 0)) := by
  refine xE_of [some (.ref 26), some (.int (nI a)), some (.int (nI b))] (by decide +kernel) (Nat.le_of_ble_eq_true rfl) rfl ?_
  refine xF_go o_OS_moveWord [] 60 (fun K hK => ?_)
  repeat' ((conv => whnf); first | refine ⟨fun h => ?_, fun h => ?_⟩ | refine ⟨?_, ?_⟩ | refine hK _ _ _ _ ?_)
  · exact vp_in_nI (N := 4) (by omega) (by decide)
  · exact vp_in_nI (N := 4) (by omega) (by decide)
  · exact vp_in_nI (N := 4) (by omega) (by decide)
  · exact vp_in_nI (N := 4) (by omega) (by decide)
  · refine xF_vret o_OS_moveWord rfl rfl ?_
    rw [nI_clamp (by omega), nI_clamp (by omega), xsL_LL]
    exact ⟨rfl, rfl⟩
theorem L_join_21_21 (t s : Nat) (ht : t + 4 ≤ xtl 21) (hs : s + 4 ≤ xtl 21) (h0 : 21 = 21 → t = s ∨ t + 4 ≤ s ∨ s + 4 ≤ t) (M0 : xMe) (Q : Option Value → xMe → Prop) (hQ : Q (some (.int (b2 (gGrew (M0.2 21) t (M0.2 21) s 4)))) (xsL M0 21 (fJoin (M0.2 21) t (M0.2 21) s))) : ∀ (m w : Nat), m + w = 4 → xF l G y_OS_join 6 [some (.ref 21), some (.int (nI t)), some (.ref 21), some (.int (nI s)), some (.int (b2 (gGrew (M0.2 21) t (M0.2 21) s w))), some (.int (nI w)), none, none] [] (xsL M0 21 (fun j => if t ≤ j ∧ j < t + w then M0.2 21 j ||| M0.2 21 (s + (j - t)) else M0.2 21 j)) Q := by
  have t1 : xtl 21 ≤ 7872 := Nat.le_of_ble_eq_true rfl
  have t2 : xtl 21 ≤ 7872 := Nat.le_of_ble_eq_true rfl
  intro m
  induction m with
  | zero =>
    intro w hw
    have e : w = 4 := by omega
    subst e
    refine xF_go o_OS_join [6] 60 (fun K hK => ?_)
    repeat' ((conv => whnf); first | refine ⟨fun h => ?_, fun h => ?_⟩ | refine ⟨?_, ?_⟩ | refine hK _ _ _ _ ?_)
    · show xF l G y_OS_join 60 _ [.int (b2 (gGrew (M0.2 21) t (M0.2 21) s 4))] _ _
      refine xF_zret o_OS_join rfl rfl (b2_01 _) ?_
      exact hQ
    all_goals exact absurd (show nI 4 < nI 4 from by assumption) (nI_nlt (by omega) (by omega))
  | succ m ih =>
    intro w hw
    have hat : nI t + nI w = nI (t + w) := nI_add _ _
    have hst : nI s + nI w = nI (s + w) := nI_add _ _
    have hin1 : vp_in (nI t + nI w) (xtl 21) := by rw [hat]; exact vp_in_nI (by omega) (by omega)
    have hin2 : vp_in (nI s + nI w) (xtl 21) := by rw [hst]; exact vp_in_nI (by omega) (by omega)
    have hc1 : (nI t + nI w).toNatClampNeg = t + w := by rw [hat, nI_clamp (by omega)]
    have hc2 : (nI s + nI w).toNatClampNeg = s + w := by rw [hst, nI_clamp (by omega)]
    generalize hF : (fun j => if t ≤ j ∧ j < t + w then M0.2 21 j ||| M0.2 21 (s + (j - t)) else M0.2 21 j) = F at *
    have f1 : F (t + w) = M0.2 21 (t + w) := by rw [← hF]; exact if_neg (by omega)
    have f2 : (xsL M0 21 F).2 21 (s + w) = M0.2 21 (s + w) := by
      rw [xsL_2]
      split
      · rename_i e
        have h0' := h0 e.symm
        rw [← hF, ← e]
        exact if_neg (by omega)
      · rfl
    have hih := ih (w + 1) (by omega)
    rw [gGrew_s] at hih
    refine xF_go o_OS_join [6] 60 (fun K hK => ?_)
    repeat' ((conv => whnf); first | refine ⟨fun h => ?_, fun h => ?_⟩ | refine ⟨?_, ?_⟩ | refine hK _ _ _ _ ?_)
    · exact absurd (nI_lt (b := 4) (by omega) (by omega)) h
    · exact hin2
    · exact hin1
    · have hz : lg_cmp ((xsL M0 21 F).2 21 (nI s + nI w).toNatClampNeg &&& (F (nI t + nI w).toNatClampNeg ^^^ -1)) 0 = 0 := by assumption
      rw [hc1, hc2, f1, f2, xcmp0] at hz
      rw [nI_1]
      rw [decide_eq_false (fun z => z hz), Bool.or_false] at hih
      have e2 : (fun j => if t ≤ j ∧ j < t + (w + 1) then M0.2 21 j ||| M0.2 21 (s + (j - t)) else M0.2 21 j) = F := by
        funext j
        rw [← hF]
        by_cases e : j = t + w
        · subst e
          show _ = if t ≤ t + w ∧ t + w < t + w then M0.2 21 (t + w) ||| M0.2 21 (s + (t + w - t)) else M0.2 21 (t + w)
          rw [if_pos (by omega), if_neg (by omega), show t + w - t = w by omega]
          exact or_nomore hz
        · show _ = if t ≤ j ∧ j < t + w then M0.2 21 j ||| M0.2 21 (s + (j - t)) else M0.2 21 j
          grind
      rw [e2] at hih
      refine xF_lv ?_ hih
      intro i v hi
      match i, hi with
      | 0, hi => exact hi
      | 1, hi => exact hi
      | 2, hi => exact hi
      | 3, hi => exact hi
      | 4, hi => exact hi
      | 5, hi => exact hi
      | 6, hi => cases hi
      | 7, hi => cases hi
      | i + 8, hi => cases hi
    · exact hin1
    · exact hin1
    · have hz : ¬ lg_cmp ((xsL M0 21 F).2 21 (nI s + nI w).toNatClampNeg &&& (F (nI t + nI w).toNatClampNeg ^^^ -1)) 0 = 0 := by assumption
      rw [hc1, hc2, f1, f2, xcmp0] at hz
      rw [nI_1]
      rw [decide_eq_true hz, Bool.or_true] at hih
      have e2 : (fun j => if t ≤ j ∧ j < t + (w + 1) then M0.2 21 j ||| M0.2 21 (s + (j - t)) else M0.2 21 j) = vp_updL F (nI t + nI w).toNatClampNeg (F (nI t + nI w).toNatClampNeg ||| ((xsL M0 21 F).2 21 (nI s + nI w).toNatClampNeg &&& (F (nI t + nI w).toNatClampNeg ^^^ -1))) := by
        funext j
        rw [hc1, hc2, f1, f2, or_more]
        unfold vp_updL
        by_cases e : j = t + w
        · subst e
          rw [if_pos (by omega), if_pos rfl, show t + w - t = w by omega]
        · rw [if_neg e, ← hF]
          show _ = if t ≤ j ∧ j < t + w then M0.2 21 j ||| M0.2 21 (s + (j - t)) else M0.2 21 j
          grind
      rw [e2] at hih
      rw [xsL_LL]
      refine xF_lv ?_ hih
      intro i v hi
      match i, hi with
      | 0, hi => exact hi
      | 1, hi => exact hi
      | 2, hi => exact hi
      | 3, hi => exact hi
      | 4, hi => exact hi
      | 5, hi => exact hi
      | 6, hi => cases hi
      | 7, hi => cases hi
      | i + 8, hi => cases hi
theorem E_join_21_21 (t s : Nat) (ht : t + 4 ≤ xtl 21) (hs : s + 4 ≤ xtl 21) (h0 : 21 = 21 → t = s ∨ t + 4 ≤ s ∨ s + 4 ≤ t) (M : xMe) : xE l G y_OS_join [.ref 21, .int (nI t), .ref 21, .int (nI s)] M (fun r M' => r = some (.int (b2 (gGrew (M.2 21) t (M.2 21) s 4))) ∧ M' = xsL M 21 (fJoin (M.2 21) t (M.2 21) s)) := by
  refine xE_of [some (.ref 21), some (.int (nI t)), some (.ref 21), some (.int (nI s)), none, none, none, none] (by decide +kernel) (Nat.le_of_ble_eq_true rfl) rfl ?_
  refine xF_go o_OS_join [6] 60 (fun K hK => ?_)
  repeat' ((conv => whnf); first | refine ⟨fun h => ?_, fun h => ?_⟩ | refine ⟨?_, ?_⟩ | refine hK _ _ _ _ ?_)
  have e0 : M = xsL M 21 (fun j => if t ≤ j ∧ j < t + 0 then M.2 21 j ||| M.2 21 (s + (j - t)) else M.2 21 j) := (xsL_id (fun i => by rw [if_neg (by omega)])).symm
  have key := L_join_21_21 l G t s ht hs h0 M (fun r M' => r = some (.int (b2 (gGrew (M.2 21) t (M.2 21) s 4))) ∧ M' = xsL M 21 (fJoin (M.2 21) t (M.2 21) s)) ⟨rfl, rfl⟩ 4 0 (by omega)
  rw [← e0, gGrew_0] at key
  exact key
theorem L_join_21_26 (t s : Nat) (ht : t + 4 ≤ xtl 21) (hs : s + 4 ≤ xtl 26) (h0 : 21 = 26 → t = s ∨ t + 4 ≤ s ∨ s + 4 ≤ t) (M0 : xMe) (Q : Option Value → xMe → Prop) (hQ : Q (some (.int (b2 (gGrew (M0.2 21) t (M0.2 26) s 4)))) (xsL M0 21 (fJoin (M0.2 21) t (M0.2 26) s))) : ∀ (m w : Nat), m + w = 4 → xF l G y_OS_join 6 [some (.ref 21), some (.int (nI t)), some (.ref 26), some (.int (nI s)), some (.int (b2 (gGrew (M0.2 21) t (M0.2 26) s w))), some (.int (nI w)), none, none] [] (xsL M0 21 (fun j => if t ≤ j ∧ j < t + w then M0.2 21 j ||| M0.2 26 (s + (j - t)) else M0.2 21 j)) Q := by
  have t1 : xtl 21 ≤ 7872 := Nat.le_of_ble_eq_true rfl
  have t2 : xtl 26 ≤ 7872 := Nat.le_of_ble_eq_true rfl
  intro m
  induction m with
  | zero =>
    intro w hw
    have e : w = 4 := by omega
    subst e
    refine xF_go o_OS_join [6] 60 (fun K hK => ?_)
    repeat' ((conv => whnf); first | refine ⟨fun h => ?_, fun h => ?_⟩ | refine ⟨?_, ?_⟩ | refine hK _ _ _ _ ?_)
    · show xF l G y_OS_join 60 _ [.int (b2 (gGrew (M0.2 21) t (M0.2 26) s 4))] _ _
      refine xF_zret o_OS_join rfl rfl (b2_01 _) ?_
      exact hQ
    all_goals exact absurd (show nI 4 < nI 4 from by assumption) (nI_nlt (by omega) (by omega))
  | succ m ih =>
    intro w hw
    have hat : nI t + nI w = nI (t + w) := nI_add _ _
    have hst : nI s + nI w = nI (s + w) := nI_add _ _
    have hin1 : vp_in (nI t + nI w) (xtl 21) := by rw [hat]; exact vp_in_nI (by omega) (by omega)
    have hin2 : vp_in (nI s + nI w) (xtl 26) := by rw [hst]; exact vp_in_nI (by omega) (by omega)
    have hc1 : (nI t + nI w).toNatClampNeg = t + w := by rw [hat, nI_clamp (by omega)]
    have hc2 : (nI s + nI w).toNatClampNeg = s + w := by rw [hst, nI_clamp (by omega)]
    generalize hF : (fun j => if t ≤ j ∧ j < t + w then M0.2 21 j ||| M0.2 26 (s + (j - t)) else M0.2 21 j) = F at *
    have f1 : F (t + w) = M0.2 21 (t + w) := by rw [← hF]; exact if_neg (by omega)
    have f2 : (xsL M0 21 F).2 26 (s + w) = M0.2 26 (s + w) := by
      rw [xsL_2]
      split
      · rename_i e
        have h0' := h0 e.symm
        rw [← hF, ← e]
        exact if_neg (by omega)
      · rfl
    have hih := ih (w + 1) (by omega)
    rw [gGrew_s] at hih
    refine xF_go o_OS_join [6] 60 (fun K hK => ?_)
    repeat' ((conv => whnf); first | refine ⟨fun h => ?_, fun h => ?_⟩ | refine ⟨?_, ?_⟩ | refine hK _ _ _ _ ?_)
    · exact absurd (nI_lt (b := 4) (by omega) (by omega)) h
    · exact hin2
    · exact hin1
    · have hz : lg_cmp ((xsL M0 21 F).2 26 (nI s + nI w).toNatClampNeg &&& (F (nI t + nI w).toNatClampNeg ^^^ -1)) 0 = 0 := by assumption
      rw [hc1, hc2, f1, f2, xcmp0] at hz
      rw [nI_1]
      rw [decide_eq_false (fun z => z hz), Bool.or_false] at hih
      have e2 : (fun j => if t ≤ j ∧ j < t + (w + 1) then M0.2 21 j ||| M0.2 26 (s + (j - t)) else M0.2 21 j) = F := by
        funext j
        rw [← hF]
        by_cases e : j = t + w
        · subst e
          show _ = if t ≤ t + w ∧ t + w < t + w then M0.2 21 (t + w) ||| M0.2 26 (s + (t + w - t)) else M0.2 21 (t + w)
          rw [if_pos (by omega), if_neg (by omega), show t + w - t = w by omega]
          exact or_nomore hz
        · show _ = if t ≤ j ∧ j < t + w then M0.2 21 j ||| M0.2 26 (s + (j - t)) else M0.2 21 j
          grind
      rw [e2] at hih
      refine xF_lv ?_ hih
      intro i v hi
      match i, hi with
      | 0, hi => exact hi
      | 1, hi => exact hi
      | 2, hi => exact hi
      | 3, hi => exact hi
      | 4, hi => exact hi
      | 5, hi => exact hi
      | 6, hi => cases hi
      | 7, hi => cases hi
      | i + 8, hi => cases hi
    · exact hin1
    · exact hin1
    · have hz : ¬ lg_cmp ((xsL M0 21 F).2 26 (nI s + nI w).toNatClampNeg &&& (F (nI t + nI w).toNatClampNeg ^^^ -1)) 0 = 0 := by assumption
      rw [hc1, hc2, f1, f2, xcmp0] at hz
      rw [nI_1]
      rw [decide_eq_true hz, Bool.or_true] at hih
      have e2 : (fun j => if t ≤ j ∧ j < t + (w + 1) then M0.2 21 j ||| M0.2 26 (s + (j - t)) else M0.2 21 j) = vp_updL F (nI t + nI w).toNatClampNeg (F (nI t + nI w).toNatClampNeg ||| ((xsL M0 21 F).2 26 (nI s + nI w).toNatClampNeg &&& (F (nI t + nI w).toNatClampNeg ^^^ -1))) := by
        funext j
        rw [hc1, hc2, f1, f2, or_more]
        unfold vp_updL
        by_cases e : j = t + w
        · subst e
          rw [if_pos (by omega), if_pos rfl, show t + w - t = w by omega]
        · rw [if_neg e, ← hF]
          show _ = if t ≤ j ∧ j < t + w then M0.2 21 j ||| M0.2 26 (s + (j - t)) else M0.2 21 j
          grind
      rw [e2] at hih
      rw [xsL_LL]
      refine xF_lv ?_ hih
      intro i v hi
      match i, hi with
      | 0, hi => exact hi
      | 1, hi => exact hi
      | 2, hi => exact hi
      | 3, hi => exact hi
      | 4, hi => exact hi
      | 5, hi => exact hi
      | 6, hi => cases hi
      | 7, hi => cases hi
      | i + 8, hi => cases hi
theorem E_join_21_26 (t s : Nat) (ht : t + 4 ≤ xtl 21) (hs : s + 4 ≤ xtl 26) (h0 : 21 = 26 → t = s ∨ t + 4 ≤ s ∨ s + 4 ≤ t) (M : xMe) : xE l G y_OS_join [.ref 21, .int (nI t), .ref 26, .int (nI s)] M (fun r M' => r = some (.int (b2 (gGrew (M.2 21) t (M.2 26) s 4))) ∧ M' = xsL M 21 (fJoin (M.2 21) t (M.2 26) s)) := by
  refine xE_of [some (.ref 21), some (.int (nI t)), some (.ref 26), some (.int (nI s)), none, none, none, none] (by decide +kernel) (Nat.le_of_ble_eq_true rfl) rfl ?_
  refine xF_go o_OS_join [6] 60 (fun K hK => ?_)
  repeat' ((conv => whnf); first | refine ⟨fun h => ?_, fun h => ?_⟩ | refine ⟨?_, ?_⟩ | refine hK _ _ _ _ ?_)
  have e0 : M = xsL M 21 (fun j => if t ≤ j ∧ j < t + 0 then M.2 21 j ||| M.2 26 (s + (j - t)) else M.2 21 j) := (xsL_id (fun i => by rw [if_neg (by omega)])).symm
  have key := L_join_21_26 l G t s ht hs h0 M (fun r M' => r = some (.int (b2 (gGrew (M.2 21) t (M.2 26) s 4))) ∧ M' = xsL M 21 (fJoin (M.2 21) t (M.2 26) s)) ⟨rfl, rfl⟩ 4 0 (by omega)
  rw [← e0, gGrew_0] at key
  exact key
theorem L_join_22_21 (t s : Nat) (ht : t + 4 ≤ xtl 22) (hs : s + 4 ≤ xtl 21) (h0 : 22 = 21 → t = s ∨ t + 4 ≤ s ∨ s + 4 ≤ t) (M0 : xMe) (Q : Option Value → xMe → Prop) (hQ : Q (some (.int (b2 (gGrew (M0.2 22) t (M0.2 21) s 4)))) (xsL M0 22 (fJoin (M0.2 22) t (M0.2 21) s))) : ∀ (m w : Nat), m + w = 4 → xF l G y_OS_join 6 [some (.ref 22), some (.int (nI t)), some (.ref 21), some (.int (nI s)), some (.int (b2 (gGrew (M0.2 22) t (M0.2 21) s w))), some (.int (nI w)), none, none] [] (xsL M0 22 (fun j => if t ≤ j ∧ j < t + w then M0.2 22 j ||| M0.2 21 (s + (j - t)) else M0.2 22 j)) Q := by
  have t1 : xtl 22 ≤ 7872 := Nat.le_of_ble_eq_true rfl
  have t2 : xtl 21 ≤ 7872 := Nat.le_of_ble_eq_true rfl
  intro m
  induction m with
  | zero =>
    intro w hw
    have e : w = 4 := by omega
    subst e
    refine xF_go o_OS_join [6] 60 (fun K hK => ?_)
    repeat' ((conv => whnf); first | refine ⟨fun h => ?_, fun h => ?_⟩ | refine ⟨?_, ?_⟩ | refine hK _ _ _ _ ?_)
    · show xF l G y_OS_join 60 _ [.int (b2 (gGrew (M0.2 22) t (M0.2 21) s 4))] _ _
      refine xF_zret o_OS_join rfl rfl (b2_01 _) ?_
      exact hQ
    all_goals exact absurd (show nI 4 < nI 4 from by assumption) (nI_nlt (by omega) (by omega))
  | succ m ih =>
    intro w hw
    have hat : nI t + nI w = nI (t + w) := nI_add _ _
    have hst : nI s + nI w = nI (s + w) := nI_add _ _
    have hin1 : vp_in (nI t + nI w) (xtl 22) := by rw [hat]; exact vp_in_nI (by omega) (by omega)
    have hin2 : vp_in (nI s + nI w) (xtl 21) := by rw [hst]; exact vp_in_nI (by omega) (by omega)
    have hc1 : (nI t + nI w).toNatClampNeg = t + w := by rw [hat, nI_clamp (by omega)]
    have hc2 : (nI s + nI w).toNatClampNeg = s + w := by rw [hst, nI_clamp (by omega)]
    generalize hF : (fun j => if t ≤ j ∧ j < t + w then M0.2 22 j ||| M0.2 21 (s + (j - t)) else M0.2 22 j) = F at *
    have f1 : F (t + w) = M0.2 22 (t + w) := by rw [← hF]; exact if_neg (by omega)
    have f2 : (xsL M0 22 F).2 21 (s + w) = M0.2 21 (s + w) := by
      rw [xsL_2]
      split
      · rename_i e
        have h0' := h0 e.symm
        rw [← hF, ← e]
        exact if_neg (by omega)
      · rfl
    have hih := ih (w + 1) (by omega)
    rw [gGrew_s] at hih
    refine xF_go o_OS_join [6] 60 (fun K hK => ?_)
    repeat' ((conv => whnf); first | refine ⟨fun h => ?_, fun h => ?_⟩ | refine ⟨?_, ?_⟩ | refine hK _ _ _ _ ?_)
    · exact absurd (nI_lt (b := 4) (by omega) (by omega)) h
    · exact hin2
    · exact hin1
    · have hz : lg_cmp ((xsL M0 22 F).2 21 (nI s + nI w).toNatClampNeg &&& (F (nI t + nI w).toNatClampNeg ^^^ -1)) 0 = 0 := by assumption
      rw [hc1, hc2, f1, f2, xcmp0] at hz
      rw [nI_1]
      rw [decide_eq_false (fun z => z hz), Bool.or_false] at hih
      have e2 : (fun j => if t ≤ j ∧ j < t + (w + 1) then M0.2 22 j ||| M0.2 21 (s + (j - t)) else M0.2 22 j) = F := by
        funext j
        rw [← hF]
        by_cases e : j = t + w
        · subst e
          show _ = if t ≤ t + w ∧ t + w < t + w then M0.2 22 (t + w) ||| M0.2 21 (s + (t + w - t)) else M0.2 22 (t + w)
          rw [if_pos (by omega), if_neg (by omega), show t + w - t = w by omega]
          exact or_nomore hz
        · show _ = if t ≤ j ∧ j < t + w then M0.2 22 j ||| M0.2 21 (s + (j - t)) else M0.2 22 j
          grind
      rw [e2] at hih
      refine xF_lv ?_ hih
      intro i v hi
      match i, hi with
      | 0, hi => exact hi
      | 1, hi => exact hi
      | 2, hi => exact hi
      | 3, hi => exact hi
      | 4, hi => exact hi
      | 5, hi => exact hi
      | 6, hi => cases hi
      | 7, hi => cases hi
      | i + 8, hi => cases hi
    · exact hin1
    · exact hin1
    · have hz : ¬ lg_cmp ((xsL M0 22 F).2 21 (nI s + nI w).toNatClampNeg &&& (F (nI t + nI w).toNatClampNeg ^^^ -1)) 0 = 0 := by assumption
      rw [hc1, hc2, f1, f2, xcmp0] at hz
      rw [nI_1]
      rw [decide_eq_true hz, Bool.or_true] at hih
      have e2 : (fun j => if t ≤ j ∧ j < t + (w + 1) then M0.2 22 j ||| M0.2 21 (s + (j - t)) else M0.2 22 j) = vp_updL F (nI t + nI w).toNatClampNeg (F (nI t + nI w).toNatClampNeg ||| ((xsL M0 22 F).2 21 (nI s + nI w).toNatClampNeg &&& (F (nI t + nI w).toNatClampNeg ^^^ -1))) := by
        funext j
        rw [hc1, hc2, f1, f2, or_more]
        unfold vp_updL
        by_cases e : j = t + w
        · subst e
          rw [if_pos (by omega), if_pos rfl, show t + w - t = w by omega]
        · rw [if_neg e, ← hF]
          show _ = if t ≤ j ∧ j < t + w then M0.2 22 j ||| M0.2 21 (s + (j - t)) else M0.2 22 j
          grind
      rw [e2] at hih
      rw [xsL_LL]
      refine xF_lv ?_ hih
      intro i v hi
      match i, hi with
      | 0, hi => exact hi
      | 1, hi => exact hi
      | 2, hi => exact hi
      | 3, hi => exact hi
      | 4, hi => exact hi
      | 5, hi => exact hi
      | 6, hi => cases hi
      | 7, hi => cases hi
      | i + 8, hi => cases hi
theorem E_join_22_21 (t s : Nat) (ht : t + 4 ≤ xtl 22) (hs : s + 4 ≤ xtl 21) (h0 : 22 = 21 → t = s ∨ t + 4 ≤ s ∨ s + 4 ≤ t) (M : xMe) : xE l G y_OS_join [.ref 22, .int (nI t), .ref 21, .int (nI s)] M (fun r M' => r = some (.int (b2 (gGrew (M.2 22) t (M.2 21) s 4))) ∧ M' = xsL M 22 (fJoin (M.2 22) t (M.2 21) s)) := by
  refine xE_of [some (.ref 22), some (.int (nI t)), some (.ref 21), some (.int (nI s)), none, none, none, none] (by decide +kernel) (Nat.le_of_ble_eq_true rfl) rfl ?_
  refine xF_go o_OS_join [6] 60 (fun K hK => ?_)
  repeat' ((conv => whnf); first | refine ⟨fun h => ?_, fun h => ?_⟩ | refine ⟨?_, ?_⟩ | refine hK _ _ _ _ ?_)
  have e0 : M = xsL M 22 (fun j => if t ≤ j ∧ j < t + 0 then M.2 22 j ||| M.2 21 (s + (j - t)) else M.2 22 j) := (xsL_id (fun i => by rw [if_neg (by omega)])).symm
  have key := L_join_22_21 l G t s ht hs h0 M (fun r M' => r = some (.int (b2 (gGrew (M.2 22) t (M.2 21) s 4))) ∧ M' = xsL M 22 (fJoin (M.2 22) t (M.2 21) s)) ⟨rfl, rfl⟩ 4 0 (by omega)
  rw [← e0, gGrew_0] at key
  exact key
theorem L_join_26_22 (t s : Nat) (ht : t + 4 ≤ xtl 26) (hs : s + 4 ≤ xtl 22) (h0 : 26 = 22 → t = s ∨ t + 4 ≤ s ∨ s + 4 ≤ t) (M0 : xMe) (Q : Option Value → xMe → Prop) (hQ : Q (some (.int (b2 (gGrew (M0.2 26) t (M0.2 22) s 4)))) (xsL M0 26 (fJoin (M0.2 26) t (M0.2 22) s))) : ∀ (m w : Nat), m + w = 4 → xF l G y_OS_join 6 [some (.ref 26), some (.int (nI t)), some (.ref 22), some (.int (nI s)), some (.int (b2 (gGrew (M0.2 26) t (M0.2 22) s w))), some (.int (nI w)), none, none] [] (xsL M0 26 (fun j => if t ≤ j ∧ j < t + w then M0.2 26 j ||| M0.2 22 (s + (j - t)) else M0.2 26 j)) Q := by
  have t1 : xtl 26 ≤ 7872 := Nat.le_of_ble_eq_true rfl
  have t2 : xtl 22 ≤ 7872 := Nat.le_of_ble_eq_true rfl
  intro m
  induction m with
  | zero =>
    intro w hw
    have e : w = 4 := by omega
    subst e
    refine xF_go o_OS_join [6] 60 (fun K hK => ?_)
    repeat' ((conv => whnf); first | refine ⟨fun h => ?_, fun h => ?_⟩ | refine ⟨?_, ?_⟩ | refine hK _ _ _ _ ?_)
    · show xF l G y_OS_join 60 _ [.int (b2 (gGrew (M0.2 26) t (M0.2 22) s 4))] _ _
      refine xF_zret o_OS_join rfl rfl (b2_01 _) ?_
      exact hQ
    all_goals exact absurd (show nI 4 < nI 4 from by assumption) (nI_nlt (by omega) (by omega))
  | succ m ih =>
    intro w hw
    have hat : nI t + nI w = nI (t + w) := nI_add _ _
    have hst : nI s + nI w = nI (s + w) := nI_add _ _
    have hin1 : vp_in (nI t + nI w) (xtl 26) := by rw [hat]; exact vp_in_nI (by omega) (by omega)
    have hin2 : vp_in (nI s + nI w) (xtl 22) := by rw [hst]; exact vp_in_nI (by omega) (by omega)
    have hc1 : (nI t + nI w).toNatClampNeg = t + w := by rw [hat, nI_clamp (by omega)]
    have hc2 : (nI s + nI w).toNatClampNeg = s + w := by rw [hst, nI_clamp (by omega)]
    generalize hF : (fun j => if t ≤ j ∧ j < t + w then M0.2 26 j ||| M0.2 22 (s + (j - t)) else M0.2 26 j) = F at *
    have f1 : F (t + w) = M0.2 26 (t + w) := by rw [← hF]; exact if_neg (by omega)
    have f2 : (xsL M0 26 F).2 22 (s + w) = M0.2 22 (s + w) := by
      rw [xsL_2]
      split
      · rename_i e
        have h0' := h0 e.symm
        rw [← hF, ← e]
        exact if_neg (by omega)
      · rfl
    have hih := ih (w + 1) (by omega)
    rw [gGrew_s] at hih
    refine xF_go o_OS_join [6] 60 (fun K hK => ?_)
    repeat' ((conv => whnf); first | refine ⟨fun h => ?_, fun h => ?_⟩ | refine ⟨?_, ?_⟩ | refine hK _ _ _ _ ?_)
    · exact absurd (nI_lt (b := 4) (by omega) (by omega)) h
    · exact hin2
    · exact hin1
    · have hz : lg_cmp ((xsL M0 26 F).2 22 (nI s + nI w).toNatClampNeg &&& (F (nI t + nI w).toNatClampNeg ^^^ -1)) 0 = 0 := by assumption
      rw [hc1, hc2, f1, f2, xcmp0] at hz
      rw [nI_1]
      rw [decide_eq_false (fun z => z hz), Bool.or_false] at hih
      have e2 : (fun j => if t ≤ j ∧ j < t + (w + 1) then M0.2 26 j ||| M0.2 22 (s + (j - t)) else M0.2 26 j) = F := by
        funext j
        rw [← hF]
        by_cases e : j = t + w
        · subst e
          show _ = if t ≤ t + w ∧ t + w < t + w then M0.2 26 (t + w) ||| M0.2 22 (s + (t + w - t)) else M0.2 26 (t + w)
          rw [if_pos (by omega), if_neg (by omega), show t + w - t = w by omega]
          exact or_nomore hz
        · show _ = if t ≤ j ∧ j < t + w then M0.2 26 j ||| M0.2 22 (s + (j - t)) else M0.2 26 j
          grind
      rw [e2] at hih
      refine xF_lv ?_ hih
      intro i v hi
      match i, hi with
      | 0, hi => exact hi
      | 1, hi => exact hi
      | 2, hi => exact hi
      | 3, hi => exact hi
      | 4, hi => exact hi
      | 5, hi => exact hi
      | 6, hi => cases hi
      | 7, hi => cases hi
      | i + 8, hi => cases hi
    · exact hin1
    · exact hin1
    · have hz : ¬ lg_cmp ((xsL M0 26 F).2 22 (nI s + nI w).toNatClampNeg &&& (F (nI t + nI w).toNatClampNeg ^^^ -1)) 0 = 0 := by assumption
      rw [hc1, hc2, f1, f2, xcmp0] at hz
      rw [nI_1]
      rw [decide_eq_true hz, Bool.or_true] at hih
      have e2 : (fun j => if t ≤ j ∧ j < t + (w + 1) then M0.2 26 j ||| M0.2 22 (s + (j - t)) else M0.2 26 j) = vp_updL F (nI t + nI w).toNatClampNeg (F (nI t + nI w).toNatClampNeg ||| ((xsL M0 26 F).2 22 (nI s + nI w).toNatClampNeg &&& (F (nI t + nI w).toNatClampNeg ^^^ -1))) := by
        funext j
        rw [hc1, hc2, f1, f2, or_more]
        unfold vp_updL
        by_cases e : j = t + w
        · subst e
          rw [if_pos (by omega), if_pos rfl, show t + w - t = w by omega]
        · rw [if_neg e, ← hF]
          show _ = if t ≤ j ∧ j < t + w then M0.2 26 j ||| M0.2 22 (s + (j - t)) else M0.2 26 j
          grind
      rw [e2] at hih
      rw [xsL_LL]
      refine xF_lv ?_ hih
      intro i v hi
      match i, hi with
      | 0, hi => exact hi
      | 1, hi => exact hi
      | 2, hi => exact hi
      | 3, hi => exact hi
      | 4, hi => exact hi
      | 5, hi => exact hi
      | 6, hi => cases hi
      | 7, hi => cases hi
      | i + 8, hi => cases hi
theorem E_join_26_22 (t s : Nat) (ht : t + 4 ≤ xtl 26) (hs : s + 4 ≤ xtl 22) (h0 : 26 = 22 → t = s ∨ t + 4 ≤ s ∨ s + 4 ≤ t) (M : xMe) : xE l G y_OS_join [.ref 26, .int (nI t), .ref 22, .int (nI s)] M (fun r M' => r = some (.int (b2 (gGrew (M.2 26) t (M.2 22) s 4))) ∧ M' = xsL M 26 (fJoin (M.2 26) t (M.2 22) s)) := by
  refine xE_of [some (.ref 26), some (.int (nI t)), some (.ref 22), some (.int (nI s)), none, none, none, none] (by decide +kernel) (Nat.le_of_ble_eq_true rfl) rfl ?_
  refine xF_go o_OS_join [6] 60 (fun K hK => ?_)
  repeat' ((conv => whnf); first | refine ⟨fun h => ?_, fun h => ?_⟩ | refine ⟨?_, ?_⟩ | refine hK _ _ _ _ ?_)
  have e0 : M = xsL M 26 (fun j => if t ≤ j ∧ j < t + 0 then M.2 26 j ||| M.2 22 (s + (j - t)) else M.2 26 j) := (xsL_id (fun i => by rw [if_neg (by omega)])).symm
  have key := L_join_26_22 l G t s ht hs h0 M (fun r M' => r = some (.int (b2 (gGrew (M.2 26) t (M.2 22) s 4))) ∧ M' = xsL M 26 (fJoin (M.2 26) t (M.2 22) s)) ⟨rfl, rfl⟩ 4 0 (by omega)
  rw [← e0, gGrew_0] at key
  exact key
end XS2
