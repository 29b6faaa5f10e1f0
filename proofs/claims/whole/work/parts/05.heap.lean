/-! Rows for fields, arrays, switches, returns -/
section XH
variable {l : Launch} {G : xG} {Y : xMD} {pc : Nat} {lv : xLv} {st r : List Value} {M : xMe} {g : xGh} {cn sn : Nat} {Q : Option Value → xMe → xGh → Prop}
theorem xgn_of {g : xGh} (h : xgn g ≤ 96) {k : Nat} (hk : k < xgn g) : k < 96 := by omega
theorem xA_all {G : xG} {s : State} (h : gB G ≤ s.heap.size) : ∀ q, s.heap.size ≤ q → xA G q := fun q hq => Nat.le_trans h hq
/-- behind a store: what was below the world is as it was -/
theorem xRp.stored {G : xG} {M M' : xMe} {g g' : xGh} {s : State} {H H1 : Heap} {locs1 : List Loc} (h : xRp G M g s H) (hb : gB G ≤ s.heap.size) (hS : va_S (xA G) s.heap H locs1) {locs2 : List Loc} (hP : va_P (gD G) xcls (xwl G M' g') H1) (hS1 : va_S (xA G) s.heap H1 locs2) : xRp G M' g' s H1 := by
  refine h.upd hP (fun q h1 h2 => ?_)
  have hq : q < s.heap.size := by
    have : ¬ gB G ≤ q := h2
    omega
  rw [hS1.2.1 q hq h2, hS.2.1 q hq h2]
theorem xcls_ok {ci : Nat} {q : vw_C} (h : xcls[ci]? = some q) : (∀ w ∈ u_ws q.1 q.2.1 q.2.2, w ∈ xtb) ∧ (∀ k, k < q.2.2 → parseFieldDescriptor (q.2.1 k).2.2.1 = some ((xnth xcty ci xY0) k)) ∧ (∀ a, a < q.2.2 → ∀ b, b < q.2.2 → a ≠ b → (q.2.1 a).2.1 ≠ (q.2.1 b).2.1) := by
  match ci, h with
  | 0, h => cases h; exact ⟨xtb_u xi0, xt0, xn0⟩
  | 1, h => cases h; exact ⟨xtb_u xi1, xt1, xn1⟩
  | 2, h => cases h; exact ⟨xtb_u xi2, xt2, xn2⟩
  | 3, h => cases h; exact ⟨xtb_u xi3, xt3, xn3⟩
  | 4, h => cases h; exact ⟨xtb_u xi4, xt4, xn4⟩
  | 5, h => cases h; exact ⟨xtb_u xi5, xt5, xn5⟩
  | 6, h => cases h; exact ⟨xtb_u xi6, xt6, xn6⟩
  | 7, h => cases h; exact ⟨xtb_u xi7, xt7, xn7⟩
  | k + 8, h => simp [xcls] at h
/-- an object's number of fields is that of its class -/
theorem xtl_o : ∀ k, k < 96 → ∀ ci, ci < 8 → xkd k = ci + 3 → ∃ q, xcls[ci]? = some q ∧ xtl k = q.2.2 := by
  have h : ∀ k, k < 96 → ∀ ci, ci < 8 → xkd k = ci + 3 → (xcls.map (fun q => q.2.2))[ci]? = some (xtl k) := by decide +kernel
  intro k hk ci hci e
  have h1 := h k hk ci hci e
  rw [List.getElem?_map] at h1
  cases hq : xcls[ci]? with
  | none => rw [hq] at h1; cases h1
  | some q => rw [hq] at h1; exact ⟨q, rfl, (Option.some.inj h1).symm⟩
theorem xrf_lt : ∀ k, k < 96 → ∀ j, j < 60 → ∀ t, xnth (xrf k) j none = some t → t < 96 := by
  have h : ∀ k, k < 96 → ∀ j, j < 60 → (match xnth (xrf k) j none with | none => true | some t => Nat.blt t 96) = true := by decide +kernel
  intro k hk j hj t e
  have h1 := h k hk j hj
  rw [e] at h1
  exact Nat.blt_eq.mp h1
theorem xkd_lt {k : Nat} (h : xkd k ≠ 99) : k < 98 := by
  have hl : ∀ (l : List (Nat × Nat × List (Option Nat))) (k : Nat), (xnth l k (99, 0, [])).1 ≠ 99 → k < l.length := by
    intro l
    induction l with
    | nil => intro k h; exact absurd rfl h
    | cons a l ih =>
      intro k h
      cases k with
      | zero => simp
      | succ k => have := ih k h; simp; omega
  exact hl xshp k h
theorem xkd_96 : xkd 96 = 0 := by decide +kernel
theorem xkd_97 : xkd 97 = 1 := by decide +kernel
theorem xkd_obj {k n : Nat} (h : xkd k = n + 3) (hn : n < 8) : k < 96 := by
  have h1 := xkd_lt (k := k) (by omega)
  rcases Nat.lt_or_ge k 96 with q | q
  · exact q
  · have : k = 96 ∨ k = 97 := by omega
    rcases this with rfl | rfl
    · rw [xkd_96] at h; omega
    · rw [xkd_97] at h; omega
abbrev xFL (cls : String) (i ci k : Nat) : Prop := ∃ c : vw_C, xcls[ci]? = some c ∧ k < c.2.2 ∧ Cond.fieldLink cls i (c.2.1 k).1 (c.2.1 k).2.1 (c.2.1 k).2.2.1 ∈ xtb
theorem xci_lt {ci : Nat} {c : vw_C} (h : xcls[ci]? = some c) : ci < 8 := (List.getElem?_eq_some_iff.mp h).1
theorem xc_get {i ci k j : Nat} {v : Value} (hf : xFL Y.1.cls i ci j) (hk : xkd k = ci + 3) (hg : k < xgn g) (hv : v = match xnth (xrf k) j none with | none => .int (M.1 k j) | some t => .ref t) (hset : xis g k j = true) (hd : decode (yB Y) pc = .ok (.getfield i, 3)) (h : xC l G Y (pc + 3) lv (v :: r) M g cn sn Q) : xC l G Y pc lv (.ref k :: r) M g cn sn Q := by
  intro p e s m args below meth c hx hz H locs ls hR hS hl
  obtain ⟨q, hq, hj, hw⟩ := hf
  have hci := xci_lt hq
  have hk96 := xkd_obj hk hci
  obtain ⟨q', hq', htl⟩ := xtl_o k hk96 ci hci hk
  cases hq.symm.trans hq'
  have hj60 : j < 60 := by
    have : ∀ ci, ci < 8 → ∀ q : vw_C, xcls[ci]? = some q → q.2.2 < 60 := by
      intro ci h q hq
      match ci, hq with
      | 0, h => cases h; decide
      | 1, h => cases h; decide
      | 2, h => cases h; decide
      | 3, h => cases h; decide
      | 4, h => cases h; decide
      | 5, h => cases h; decide
      | 6, h => cases h; decide
      | 7, h => cases h; decide
    have := this ci hci q hq
    omega
  have hva : xcv G v = xfv G M g k j := by
    rw [hv]
    unfold xfv
    cases ht : xnth (xrf k) j none with
    | none => rfl
    | some t =>
      have hlt := xrf_lt k hk96 j hj60 t ht
      show Value.ref (xad G t) = _
      rw [xad_lt hlt]
      simp [hset]
  have hP := hR.2.1
  have he := xwl_get (G := G) (M := M) hg
  rw [xent_o hk] at he
  have hk1 := hx.2.2.2.2.2.1
  show W p l e (yR Y) s m args below meth c H locs cn sn _ (F0 m pc ls (.ref (xad G k) :: r.map (xcv G)))
  rw [xad_lt hk96]
  refine va_get hx.1 hx.2.1 hk1 (xcls_ok hq).1 hx.2.2.2.2.1 hR.1 hP k he (C := q.1) (T := q.2.1) (N := q.2.2) hq j hj (hk1 _ hw) (fun x h => h) (v := xfv G M g k j) ?_ hd ?_
  · rw [List.getElem?_map, List.getElem?_range (by rw [htl]; exact hj)]
    rfl
  · rw [← hva]
    exact h p e s m args below meth c hx hz H locs ls hR hS hl
theorem xmap_set {n j : Nat} {f f' : Nat → Value} {v : Value} (hv : f' j = v) (ho : ∀ i, i ≠ j → f' i = f i) : ((List.range n).map f).set j v = (List.range n).map f' := by
  apply List.ext_getElem?
  intro i
  by_cases hi : i < n
  · by_cases hj : i = j
    · subst hj
      rw [List.getElem?_set_self (by simp; exact hi), List.getElem?_map, List.getElem?_range hi, ← hv]
      rfl
    · rw [List.getElem?_set_ne (Ne.symm hj), List.getElem?_map, List.getElem?_map, List.getElem?_range hi]
      show some (f i) = some (f' i)
      rw [ho i hj]
  · rw [List.getElem?_eq_none (by simp; omega), List.getElem?_eq_none (by simp; omega)]
theorem xfv_sI {G : xG} {M : xMe} {g : xGh} {k j : Nat} {x : Int32} (hn : xnth (xrf k) j none = none) : xfv G (xsI M k (upd (M.1 k) j x)) g k j = .int x ∧ ∀ i, i ≠ j → xfv G (xsI M k (upd (M.1 k) j x)) g k i = xfv G M g k i := by
  refine ⟨?_, fun i hi => ?_⟩
  · unfold xfv
    rw [hn, xsI_s]
    simp [upd]
  · unfold xfv
    rw [xsI_s]
    simp [upd, hi]
theorem xc_put {i ci k j : Nat} {x : Int32} {ty : FieldType} (hf : xFL Y.1.cls i ci j) (hk : xkd k = ci + 3) (hg : k < xgn g) (hn : xnth (xrf k) j none = none) (hty : (xnth xcty ci xY0) j = ty) (hfin : ∀ c, xcls[ci]? = some c → (c.2.1 j).2.2.2 = false) (hnar : narrow ty (.int x) = .int x) (hfit : fits ty (.int x) = true) (hd : decode (yB Y) pc = .ok (.putfield i, 3)) (h : xC l G Y (pc + 3) lv r (xsI M k (upd (M.1 k) j x)) g cn sn Q) : xC l G Y pc lv (.int x :: .ref k :: r) M g cn sn Q := by
  intro p e s m args below meth c hx hz H locs ls hR hS hl
  obtain ⟨q, hq, hj, hw⟩ := hf
  have hci := xci_lt hq
  have hk96 := xkd_obj hk hci
  obtain ⟨q', hq', htl⟩ := xtl_o k hk96 ci hci hk
  cases hq.symm.trans hq'
  have hP := hR.2.1
  have he := xwl_get (G := G) (M := M) hg
  rw [xent_o hk] at he
  have hk1 := hx.2.2.2.2.2.1
  obtain ⟨o1, o2, o3⟩ := xcls_ok hq
  show W p l e (yR Y) s m args below meth c H locs cn sn _ (F0 m pc ls (.int x :: .ref (xad G k) :: r.map (xcv G)))
  rw [xad_lt hk96]
  refine va_put hx.1 hx.2.1 hk1 o1 (xnth xcty ci xY0) o2 o3 hx.2.2.2.2.1 hR.1 hP xwl_D hS k he (C := q.1) (T := q.2.1) (N := q.2.2) hq j hj (hk1 _ hw) (fun x h => h) (hfin q hq) (ty := ty) (by rw [o2 j hj, hty]) hnar hfit (by simp; rw [htl]; exact hj) hd (fun H1 locs1 hP1 _ hS1 => ?_)
  have e1 : (xwl G M g).set k (gB G + k, .inr (ci, ((List.range (xtl k)).map (xfv G M g k)).set j (.int x))) = xwl G (xsI M k (upd (M.1 k) j x)) g := by
    refine xwl_set rfl rfl ?_ (fun i hi => xent_sI hi)
    rw [xent_o hk, xmap_set (xfv_sI hn).1 (xfv_sI hn).2]
  rw [e1] at hP1
  exact h p e s m args below meth c hx hz H1 locs1 ls (hR.stored hx.2.2.2.2.2.2.2.2.1 hS hP1 hS1) hS1 hl
end XH
