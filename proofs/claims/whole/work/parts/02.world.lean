/-! A small machine over one world of numbered cells: its memory, its frames, what the real heap is to it -/
def xtb : List Cond := lw_tbl.filter goodWord
theorem xtbm {w : Cond} (h : w ∈ lw_tbl) (hg : goodWord w = true) : w ∈ xtb := List.mem_filter.mpr ⟨h, hg⟩
theorem xtb_u {C : String} {T : u_T} {N : Nat} (h : ∀ w ∈ u_ws C T N, w ∈ lw_tbl) : ∀ w ∈ u_ws C T N, w ∈ xtb := by
  intro w hw
  refine xtbm (h w hw) ?_
  obtain ⟨k, -, rfl⟩ := List.mem_map.mp hw
  unfold u_lay
  split <;> rfl
def xNst (U : State) : Prop := ∀ q ∈ xnst, va_Nw (.methodLinkNest q.1 q.2.1 q.2.2.1 q.2.2.2) U
theorem xNst.warm {s U : State} (hW : s.WarmedH U.vm) (h : xNst s) : xNst U := fun q hq => va_Nw.warmM hW (h q hq)
theorem xNst.same {u U : State} (hv : u.vm = U.vm) (h : xNst u) : xNst U := fun q hq => va_Nw.same rfl hv (h q hq)
abbrev xMe : Type := (Nat → Nat → Int32) × (Nat → Nat → Int64)
abbrev xGh : Type := Option (Nat × List (Nat × Nat))
abbrev xG : Type := Nat × Nat × Nat × (Nat → Int32) × Nat × va_G × ClassId × ClassId × ClassId
abbrev xMD : Type := MethodName × ByteArray × Nat × Option FieldType × Room
abbrev xLv : Type := List (Option Value)
abbrev xRw : Type := Nat × Instr × Nat × Nat × Value
abbrev gB (G : xG) : Nat := G.1
abbrev gb (G : xG) : Nat := G.2.1
abbrev gL (G : xG) : Nat := G.2.2.1
abbrev gx (G : xG) : Nat → Int32 := G.2.2.2.1
abbrev gh (G : xG) : Nat := G.2.2.2.2.1
abbrev gD (G : xG) : va_G := G.2.2.2.2.2.1
abbrev gI (G : xG) : ClassId := G.2.2.2.2.2.2.1
abbrev gJ (G : xG) : ClassId := G.2.2.2.2.2.2.2.1
abbrev gZ (G : xG) : ClassId := G.2.2.2.2.2.2.2.2
abbrev yR (Y : xMD) : Room := Y.2.2.2.2
abbrev yL (Y : xMD) : Nat := Y.2.2.1
abbrev yB (Y : xMD) : ByteArray := Y.2.1
abbrev yT (Y : xMD) : Option FieldType := Y.2.2.2.1
def xnth {α : Type} : List α → Nat → α → α
  | [], _, d => d
  | a :: _, 0, _ => a
  | _ :: l, n + 1, d => xnth l n d
def xkd (k : Nat) : Nat := (xnth xshp k (99, 0, [])).1
def xtl (k : Nat) : Nat := (xnth xshp k (99, 0, [])).2.1
def xrf (k : Nat) : List (Option Nat) := (xnth xshp k (99, 0, [])).2.2
def xln (G : xG) (k : Nat) : Nat := match Nat.beq k 96 with
  | true => gL G
  | false => xtl k
def xad (G : xG) (k : Nat) : Nat := if k = 96 then gb G else if k = 97 then gh G else gB G + k
def xcv (G : xG) : Value → Value
  | .ref k => .ref (xad G k)
  | v => v
def xgn : xGh → Nat
  | none => 96
  | some q => q.1
def xin : List (Nat × Nat) → Nat → Nat → Bool
  | [], _, _ => false
  | q :: l, k, j => (Nat.beq q.1 k && Nat.beq q.2 j) || xin l k j
def xis : xGh → Nat → Nat → Bool
  | none, _, _ => true
  | some q, k, j => xin q.2 k j
def xfv (G : xG) (M : xMe) (g : xGh) (k j : Nat) : Value := match xnth (xrf k) j none with
  | none => .int (M.1 k j)
  | some t => if xis g k j = true then .ref (gB G + t) else .null
def xent (G : xG) (M : xMe) (g : xGh) (k : Nat) : va_E := match xkd k with
  | 0 => .inl (gI G, xtl k, .inl (M.1 k))
  | 1 => .inl (gJ G, xtl k, .inr (.inl (M.2 k)))
  | 2 => .inl (gZ G, xtl k, .inl (M.1 k))
  | n + 3 => .inr (n, (List.range (xtl k)).map (xfv G M g k))
def xwl (G : xG) (M : xMe) (g : xGh) : va_W := (List.range (xgn g)).map (fun k => (gB G + k, xent G M g k))
def xsI (M : xMe) (k : Nat) (f : Nat → Int32) : xMe := (fun j => if j = k then f else M.1 j, M.2)
def xsL (M : xMe) (k : Nat) (f : Nat → Int64) : xMe := (M.1, fun j => if j = k then f else M.2 j)
def xA (G : xG) : Nat → Prop := fun q => gB G ≤ q
theorem xwl_get {G : xG} {M : xMe} {g : xGh} {k : Nat} (h : k < xgn g) : (xwl G M g)[k]? = some (gB G + k, xent G M g k) := by
  simp [xwl, h]
theorem xwl_len {G : xG} {M : xMe} {g : xGh} : (xwl G M g).length = xgn g := by simp [xwl]
theorem xwl_at {G : xG} {M : xMe} {g : xGh} {k : Nat} {q : Nat × va_E} (h : (xwl G M g)[k]? = some q) : k < xgn g ∧ q = (gB G + k, xent G M g k) := by
  have hl : k < (xwl G M g).length := (List.getElem?_eq_some_iff.mp h).1
  rw [xwl_len] at hl
  exact ⟨hl, Option.some.inj (h.symm.trans (xwl_get hl))⟩
theorem xwl_D {G : xG} {M : xMe} {g : xGh} : va_D (xA G) (xwl G M g) := by
  refine ⟨fun i j p q hi hj hpq => ?_, fun k q hk => ?_⟩
  · obtain ⟨-, rfl⟩ := xwl_at hi
    obtain ⟨-, rfl⟩ := xwl_at hj
    exact Nat.add_left_cancel hpq
  · obtain ⟨-, rfl⟩ := xwl_at hk
    exact Nat.le_add_right _ _
theorem xwl_set {G : xG} {M M' : xMe} {g g' : xGh} {k : Nat} {a : Nat} {e : va_E} (hg : xgn g' = xgn g) (ha : a = gB G + k) (he : e = xent G M' g' k) (ho : ∀ j, j ≠ k → xent G M' g' j = xent G M g j) : (xwl G M g).set k (a, e) = xwl G M' g' := by
  subst ha; subst he
  apply List.ext_getElem?
  intro i
  by_cases hi : i < xgn g
  · by_cases hk : i = k
    · subst hk
      rw [List.getElem?_set_self (by rw [xwl_len]; exact hi), xwl_get (by rw [hg]; exact hi)]
    · rw [List.getElem?_set_ne (Ne.symm hk), xwl_get hi, xwl_get (by rw [hg]; exact hi), ho i hk]
  · rw [List.getElem?_eq_none (by rw [List.length_set, xwl_len]; omega), List.getElem?_eq_none (by rw [xwl_len, hg]; omega)]
theorem xent_sI {G : xG} {M : xMe} {g : xGh} {k : Nat} {f : Nat → Int32} {j : Nat} (h : j ≠ k) : xent G (xsI M k f) g j = xent G M g j := by
  have e1 : (xsI M k f).1 j = M.1 j := by simp [xsI, h]
  have e2 : (xsI M k f).2 = M.2 := rfl
  have e3 : xfv G (xsI M k f) g j = xfv G M g j := by funext i; simp only [xfv, e1]
  unfold xent
  rw [e1, e2, e3]
theorem xent_sL {G : xG} {M : xMe} {g : xGh} {k : Nat} {f : Nat → Int64} {j : Nat} (h : j ≠ k) : xent G (xsL M k f) g j = xent G M g j := by
  have e1 : (xsL M k f).2 j = M.2 j := by simp [xsL, h]
  have e2 : (xsL M k f).1 = M.1 := rfl
  have e3 : xfv G (xsL M k f) g j = xfv G M g j := by funext i; simp only [xfv, e2]
  unfold xent
  rw [e1, e2, e3]
theorem xad_lt {G : xG} {k : Nat} (h : k < 96) : xad G k = gB G + k := by
  unfold xad
  rw [if_neg (by omega), if_neg (by omega)]
theorem xent_i {G : xG} {M : xMe} {g : xGh} {k : Nat} (h : xkd k = 0) : xent G M g k = .inl (gI G, xtl k, .inl (M.1 k)) := by unfold xent; rw [h]
theorem xent_l {G : xG} {M : xMe} {g : xGh} {k : Nat} (h : xkd k = 1) : xent G M g k = .inl (gJ G, xtl k, .inr (.inl (M.2 k))) := by unfold xent; rw [h]
theorem xent_z {G : xG} {M : xMe} {g : xGh} {k : Nat} (h : xkd k = 2) : xent G M g k = .inl (gZ G, xtl k, .inl (M.1 k)) := by unfold xent; rw [h]
theorem xent_o {G : xG} {M : xMe} {g : xGh} {k n : Nat} (h : xkd k = n + 3) : xent G M g k = .inr (n, (List.range (xtl k)).map (xfv G M g k)) := by unfold xent; rw [h]
theorem xsI_s {M : xMe} {k : Nat} {f : Nat → Int32} : (xsI M k f).1 k = f := by simp [xsI]
theorem xsL_s {M : xMe} {k : Nat} {f : Nat → Int64} : (xsL M k f).2 k = f := by simp [xsL]
/-- what the real heap is to the small memory -/
def xRp (G : xG) (M : xMe) (g : xGh) (U : State) (H : Heap) : Prop :=
  va_K (gD G) xcls [(gI G, .int), (gJ G, .long), (gZ G, .boolean)] U ∧ va_P (gD G) xcls (xwl G M g) H ∧ va_X (gb G) (gL G) (gx G) U H ∧ gb G < gB G ∧ va_Z "DataShrinker$OctetSet" "HAVING" "[J" (.ref (gh G)) (xA G) U H ∧ va_T .long (gh G) 6 (fun j => .long (xhv j)) (xA G) U H
theorem xRp.moved {G : xG} {M : xMe} {g : xGh} {u U : State} {H : Heap} (hvm : u.vm.Alike U.vm) (h : xRp G M g u H) : xRp G M g U H := by
  obtain ⟨h1, h2, h4, h5, h6, h7⟩ := h
  exact ⟨va_K.moved hvm h1, h2, va_X.moved hvm h4, h5, va_Z.moved hvm h6, va_T.moved hvm h7⟩
/-- a store into the world: the rest of what is known stays -/
theorem xRp.upd {G : xG} {M M' : xMe} {g g' : xGh} {s : State} {H H1 : Heap} (h : xRp G M g s H) (hP : va_P (gD G) xcls (xwl G M' g') H1) (ho : ∀ q : Nat, q < H.size → ¬ xA G q → H1[q]? = H[q]?) : xRp G M' g' s H1 := by
  obtain ⟨h1, h2, h4, h5, h6, h7⟩ := h
  have hb : gb G < H.size := by
    obtain ⟨scr, hs, -⟩ := h4
    exact (Array.getElem?_eq_some_iff.mp hs).1
  exact ⟨h1, hP, h4.kept (ho _ hb (Nat.not_le.mpr h5)), h5, h6.kept ho, h7.kept ho⟩
/-- while the world is being made: how many cells there are -/
def xSz (G : xG) (g : xGh) (n : Nat) : Prop := match g with
  | none => True
  | some q => n = gB G + q.1
def xQc (G : xG) (Q : Option Value → xMe → xGh → Prop) : Array Value → State → Outcome → State → Prop := fun _ st o t => (∃ (r : Option Value) (M : xMe) (g : xGh), o = .returned (r.map (xcv G)) ∧ Q r M g ∧ xRp G M g t t.heap) ∧ va_F (xA G) st t
def xCx (G : xG) (Y : xMD) (p : Program) (s : State) (m : MethodId) (args : Array Value) (meth : Method) (c : Code) : Prop :=
  p.tables.exec = Jvm.exec ∧ c.code = yB Y ∧ meth.sig.returnType = yT Y ∧ c.maxLocals = yL Y ∧ s.vm.findClass Y.1.cls = some m.cls ∧ (∀ w ∈ xtb, w.before args s = true) ∧ meth.locks = false ∧ meth.name = Y.1.name ∧ gB G ≤ s.heap.size ∧ xNst s
def xlg : xLv → Nat → Option Value
  | [], _ => none
  | a :: _, 0 => a
  | _ :: l, n + 1 => xlg l n
def xLs (G : xG) (ls : Array Slot) (nL : Nat) (lv : xLv) : Prop := ls.size = nL ∧ lv_wf ls ∧ ∀ (i : Nat) (v : Value), xlg lv i = some v → ls[i]? = some (.val (xcv G v))
/-- from this frame on, the method comes to its end with Q -/
def xC (l : Launch) (G : xG) (Y : xMD) (pc : Nat) (lv : xLv) (st : List Value) (M : xMe) (g : xGh) (cn sn : Nat) (Q : Option Value → xMe → xGh → Prop) : Prop :=
  ∀ (p : Program) (e : Env) (s : State) (m : MethodId) (args : Array Value) (below : List Frame) (meth : Method) (c : Code), xCx G Y p s m args meth c → xSz G g (s.heap.size + cn) →
    ∀ (H : Heap) (locs : List Loc) (ls : Array Slot), xRp G M g s H → va_S (xA G) s.heap H locs → xLs G ls (yL Y) lv →
      W p l e (yR Y) s m args below meth c H locs cn sn (MQ below (xQc G Q) args s (yR Y).cells (yR Y).slots (xA G)) (F0 m pc ls (st.map (xcv G)))
def xPr (G : xG) (M : xMe) (g : xGh) (U : State) : Prop := xRp G M g U U.heap ∧ gB G ≤ U.heap.size ∧ xSz G g U.heap.size ∧ xNst U
def xws (Y : xMD) : List Cond := .code Y.1 (yB Y) (yL Y) (yT Y) :: xtb
/-- a method's contract: from these arguments and this memory it returns, with Q -/
def xT (l : Launch) (G : xG) (Y : xMD) (a : List Value) (M : xMe) (g : xGh) (Q : Option Value → xMe → xGh → Prop) : Prop :=
  Met l Y.1 (xws Y) (yR Y) (va_Pc (a.map (xcv G)) (xPr G M g)) (xQc G Q) (yR Y).cells (yR Y).slots (xA G)
def xarg : List Value → xLv
  | [] => []
  | v :: l => match v.category with
    | 2 => some v :: none :: xarg l
    | _ => some v :: xarg l
theorem xcv_cat {G : xG} (v : Value) : (xcv G v).category = v.category := by cases v <;> rfl
theorem xarg_get {G : xG} : ∀ (a : List Value) (n : Nat) (i : Nat) (v : Value), xlg (xarg a) i = some v → (i + n, xcv G v) ∈ lv_args n (a.map (xcv G))
  | [], n, i, v, h => by simp [xarg, xlg] at h
  | w :: a, n, i, v, h => by
    have hc := xcv_cat (G := G) w
    rw [List.map_cons, lv_args]
    unfold xarg at h
    rcases lv_cat w with q | q
    · rw [q] at h hc
      cases i with
      | zero =>
        simp only [xlg] at h
        cases h
        simp
      | succ i =>
        simp only [xlg] at h
        have := xarg_get (G := G) a (n + 1) i v h
        simp [hc]
        rw [show i + 1 + n = i + (n + 1) by omega]
        exact this
    · rw [q] at h hc
      match i, h with
      | 0, h =>
        simp only [xlg] at h
        cases h
        simp
      | 1, h => simp [xlg] at h
      | i + 2, h =>
        simp only [xlg] at h
        have := xarg_get (G := G) a (n + 2) i v h
        simp [hc]
        rw [show i + 2 + n = i + (n + 2) by omega]
        exact this
