/-! Contracts and calls -/
theorem xsl_len {G : xG} : ∀ a : List Value, (lg_sl (a.map (xcv G))).length = (xarg a).length
  | [] => rfl
  | v :: a => by
    have ih := xsl_len (G := G) a
    unfold lg_sl at ih ⊢
    rw [List.map_cons, List.flatMap_cons, List.length_append, ih, xcv_cat]
    rcases lv_cat v with q | q
    · have e : xarg (v :: a) = some v :: xarg a := by
        show (match v.category with | 2 => some v :: none :: xarg a | _ => some v :: xarg a) = _
        rw [q]
        rfl
      rw [e]
      simp [q]
      omega
    · have e : xarg (v :: a) = some v :: none :: xarg a := by
        show (match v.category with | 2 => some v :: none :: xarg a | _ => some v :: xarg a) = _
        rw [q]
        rfl
      rw [e]
      simp [q]
      omega
theorem xT_of {l : Launch} {G : xG} {Y : xMD} {a : List Value} {M : xMe} {g : xGh} {Q : Option Value → xMe → xGh → Prop} (hpl : plainName Y.1.cls = true) (hlen : (xarg a).length ≤ yL Y) (h : xC l G Y 0 (xarg a) [] M g 0 0 Q) : xT l G Y a M g Q := by
  refine Met.ofW (cc := yB Y) (maxL := yL Y) (ret := yT Y) hpl rfl ?_
  intro p e s m args below meth c s₁ B hml hv
  obtain ⟨rfl, hR, hb, hz, hN⟩ := hv
  have hl := lv_entry (a.map (xcv G)) (n := yL Y) (by rw [xsl_len]; exact hlen)
  have hts := atoms_spec (ws := xws Y) B.pre
  rw [lg_entry_eq]
  exact h p e s m _ below meth c ⟨B.exec, B.bytes, B.returns, hml, findClass_of_methodNamed B.named, fun w hw => hts w (List.mem_cons_of_mem _ hw), B.notSynchronized, (name_of_methodNamed B.named B.method).1, hb, hN⟩ hz s.heap [] _ hR va_S.rf ⟨hl.1, hl.2.1, fun i v hi => hl.2.2 _ (xarg_get a 0 i v hi)⟩
theorem xlw_good : ∀ w ∈ xtb, (w.onTables && w.keeps) = true ∨ ∃ ty, w = .arrayClass ty := fun w hw => good_of_word (List.mem_filter.mp hw).2
theorem xgood {Z : xMD} (hc : Cond.code Z.1 (yB Z) (yL Z) (yT Z) ∈ xtb) : GoodIn xtb (xws Z) := by
  intro w hw
  rcases List.mem_cons.mp hw with h | h
  · subst h
    exact ⟨hc, xlw_good _ hc⟩
  · exact ⟨h, xlw_good _ h⟩
/-- what is the same for every call of Z -/
abbrev xZ (Z : xMD) (n : Nat) : Prop := Cond.initialized Z.1.cls ∈ xtb ∧ Cond.code Z.1 (yB Z) (yL Z) (yT Z) ∈ xtb ∧ Z.1.cls ≠ "java/lang/invoke/MethodHandle" ∧ Z.1.cls ≠ "java/lang/invoke/VarHandle" ∧ (parseMethodDescriptor Z.1.desc).map (fun d => d.parameters.length) = some n
abbrev xLk (cls : String) (i : Nat) (y : MethodName) : Prop := Cond.methodLink cls i y ∈ xtb ∨ ∃ host, (cls, i, y, host) ∈ xnst
abbrev xRm (Y Z : xMD) : Prop := (yR Z).frames + 1 ≤ (yR Y).frames ∧ 8 + (yL Z + 11) + (yR Z).locals ≤ (yR Y).locals
theorem xsz {p : Program} {l : Launch} {e : Env} {R : Room} {s : State} {m : MethodId} {args : Array Value} {below : List Frame} {meth : Method} {c : Code} {T : State} {locs : List Loc} {cn sn : Nat} {G : xG} {M : xMe} {g : xGh} (X : Stand p l e R s m args below meth c T locs cn sn) (hz : xSz G g (s.heap.size + cn)) (hb : gB G ≤ s.heap.size) (hP : va_P (gD G) xcls (xwl G M g) T.heap) (hS : va_S (xA G) s.heap T.heap locs) : xSz G g T.heap.size := by
  cases g with
  | none => trivial
  | some q =>
    have h1 := X.heapSize
    have h2 : s.heap.size + cn = gB G + q.1 := hz
    have h3 := hS.1
    show T.heap.size = gB G + q.1
    rcases Nat.eq_zero_or_pos q.1 with h0 | h0
    · omega
    · have h4 := (hP (q.1 - 1) _ (xwl_get (g := some q) (show q.1 - 1 < q.1 by omega))).lt
      have h5 : gB G + (q.1 - 1) < T.heap.size := h4
      omega
theorem xW_of {p : Program} {l : Launch} {e : Env} {R : Room} {s : State} {m : MethodId} {args : Array Value} {below : List Frame} {meth : Method} {c : Code} {H : Heap} {locs : List Loc} {cn sn : Nat} {Q : State → Prop} {g : JFrame} (h : ∀ T : State, T.heap = H → Stand p l e R s m args below meth c T locs cn sn → W p l e R s m args below meth c H locs cn sn Q g) : W p l e R s m args below meth c H locs cn sn Q g := fun T hT X => h T hT X T hT X
section XR
variable {p : Program} {l : Launch} {e : Env} {R : Room} {s : State} {m : MethodId} {args : Array Value} {below : List Frame} {meth : Method} {c : Code} {H : Heap} {locs : List Loc} {cells slots : Nat} {Q : State → Prop}
theorem xrun {G : xG} {pc : Nat} {ls : Array Slot} {st0 rest : List Value} {mc ms : Nat} {Q1 : Option Value → xMe → xGh → Prop} {a : Array Value} (hr : va_Run p l e R s m args below meth c H locs cells slots mc ms (F0 m pc ls st0) rest (xQc G Q1 a) (xA G)) (hS : va_S (xA G) s.heap H locs)
    (kk : ∀ (r : Option Value) (M' : xMe) (g' : xGh) (H1 : Heap) (locs1 : List Loc), Q1 r M' g' → xRp G M' g' s H1 → va_S (xA G) s.heap H1 locs1 → W p l e R s m args below meth c H1 locs1 (cells + mc) (slots + ms) Q (F0 m (pc + 3) ls ((r.map (xcv G)).toList ++ rest))) : W p l e R s m args below meth c H locs cells slots Q (F0 m pc ls st0) := by
  intro T hT X
  obtain ⟨v, st₀, t, T', L, h0, X', hL, e1, e2, ⟨⟨r, M', g', hv, hq, hR'⟩, hz, hk⟩, st⟩ := hr T hT X
  cases hv
  rw [h0] at hz hk
  have hR2 : xRp G M' g' s T'.heap := by
    rw [e1]
    exact hR'.moved (by rw [← e2]; exact X'.warmed.alike.symm)
  obtain ⟨t2, a1, b1⟩ := kk r M' g' T'.heap (locs ++ L) hq hR2 ⟨Nat.le_trans hS.1 (by rw [e1]; exact hz), fun q h1 h2 => by rw [e1, hk q (Nat.lt_of_lt_of_le h1 hS.1) h2]; exact hS.2.1 q h1 h2, fun q hq => by
      rcases List.mem_append.mp hq with h | h
      · exact hS.2.2 q h
      · exact hL q h⟩ T' rfl X'
  exact ⟨t2, st t2 a1, b1⟩
end XR
theorem xmap_cat {G : xG} (r : List Value) : ((r.map (xcv G)).map fun v => v.category).sum = (r.map fun v => v.category).sum := by
  rw [List.map_map]
  congr 1
  apply List.map_congr_left
  intro v _
  exact xcv_cat v
theorem xblind {G : xG} {a : List Value} {M : xMe} {g : xGh} : FrameBlind (va_Pc (a.map (xcv G)) (xPr G M g)) := by
  intro v U f mk h
  obtain ⟨h1, h2, h3, h4, h5⟩ := h
  exact ⟨h1, xRp.moved (u := U) (U := U.calling f mk v) (Vm.Alike.refl U.vm) h2, h3, h4, xNst.same (u := U) (U := U.calling f mk v) rfl h5⟩
theorem xtoL {G : xG} (r : Option Value) (rest : List Value) : (r.map (xcv G)).toList ++ rest.map (xcv G) = (r.toList ++ rest).map (xcv G) := by cases r <;> simp
theorem xpay {args : Array Value} {s : State} {Z : xMD} (ht : ∀ w ∈ xtb, w.before args s = true) (hc : Cond.code Z.1 (yB Z) (yL Z) (yT Z) ∈ xtb) : ∀ w ∈ xws Z, ∀ (a' : Array Value) (U : State), s.WarmedH U.vm → w.before a' U = true := fun w hw a' U hW => word_at hW (xgood hc w hw).2 (ht w (xgood hc w hw).1)
section XK
variable {l : Launch} {G : xG} {Y Z : xMD} {pc : Nat} {lv : xLv} {st r : List Value} {M : xMe} {g : xGh} {cn sn : Nat} {Q Q1 : Option Value → xMe → xGh → Prop}
/-- a new object's place while the world is made -/
def xSz2 (g g' : xGh) (mc : Nat) : Prop := match g, g' with
  | none, none => True
  | some q, some q' => q'.1 = q.1 + mc
  | _, _ => False
theorem xSz_call {G : xG} {g g' : xGh} {n cn mc : Nat} (h : xSz G g (n + cn)) (h2 : xSz2 g g' mc) : xSz G g' (n + (cn + mc)) := by
  cases g with
  | none =>
    cases g' with
    | none => trivial
    | some q => exact h2.elim
  | some q =>
    cases g' with
    | none => exact h2.elim
    | some q' =>
      have h1 : n + cn = gB G + q.1 := h
      have h3 : q'.1 = q.1 + mc := h2
      show n + (cn + mc) = gB G + q'.1
      omega
theorem xc_callS (a : List Value) {i n : Nat} (hZ : xZ Z n) (hst : Cond.static Z.1 ∈ xtb) (hlk : xLk Y.1.cls i Z.1) (hn : a.length = n) (hrm : xRm Y Z) (hr : (r.map fun v => v.category).sum ≤ 8) (hf : cn + (yR Z).cells ≤ (yR Y).cells ∧ sn + (yR Z).slots ≤ (yR Y).slots) (hs : st = a.reverse ++ r) (hd : decode (yB Y) pc = .ok (.invokestatic i, 3)) (hT : xT l G Z a M g Q1)
    (h : ∀ v M' g', Q1 v M' g' → xSz2 g g' (yR Z).cells ∧ xC l G Y (pc + 3) lv (v.toList ++ r) M' g' (cn + (yR Z).cells) (sn + (yR Z).slots) Q) : xC l G Y pc lv st M g cn sn Q := by
  intro p e s m args below meth c hx hz H locs ls hR hS hl
  obtain ⟨z1, z2, z3, z4, z5⟩ := hZ
  have hts := hx.2.2.2.2.2.1
  subst hs
  refine xW_of (fun T hT0 X => ?_)
  have hsz := xsz X hz hx.2.2.2.2.2.2.2.2.1 (by rw [hT0]; exact hR.2.1) (by rw [hT0]; exact hS)
  rw [hT0] at hsz
  have hp : PreS s H (va_Pc (a.map (xcv G)) (xPr G M g)) (a.map (xcv G)) :=
    ⟨xblind, fun U hU hW => ⟨rfl, by rw [hU]; exact hR.moved hW.alike, by rw [hU]; exact Nat.le_trans hx.2.2.2.2.2.2.2.2.1 hS.1, by rw [hU]; exact hsz, hx.2.2.2.2.2.2.2.2.2.warm hW⟩⟩
  have hlenD : ∀ sig, parseMethodDescriptor Z.1.desc = some sig → n = sig.parameters.length := fun sig h => by
    have h2 := z5
    rw [h] at h2
    exact (Option.some.inj h2).symm
  have hrun : va_Run p l e (yR Y) s m args below meth c H locs cn sn (yR Z).cells (yR Z).slots (F0 m pc ls ((a.reverse ++ r).map (xcv G))) (r.map (xcv G)) (xQc G Q1 (a.map (xcv G)).toArray) (xA G) := by
    rcases hlk with hlk | ⟨host, hlk⟩
    · exact va_runS (own := Y.1.cls) (nL := yL Y) (Ts := xtb) ⟨hx.1, hx.2.1, hx.2.2.2.1, hx.2.2.2.2.1, hts⟩ hT ⟨⟨rfl, rfl, hrm.1, hrm.2, xpay hts z2, List.mem_cons_self, hts _ z2, hts _ z1, ⟨z3, z4⟩, hlenD, hts _ hlk⟩, hts _ hst⟩ hp rfl (by rw [List.length_map]; exact hn) hl.1 (by show (a.reverse ++ r).map (xcv G) = _; rw [List.map_append, List.map_reverse]) (lv_room (by rw [xmap_cat]; exact hr)) hd hf
    · exact va_runSN (own := Y.1.cls) (nL := yL Y) (Ts := xtb) ⟨hx.1, hx.2.1, hx.2.2.2.1, hx.2.2.2.2.1, hts⟩ hT ⟨⟨⟨rfl, rfl, hrm.1, hrm.2, xpay hts z2, List.mem_cons_self⟩, hts _ z2, hts _ z1, ⟨z3, z4⟩, hlenD, va_Nw.use rfl (hx.2.2.2.2.2.2.2.2.2 _ hlk)⟩, hts _ hst, trivial⟩ hp rfl (by rw [List.length_map]; exact hn) hl.1 (by show (a.reverse ++ r).map (xcv G) = _; rw [List.map_append, List.map_reverse]) (lv_room (by rw [xmap_cat]; exact hr)) hd hf
  refine xrun hrun hS (fun v M' g' H1 locs1 hq hR1 hS1 => ?_)
  rw [xtoL]
  exact (h v M' g' hq).2 p e s m args below meth c hx (xSz_call hz (h v M' g' hq).1) H1 locs1 ls hR1 hS1 hl
theorem xc_callV (a : List Value) {i n k ci : Nat} (hZ : xZ Z n) (hin : Cond.instanceMethod Z.1 ∈ xtb) (hse : Cond.selects Z.1.cls Z.1 Z.1 ∈ xtb) (hlk : xLk Y.1.cls i Z.1) (hn : a.length = n) (hrm : xRm Y Z) (hr : (r.map fun v => v.category).sum ≤ 8) (hf : cn + (yR Z).cells ≤ (yR Y).cells ∧ sn + (yR Z).slots ≤ (yR Y).slots) (hk : xkd k = ci + 3) (hci : (xcls[ci]?).map (fun q => q.1) = some Z.1.cls) (hg : k < xgn g) (hs : st = a.reverse ++ .ref k :: r) (hd : decode (yB Y) pc = .ok (.invokevirtual i, 3)) (hT : xT l G Z (.ref k :: a) M g Q1)
    (h : ∀ v M' g', Q1 v M' g' → xSz2 g g' (yR Z).cells ∧ xC l G Y (pc + 3) lv (v.toList ++ r) M' g' (cn + (yR Z).cells) (sn + (yR Z).slots) Q) : xC l G Y pc lv st M g cn sn Q := by
  intro p e s m args below meth c hx hz H locs ls hR hS hl
  obtain ⟨z1, z2, z3, z4, z5⟩ := hZ
  have hts := hx.2.2.2.2.2.1
  subst hs
  refine xW_of (fun T hT0 X => ?_)
  have hsz := xsz X hz hx.2.2.2.2.2.2.2.2.1 (by rw [hT0]; exact hR.2.1) (by rw [hT0]; exact hS)
  rw [hT0] at hsz
  obtain ⟨q, hq, hqc⟩ : ∃ q, xcls[ci]? = some q ∧ q.1 = Z.1.cls := by
    cases hq : xcls[ci]? with
    | none => rw [hq] at hci; cases hci
    | some q => rw [hq] at hci; exact ⟨q, rfl, Option.some.inj hci⟩
  have hk96 := xkd_obj hk (xci_lt hq)
  have he := xwl_get (G := G) (M := M) hg
  rw [xent_o hk] at he
  have hcell := va_recv hR.1 hR.2.1 hq he
  rw [hqc] at hcell
  have hp : PreV s H Z.1.cls (gB G + k) (va_Pc ((Value.ref k :: a).map (xcv G)) (xPr G M g)) (a.map (xcv G)) :=
    ⟨xblind, hcell, fun U hU hW => ⟨by rw [List.map_cons]; show _ = (Value.ref (xad G k) :: _).toArray; rw [xad_lt hk96], by rw [hU]; exact hR.moved hW.alike, by rw [hU]; exact Nat.le_trans hx.2.2.2.2.2.2.2.2.1 hS.1, by rw [hU]; exact hsz, hx.2.2.2.2.2.2.2.2.2.warm hW⟩⟩
  have hlenD : ∀ sig, parseMethodDescriptor Z.1.desc = some sig → n = sig.parameters.length := fun sig h => by
    have h2 := z5
    rw [h] at h2
    exact (Option.some.inj h2).symm
  have hstk : (a.reverse ++ .ref k :: r).map (xcv G) = (a.map (xcv G)).reverse ++ .ref (gB G + k) :: r.map (xcv G) := by
    rw [List.map_append, List.map_reverse, List.map_cons]
    show _ ++ Value.ref (xad G k) :: _ = _
    rw [xad_lt hk96]
  have hrun : va_Run p l e (yR Y) s m args below meth c H locs cn sn (yR Z).cells (yR Z).slots (F0 m pc ls ((a.reverse ++ .ref k :: r).map (xcv G))) (r.map (xcv G)) (xQc G Q1 (Value.ref (gB G + k) :: a.map (xcv G)).toArray) (xA G) := by
    rcases hlk with hlk | ⟨host, hlk⟩
    · exact va_runV (own := Y.1.cls) (nL := yL Y) (Ts := xtb) ⟨hx.1, hx.2.1, hx.2.2.2.1, hx.2.2.2.2.1, hts⟩ hT ⟨⟨rfl, rfl, hrm.1, hrm.2, xpay hts z2, List.mem_cons_self, hts _ z2, hts _ z1, ⟨z3, z4⟩, hlenD, hts _ hlk⟩, hts _ hin, hts _ hse⟩ hp rfl (by rw [List.length_map]; exact hn) hl.1 hstk (lv_room (by rw [xmap_cat]; exact hr)) hd hf
    · exact va_runVN (own := Y.1.cls) (nL := yL Y) (Ts := xtb) ⟨hx.1, hx.2.1, hx.2.2.2.1, hx.2.2.2.2.1, hts⟩ hT ⟨⟨⟨rfl, rfl, hrm.1, hrm.2, xpay hts z2, List.mem_cons_self⟩, hts _ z2, hts _ z1, ⟨z3, z4⟩, hlenD, va_Nw.use rfl (hx.2.2.2.2.2.2.2.2.2 _ hlk)⟩, hts _ hin, hts _ hse⟩ hp rfl (by rw [List.length_map]; exact hn) hl.1 hstk (lv_room (by rw [xmap_cat]; exact hr)) hd hf
  refine xrun hrun hS (fun v M' g' H1 locs1 hq hR1 hS1 => ?_)
  rw [xtoL]
  exact (h v M' g' hq).2 p e s m args below meth c hx (xSz_call hz (h v M' g' hq).1) H1 locs1 ls hR1 hS1 hl
theorem xc_callI (a : List Value) {i n k : Nat} (hZ : xZ Z n) (hret : yT Z = none) (hnm : Z.1.name = "<init>") (hin : Cond.instanceMethod Z.1 ∈ xtb) (hlk : xLk Y.1.cls i Z.1) (hn : a.length = n) (hrm : xRm Y Z) (hr : (r.map fun v => v.category).sum ≤ 8) (hf : cn + (yR Z).cells ≤ (yR Y).cells ∧ sn + (yR Z).slots ≤ (yR Y).slots) (hs : st = a.reverse ++ .ref k :: r) (hd : decode (yB Y) pc = .ok (.invokespecial i, 3)) (hT : xT l G Z (.ref k :: a) M g Q1)
    (h : ∀ v M' g', Q1 v M' g' → xSz2 g g' (yR Z).cells ∧ xC l G Y (pc + 3) lv (v.toList ++ r) M' g' (cn + (yR Z).cells) (sn + (yR Z).slots) Q) : xC l G Y pc lv st M g cn sn Q := by
  intro p e s m args below meth c hx hz H locs ls hR hS hl
  obtain ⟨z1, z2, z3, z4, z5⟩ := hZ
  have hts := hx.2.2.2.2.2.1
  subst hs
  refine xW_of (fun T hT0 X => ?_)
  have hsz := xsz X hz hx.2.2.2.2.2.2.2.2.1 (by rw [hT0]; exact hR.2.1) (by rw [hT0]; exact hS)
  rw [hT0] at hsz
  have hp : PreS s H (va_Pc ((Value.ref k :: a).map (xcv G)) (xPr G M g)) (.ref (xad G k) :: a.map (xcv G)) :=
    ⟨xblind, fun U hU hW => ⟨rfl, by rw [hU]; exact hR.moved hW.alike, by rw [hU]; exact Nat.le_trans hx.2.2.2.2.2.2.2.2.1 hS.1, by rw [hU]; exact hsz, hx.2.2.2.2.2.2.2.2.2.warm hW⟩⟩
  have hlenD : ∀ sig, parseMethodDescriptor Z.1.desc = some sig → n = sig.parameters.length := fun sig h => by
    have h2 := z5
    rw [h] at h2
    exact (Option.some.inj h2).symm
  have hstk : (a.reverse ++ .ref k :: r).map (xcv G) = (a.map (xcv G)).reverse ++ .ref (xad G k) :: r.map (xcv G) := by
    rw [List.map_append, List.map_reverse, List.map_cons]
    rfl
  have hc2 : Cond.code Z.1 (yB Z) (yL Z) none ∈ xws Z := by
    have : Cond.code Z.1 (yB Z) (yL Z) (yT Z) ∈ xws Z := List.mem_cons_self
    rw [hret] at this
    exact this
  have hc3 : Cond.code Z.1 (yB Z) (yL Z) none ∈ xtb := by rw [← hret]; exact z2
  have hrun : va_Run p l e (yR Y) s m args below meth c H locs cn sn (yR Z).cells (yR Z).slots (F0 m pc ls ((a.reverse ++ .ref k :: r).map (xcv G))) (r.map (xcv G)) (xQc G Q1 (Value.ref (xad G k) :: a.map (xcv G)).toArray) (xA G) := by
    rcases hlk with hlk | ⟨host, hlk⟩
    · exact va_runI (own := Y.1.cls) (nL := yL Y) (Ts := xtb) ⟨hx.1, hx.2.1, hx.2.2.2.1, hx.2.2.2.2.1, hts⟩ hT ⟨⟨rfl, rfl, hrm.1, hrm.2, xpay hts z2, hc2, hts _ hc3, hts _ z1, ⟨z3, z4⟩, hlenD, hts _ hlk⟩, hnm, hts _ hin⟩ hp rfl (by rw [List.length_map]; exact hn) hl.1 hstk (lv_room (by rw [xmap_cat]; exact hr)) hd hf
    · exact va_runIN (own := Y.1.cls) (nL := yL Y) (Ts := xtb) ⟨hx.1, hx.2.1, hx.2.2.2.1, hx.2.2.2.2.1, hts⟩ hT ⟨⟨⟨rfl, rfl, hrm.1, hrm.2, xpay hts z2, hc2⟩, hts _ hc3, hts _ z1, ⟨z3, z4⟩, hlenD, va_Nw.use rfl (hx.2.2.2.2.2.2.2.2.2 _ hlk)⟩, hnm, hts _ hin⟩ hp rfl (by rw [List.length_map]; exact hn) hl.1 hstk (lv_room (by rw [xmap_cat]; exact hr)) hd hf
  refine xrun hrun hS (fun v M' g' H1 locs1 hq hR1 hS1 => ?_)
  rw [xtoL]
  exact (h v M' g' hq).2 p e s m args below meth c hx (xSz_call hz (h v M' g' hq).1) H1 locs1 ls hR1 hS1 hl
end XK
