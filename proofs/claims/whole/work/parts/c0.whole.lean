/-! THE CLAIM OUT OF ONE WALK OF THE LAW'S BODY. Your part is whole_start (and what it stands on); all else here is the same for every law, but numbers. -/
def R_law : String := "DataShrinkerLaw"
def lw_P (b : Addr) (xs : List Int32) (args : Array Value) (s : State) : Prop := args = #[.ref b] ∧ s.IntsAt b xs ∧ xs.length ≤ 3072 ∧ (Jvm.Cond.and given_1 narrow_1).before args s = true
def lw_Q (_ : Array Value) (s : State) (o : Outcome) (t : State) : Prop := o = .returned (some (.int 1)) ∧ Framed s o t [] 96 54783
def lw_Z (below : List Frame) (a : Array Value) (s : State) : State → Prop := fun t => ∃ o, t.status = .running ∧ Ended t below o ∧ lw_Q a s o t
/-- the law's own end, with 1 on the stack, nothing written that was there before, its room as the claim has it -/
theorem lw_ret {p : Program} {l : Launch} {e : Env} {s : State} {m : MethodId} {below : List Frame} {meth : Method} {c : Code} {b : Nat} (hx : p.tables.exec = Jvm.exec) (hb : c.code = code) (hr : meth.sig.returnType = ret) (hlocks : meth.locks = false) {pc : Nat} {H : Heap} {ls : Array Slot} (hdg : decode code pc = .ok (.ireturn, 1)) : W p l e room_1 s m #[Value.ref b] below meth c H [] 96 54783 (lw_Z below #[Value.ref b] s) (F0 m pc ls [.int 1]) := by
  intro T hT X
  obtain ⟨fs, hret, hrun, hended, hW, hframe⟩ := X.leave (v := some (.int 1)) (hlocks := hlocks) (fun h => by rw [hr] at h; cases h)
  have hmeth' : T.vm.method? m = some meth := X.method'
  refine ⟨T.setFrames fs, ?_, .returned (some (.int 1)), hrun, hended, rfl, ⟨_, rfl⟩, hW, hframe⟩
  jvm_step X.here [X.here.top, hx, hb, hdg, hmeth', hr, ret, narrow_b1]
  (try refine ⟨rfl, ?_⟩); (try refine ⟨rfl, ?_⟩)
  first | (intro acts; rw [hret _ acts rfl rfl rfl]) | rw [hret _ _ rfl rfl rfl]
  exact Steps.refl _
/-- what holds at the law's entry: the machine, the code, the tables' words (any of lw_tbl by 'hts w (by decide +kernel)'), the script of L ints xs at the cell b, what the Statement gives of the start (any of its parts by flat_of_before) -/
def lw_At (p : Program) (s : State) (m : MethodId) (meth : Method) (c : Code) (b L : Nat) (xs : Nat → Int32) : Prop :=
  p.tables.exec = Jvm.exec ∧ c.code = code ∧ meth.sig.returnType = ret ∧ c.maxLocals = 4 ∧ s.vm.findClass R_law = some m.cls ∧ (∀ w ∈ lw_tbl, w.before #[Value.ref b] s = true) ∧ va_X b L xs s s.heap ∧ b < s.heap.size ∧ meth.locks = false ∧ (Jvm.Cond.and given_1 narrow_1).before #[Value.ref b] s = true ∧ meth.name = "law"
-- ===== YOUR PART BEGINS =====
theorem lw_end {s t : State} {o : Outcome} {L : List Loc} (h : FrameEnd s o t L 96 54783) (hL : ∀ q ∈ L, s.heap.size ≤ q.base) : Framed s o t [] 96 54783 :=
  ⟨h.1, h.2.1, h.2.2.weaken (fun y hy hlt => absurd hlt (Nat.not_lt.mpr (hL y hy))) (Nat.le_refl _) (Nat.le_refl _)⟩
set_option maxRecDepth 20000 in
theorem lw_nst : ∀ w ∈ xnst.map (fun q => Cond.methodLinkNest q.1 q.2.1 q.2.2.1 q.2.2.2), w ∈ lw_tbl := xmem [108, 197, 263, 402, 405, 433, 458, 461, 557, 593, 763, 926] rfl
set_option maxRecDepth 20000 in
theorem lw_cls {s : State} {b : Nat} (hts : ∀ w ∈ lw_tbl, w.before #[Value.ref b] s = true) : ∃ (dC : Nat → ClassId) (dI : Nat → Nat → Nat), ∀ (k : Nat) (q : vw_C), xcls[k]? = some q → u_Kn s q.1 q.2.1 q.2.2 (dC k) (dI k) := by
  have hk : ∀ k : Nat, ∃ (cC : ClassId) (iS : Nat → Nat), ∀ q : vw_C, xcls[k]? = some q → u_Kn s q.1 q.2.1 q.2.2 cC iS := by
    intro k
    match k with
    | 0 => obtain ⟨c0, i0, h0⟩ := u_known (C := xR0) (T := xF0) (N := 2) (n := 2) hts xi0 (hts _ (List.mem_of_getElem? (i := 262) rfl)); exact ⟨c0, i0, fun q hq => by cases hq; exact h0⟩
    | 1 => obtain ⟨c0, i0, h0⟩ := u_known (C := xR1) (T := xF1) (N := 2) (n := 2) hts xi1 (hts _ (List.mem_of_getElem? (i := 196) rfl)); exact ⟨c0, i0, fun q hq => by cases hq; exact h0⟩
    | 2 => obtain ⟨c0, i0, h0⟩ := u_known (C := xR2) (T := xF2) (N := 14) (n := 14) hts xi2 (hts _ (List.mem_of_getElem? (i := 256) rfl)); exact ⟨c0, i0, fun q hq => by cases hq; exact h0⟩
    | 3 => obtain ⟨c0, i0, h0⟩ := u_known (C := xR3) (T := xF3) (N := 14) (n := 14) hts xi3 (hts _ (List.mem_of_getElem? (i := 328) rfl)); exact ⟨c0, i0, fun q hq => by cases hq; exact h0⟩
    | 4 => obtain ⟨c0, i0, h0⟩ := u_known (C := xR4) (T := xF4) (N := 15) (n := 15) hts xi4 (hts _ (List.mem_of_getElem? (i := 107) rfl)); exact ⟨c0, i0, fun q hq => by cases hq; exact h0⟩
    | 5 => obtain ⟨c0, i0, h0⟩ := u_known (C := xR5) (T := xF5) (N := 12) (n := 12) hts xi5 (hts _ (List.mem_of_getElem? (i := 190) rfl)); exact ⟨c0, i0, fun q hq => by cases hq; exact h0⟩
    | 6 => obtain ⟨c0, i0, h0⟩ := u_known (C := xR6) (T := xF6) (N := 6) (n := 6) hts xi6 (hts _ (List.mem_of_getElem? (i := 99) rfl)); exact ⟨c0, i0, fun q hq => by cases hq; exact h0⟩
    | 7 => obtain ⟨c0, i0, h0⟩ := u_known (C := xR7) (T := xF7) (N := 59) (n := 59) hts xi7 (hts _ (List.mem_of_getElem? (i := 943) rfl)); exact ⟨c0, i0, fun q hq => by cases hq; exact h0⟩
    | k + 8 =>
      obtain ⟨c0, i0, -⟩ := u_known (C := xR0) (T := xF0) (N := 2) (n := 2) hts xi0 (hts _ (List.mem_of_getElem? (i := 262) rfl))
      exact ⟨c0, i0, fun q hq => by simp [xcls] at hq⟩
  exact ⟨fun k => (hk k).choose, fun k => (hk k).choose_spec.choose, fun k q h => (hk k).choose_spec.choose_spec q h⟩
set_option maxRecDepth 20000 in
theorem lw_arr {s : State} {b : Nat} (hts : ∀ w ∈ lw_tbl, w.before #[Value.ref b] s = true) : ∃ cI cJ cZ : ClassId, ∀ (k : Nat) (q : ClassId × FieldType), [(cI, FieldType.int), (cJ, .long), (cZ, .boolean)][k]? = some q → ArrOfT s q.1 q.2 ∧ va_RA s q.1 q.2 := by
  obtain ⟨cI, kI, pI, f1, f2, f3⟩ := Cond.arrayClass_spec (hts (.arrayClass .int) (List.mem_of_getElem? (i := 186) rfl))
  obtain ⟨cJ, kJ, pJ, g1, g2, g3⟩ := Cond.arrayClass_spec (hts (.arrayClass .long) (List.mem_of_getElem? (i := 188) rfl))
  obtain ⟨cZ, kZ, pZ, h1, h2, h3⟩ := Cond.arrayClass_spec (hts (.arrayClass .boolean) (List.mem_of_getElem? (i := 187) rfl))
  refine ⟨cI, cJ, cZ, fun k q h => ?_⟩
  match k, h with
  | 0, h => cases h; exact ⟨fun n z => ⟨fun k h => (by cases h), kI, f2, pI, f3⟩, f1⟩
  | 1, h => cases h; exact ⟨fun n z => ⟨fun k h => (by cases h), kJ, g2, pJ, g3⟩, g1⟩
  | 2, h => cases h; exact ⟨fun n z => ⟨fun k h => (by cases h), kZ, h2, pZ, h3⟩, h1⟩
  | k + 3, h => simp at h
set_option maxRecDepth 20000 in
theorem lw_hav {s : State} {b : Nat} (hts : ∀ w ∈ lw_tbl, w.before #[Value.ref b] s = true) (hgv : (Jvm.Cond.and given_1 narrow_1).before #[Value.ref b] s = true) : ∃ h : Nat, va_Z "DataShrinker$OctetSet" "HAVING" "[J" (.ref h) (fun q => s.heap.size ≤ q) s s.heap ∧ va_T .long h 6 (fun j => .long (xhv j)) (fun q => s.heap.size ≤ q) s s.heap := by
  have hA : ∀ q : Nat, q < s.heap.size → ¬ s.heap.size ≤ q := fun q h => Nat.not_le.mpr h
  have hfl := flat_of_before _ hgv
  have hel : ∀ j : Nat, j < 6 → (Term.elem (.static "DataShrinker$OctetSet" "HAVING" "[J") (.int (Int32.ofNat j))).eval #[Value.ref b] s none [] s = some (.long (xhv j)) := by
    intro j hj
    match j, hj with
    | 0, _ => exact va_eqtl (hfl (.eq (.elem (.static "DataShrinker$OctetSet" "HAVING" "[J") (.int 0)) (.long (-6148914691236517206))) (by decide +kernel))
    | 1, _ => exact va_eqtl (hfl (.eq (.elem (.static "DataShrinker$OctetSet" "HAVING" "[J") (.int 1)) (.long (-3689348814741910324))) (by decide +kernel))
    | 2, _ => exact va_eqtl (hfl (.eq (.elem (.static "DataShrinker$OctetSet" "HAVING" "[J") (.int 2)) (.long (-1085102592571150096))) (by decide +kernel))
    | 3, _ => exact va_eqtl (hfl (.eq (.elem (.static "DataShrinker$OctetSet" "HAVING" "[J") (.int 3)) (.long (-71777214294589696))) (by decide +kernel))
    | 4, _ => exact va_eqtl (hfl (.eq (.elem (.static "DataShrinker$OctetSet" "HAVING" "[J") (.int 4)) (.long (-281470681808896))) (by decide +kernel))
    | 5, _ => exact va_eqtl (hfl (.eq (.elem (.static "DataShrinker$OctetSet" "HAVING" "[J") (.int 5)) (.long (-4294967296))) (by decide +kernel))
    | j + 6, hj => exact absurd hj (by omega)
  obtain ⟨h, hev, hT⟩ := va_Tof (tm := (.static "DataShrinker$OctetSet" "HAVING" "[J")) (ty := .long) (N := 6) (f := fun j => .long (xhv j)) (A := fun q => s.heap.size ≤ q) (by decide) (hfl (.arrayOf (.static "DataShrinker$OctetSet" "HAVING" "[J") .long) (by decide +kernel)) (va_eqt (hfl (.eq (.length (.static "DataShrinker$OctetSet" "HAVING" "[J")) (.int 6)) (by decide +kernel))) hel hA
  exact ⟨h, va_Zref (hts (.laysStatic "DataShrinker$OctetSet" "HAVING" "[J") (List.mem_of_getElem? (i := 752) rfl)) (hts (.initialized "DataShrinker$OctetSet") (List.mem_of_getElem? (i := 95) rfl)) hev hA, hT⟩
theorem whole_start {p : Program} {e : Env} {s : State} {m : MethodId} {below : List Frame} {meth : Method} {c : Code} (l : Launch) {b L : Nat} {xs : Nat → Int32} (hL : L ≤ 3072) (C0 : lw_At p s m meth c b L xs) : W p l e room_1 s m #[Value.ref b] below meth c s.heap [] 0 0 (lw_Z below #[Value.ref b] s) (entryFrame m ([Value.ref b] : List Value).toArray 4) := by
  obtain ⟨hx, hb, hr, hml, hown, hts, hX, hbl, hlocks, hgv, hnm⟩ := C0
  obtain ⟨dC, dI, hKc⟩ := lw_cls hts
  obtain ⟨cI, cJ, cZ, hAr⟩ := lw_arr hts
  obtain ⟨h, hZ, hT⟩ := lw_hav hts hgv
  have hN : xNst s := fun q hq => va_Nw.of rfl (hts _ (lw_nst _ (List.mem_map_of_mem hq)))
  have hP : va_P (dC, dI) xcls [] s.heap := fun k q h => by simp at h
  have hl := lv_entry ([.ref b]) (n := 4) (Nat.le_of_ble_eq_true rfl)
  rw [lg_entry_eq]
  have key := W_start l (s.heap.size, b, L, xs, h, (dC, dI), cI, cJ, cZ) hL p e s m #[.ref b] below meth c ⟨hx, hb, hr, hml, hown, fun w hw => hts w (List.mem_filter.mp hw).1, hlocks, hnm, Nat.le_refl _, hN⟩ rfl s.heap [] _ ⟨⟨hKc, hAr⟩, hP, hX, hbl, hZ, hT⟩ va_S.rf ⟨hl.1, hl.2.1, fun i v hi => by
    match i, hi with
    | 0, hi => cases hi; exact hl.2.2 (0, .ref b) List.mem_cons_self
    | 1, hi => cases hi
    | 2, hi => cases hi
    | 3, hi => cases hi
    | i + 4, hi => cases hi⟩
  intro T hT1 X
  obtain ⟨t, a1, o, b1, b2, b3, Lc, b4, b5⟩ := key T hT1 X
  refine ⟨t, a1, o, b1, b2, ?_, lw_end b4 b5⟩
  obtain ⟨⟨r, M', g', e1, ⟨-, rfl⟩, -⟩, -⟩ := b3
  exact e1
-- ===== YOUR PART ENDS =====
set_option maxHeartbeats 4000000 in
theorem lw_walk (l : Launch) (b : Addr) (xs : List Int32) : MetFree l x (headSpec (Jvm.Cond.code x code maxLocals ret :: tables_1) room_1) (lw_P b xs) (fun _ _ _ _ _ => True) lw_Q := by
  refine MetFree.of_bodyS (code := code) (maxLocals := maxLocals) (ret := ret) (by decide) ?_ ?_
  · intro args s m h hn
    obtain ⟨meth, c, h1, h2, h3, h4, h5, h6, -, -⟩ := Cond.code_spec hn (atoms_spec (ws := Jvm.Cond.code x code maxLocals ret :: tables_1) h _ List.mem_cons_self)
    exact ⟨meth, c, h1, h2, h3, h4, h5, h6⟩
  · intro p e s m args below meth c s₁ B hml0 hP _
    obtain ⟨rfl, hx, hbd, hgv⟩ := hP
    obtain ⟨scr, harrAt, hlist, hof, hsmall⟩ := hx
    obtain ⟨hcb, hkn, -, -⟩ := State.arrayAt?_spec harrAt
    have hown : s.vm.findClass R_law = some m.cls := findClass_of_methodNamed B.named
    have hts0 : ∀ c ∈ (Jvm.Cond.code x code maxLocals ret :: tables_1), c.before #[Value.ref b] s = true := atoms_spec (ws := Jvm.Cond.code x code maxLocals ret :: tables_1) B.pre
    have hts : ∀ w ∈ lw_tbl, w.before #[Value.ref b] s = true := k2_hts_sels lw_privs (fun w hw => hts0 w (List.mem_cons_of_mem _ hw)) lw_privs_ok
    have hml : c.maxLocals = 4 := B.maxLocals_eq (hts0 _ List.mem_cons_self)
    have X₀ : Stand p l e room_1 s m #[Value.ref b] below meth c s₁ [] 0 0 := Stand.of_body B
    have hh0 : s₁.heap = s.heap := by rw [B.state]; rfl
    have hsz : scr.slots.size = xs.length := by rw [← Array.length_toList, hlist, List.length_map]
    have hval : ∀ j : Nat, j < xs.length → scr.slots[j]? = some (.int (xs.getD j 0)) := fun j hj => by
      rw [← Array.getElem?_toList, hlist]
      simp [hj]
    have hbl : b < s.heap.size := (Array.getElem?_eq_some_iff.mp hcb).1
    have hX : va_X b xs.length (fun j => xs.getD j 0) s s.heap := ⟨scr, hcb, hof, hkn, hsz, hval⟩
    have K : W p l e room_1 s m #[Value.ref b] below meth c s₁.heap [] 0 0 (lw_Z below #[Value.ref b] s) (entryFrame m ([Value.ref b] : List Value).toArray 4) := by
      rw [hh0]
      exact whole_start l hbd ⟨B.exec, B.bytes, B.returns, hml, hown, hts, hX, hbl, B.notSynchronized, hgv, (name_of_methodNamed B.named B.method).1⟩
    obtain ⟨t, a1, o, b1, b2, b3⟩ := K s₁ rfl X₀
    exact ⟨t, o, a1, b1, b2, b3⟩
theorem lw_pre_spec {args : Array Value} {s : State} (h : (Jvm.Cond.and given_1 narrow_1).before args s = true) (hr : rest_1_c.before args s = true) : ∃ (b : Addr) (xs : List Int32), lw_P b xs args s := by
  have hs := flat_of_before _ h
  have hq := flat_of_before _ hr
  have hc : (Cond.count 1).before args s = true := hs _ (by decide +kernel)
  have harr : (Cond.arrayOf (.arg 0) .int).before args s = true := hs _ (by decide +kernel)
  have hle : (Cond.le (.length (.arg 0)) (.int 3072)).before args s = true := hs _ (by decide +kernel)
  have hlen : (Cond.isInt (.length (.arg 0))).before args s = true := hq _ (by decide +kernel)
  have hall : (Cond.all (.arg 0) (.isInt (.elem (.arg 0) (.index 0)))).before args s = true := hq _ (by decide +kernel)
  obtain ⟨b, xs, hb, hx⟩ := State.ints_of_pre rfl harr hlen hall
  have hsm : xs.length < 2 ^ 31 := hx.choose_spec.2.2.2
  have hev : (Term.length (.arg 0)).eval args s none [] s = some (.int xs.length.toInt32) := hx.length_eval hb
  have hv := Cond.le_ints hev (show (Term.int 3072).eval args s none [] s = some (.int 3072) from rfl)
  have hd : xs.length.toInt32 ≤ 3072 := by
    simpa [Cond.before, Cond.holds, hv] using hle
  have hN : xs.length ≤ 3072 := (Int32.ofNat_le_ofNat hsm (by decide)).mp (show Int32.ofNat xs.length ≤ Int32.ofNat 3072 from hd)
  exact ⟨b, xs, Cond.one_arg hc (show args[0]? = some (.ref b) from hb), hx, hN, h⟩
theorem lw_comes (l : Launch) : Comes l x (Jvm.Cond.code x code maxLocals ret :: tables_1) room_1 (fun tb e args s => Calls_1 tb e args s ∧ rest_1 tb e args s ∧ Pre_1 tb e args s)
    (fun _ _ args s o t => lw_Q args s o t) := by
  intro p e ha hc hk s m args below hf hfit hheap happ hpre
  obtain ⟨b, xs, hP⟩ := lw_pre_spec hpre.2.2 hpre.2.1
  obtain ⟨k, o, h1, h2, h3, hQ⟩ := lw_walk l b xs p e ha hc hk s m args below hf ((Spec.applies_iff_loose hf).mp happ).1 hP trivial
  exact ⟨k, o, h1, h2, h3, hQ⟩
theorem lw_frame {s t : State} {o : Outcome} {args : Array Value} (h : Framed s o t [] 96 54783) :
    Framed s o t (fieldLocs frame_1_writes args s ++ arrayLocs frame_1_arrays args s ++ staticLocs frame_1_statics s) 96 54783 := h
theorem lw_limb (L : Cond) (hL : ∀ (args : Array Value) (s t : State), L.after args s (.returned (some (.int 1))) t = true) :
    ArmFor flags0 classFile x code maxLocals ret World_1 tables_1 room_1 Calls_1 rest_1 Pre_1
      (fun tb e a s o t => postC L tb e a s o t ∧ Framed s o t (fieldLocs frame_1_writes a s ++ arrayLocs frame_1_arrays a s ++ staticLocs frame_1_statics s) 96 54783) := by
  intro l _ _ _ p e ha hc hk s m args below hf hfit hheap happ hpre
  obtain ⟨k, o, h1, h2, h3, rfl, hF⟩ := lw_comes l p e ha hc hk s m args below hf hfit hheap happ hpre
  exact ⟨k, _, h1, h2, h3, hL args s _, lw_frame hF⟩
theorem i_vc : Claimed_1_1 ∧ Claimed_1_2 := ⟨lw_limb limb_1_1 (fun args s t => by simp [limb_1_1, Cond.after, Cond.holds, Cond.value]), lw_limb limb_1_2 (fun args s t => Cond.after_iff.mpr (by
  first | (rw [show limb_1_2 = Cond.eq .result (.int 1) from rfl, Cond.eq_ints (x := 1) (y := 1) rfl rfl]; simp; done) | (simp [limb_1_2, Cond.value, Term.eval]; done)))⟩
