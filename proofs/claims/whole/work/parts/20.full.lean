/-! All made: the machine as the methods use it -/
def xF (l : Launch) (G : xG) (Y : xMD) (pc : Nat) (lv : xLv) (st : List Value) (M : xMe) (Q : Option Value → xMe → Prop) : Prop := xC l G Y pc lv st M none 0 0 (fun r M' g' => g' = none ∧ Q r M')
def xE (l : Launch) (G : xG) (Y : xMD) (a : List Value) (M : xMe) (Q : Option Value → xMe → Prop) : Prop := xT l G Y a M none (fun r M' g' => g' = none ∧ Q r M')
/-- the method's start by its name, not its class's -/
theorem xT_off {l : Launch} {G : xG} {Y : xMD} {a : List Value} {M : xMe} {g : xGh} {Q : Option Value → xMe → xGh → Prop} (hpl : plainFor Y.1 = true) (hlen : (xarg a).length ≤ yL Y) (h : xC l G Y 0 (xarg a) [] M g 0 0 Q) : xT l G Y a M g Q := by
  unfold xT Met
  refine MetFree.of_bodySF (code := yB Y) (maxLocals := yL Y) (ret := yT Y) hpl ?_ ?_
  · intro args s m h hn
    obtain ⟨meth, c, h1, h2, h3, h4, h5, h6, -, -⟩ := Cond.code_spec hn (atoms_spec (ws := xws Y) h _ List.mem_cons_self)
    exact ⟨meth, c, h1, h2, h3, h4, h5, h6⟩
  · intro p e s m args below meth c s₁ B hml hP _
    obtain ⟨rfl, hR, hb, hz, hN⟩ := hP
    have hl := lv_entry (a.map (xcv G)) (n := yL Y) (by rw [xsl_len]; exact hlen)
    have hts := atoms_spec (ws := xws Y) B.pre
    have hh0 : s₁.heap = s.heap := by rw [B.state]; rfl
    have hW := h p e s m (a.map (xcv G)).toArray below meth c ⟨B.exec, B.bytes, B.returns, hml, findClass_of_methodNamed B.named, fun w hw => hts w (List.mem_cons_of_mem _ hw), B.notSynchronized, (name_of_methodNamed B.named B.method).1, hb, hN⟩ hz s.heap [] _ hR va_S.rf ⟨hl.1, hl.2.1, fun i v hi => hl.2.2 _ (xarg_get a 0 i v hi)⟩
    obtain ⟨t, a1, o, b1, b2, b3⟩ := hW s₁ hh0 (Stand.of_body B)
    refine ⟨t, o, ?_, b1, b2, ⟨b3.1, b3.2⟩⟩
    rw [lg_entry_eq]
    exact a1
def xpd : Nat → xLv → xLv
  | 0, _ => []
  | n + 1, [] => none :: xpd n []
  | n + 1, a :: l => a :: xpd n l
theorem xpd_get : ∀ (n : Nat) (l : xLv) (i : Nat) (v : Value), xlg (xpd n l) i = some v → xlg l i = some v
  | 0, _, _, _, h => by simp [xpd, xlg] at h
  | n + 1, [], 0, _, h => by simp [xpd, xlg] at h
  | n + 1, [], i + 1, v, h => by
    have := xpd_get n [] i v h
    simp [xlg] at this
  | n + 1, a :: l, 0, v, h => h
  | n + 1, a :: l, i + 1, v, h => xpd_get n l i v h
theorem xE_of {l : Launch} {G : xG} {Y : xMD} {a : List Value} {M : xMe} {Q : Option Value → xMe → Prop} (lv : xLv) (hpl : plainFor Y.1 = true) (hlen : (xarg a).length ≤ yL Y) (hlv : xpd (yL Y) (xarg a) = lv) (h : xF l G Y 0 lv [] M Q) : xE l G Y a M Q := by
  subst hlv
  exact xT_off hpl hlen (xc_lv (fun i v hi => xpd_get _ _ i v hi) h)
theorem xF_go {l : Launch} {G : xG} {Y : xMD} {k : xK} {all : List xRw} (ok : xOK Y k all) (stops : List Nat) (n : Nat) {pc : Nat} {lv : xLv} {st : List Value} {M : xMe} {Q : Option Value → xMe → Prop} (h : ∀ K : Nat → xLv → List Value → xMe → Prop, (∀ pc lv st M, xF l G Y pc lv st M Q → K pc lv st M) → xwp G (yL Y) all stops n (xjmp all pc) lv st M K) : xF l G Y pc lv st M Q := by
  have h1 := h (fun pc lv st M => xF l G Y pc lv st M Q) (fun _ _ _ _ z => z)
  cases hj : xjmp all pc with
  | nil =>
    rw [hj] at h1
    cases n <;> exact h1.elim
  | cons r rs =>
    rw [hj] at h1
    obtain ⟨r', t', e, hC⟩ := xwp_ok ok n _ _ _ _ _ (xchk_jmp _ _ _ _ ok.2 hj) (fun _ _ _ _ z => z) h1
    cases e
    rw [xjmp_hd _ _ _ _ hj] at hC
    exact hC
/-- the instruction at a place -/
def xat (all : List xRw) (pc : Nat) : Option Instr := match xjmp all pc with
  | r :: _ :: _ => some r.2.1
  | _ => none
theorem xat_dec {Y : xMD} {k : xK} {all : List xRw} (ok : xOK Y k all) {pc : Nat} {ins : Instr} (h : xat all pc = some ins) (hs : xissw ins = false) : decode (yB Y) pc = .ok (ins, xlen ins) := by
  unfold xat at h
  split at h
  · rename_i r r2 rs hj
    have hc := xchk_jmp _ _ _ _ ok.2 hj
    have e1 := xjmp_hd _ _ _ _ hj
    obtain ⟨p, i, a1, a2, v⟩ := r
    cases h
    subst e1
    exact (xchk_n hc hs).1
  · cases h
section XX
variable {l : Launch} {G : xG} {Y Z : xMD} {k : xK} {all : List xRw} {pc : Nat} {lv : xLv} {st r : List Value} {M : xMe} {Q Q1 : Option Value → xMe → Prop}
theorem xF_iret {x : Int32} (ok : xOK Y k all) (hi : xat all pc = some .ireturn) (ht : yT Y = some .int) (h : Q (some (.int x)) M) : xF l G Y pc lv [.int x] M Q := xc_iret ht (Nat.zero_le _) (Nat.zero_le _) (xat_dec ok hi rfl) ⟨rfl, h⟩
theorem xF_zret {x : Int32} (ok : xOK Y k all) (hi : xat all pc = some .ireturn) (ht : yT Y = some .boolean) (hb : x = 0 ∨ x = 1) (h : Q (some (.int x)) M) : xF l G Y pc lv [.int x] M Q := xc_zret ht hb (Nat.zero_le _) (Nat.zero_le _) (xat_dec ok hi rfl) ⟨rfl, h⟩
theorem xF_lret {x : Int64} (ok : xOK Y k all) (hi : xat all pc = some .lreturn) (ht : yT Y = some .long) (h : Q (some (.long x)) M) : xF l G Y pc lv [.long x] M Q := xc_lret ht (Nat.zero_le _) (Nat.zero_le _) (xat_dec ok hi rfl) ⟨rfl, h⟩
theorem xF_vret (ok : xOK Y k all) (hi : xat all pc = some .return_) (ht : yT Y = none) (h : Q none M) : xF l G Y pc lv [] M Q := xc_vret ht (Nat.zero_le _) (Nat.zero_le _) (xat_dec ok hi rfl) ⟨rfl, h⟩
/-- no cells are made: all rooms' cells are 0 -/
abbrev xRn (Y Z : xMD) : Prop := xRm Y Z ∧ (yR Z).cells = 0 ∧ (yR Z).slots = 0
theorem xF_callS (ok : xOK Y k all) (a : List Value) {i n : Nat} (hi : xat all pc = some (.invokestatic i)) (hZ : xZ Z n) (hst : Cond.static Z.1 ∈ xtb) (hlk : xLk Y.1.cls i Z.1) (hn : a.length = n) (hrm : xRn Y Z) (hr : (r.map fun v => v.category).sum ≤ 8) (hs : st = a.reverse ++ r) (hT : xE l G Z a M Q1) (h : ∀ v M', Q1 v M' → xF l G Y (pc + 3) lv (v.toList ++ r) M' Q) : xF l G Y pc lv st M Q := by
  refine xc_callS a hZ hst hlk hn hrm.1 hr ⟨by rw [hrm.2.1]; exact Nat.zero_le _, by rw [hrm.2.2]; exact Nat.zero_le _⟩ hs (xat_dec ok hi rfl) hT (fun v M' g' hq => ?_)
  obtain ⟨rfl, hq⟩ := hq
  rw [hrm.2.1, hrm.2.2]
  exact ⟨trivial, h v M' hq⟩
theorem xF_callV (ok : xOK Y k all) (a : List Value) {i n c ci : Nat} (hi : xat all pc = some (.invokevirtual i)) (hZ : xZ Z n) (hin : Cond.instanceMethod Z.1 ∈ xtb) (hse : Cond.selects Z.1.cls Z.1 Z.1 ∈ xtb) (hlk : xLk Y.1.cls i Z.1) (hn : a.length = n) (hrm : xRn Y Z) (hr : (r.map fun v => v.category).sum ≤ 8) (hk : xkd c = ci + 3) (hci : (xcls[ci]?).map (fun q => q.1) = some Z.1.cls) (hs : st = a.reverse ++ .ref c :: r) (hT : xE l G Z (.ref c :: a) M Q1) (h : ∀ v M', Q1 v M' → xF l G Y (pc + 3) lv (v.toList ++ r) M' Q) : xF l G Y pc lv st M Q := by
  have hc8 : ci < 8 := by
    cases hq : xcls[ci]? with
    | none => rw [hq] at hci; cases hci
    | some q => exact xci_lt hq
  refine xc_callV a hZ hin hse hlk hn hrm.1 hr ⟨by rw [hrm.2.1]; exact Nat.zero_le _, by rw [hrm.2.2]; exact Nat.zero_le _⟩ hk hci (xkd_obj hk hc8) hs (xat_dec ok hi rfl) hT (fun v M' g' hq => ?_)
  obtain ⟨rfl, hq⟩ := hq
  rw [hrm.2.1, hrm.2.2]
  exact ⟨trivial, h v M' hq⟩
theorem xF_lv {lv' : xLv} (hv : ∀ i v, xlg lv' i = some v → xlg lv i = some v) (h : xF l G Y pc lv' st M Q) : xF l G Y pc lv st M Q := xc_lv hv h
theorem xE_post {a : List Value} (hQ : ∀ v M, Q1 v M → Q v M) (h : xE l G Y a M Q1) : xE l G Y a M Q := by
  intro p e ha hc hk s m args below hf happ hP hK
  obtain ⟨n, o, h1, h2, h3, ⟨⟨⟨r, M', g', e1, e2, e3⟩, hF⟩, h4⟩⟩ := h p e ha hc hk s m args below hf happ hP hK
  exact ⟨n, o, h1, h2, h3, ⟨⟨⟨r, M', g', e1, ⟨e2.1, hQ _ _ e2.2⟩, e3⟩, hF⟩, h4⟩⟩
end XX
