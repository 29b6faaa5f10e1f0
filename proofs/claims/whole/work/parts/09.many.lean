/-! The checked code of a method; many steps of it are sound -/
abbrev xK : Type := List (Nat × Nat × Nat) × List (Nat × Value) × List Nat
def xKok (cls : String) (k : xK) : Prop := (∀ q ∈ k.1, xFL cls q.1 q.2.1 q.2.2) ∧ (∀ q ∈ k.2.1, match q.2 with | .int c => Cond.constant cls q.1 c ∈ xtb | .long c => Cond.constantLong cls q.1 c ∈ xtb | _ => False) ∧ (∀ i ∈ k.2.2, Cond.fieldLink cls i "DataShrinker$OctetSet" "HAVING" "[J" ∈ xtb)
def xlen : Instr → Nat
  | .bipush _ => 2
  | .ldc _ => 2
  | .iload _ => 2
  | .lload _ => 2
  | .aload _ => 2
  | .istore _ => 2
  | .lstore _ => 2
  | .astore _ => 2
  | .newarray _ => 2
  | .sipush _ => 3
  | .ldc_w _ => 3
  | .ldc2_w _ => 3
  | .iinc _ _ => 3
  | .ifCond _ _ => 3
  | .if_icmp _ _ => 3
  | .goto _ => 3
  | .getfield _ => 3
  | .putfield _ => 3
  | .getstatic _ => 3
  | .invokevirtual _ => 3
  | .invokestatic _ => 3
  | .invokespecial _ => 3
  | .new _ => 3
  | _ => 1
def xaux (k : xK) (pc : Nat) (ins : Instr) (a1 a2 : Nat) (v : Value) : Bool := match ins with
  | .iconst n => (match v with | .int c => decide (Int32.ofInt n = c) | _ => false)
  | .bipush n => (match v with | .int c => decide ((Int8.ofInt n).toInt32 = c) | _ => false)
  | .sipush n => (match v with | .int c => decide ((Int16.ofInt n).toInt32 = c) | _ => false)
  | .lconst n => (match v with | .long c => decide (Int64.ofNat (n : Nat) = c) | _ => false)
  | .ldc i => (match v with | .int c => k.2.1.any (fun q => Nat.beq q.1 i && (match q.2 with | .int d => decide (d = c) | _ => false)) | _ => false)
  | .ldc_w i => (match v with | .int c => k.2.1.any (fun q => Nat.beq q.1 i && (match q.2 with | .int d => decide (d = c) | _ => false)) | _ => false)
  | .ldc2_w i => (match v with | .long c => k.2.1.any (fun q => Nat.beq q.1 i && (match q.2 with | .long d => decide (d = c) | _ => false)) | _ => false)
  | .iload i => Nat.beq i a1
  | .lload i => Nat.beq i a1
  | .aload i => Nat.beq i a1
  | .istore i => Nat.beq i a1
  | .lstore i => Nat.beq i a1
  | .astore i => Nat.beq i a1
  | .iload_n i => Nat.beq i a1
  | .lload_n i => Nat.beq i a1
  | .aload_n i => Nat.beq i a1
  | .istore_n i => Nat.beq i a1
  | .lstore_n i => Nat.beq i a1
  | .astore_n i => Nat.beq i a1
  | .iinc i n => Nat.beq i a1 && (match v with | .int c => decide (Int32.ofInt n = c) | _ => false)
  | .ifCond _ o => decide ((pc : Int) + o = (a1 : Int))
  | .if_icmp _ o => decide ((pc : Int) + o = (a1 : Int))
  | .goto o => decide ((pc : Int) + o = (a1 : Int))
  | .tableswitch d lo hi offs => decide (0 ≤ (pc : Int) + d) && (offs.toList.all fun o => decide (0 ≤ (pc : Int) + o)) && decide (hi + 1 = lo + offs.toList.length) && ((xtab lo offs.toList).all fun q => decide ((Int32.ofInt q.1).toInt = q.1))
  | .lookupswitch d ps => decide (0 ≤ (pc : Int) + d) && (ps.toList.all fun q => decide (0 ≤ (pc : Int) + q.2)) && ((ps.toList.zip (ps.toList.drop 1)).all fun (a, next) => a.1 < next.1) && (ps.toList.all fun q => decide ((Int32.ofInt q.1).toInt = q.1))
  | .getfield i => k.1.any (fun q => Nat.beq q.1 i && (Nat.beq q.2.1 a2 && Nat.beq q.2.2 a1))
  | .putfield i => k.1.any (fun q => Nat.beq q.1 i && (Nat.beq q.2.1 a2 && Nat.beq q.2.2 a1)) && (match v with | .int _ => decide ((xnth xcty a2 xY0) a1 = .int) | .long _ => decide ((xnth xcty a2 xY0) a1 = .boolean) | _ => true) && (match v with | .null => true | _ => (match xcls[a2]? with | some c => !(c.2.1 a1).2.2.2 | none => false))
  | .getstatic i => k.2.2.any (fun j => Nat.beq j i)
  | _ => true
def xchk (B : ByteArray) (k : xK) : List xRw → Bool
  | [] => false
  | [_] => true
  | (pc, ins, a1, a2, v) :: (r2 :: rs) => (match ins with
    | .tableswitch .. => (match decode B pc with | .ok (i, _) => decide (i = ins) | .error _ => false)
    | .lookupswitch .. => (match decode B pc with | .ok (i, _) => decide (i = ins) | .error _ => false)
    | _ => decide (decode B pc = .ok (ins, xlen ins)) && Nat.beq r2.1 (pc + xlen ins)) && xaux k pc ins a1 a2 v && xchk B k (r2 :: rs)
/-- a method with its checked code -/
def xOK (Y : xMD) (k : xK) (all : List xRw) : Prop := xKok Y.1.cls k ∧ xchk (yB Y) k all = true
theorem xany {α : Type} {p : α → Bool} {l : List α} (h : l.any p = true) : ∃ q ∈ l, p q = true := List.any_eq_true.mp h
theorem xjmp_hd : ∀ (all : List xRw) (t : Nat) (r : xRw) (rs : List xRw), xjmp all t = r :: rs → r.1 = t
  | [], _, _, _, h => by cases h
  | a :: l, t, r, rs, h => by
    unfold xjmp at h
    cases hb : Nat.beq a.1 t with
    | true =>
      rw [hb] at h
      cases h
      exact Nat.eq_of_beq_eq_true hb
    | false =>
      rw [hb] at h
      exact xjmp_hd l t r rs h
theorem xchk_tl {B : ByteArray} {k : xK} {r r2 : xRw} {rs : List xRw} (h : xchk B k (r :: r2 :: rs) = true) : xchk B k (r2 :: rs) = true := by
  obtain ⟨pc, ins, a1, a2, v⟩ := r
  unfold xchk at h
  rw [Bool.and_eq_true] at h
  exact h.2
theorem xchk_jmp {B : ByteArray} {k : xK} : ∀ (all : List xRw) (t : Nat) (r : xRw) (rs : List xRw), xchk B k all = true → xjmp all t = r :: rs → xchk B k (r :: rs) = true
  | [], _, _, _, _, h => by cases h
  | [a], t, r, rs, hc, h => by
    unfold xjmp at h
    cases hb : Nat.beq a.1 t with
    | true => rw [hb] at h; cases h; exact hc
    | false => rw [hb] at h; cases h
  | a :: a2 :: l, t, r, rs, hc, h => by
    unfold xjmp at h
    cases hb : Nat.beq a.1 t with
    | true => rw [hb] at h; cases h; exact hc
    | false => rw [hb] at h; exact xchk_jmp (a2 :: l) t r rs (xchk_tl hc) h
theorem xchk_dec {B : ByteArray} {k : xK} {pc : Nat} {ins : Instr} {a1 a2 : Nat} {v : Value} {r2 : xRw} {rs : List xRw} (h : xchk B k ((pc, ins, a1, a2, v) :: r2 :: rs) = true) : xaux k pc ins a1 a2 v = true ∧ ((∃ n, decode B pc = .ok (ins, n)) ∧ ((∀ d lo hi o, ins ≠ .tableswitch d lo hi o) → (∀ d o, ins ≠ .lookupswitch d o) → decode B pc = .ok (ins, xlen ins) ∧ r2.1 = pc + xlen ins)) := by
  unfold xchk at h
  rw [Bool.and_eq_true, Bool.and_eq_true] at h
  refine ⟨h.1.2, ?_⟩
  have h1 := h.1.1
  split at h1
  · refine ⟨?_, fun q => absurd rfl (q _ _ _ _)⟩
    split at h1
    · rename_i i n hdec
      rw [decide_eq_true_eq] at h1
      exact ⟨n, by rw [hdec, h1]⟩
    · cases h1
  · refine ⟨?_, fun _ q => absurd rfl (q _ _)⟩
    split at h1
    · rename_i i n hdec
      rw [decide_eq_true_eq] at h1
      exact ⟨n, by rw [hdec, h1]⟩
    · cases h1
  · rw [Bool.and_eq_true, decide_eq_true_eq] at h1
    exact ⟨⟨_, h1.1⟩, fun _ _ => ⟨h1.1, Nat.eq_of_beq_eq_true h1.2⟩⟩
theorem xsw_imp {x : Int32} {k k' : Int → Prop} {d : Int} : ∀ (l : List (Int × Int)), (∀ o, (o = d ∨ ∃ q ∈ l, q.2 = o) → k o → k' o) → xsw x k d l → xsw x k' d l
  | [], h, hs => h d (Or.inl rfl) hs
  | q :: l, h, hs => ⟨fun e => h q.2 (Or.inr ⟨q, List.mem_cons_self, rfl⟩) (hs.1 e), fun e => xsw_imp l (fun o ho => h o (ho.imp id (fun ⟨q', h1, h2⟩ => ⟨q', List.mem_cons_of_mem _ h1, h2⟩))) (hs.2 e)⟩
theorem xtab_in : ∀ (offs : List Int) (lo : Int) (q : Int × Int), q ∈ xtab lo offs → q.2 ∈ offs
  | [], _, _, h => by simp [xtab] at h
  | o :: l, lo, q, h => by
    rcases List.mem_cons.mp h with h | h
    · rw [h]; exact List.mem_cons_self
    · exact List.mem_cons_of_mem _ (xtab_in l (lo + 1) q h)
def xissw : Instr → Bool
  | .tableswitch .. => true
  | .lookupswitch .. => true
  | _ => false
theorem xchk_n {B : ByteArray} {k : xK} {pc : Nat} {ins : Instr} {a1 a2 : Nat} {v : Value} {r2 : xRw} {rs : List xRw} (h : xchk B k ((pc, ins, a1, a2, v) :: r2 :: rs) = true) (hs : xissw ins = false) : decode B pc = .ok (ins, xlen ins) ∧ r2.1 = pc + xlen ins := (xchk_dec h).2.2 (fun d lo hi o e => by rw [e] at hs; cases hs) (fun d o e => by rw [e] at hs; cases hs)
theorem xcst {cls : String} {k : xK} (hk : xKok cls k) {i : Nat} {c : Int32} (h : (k.2.1.any (fun q => Nat.beq q.1 i && (match q.2 with | .int d => decide (d = c) | _ => false))) = true) : Cond.constant cls i c ∈ xtb := by
  obtain ⟨⟨j, w⟩, hq, hp⟩ := xany h
  have h1 := hk.2.1 _ hq
  rw [Bool.and_eq_true] at hp
  have hj : j = i := Nat.eq_of_beq_eq_true hp.1
  subst hj
  cases w with
  | int d =>
    have hd : d = c := of_decide_eq_true hp.2
    subst hd
    exact h1
  | _ => cases hp.2
theorem xcsL {cls : String} {k : xK} (hk : xKok cls k) {i : Nat} {c : Int64} (h : (k.2.1.any (fun q => Nat.beq q.1 i && (match q.2 with | .long d => decide (d = c) | _ => false))) = true) : Cond.constantLong cls i c ∈ xtb := by
  obtain ⟨⟨j, w⟩, hq, hp⟩ := xany h
  have h1 := hk.2.1 _ hq
  rw [Bool.and_eq_true] at hp
  have hj : j = i := Nat.eq_of_beq_eq_true hp.1
  subst hj
  cases w with
  | long d =>
    have hd : d = c := of_decide_eq_true hp.2
    subst hd
    exact h1
  | _ => cases hp.2
theorem xfld {cls : String} {k : xK} (hk : xKok cls k) {i a1 a2 : Nat} (h : (k.1.any (fun q => Nat.beq q.1 i && (Nat.beq q.2.1 a2 && Nat.beq q.2.2 a1))) = true) : xFL cls i a2 a1 := by
  obtain ⟨⟨j, u, w⟩, hq, hp⟩ := xany h
  have h1 := hk.1 _ hq
  rw [Bool.and_eq_true, Bool.and_eq_true] at hp
  have e1 : j = i := Nat.eq_of_beq_eq_true hp.1
  have e2 : u = a2 := Nat.eq_of_beq_eq_true hp.2.1
  have e3 : w = a1 := Nat.eq_of_beq_eq_true hp.2.2
  subst e1; subst e2; subst e3
  exact h1
theorem xlt96 {k : Nat} (h : k < 98) (h1 : ¬ k = 96) (h2 : ¬ k = 97) : k < 96 := by omega
theorem xblt {a b : Nat} (h : Nat.blt a b = true) : a < b := Nat.blt_eq.mp h
theorem xkd_i {k : Nat} (h : xkd k = 0) (hn : Nat.beq k 96 = false) : k < 96 := by
  have h1 := xkd_lt (k := k) (by omega)
  have h2 : k ≠ 96 := fun e => by subst e; cases hn
  have h3 : k ≠ 97 := fun e => by subst e; rw [xkd_97] at h; cases h
  omega
theorem xkd_l {k : Nat} (h : xkd k = 1) (hn : Nat.beq k 97 = false) : k < 96 := by
  have h1 := xkd_lt (k := k) (by omega)
  have h2 : k ≠ 97 := fun e => by subst e; cases hn
  have h3 : k ≠ 96 := fun e => by subst e; rw [xkd_96] at h; cases h
  omega
theorem xkd_z {k : Nat} (h : xkd k = 2) : k < 96 := by
  have h1 := xkd_lt (k := k) (by omega)
  have h2 : k ≠ 97 := fun e => by subst e; rw [xkd_97] at h; cases h
  have h3 : k ≠ 96 := fun e => by subst e; rw [xkd_96] at h; cases h
  omega
set_option maxHeartbeats 4000000 in
/-- one step, all made -/
theorem xstp_ok {l : Launch} {G : xG} {Y : xMD} {k : xK} {all : List xRw} {pc : Nat} {ins : Instr} {a1 a2 : Nat} {v : Value} {r2 : xRw} {rs : List xRw} {lv : xLv} {st : List Value} {M : xMe} {cn sn : Nat} {Q : Option Value → xMe → xGh → Prop} {K : List xRw → xLv → List Value → xMe → Prop}
    (hk : xKok Y.1.cls k) (hc : xchk (yB Y) k ((pc, ins, a1, a2, v) :: r2 :: rs) = true) (hs : xstp G all pc ins a1 a2 v (yL Y) (r2 :: rs) lv st M K)
    (hn : ∀ lv' st' M', K (r2 :: rs) lv' st' M' → xC l G Y r2.1 lv' st' M' none cn sn Q) (hj : ∀ t lv' st' M', K (xjmp all t) lv' st' M' → xC l G Y t lv' st' M' none cn sn Q) : xC l G Y pc lv st M none cn sn Q := by
  have hx := (xchk_dec hc).1
  unfold xstp at hs
  unfold xaux at hx
  cases ins with
  | iadd =>
    obtain ⟨hd, e⟩ := xchk_n hc rfl
    rw [e] at hn
    dsimp only at hs hx
    split at hs
    · exact xc_iadd hd (hn _ _ _ hs)
    · exact hs.elim
  | isub =>
    obtain ⟨hd, e⟩ := xchk_n hc rfl
    rw [e] at hn
    dsimp only at hs hx
    split at hs
    · exact xc_isub hd (hn _ _ _ hs)
    · exact hs.elim
  | imul =>
    obtain ⟨hd, e⟩ := xchk_n hc rfl
    rw [e] at hn
    dsimp only at hs hx
    split at hs
    · exact xc_imul hd (hn _ _ _ hs)
    · exact hs.elim
  | iand =>
    obtain ⟨hd, e⟩ := xchk_n hc rfl
    rw [e] at hn
    dsimp only at hs hx
    split at hs
    · exact xc_iand hd (hn _ _ _ hs)
    · exact hs.elim
  | ior =>
    obtain ⟨hd, e⟩ := xchk_n hc rfl
    rw [e] at hn
    dsimp only at hs hx
    split at hs
    · exact xc_ior hd (hn _ _ _ hs)
    · exact hs.elim
  | ixor =>
    obtain ⟨hd, e⟩ := xchk_n hc rfl
    rw [e] at hn
    dsimp only at hs hx
    split at hs
    · exact xc_ixor hd (hn _ _ _ hs)
    · exact hs.elim
  | ineg =>
    obtain ⟨hd, e⟩ := xchk_n hc rfl
    rw [e] at hn
    dsimp only at hs hx
    split at hs
    · exact xc_ineg hd (hn _ _ _ hs)
    · exact hs.elim
  | ishl =>
    obtain ⟨hd, e⟩ := xchk_n hc rfl
    rw [e] at hn
    dsimp only at hs hx
    split at hs
    · exact xc_ishl hd (hn _ _ _ hs)
    · exact hs.elim
  | ishr =>
    obtain ⟨hd, e⟩ := xchk_n hc rfl
    rw [e] at hn
    dsimp only at hs hx
    split at hs
    · exact xc_ishr hd (hn _ _ _ hs)
    · exact hs.elim
  | iushr =>
    obtain ⟨hd, e⟩ := xchk_n hc rfl
    rw [e] at hn
    dsimp only at hs hx
    split at hs
    · exact xc_iushr hd (hn _ _ _ hs)
    · exact hs.elim
  | ladd =>
    obtain ⟨hd, e⟩ := xchk_n hc rfl
    rw [e] at hn
    dsimp only at hs hx
    split at hs
    · exact xc_ladd hd (hn _ _ _ hs)
    · exact hs.elim
  | lsub =>
    obtain ⟨hd, e⟩ := xchk_n hc rfl
    rw [e] at hn
    dsimp only at hs hx
    split at hs
    · exact xc_lsub hd (hn _ _ _ hs)
    · exact hs.elim
  | land =>
    obtain ⟨hd, e⟩ := xchk_n hc rfl
    rw [e] at hn
    dsimp only at hs hx
    split at hs
    · exact xc_land hd (hn _ _ _ hs)
    · exact hs.elim
  | lor =>
    obtain ⟨hd, e⟩ := xchk_n hc rfl
    rw [e] at hn
    dsimp only at hs hx
    split at hs
    · exact xc_lor hd (hn _ _ _ hs)
    · exact hs.elim
  | lxor =>
    obtain ⟨hd, e⟩ := xchk_n hc rfl
    rw [e] at hn
    dsimp only at hs hx
    split at hs
    · exact xc_lxor hd (hn _ _ _ hs)
    · exact hs.elim
  | lshl =>
    obtain ⟨hd, e⟩ := xchk_n hc rfl
    rw [e] at hn
    dsimp only at hs hx
    split at hs
    · exact xc_lshl hd (hn _ _ _ hs)
    · exact hs.elim
  | lshr =>
    obtain ⟨hd, e⟩ := xchk_n hc rfl
    rw [e] at hn
    dsimp only at hs hx
    split at hs
    · exact xc_lshr hd (hn _ _ _ hs)
    · exact hs.elim
  | lushr =>
    obtain ⟨hd, e⟩ := xchk_n hc rfl
    rw [e] at hn
    dsimp only at hs hx
    split at hs
    · exact xc_lushr hd (hn _ _ _ hs)
    · exact hs.elim
  | lcmp =>
    obtain ⟨hd, e⟩ := xchk_n hc rfl
    rw [e] at hn
    dsimp only at hs hx
    split at hs
    · exact xc_lcmp hd (hn _ _ _ hs)
    · exact hs.elim
  | i2l =>
    obtain ⟨hd, e⟩ := xchk_n hc rfl
    rw [e] at hn
    dsimp only at hs hx
    split at hs
    · exact xc_i2l hd (hn _ _ _ hs)
    · exact hs.elim
  | l2i =>
    obtain ⟨hd, e⟩ := xchk_n hc rfl
    rw [e] at hn
    dsimp only at hs hx
    split at hs
    · exact xc_l2i hd (hn _ _ _ hs)
    · exact hs.elim
  | idiv =>
    obtain ⟨hd, e⟩ := xchk_n hc rfl
    rw [e] at hn
    dsimp only at hs hx
    split at hs
    · exact xc_idiv hs.1 hd (hn _ _ _ hs.2)
    · exact hs.elim
  | irem =>
    obtain ⟨hd, e⟩ := xchk_n hc rfl
    rw [e] at hn
    dsimp only at hs hx
    split at hs
    · exact xc_irem hs.1 hd (hn _ _ _ hs.2)
    · exact hs.elim
  | dup =>
    obtain ⟨hd, e⟩ := xchk_n hc rfl
    rw [e] at hn
    dsimp only at hs hx
    split at hs
    · exact xc_dup rfl hd (hn _ _ _ hs)
    · exact xc_dup rfl hd (hn _ _ _ hs)
    · exact hs.elim
  | dup2 =>
    obtain ⟨hd, e⟩ := xchk_n hc rfl
    rw [e] at hn
    dsimp only at hs hx
    split at hs
    · exact xc_dup2a rfl rfl hd (hn _ _ _ hs)
    · exact xc_dup2b rfl hd (hn _ _ _ hs)
    · exact hs.elim
  | pop =>
    obtain ⟨hd, e⟩ := xchk_n hc rfl
    rw [e] at hn
    dsimp only at hs hx
    split at hs
    · exact xc_pop rfl hd (hn _ _ _ hs)
    · exact hs.elim
  | iconst n =>
    obtain ⟨hd, e⟩ := xchk_n hc rfl
    rw [e] at hn
    dsimp only at hs hx
    split at hx
    · exact xc_iconst (of_decide_eq_true hx) hd (hn _ _ _ hs)
    · cases hx
  | bipush n =>
    obtain ⟨hd, e⟩ := xchk_n hc rfl
    rw [e] at hn
    dsimp only at hs hx
    split at hx
    · exact xc_bipush (of_decide_eq_true hx) hd (hn _ _ _ hs)
    · cases hx
  | sipush n =>
    obtain ⟨hd, e⟩ := xchk_n hc rfl
    rw [e] at hn
    dsimp only at hs hx
    split at hx
    · exact xc_sipush (of_decide_eq_true hx) hd (hn _ _ _ hs)
    · cases hx
  | lconst n =>
    obtain ⟨hd, e⟩ := xchk_n hc rfl
    rw [e] at hn
    dsimp only at hs hx
    split at hx
    · exact xc_lconst (of_decide_eq_true hx) hd (hn _ _ _ hs)
    · cases hx
  | ldc i =>
    obtain ⟨hd, e⟩ := xchk_n hc rfl
    rw [e] at hn
    dsimp only at hs hx
    split at hx
    · exact xc_ldc (xcst hk hx) hd (hn _ _ _ hs)
    · cases hx
  | ldc_w i =>
    obtain ⟨hd, e⟩ := xchk_n hc rfl
    rw [e] at hn
    dsimp only at hs hx
    split at hx
    · exact xc_ldcw (xcst hk hx) hd (hn _ _ _ hs)
    · cases hx
  | ldc2_w i =>
    obtain ⟨hd, e⟩ := xchk_n hc rfl
    rw [e] at hn
    dsimp only at hs hx
    split at hx
    · exact xc_ldc2 (xcsL hk hx) hd (hn _ _ _ hs)
    · cases hx
  | iload i =>
    obtain ⟨hd, e⟩ := xchk_n hc rfl
    rw [e] at hn
    dsimp only at hs hx
    have ha := Nat.eq_of_beq_eq_true hx
    subst ha
    split at hs
    · rename_i x hl
      exact xc_iload hl hd (hn _ _ _ hs)
    · exact hs.elim
  | iload_n i =>
    obtain ⟨hd, e⟩ := xchk_n hc rfl
    rw [e] at hn
    dsimp only at hs hx
    have ha := Nat.eq_of_beq_eq_true hx
    split at hs
    · rename_i x hl
      exact xc_iload_n ha hl hd (hn _ _ _ hs)
    · exact hs.elim
  | istore i =>
    obtain ⟨hd, e⟩ := xchk_n hc rfl
    rw [e] at hn
    dsimp only at hs hx
    have ha := Nat.eq_of_beq_eq_true hx
    subst ha
    split at hs
    · rename_i hb
      exact xc_istore (xblt hb) hd (hn _ _ _ ((xp1_eq _ _ _ _).mp hs))
    · exact hs.elim
  | istore_n i =>
    obtain ⟨hd, e⟩ := xchk_n hc rfl
    rw [e] at hn
    dsimp only at hs hx
    have ha := Nat.eq_of_beq_eq_true hx
    split at hs
    · rename_i hb
      exact xc_istore_n ha (xblt hb) hd (hn _ _ _ ((xp1_eq _ _ _ _).mp hs))
    · exact hs.elim
  | lload i =>
    obtain ⟨hd, e⟩ := xchk_n hc rfl
    rw [e] at hn
    dsimp only at hs hx
    have ha := Nat.eq_of_beq_eq_true hx
    subst ha
    split at hs
    · rename_i x hl
      exact xc_lload hl hd (hn _ _ _ hs)
    · exact hs.elim
  | lload_n i =>
    obtain ⟨hd, e⟩ := xchk_n hc rfl
    rw [e] at hn
    dsimp only at hs hx
    have ha := Nat.eq_of_beq_eq_true hx
    split at hs
    · rename_i x hl
      exact xc_lload_n ha hl hd (hn _ _ _ hs)
    · exact hs.elim
  | lstore i =>
    obtain ⟨hd, e⟩ := xchk_n hc rfl
    rw [e] at hn
    dsimp only at hs hx
    have ha := Nat.eq_of_beq_eq_true hx
    subst ha
    split at hs
    · rename_i hb
      exact xc_lstore (xblt hb) hd (hn _ _ _ ((xp2_eq _ _ _ _).mp hs))
    · exact hs.elim
  | lstore_n i =>
    obtain ⟨hd, e⟩ := xchk_n hc rfl
    rw [e] at hn
    dsimp only at hs hx
    have ha := Nat.eq_of_beq_eq_true hx
    split at hs
    · rename_i hb
      exact xc_lstore_n ha (xblt hb) hd (hn _ _ _ ((xp2_eq _ _ _ _).mp hs))
    · exact hs.elim
  | aload i =>
    obtain ⟨hd, e⟩ := xchk_n hc rfl
    rw [e] at hn
    dsimp only at hs hx
    have ha := Nat.eq_of_beq_eq_true hx
    subst ha
    split at hs
    · rename_i x hl
      exact xc_aload hl hd (hn _ _ _ hs)
    · exact hs.elim
  | aload_n i =>
    obtain ⟨hd, e⟩ := xchk_n hc rfl
    rw [e] at hn
    dsimp only at hs hx
    have ha := Nat.eq_of_beq_eq_true hx
    split at hs
    · rename_i x hl
      exact xc_aload_n ha hl hd (hn _ _ _ hs)
    · exact hs.elim
  | astore i =>
    obtain ⟨hd, e⟩ := xchk_n hc rfl
    rw [e] at hn
    dsimp only at hs hx
    have ha := Nat.eq_of_beq_eq_true hx
    subst ha
    split at hs
    · rename_i hb
      exact xc_astore (xblt hb) hd (hn _ _ _ ((xp1_eq _ _ _ _).mp hs))
    · exact hs.elim
  | astore_n i =>
    obtain ⟨hd, e⟩ := xchk_n hc rfl
    rw [e] at hn
    dsimp only at hs hx
    have ha := Nat.eq_of_beq_eq_true hx
    split at hs
    · rename_i hb
      exact xc_astore_n ha (xblt hb) hd (hn _ _ _ ((xp1_eq _ _ _ _).mp hs))
    · exact hs.elim
  | iinc i n =>
    obtain ⟨hd, e⟩ := xchk_n hc rfl
    rw [e] at hn
    dsimp only at hs hx
    rw [Bool.and_eq_true] at hx
    have ha := Nat.eq_of_beq_eq_true hx.1
    subst ha
    have hx2 := hx.2
    split at hs
    · rename_i x c hl
      exact xc_iinc hl (of_decide_eq_true hx2) hd (hn _ _ _ ((xp1_eq _ _ _ _).mp hs))
    · exact hs.elim
  | goto o =>
    obtain ⟨hd, e⟩ := xchk_n hc rfl
    rw [e] at hn
    dsimp only at hs hx
    exact xc_goto (of_decide_eq_true hx) hd (hj _ _ _ _ hs)
  | ifCond c o =>
    obtain ⟨hd, e⟩ := xchk_n hc rfl
    rw [e] at hn
    dsimp only at hs hx
    split at hs
    · cases c with
      | eq => exact xc_if_eq hd (of_decide_eq_true hx) (fun z => hj _ _ _ _ (hs.1 z)) (fun z => hn _ _ _ (hs.2 z))
      | ne => exact xc_if_ne hd (of_decide_eq_true hx) (fun z => hj _ _ _ _ (hs.1 z)) (fun z => hn _ _ _ (hs.2 z))
      | lt => exact xc_if_lt hd (of_decide_eq_true hx) (fun z => hj _ _ _ _ (hs.1 z)) (fun z => hn _ _ _ (hs.2 z))
      | ge => exact xc_if_ge hd (of_decide_eq_true hx) (fun z => hj _ _ _ _ (hs.1 z)) (fun z => hn _ _ _ (hs.2 z))
      | gt => exact xc_if_gt hd (of_decide_eq_true hx) (fun z => hj _ _ _ _ (hs.1 z)) (fun z => hn _ _ _ (hs.2 z))
      | le => exact xc_if_le hd (of_decide_eq_true hx) (fun z => hj _ _ _ _ (hs.1 z)) (fun z => hn _ _ _ (hs.2 z))
    · exact hs.elim
  | if_icmp c o =>
    obtain ⟨hd, e⟩ := xchk_n hc rfl
    rw [e] at hn
    dsimp only at hs hx
    split at hs
    · cases c with
      | eq => exact xc_cmp_eq hd (of_decide_eq_true hx) (fun z => hj _ _ _ _ (hs.1 z)) (fun z => hn _ _ _ (hs.2 z))
      | ne => exact xc_cmp_ne hd (of_decide_eq_true hx) (fun z => hj _ _ _ _ (hs.1 z)) (fun z => hn _ _ _ (hs.2 z))
      | lt => exact xc_cmp_lt hd (of_decide_eq_true hx) (fun z => hj _ _ _ _ (hs.1 z)) (fun z => hn _ _ _ (hs.2 z))
      | ge => exact xc_cmp_ge hd (of_decide_eq_true hx) (fun z => hj _ _ _ _ (hs.1 z)) (fun z => hn _ _ _ (hs.2 z))
      | gt => exact xc_cmp_gt hd (of_decide_eq_true hx) (fun z => hj _ _ _ _ (hs.1 z)) (fun z => hn _ _ _ (hs.2 z))
      | le => exact xc_cmp_le hd (of_decide_eq_true hx) (fun z => hj _ _ _ _ (hs.1 z)) (fun z => hn _ _ _ (hs.2 z))
    · exact hs.elim
  | tableswitch d lo hi offs =>
    dsimp only at hs hx
    obtain ⟨len, hd⟩ := (xchk_dec hc).2.1
    rw [Bool.and_eq_true, Bool.and_eq_true, Bool.and_eq_true] at hx
    obtain ⟨⟨⟨h1, h2⟩, h3⟩, h4⟩ := hx
    split at hs
    · refine xc_table hd (of_decide_eq_true h3) h4 (xsw_imp _ (fun o ho hK => ?_) hs)
      have hp : 0 ≤ (pc : Int) + o := by
        rcases ho with rfl | ⟨q, hq, rfl⟩
        · exact of_decide_eq_true h1
        · exact of_decide_eq_true (List.all_eq_true.mp h2 _ (xtab_in _ _ _ hq))
      exact ⟨((pc : Int) + o).toNat, by omega, hj _ _ _ _ hK⟩
    · exact hs.elim
  | lookupswitch d ps =>
    dsimp only at hs hx
    obtain ⟨len, hd⟩ := (xchk_dec hc).2.1
    rw [Bool.and_eq_true, Bool.and_eq_true, Bool.and_eq_true] at hx
    obtain ⟨⟨⟨h1, h2⟩, h3⟩, h4⟩ := hx
    split at hs
    · refine xc_lookup hd h3 h4 (xsw_imp _ (fun o ho hK => ?_) hs)
      have hp : 0 ≤ (pc : Int) + o := by
        rcases ho with rfl | ⟨q, hq, rfl⟩
        · exact of_decide_eq_true h1
        · exact of_decide_eq_true (List.all_eq_true.mp h2 _ hq)
      exact ⟨((pc : Int) + o).toNat, by omega, hj _ _ _ _ hK⟩
    · exact hs.elim
  | getfield i =>
    obtain ⟨hd, e⟩ := xchk_n hc rfl
    rw [e] at hn
    dsimp only at hs hx
    have hf := xfld hk hx
    split at hs
    · split at hs
      · rename_i h1 h2
        have hkd := Nat.eq_of_beq_eq_true h1
        exact xc_get hf hkd (xkd_obj hkd (xci_lt hf.choose_spec.1)) (by rw [h2]) rfl hd (hn _ _ _ hs)
      · rename_i h1 h2
        have hkd := Nat.eq_of_beq_eq_true h1
        exact xc_get hf hkd (xkd_obj hkd (xci_lt hf.choose_spec.1)) (by rw [h2]) rfl hd (hn _ _ _ hs)
      · exact hs.elim
    · exact hs.elim
  | putfield i =>
    obtain ⟨hd, e⟩ := xchk_n hc rfl
    rw [e] at hn
    dsimp only at hs hx
    rw [Bool.and_eq_true, Bool.and_eq_true] at hx
    obtain ⟨⟨h3, h4⟩, h5⟩ := hx
    have hf := xfld hk h3
    split at hs
    · split at hs
      · rename_i h1 h2
        have hkd := Nat.eq_of_beq_eq_true h1
        dsimp only at h4 h5
        exact xc_put hf hkd (xkd_obj hkd (xci_lt hf.choose_spec.1)) h2 (of_decide_eq_true h4) (fun c hcc => by rw [hcc] at h5; simpa using h5) rfl rfl hd (hn _ _ _ hs)
      · rename_i h1 h2
        have hkd := Nat.eq_of_beq_eq_true h1
        dsimp only at h4 h5
        exact xc_put hf hkd (xkd_obj hkd (xci_lt hf.choose_spec.1)) h2 (of_decide_eq_true h4) (fun c hcc => by rw [hcc] at h5; simpa using h5) (by rcases hs.1 with rfl | rfl <;> rfl) (by rcases hs.1 with rfl | rfl <;> rfl) hd (hn _ _ _ hs.2)
      · exact hs.elim
    · exact hs.elim
  | getstatic i =>
    obtain ⟨hd, e⟩ := xchk_n hc rfl
    rw [e] at hn
    dsimp only at hs hx
    obtain ⟨j, hj1, hj2⟩ := xany hx
    have e2 := Nat.eq_of_beq_eq_true hj2
    subst e2
    exact xc_gets (hk.2.2 _ hj1) hd (hn _ _ _ hs)
  | arraylength =>
    obtain ⟨hd, e⟩ := xchk_n hc rfl
    rw [e] at hn
    dsimp only at hs hx
    split at hs
    · rename_i kk r
      split at hs
      · rename_i hb
        have hlt := xblt hb
        by_cases h96 : (kk : Nat) = 96
        · subst h96
          exact xc_slen hd (hn _ _ _ hs)
        · by_cases h97 : (kk : Nat) = 97
          · subst h97
            exact xc_hlen hd (hn _ _ _ hs)
          · have h98 : (kk : Nat) < 98 := xkd_lt (k := kk) (by omega)
            have h1 : (kk : Nat) < 96 := xlt96 h98 h96 h97
            have e2 : xln G kk = xtl kk := by
              unfold xln
              have : Nat.beq kk 96 = false := by
                cases hq : Nat.beq kk 96 with
                | true => exact absurd (Nat.eq_of_beq_eq_true hq) h96
                | false => rfl
              rw [this]
            rw [e2] at hs
            exact xc_alen hlt h1 h1 hd (hn _ _ _ hs)
      · exact hs.elim
    · exact hs.elim
  | iaload =>
    obtain ⟨hd, e⟩ := xchk_n hc rfl
    rw [e] at hn
    dsimp only at hs hx
    split at hs
    · split at hs
      · rename_i h1 h2
        have e2 := Nat.eq_of_beq_eq_true h2
        subst e2
        exact xc_sld hs.1 hd (hn _ _ _ hs.2)
      · rename_i h1 h2
        have hkd := Nat.eq_of_beq_eq_true h1
        have hlt := xkd_i hkd h2
        exact xc_iald hkd hlt hlt hs.1 hd (hn _ _ _ hs.2)
      · exact hs.elim
    · exact hs.elim
  | laload =>
    obtain ⟨hd, e⟩ := xchk_n hc rfl
    rw [e] at hn
    dsimp only at hs hx
    split at hs
    · split at hs
      · rename_i h1 h2
        have e2 := Nat.eq_of_beq_eq_true h2
        subst e2
        exact xc_hld hs.1 hd (hn _ _ _ hs.2)
      · rename_i h1 h2
        have hkd := Nat.eq_of_beq_eq_true h1
        have hlt := xkd_l hkd h2
        exact xc_lald hkd hlt hlt hs.1 hd (hn _ _ _ hs.2)
      · exact hs.elim
    · exact hs.elim
  | baload =>
    obtain ⟨hd, e⟩ := xchk_n hc rfl
    rw [e] at hn
    dsimp only at hs hx
    split at hs
    · split at hs
      · rename_i h1
        have hkd := Nat.eq_of_beq_eq_true h1
        have hlt := xkd_z hkd
        exact xc_zald hkd hlt hlt hs.1 hd (hn _ _ _ hs.2)
      · exact hs.elim
    · exact hs.elim
  | iastore =>
    obtain ⟨hd, e⟩ := xchk_n hc rfl
    rw [e] at hn
    dsimp only at hs hx
    split at hs
    · split at hs
      · rename_i h1 h2
        have hkd := Nat.eq_of_beq_eq_true h1
        exact xc_iast hkd (xblt h2) (xblt h2) hs.1 hd (hn _ _ _ hs.2)
      · exact hs.elim
    · exact hs.elim
  | lastore =>
    obtain ⟨hd, e⟩ := xchk_n hc rfl
    rw [e] at hn
    dsimp only at hs hx
    split at hs
    · split at hs
      · rename_i h1 h2
        have hkd := Nat.eq_of_beq_eq_true h1
        exact xc_last hkd (xblt h2) (xblt h2) hs.1 hd (hn _ _ _ hs.2)
      · exact hs.elim
    · exact hs.elim
  | bastore =>
    obtain ⟨hd, e⟩ := xchk_n hc rfl
    rw [e] at hn
    dsimp only at hs hx
    split at hs
    · split at hs
      · rename_i h1 h2
        have hkd := Nat.eq_of_beq_eq_true h1
        exact xc_zast hkd (xblt h2) (xblt h2) hs.1 hs.2.1 hd (hn _ _ _ hs.2.2)
      · exact hs.elim
    · exact hs.elim
  | _ => exact hs.elim
theorem xchk_app {B : ByteArray} {k : xK} : ∀ (a : List xRw) (m : xRw) (b : List xRw), xchk B k (a ++ [m]) = true → xchk B k (m :: b) = true → xchk B k (a ++ m :: b) = true
  | [], _, _, _, h => h
  | [(pc, ins, a1, a2, v)], m, b, h, h2 => by
    have h1 : xchk B k [(pc, ins, a1, a2, v), m] = true := h
    show xchk B k ((pc, ins, a1, a2, v) :: m :: b) = true
    unfold xchk at h1 ⊢
    rw [Bool.and_eq_true] at h1 ⊢
    exact ⟨h1.1, h2⟩
  | (pc, ins, a1, a2, v) :: r2 :: a, m, b, h, h2 => by
    have h1 : xchk B k ((pc, ins, a1, a2, v) :: r2 :: (a ++ [m])) = true := h
    have h3 := xchk_app (r2 :: a) m b (xchk_tl h1) h2
    show xchk B k ((pc, ins, a1, a2, v) :: r2 :: (a ++ m :: b)) = true
    unfold xchk at h1 ⊢
    rw [Bool.and_eq_true] at h1 ⊢
    exact ⟨h1.1, h3⟩
/-- many steps: what holds where they stop is enough -/
theorem xwp_ok {l : Launch} {G : xG} {Y : xMD} {k : xK} {all : List xRw} (ok : xOK Y k all) {stops : List Nat} {cn sn : Nat} {Q : Option Value → xMe → xGh → Prop} : ∀ (n : Nat) (rs : List xRw) (lv : xLv) (st : List Value) (M : xMe) (K : Nat → xLv → List Value → xMe → Prop), xchk (yB Y) k rs = true → (∀ pc lv st M, K pc lv st M → xC l G Y pc lv st M none cn sn Q) → xwp G (yL Y) all stops n rs lv st M K → ∃ r t, rs = r :: t ∧ xC l G Y r.1 lv st M none cn sn Q
  | 0, [], _, _, _, _, _, _, h => h.elim
  | n + 1, [], _, _, _, _, _, _, h => h.elim
  | 0, [_], _, _, _, _, _, _, h => h.elim
  | n + 1, [_], _, _, _, _, _, _, h => h.elim
  | 0, r :: r2 :: rs, lv, st, M, K, _, hK, h => ⟨r, r2 :: rs, rfl, hK _ _ _ _ h⟩
  | n + 1, (pc, ins, a1, a2, v) :: r2 :: rs, lv, st, M, K, hc, hK, h => by
    refine ⟨_, _, rfl, ?_⟩
    unfold xwp at h
    split at h
    · exact hK _ _ _ _ h
    · refine xstp_ok ok.1 hc h (fun lv' st' M' hh => ?_) (fun t lv' st' M' hh => ?_)
      · obtain ⟨pc2, q2⟩ := r2
        dsimp only at hh
        split at hh
        · exact hK _ _ _ _ hh
        · obtain ⟨r, t, e, hC⟩ := xwp_ok ok n _ _ _ _ _ (xchk_tl hc) hK hh
          cases e
          exact hC
      · cases hjm : xjmp all t with
        | nil => rw [hjm] at hh; exact hh.elim
        | cons r rs' =>
          rw [hjm] at hh
          have e1 := xjmp_hd _ _ _ _ hjm
          obtain ⟨pc2, q2⟩ := r
          dsimp only at hh e1
          subst e1
          split at hh
          · exact hK _ _ _ _ hh
          · obtain ⟨r, t, e, hC⟩ := xwp_ok ok n _ _ _ _ _ (xchk_jmp _ _ _ _ ok.2 hjm) hK hh
            cases e
            exact hC

