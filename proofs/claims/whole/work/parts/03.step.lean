/-! One step of the small machine as what must hold before it; many steps; they are sound over the real one -/
def xkl : Option Value → Option Value
  | some v => match v.category with
    | 2 => none
    | _ => some v
  | none => none
def xs1 : xLv → Nat → Value → xLv
  | [], _, _ => []
  | _ :: l, 0, v => some v :: l
  | a :: l, n + 1, v => (match n with | 0 => xkl a | _ + 1 => a) :: xs1 l n v
def xhd : xLv → xLv
  | [] => []
  | _ :: l => none :: l
def xs2 : xLv → Nat → Value → xLv
  | [], _, _ => []
  | _ :: l, 0, v => some v :: xhd l
  | a :: l, n + 1, v => (match n with | 0 => xkl a | _ + 1 => a) :: xs2 l n v
/-- the same with the rest of the run behind it, so that lists come out written -/
def xkk : Option Value → Nat → (Option Value → Prop) → Prop
  | some v, 0, k => (match v.category with | 2 => k none | _ => k (some v))
  | none, 0, k => k none
  | a, _ + 1, k => k a
def xp1 : xLv → Nat → Value → (xLv → Prop) → Prop
  | [], _, _, k => k []
  | _ :: l, 0, v, k => k (some v :: l)
  | a :: l, n + 1, v, k => xkk a n (fun a' => xp1 l n v (fun l' => k (a' :: l')))
def xq2 : xLv → Value → (xLv → Prop) → Prop
  | [], v, k => k [some v]
  | _ :: l, v, k => k (some v :: none :: l)
def xp2 : xLv → Nat → Value → (xLv → Prop) → Prop
  | [], _, _, k => k []
  | _ :: l, 0, v, k => xq2 l v k
  | a :: l, n + 1, v, k => xkk a n (fun a' => xp2 l n v (fun l' => k (a' :: l')))
theorem xkk_eq (a : Option Value) (n : Nat) (k : Option Value → Prop) : xkk a n k ↔ k (match n with | 0 => xkl a | _ + 1 => a) := by
  cases n with
  | zero =>
    cases a with
    | none => exact Iff.rfl
    | some v =>
      unfold xkk xkl
      rcases lv_cat v with q | q <;> simp only [q]
  | succ n => cases a <;> exact Iff.rfl
theorem xp1_eq : ∀ (lv : xLv) (i : Nat) (v : Value) (k : xLv → Prop), xp1 lv i v k ↔ k (xs1 lv i v)
  | [], _, _, _ => Iff.rfl
  | _ :: _, 0, _, _ => Iff.rfl
  | a :: l, n + 1, v, k => by
    unfold xp1 xs1
    rw [xkk_eq]
    exact xp1_eq l n v _
theorem xp2_eq : ∀ (lv : xLv) (i : Nat) (v : Value) (k : xLv → Prop), xp2 lv i v k ↔ k (xs2 lv i v)
  | [], _, _, _ => Iff.rfl
  | [_], 0, _, _ => Iff.rfl
  | _ :: _ :: _, 0, _, _ => Iff.rfl
  | a :: l, n + 1, v, k => by
    unfold xp2 xs2
    rw [xkk_eq]
    exact xp2_eq l n v _
/-- the kit's list of what the variables hold -/
def xas (G : xG) : Nat → xLv → List (Nat × Value)
  | _, [] => []
  | i, none :: l => xas G (i + 1) l
  | i, some v :: l => (i, xcv G v) :: xas G (i + 1) l
theorem xas_in {G : xG} : ∀ (lv : xLv) (i : Nat) (q : Nat × Value), q ∈ xas G i lv → ∃ (j : Nat) (v : Value), q = (i + j, xcv G v) ∧ xlg lv j = some v
  | [], i, q, h => by simp [xas] at h
  | none :: l, i, q, h => by
    obtain ⟨j, v, h1, h2⟩ := xas_in l (i + 1) q h
    exact ⟨j + 1, v, by rw [h1]; congr 1; omega, h2⟩
  | some w :: l, i, q, h => by
    rcases List.mem_cons.mp h with h | h
    · exact ⟨0, w, h, rfl⟩
    · obtain ⟨j, v, h1, h2⟩ := xas_in l (i + 1) q h
      exact ⟨j + 1, v, by rw [h1]; congr 1; omega, h2⟩
theorem xin_as {G : xG} : ∀ (lv : xLv) (i j : Nat) (v : Value), xlg lv j = some v → (i + j, xcv G v) ∈ xas G i lv
  | [], i, j, v, h => by simp [xlg] at h
  | none :: l, i, 0, v, h => by simp [xlg] at h
  | none :: l, i, j + 1, v, h => by
    have := xin_as (G := G) l (i + 1) j v h
    rw [show i + 1 + j = i + (j + 1) by omega] at this
    exact this
  | some w :: l, i, 0, v, h => by
    simp only [xlg] at h
    cases h
    exact List.mem_cons_self
  | some w :: l, i, j + 1, v, h => by
    have := xin_as (G := G) l (i + 1) j v h
    rw [show i + 1 + j = i + (j + 1) by omega] at this
    exact List.mem_cons_of_mem _ this
theorem xLs.has {G : xG} {ls : Array Slot} {nL : Nat} {lv : xLv} (h : xLs G ls nL lv) : lv_has ls nL (xas G 0 lv) := by
  refine ⟨h.1, h.2.1, fun q hq => ?_⟩
  obtain ⟨j, v, rfl, hv⟩ := xas_in lv 0 q hq
  rw [Nat.zero_add]
  exact h.2.2 j v hv
theorem xlg_s1 : ∀ (lv : xLv) (i : Nat) (v : Value) (j : Nat) (w : Value), xlg (xs1 lv i v) j = some w → (j = i ∧ w = v) ∨ (j ≠ i ∧ ¬ (j + 1 = i ∧ w.category = 2) ∧ xlg lv j = some w)
  | [], _, _, _, _, h => by simp [xs1, xlg] at h
  | a :: l, 0, v, 0, w, h => by
    simp only [xs1, xlg] at h
    cases h
    exact Or.inl ⟨rfl, rfl⟩
  | a :: l, 0, v, j + 1, w, h => Or.inr ⟨by omega, fun q => by omega, h⟩
  | a :: l, n + 1, v, 0, w, h => by
    refine Or.inr ⟨by omega, fun q => ?_, ?_⟩
    · have hn : n = 0 := by omega
      subst hn
      simp only [xs1, xlg] at h
      cases a with
      | none => simp [xkl] at h
      | some u =>
        unfold xkl at h
        rcases lv_cat u with z | z
        · simp only [z] at h
          cases h
          omega
        · simp only [z] at h
          cases h
    · cases n with
      | zero =>
        simp only [xs1, xlg] at h ⊢
        cases a with
        | none => simp [xkl] at h
        | some u =>
          unfold xkl at h
          rcases lv_cat u with z | z
          · simp only [z] at h
            exact h
          · simp only [z] at h
            cases h
      | succ n => exact h
  | a :: l, n + 1, v, j + 1, w, h => by
    rcases xlg_s1 l n v j w h with ⟨h1, h2⟩ | ⟨h1, h2, h3⟩
    · exact Or.inl ⟨by omega, h2⟩
    · exact Or.inr ⟨by omega, fun q => h2 ⟨by omega, q.2⟩, h3⟩
theorem xlg_s2 : ∀ (lv : xLv) (i : Nat) (v : Value) (j : Nat) (w : Value), xlg (xs2 lv i v) j = some w → (j = i ∧ w = v) ∨ (j ≠ i ∧ j ≠ i + 1 ∧ ¬ (j + 1 = i ∧ w.category = 2) ∧ xlg lv j = some w)
  | [], _, _, _, _, h => by simp [xs2, xlg] at h
  | a :: l, 0, v, 0, w, h => by
    simp only [xs2, xlg] at h
    cases h
    exact Or.inl ⟨rfl, rfl⟩
  | [a], 0, v, j + 1, w, h => by simp [xs2, xhd, xlg] at h
  | a :: b :: l, 0, v, 1, w, h => by simp [xs2, xhd, xlg] at h
  | a :: b :: l, 0, v, j + 2, w, h => Or.inr ⟨by omega, by omega, fun q => by omega, h⟩
  | a :: l, n + 1, v, 0, w, h => by
    refine Or.inr ⟨by omega, by omega, fun q => ?_, ?_⟩
    · have hn : n = 0 := by omega
      subst hn
      simp only [xs2, xlg] at h
      cases a with
      | none => simp [xkl] at h
      | some u =>
        unfold xkl at h
        rcases lv_cat u with z | z
        · simp only [z] at h
          cases h
          omega
        · simp only [z] at h
          cases h
    · cases n with
      | zero =>
        simp only [xs2, xlg] at h ⊢
        cases a with
        | none => simp [xkl] at h
        | some u =>
          unfold xkl at h
          rcases lv_cat u with z | z
          · simp only [z] at h
            exact h
          · simp only [z] at h
            cases h
      | succ n => exact h
  | a :: l, n + 1, v, j + 1, w, h => by
    rcases xlg_s2 l n v j w h with ⟨h1, h2⟩ | ⟨h1, h2, h3, h4⟩
    · exact Or.inl ⟨by omega, h2⟩
    · exact Or.inr ⟨by omega, by omega, fun q => h3 ⟨by omega, q.2⟩, h4⟩
theorem xLs.put1 {G : xG} {ls : Array Slot} {nL : Nat} {lv : xLv} {i : Nat} {v : Value} (h : lv_has ls nL ((i, xcv G v) :: (xas G 0 lv).filter (fun q => !(q.1 == i) && !(q.1 + 1 == i && q.2.category == 2)))) : xLs G ls nL (xs1 lv i v) := by
  refine ⟨h.1, h.2.1, fun j w hj => ?_⟩
  rcases xlg_s1 lv i v j w hj with ⟨rfl, rfl⟩ | ⟨h1, h2, h3⟩
  · exact h.2.2 _ List.mem_cons_self
  · have hm := xin_as (G := G) lv 0 j w h3
    rw [Nat.zero_add] at hm
    refine h.2.2 (j, xcv G w) (List.mem_cons_of_mem _ (List.mem_filter.mpr ⟨hm, ?_⟩))
    simp only [xcv_cat]
    simp
    exact ⟨h1, by omega⟩
theorem xLs.put2 {G : xG} {ls : Array Slot} {nL : Nat} {lv : xLv} {i : Nat} {v : Value} (h : lv_has ls nL ((i, xcv G v) :: (xas G 0 lv).filter (fun q => !(q.1 == i) && (!(q.1 == i + 1) && !(q.1 + 1 == i && q.2.category == 2))))) : xLs G ls nL (xs2 lv i v) := by
  refine ⟨h.1, h.2.1, fun j w hj => ?_⟩
  rcases xlg_s2 lv i v j w hj with ⟨rfl, rfl⟩ | ⟨h1, h1', h2, h3⟩
  · exact h.2.2 _ List.mem_cons_self
  · have hm := xin_as (G := G) lv 0 j w h3
    rw [Nat.zero_add] at hm
    refine h.2.2 (j, xcv G w) (List.mem_cons_of_mem _ (List.mem_filter.mpr ⟨hm, ?_⟩))
    simp only [xcv_cat]
    simp
    exact ⟨h1, h1', by omega⟩
theorem xlg_lt {G : xG} {ls : Array Slot} {nL : Nat} {lv : xLv} (h : xLs G ls nL lv) {i : Nat} {v : Value} (hi : xlg lv i = some v) : i < nL := by
  have := lv_lt (h.2.2 i v hi)
  rw [h.1] at this
  exact this
def xjmp : List xRw → Nat → List xRw
  | [], _ => []
  | r :: rs, t => match Nat.beq r.1 t with
    | true => r :: rs
    | false => xjmp rs t
/-- the cases of a switch, one behind the other -/
def xsw (x : Int32) (k : Int → Prop) (d : Int) : List (Int × Int) → Prop
  | [] => k d
  | q :: l => (x = Int32.ofInt q.1 → k q.2) ∧ (¬ x = Int32.ofInt q.1 → xsw x k d l)
def xtab : Int → List Int → List (Int × Int)
  | _, [] => []
  | i, o :: l => (i, o) :: xtab (i + 1) l
def xstp (G : xG) (all : List xRw) (pc : Nat) (ins : Instr) (a1 a2 : Nat) (v : Value) (nL : Nat) (rs : List xRw) (lv : xLv) (st : List Value) (M : xMe) (K : List xRw → xLv → List Value → xMe → Prop) : Prop :=
  match ins with
  | .iconst _ | .bipush _ | .sipush _ | .lconst _ | .ldc _ | .ldc_w _ | .ldc2_w _ => K rs lv (v :: st) M
  | .iload _ | .iload_n _ => (match xlg lv a1 with | some (.int x) => K rs lv (.int x :: st) M | _ => False)
  | .lload _ | .lload_n _ => (match xlg lv a1 with | some (.long x) => K rs lv (.long x :: st) M | _ => False)
  | .aload _ | .aload_n _ => (match xlg lv a1 with | some (.ref x) => K rs lv (.ref x :: st) M | _ => False)
  | .istore _ | .istore_n _ => (match Nat.blt a1 nL, st with | true, .int x :: r => xp1 lv a1 (.int x) (fun lv' => K rs lv' r M) | _, _ => False)
  | .lstore _ | .lstore_n _ => (match Nat.blt (a1 + 1) nL, st with | true, .long x :: r => xp2 lv a1 (.long x) (fun lv' => K rs lv' r M) | _, _ => False)
  | .astore _ | .astore_n _ => (match Nat.blt a1 nL, st with | true, .ref x :: r => xp1 lv a1 (.ref x) (fun lv' => K rs lv' r M) | _, _ => False)
  | .iinc _ _ => (match xlg lv a1, v with | some (.int x), .int c => xp1 lv a1 (.int (x + c)) (fun lv' => K rs lv' st M) | _, _ => False)
  | .iadd => (match st with | .int y :: .int x :: r => K rs lv (.int (x + y) :: r) M | _ => False)
  | .isub => (match st with | .int y :: .int x :: r => K rs lv (.int (x - y) :: r) M | _ => False)
  | .imul => (match st with | .int y :: .int x :: r => K rs lv (.int (x * y) :: r) M | _ => False)
  | .iand => (match st with | .int y :: .int x :: r => K rs lv (.int (x &&& y) :: r) M | _ => False)
  | .ior => (match st with | .int y :: .int x :: r => K rs lv (.int (x ||| y) :: r) M | _ => False)
  | .ixor => (match st with | .int y :: .int x :: r => K rs lv (.int (x ^^^ y) :: r) M | _ => False)
  | .idiv => (match st with | .int y :: .int x :: r => ¬ y = 0 ∧ K rs lv (.int (x / y) :: r) M | _ => False)
  | .irem => (match st with | .int y :: .int x :: r => ¬ y = 0 ∧ K rs lv (.int (x - x / y * y) :: r) M | _ => False)
  | .ineg => (match st with | .int x :: r => K rs lv (.int (-x) :: r) M | _ => False)
  | .ishl => (match st with | .int y :: .int x :: r => K rs lv (.int (x <<< (y &&& 31)) :: r) M | _ => False)
  | .ishr => (match st with | .int y :: .int x :: r => K rs lv (.int (x >>> (y &&& 31)) :: r) M | _ => False)
  | .iushr => (match st with | .int y :: .int x :: r => K rs lv (.int (x.toUInt32 >>> (y.toUInt32 &&& Int32.toUInt32 31)).toInt32 :: r) M | _ => False)
  | .ladd => (match st with | .long y :: .long x :: r => K rs lv (.long (x + y) :: r) M | _ => False)
  | .lsub => (match st with | .long y :: .long x :: r => K rs lv (.long (x - y) :: r) M | _ => False)
  | .land => (match st with | .long y :: .long x :: r => K rs lv (.long (x &&& y) :: r) M | _ => False)
  | .lor => (match st with | .long y :: .long x :: r => K rs lv (.long (x ||| y) :: r) M | _ => False)
  | .lxor => (match st with | .long y :: .long x :: r => K rs lv (.long (x ^^^ y) :: r) M | _ => False)
  | .lshl => (match st with | .int y :: .long x :: r => K rs lv (.long (x <<< (y.toInt64 &&& 63)) :: r) M | _ => False)
  | .lshr => (match st with | .int y :: .long x :: r => K rs lv (.long (x >>> (y.toInt64 &&& 63)) :: r) M | _ => False)
  | .lushr => (match st with | .int y :: .long x :: r => K rs lv (.long (x.toUInt64 >>> (y.toInt64.toUInt64 &&& Int64.toUInt64 63)).toInt64 :: r) M | _ => False)
  | .lcmp => (match st with | .long y :: .long x :: r => K rs lv (.int (lg_cmp x y) :: r) M | _ => False)
  | .i2l => (match st with | .int x :: r => K rs lv (.long x.toInt64 :: r) M | _ => False)
  | .l2i => (match st with | .long x :: r => K rs lv (.int x.toInt32 :: r) M | _ => False)
  | .dup => (match st with | .int x :: r => K rs lv (.int x :: .int x :: r) M | .ref x :: r => K rs lv (.ref x :: .ref x :: r) M | _ => False)
  | .dup2 => (match st with | .int x :: .ref y :: r => K rs lv (.int x :: .ref y :: .int x :: .ref y :: r) M | .long x :: r => K rs lv (.long x :: .long x :: r) M | _ => False)
  | .pop => (match st with | .int _ :: r => K rs lv r M | _ => False)
  | .ifCond c _ => (match st with
    | .int x :: r => (match c with
      | .eq => (x = 0 → K (xjmp all a1) lv r M) ∧ (¬ x = 0 → K rs lv r M)
      | .ne => (¬ x = 0 → K (xjmp all a1) lv r M) ∧ (x = 0 → K rs lv r M)
      | .lt => (x < 0 → K (xjmp all a1) lv r M) ∧ (¬ x < 0 → K rs lv r M)
      | .ge => (¬ x < 0 → K (xjmp all a1) lv r M) ∧ (x < 0 → K rs lv r M)
      | .gt => (0 < x → K (xjmp all a1) lv r M) ∧ (¬ 0 < x → K rs lv r M)
      | .le => (¬ 0 < x → K (xjmp all a1) lv r M) ∧ (0 < x → K rs lv r M))
    | _ => False)
  | .if_icmp c _ => (match st with
    | .int y :: .int x :: r => (match c with
      | .eq => (x = y → K (xjmp all a1) lv r M) ∧ (¬ x = y → K rs lv r M)
      | .ne => (¬ x = y → K (xjmp all a1) lv r M) ∧ (x = y → K rs lv r M)
      | .lt => (x < y → K (xjmp all a1) lv r M) ∧ (¬ x < y → K rs lv r M)
      | .ge => (¬ x < y → K (xjmp all a1) lv r M) ∧ (x < y → K rs lv r M)
      | .gt => (y < x → K (xjmp all a1) lv r M) ∧ (¬ y < x → K rs lv r M)
      | .le => (¬ y < x → K (xjmp all a1) lv r M) ∧ (y < x → K rs lv r M))
    | _ => False)
  | .goto _ => K (xjmp all a1) lv st M
  | .tableswitch d lo _ offs => (match st with | .int x :: r => xsw x (fun o => K (xjmp all ((pc : Int) + o).toNat) lv r M) d (xtab lo offs.toList) | _ => False)
  | .lookupswitch d ps => (match st with | .int x :: r => xsw x (fun o => K (xjmp all ((pc : Int) + o).toNat) lv r M) d ps.toList | _ => False)
  | .getfield _ => (match st with
    | .ref k :: r => (match Nat.beq (xkd k) (a2 + 3), xnth (xrf k) a1 none with
      | true, none => K rs lv (.int (M.1 k a1) :: r) M
      | true, some t => K rs lv (.ref t :: r) M
      | _, _ => False)
    | _ => False)
  | .putfield _ => (match st with
    | .int x :: .ref k :: r => (match Nat.beq (xkd k) (a2 + 3), xnth (xrf k) a1 none, v with
      | true, none, .int _ => K rs lv r (xsI M k (upd (M.1 k) a1 x))
      | true, none, .long _ => (x = 0 ∨ x = 1) ∧ K rs lv r (xsI M k (upd (M.1 k) a1 x))
      | _, _, _ => False)
    | _ => False)
  | .getstatic _ => K rs lv (.ref 97 :: st) M
  | .arraylength => (match st with | .ref k :: r => (match Nat.blt (xkd k) 3 with | true => K rs lv (.int (Int32.ofNat (xln G k)) :: r) M | false => False) | _ => False)
  | .iaload => (match st with
    | .int i :: .ref k :: r => (match Nat.beq (xkd k) 0, Nat.beq k 96 with
      | true, true => vp_in i (gL G) ∧ K rs lv (.int (gx G i.toNatClampNeg) :: r) M
      | true, false => vp_in i (xtl k) ∧ K rs lv (.int (M.1 k i.toNatClampNeg) :: r) M
      | _, _ => False)
    | _ => False)
  | .laload => (match st with
    | .int i :: .ref k :: r => (match Nat.beq (xkd k) 1, Nat.beq k 97 with
      | true, true => vp_in i 6 ∧ K rs lv (.long (xhv i.toNatClampNeg) :: r) M
      | true, false => vp_in i (xtl k) ∧ K rs lv (.long (M.2 k i.toNatClampNeg) :: r) M
      | _, _ => False)
    | _ => False)
  | .baload => (match st with
    | .int i :: .ref k :: r => (match Nat.beq (xkd k) 2 with
      | true => vp_in i (xtl k) ∧ K rs lv (.int (M.1 k i.toNatClampNeg) :: r) M
      | false => False)
    | _ => False)
  | .iastore => (match st with
    | .int x :: .int i :: .ref k :: r => (match Nat.beq (xkd k) 0, Nat.blt k 96 with
      | true, true => vp_in i (xtl k) ∧ K rs lv r (xsI M k (upd (M.1 k) i.toNatClampNeg x))
      | _, _ => False)
    | _ => False)
  | .lastore => (match st with
    | .long x :: .int i :: .ref k :: r => (match Nat.beq (xkd k) 1, Nat.blt k 96 with
      | true, true => vp_in i (xtl k) ∧ K rs lv r (xsL M k (vp_updL (M.2 k) i.toNatClampNeg x))
      | _, _ => False)
    | _ => False)
  | .bastore => (match st with
    | .int x :: .int i :: .ref k :: r => (match Nat.beq (xkd k) 2, Nat.blt k 96 with
      | true, true => vp_in i (xtl k) ∧ (x = 0 ∨ x = 1) ∧ K rs lv r (xsI M k (upd (M.1 k) i.toNatClampNeg x))
      | _, _ => False)
    | _ => False)
  | _ => False
def xcr : Instr → Bool
  | .invokevirtual _ => true
  | .invokestatic _ => true
  | .invokespecial _ => true
  | .ireturn => true
  | .lreturn => true
  | .return_ => true
  | _ => false
def xmb : List Nat → Nat → Bool
  | [], _ => false
  | a :: l, k => match Nat.beq a k with
    | true => true
    | false => xmb l k
/-- many steps: up to a call, a return, or a place of 'stops' -/
def xwp (G : xG) (nL : Nat) (all : List xRw) (stops : List Nat) : Nat → List xRw → xLv → List Value → xMe → (Nat → xLv → List Value → xMe → Prop) → Prop
  | 0, r :: _ :: _, lv, st, M, K => K r.1 lv st M
  | n + 1, (pc, ins, a1, a2, v) :: r2 :: rs, lv, st, M, K => match xcr ins with
    | true => K pc lv st M
    | false => xstp G all pc ins a1 a2 v nL (r2 :: rs) lv st M (fun rs' lv' st' M' => match rs' with
      | [] => False
      | (pc', q) :: rs'' => (match xmb stops pc' with
        | true => K pc' lv' st' M'
        | false => xwp G nL all stops n ((pc', q) :: rs'') lv' st' M' K))
  | _, _, _, _, _, _ => False
