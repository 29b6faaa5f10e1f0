/-! where items lie: the geometry of the layout -/
theorem adr_dis {A S : Nat → Nat} {y z : Nat} (hyz : y ≠ z) : ∀ (R : List Nat) (e : Nat), (∀ b, b ∈ R → one8 (A b)) → y ∈ R → z ∈ R → adr A S y e R + S y ≤ adr A S z e R ∨ adr A S z e R + S z ≤ adr A S y e R
  | [], _, _, h, _ => by simp at h
  | b :: t, e, hA, hy, hz => by
    have hb := nx_ge (e := e) (hA b List.mem_cons_self)
    have ht := fun c hc => hA c (List.mem_cons_of_mem b hc)
    have ey : adr A S y e (b :: t) = if b = y then nx e (A b) else adr A S y (nx e (A b) + S b) t := rfl
    have ez : adr A S z e (b :: t) = if b = z then nx e (A b) else adr A S z (nx e (A b) + S b) t := rfl
    by_cases q1 : b = y
    · have q2 : ¬ b = z := fun q => hyz (q1 ▸ q)
      rw [ey, ez, if_pos q1, if_neg q2]
      have := (adr_le (A := A) (S := S) t (nx e (A b) + S b) ht ((List.mem_cons.mp hz).elim (fun z => absurd z.symm q2) id)).1
      rw [← q1]
      omega
    · by_cases q2 : b = z
      · rw [ey, ez, if_neg q1, if_pos q2]
        have := (adr_le (A := A) (S := S) t (nx e (A b) + S b) ht ((List.mem_cons.mp hy).elim (fun z => absurd z.symm q1) id)).1
        rw [← q2]
        omega
      · rw [ey, ez, if_neg q1, if_neg q2]
        exact adr_dis hyz t _ ht ((List.mem_cons.mp hy).elim (fun z => absurd z.symm q1) id) ((List.mem_cons.mp hz).elim (fun z => absurd z.symm q2) id)
/-- the block in which an item stands -/
def blk (P : sP) (V : sV) (R : List Nat) (k a y : Nat) : Prop := y ∈ R ∧ adr (aln P (stl P V)) (pS P) y 0 R ≤ a ∧ a + pS P k ≤ adr (aln P (stl P V)) (pS P) y 0 R + pS P y ∧ (¬ stl P V k → y = k ∧ a = adr (aln P (stl P V)) (pS P) k 0 R) ∧ (stl P V k → stl P V y) ∧ ∀ p, p < pS P k → pO P y (a - adr (aln P (stl P V)) (pS P) y 0 R + p) = pO P k p
theorem blk_1 {P : sP} (hw : wP P) {V : sV} {R : List Nat} (h : isR P V R) {k a : Nat} (hk : k < 24) (hs : sfr P (stl P V) k = none) (ha : ad1 P (stl P V) R k = some a) : ∃ y, blk P V R k a y := by
  unfold ad1 at ha
  cases e : ouf P (stl P V) k with
  | none =>
    rw [e] at ha
    obtain ⟨z1, z2, z3⟩ := ad0_le (isR_ok hw h) ha
    refine ⟨k, z1, by omega, by omega, fun _ => ⟨rfl, z2⟩, fun z => z, fun p hp => ?_⟩
    rw [z2, Nat.sub_self, Nat.zero_add]
  | some y =>
    rw [e] at ha
    obtain ⟨o1, o2, o3, o4, o5, o6⟩ := ouf_some hk e
    obtain ⟨y1, y2, y3, y4⟩ := okR_y (isR_ok hw h) hk e
    replace ha : some (adr (aln P (stl P V)) (pS P) y 0 R + pS P y - pS P k) = some a := ha
    have ha' : a = adr (aln P (stl P V)) (pS P) y 0 R + pS P y - pS P k := by cases ha; rfl
    refine ⟨y, y2, by omega, by omega, fun z => absurd o1.1 z, fun _ => o3.1, fun p hp => ?_⟩
    rw [show a - adr (aln P (stl P V)) (pS P) y 0 R + p = pS P y - pS P k + p by omega]
    exact o5.2 p hp
theorem blk_2 {P : sP} (hw : wP P) {V : sV} {R : List Nat} (h : isR P V R) {k a : Nat} (hk : k < 24) (ha : ad2 P (stl P V) R k = some a) : ∃ y, blk P V R k a y := by
  unfold ad2 at ha
  cases e : sfr P (stl P V) k with
  | none =>
    rw [e] at ha
    exact blk_1 hw h hk e ha
  | some i =>
    rw [e] at ha
    obtain ⟨z1, z2, z3⟩ := sfr_some.mp e
    have hst := sfr_st e
    obtain ⟨y, y1, y2, y3, y4, y5, y6⟩ := blk_1 hw h (by omega) hst.2 ha
    have hsz := z2.2.2.1
    refine ⟨y, y1, y2, by omega, fun z => absurd (sfr_T e) z, fun _ => y5 hst.1, fun p hp => ?_⟩
    rw [y6 p (by omega)]
    have := z2.2.2.2.2 p hp
    rw [show pS P i - pS P k + p = p by omega] at this
    exact this
/-- bytes as laid are the bytes told -/
theorem laid_at {P : sP} (hw : wP P) {V : sV} {R : List Nat} (h : isR P V R) {k a : Nat} (hk : k < 24) (ha : ad2 P (stl P V) R k = some a) {p : Nat} (hp : p < pS P k) : oct (aln P (stl P V)) (pS P) (pO P) 0 R (fun _ => 0) (a + p) = pO P k p := by
  obtain ⟨y, y1, y2, y3, y4, y5, y6⟩ := blk_2 hw h hk ha
  have hR := isR_ok hw h
  have := oct_at (A := aln P (stl P V)) (S := pS P) (O := pO P) (k := y) R 0 (fun _ => 0) (a - adr (aln P (stl P V)) (pS P) y 0 R + p) (fun b hb => (hR.2.2.1 b hb).2.1) y1 (by omega)
  rw [show adr (aln P (stl P V)) (pS P) y 0 R + (a - adr (aln P (stl P V)) (pS P) y 0 R + p) = a + p by omega] at this
  rw [this, y6 p hp]
/-- one that isn't still shares no byte with another -/
theorem laid_dis {P : sP} (hw : wP P) {V : sV} {R : List Nat} (h : isR P V R) {k a k' a' : Nat} (hk : k < 24) (hk' : k' < 24) (hne : k' ≠ k) (hns : ¬ stl P V k) (ha : ad2 P (stl P V) R k = some a) (ha' : ad2 P (stl P V) R k' = some a') {p p' : Nat} (hp : p < pS P k) (hp' : p' < pS P k') : a + p ≠ a' + p' := by
  obtain ⟨y, y1, y2, y3, y4, y5, y6⟩ := blk_2 hw h hk ha
  obtain ⟨z, z1, z2, z3, z4, z5, z6⟩ := blk_2 hw h hk' ha'
  obtain ⟨rfl, e⟩ := y4 hns
  have hyz : z ≠ y := by
    intro q
    by_cases s : stl P V k'
    · exact hns (q ▸ z5 s)
    · exact hne ((z4 s).1 ▸ q)
  have hR := isR_ok hw h
  have := adr_dis (A := aln P (stl P V)) (S := pS P) hyz R 0 (fun b hb => (hR.2.2.1 b hb).2.1) z1 y1
  omega
theorem oct_w {P : sP} (hw : wP P) {V : sV} {R : List Nat} (h : isR P V R) (a : Nat) : oct (aln P (stl P V)) (pS P) (pO P) 0 R (fun _ => 0) a < 256 := by
  have hR := isR_ok hw h
  refine oct_256 R 0 _ (fun b hb p hp => ?_) (fun _ => by omega) a
  have := hR.2.2.1 b hb
  exact hw.2.1 b this.1 p (by omega)
theorem ad2_wH {P : sP} (hw : wP P) {V : sV} {R : List Nat} (h : isR P V R) : wH P (ad2 P (stl P V) R) := by
  intro k hk a ha
  have := ad2_le (isR_ok hw h) hk ha
  omega
