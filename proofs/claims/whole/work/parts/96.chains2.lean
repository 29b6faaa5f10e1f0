/-! the reference's chains: a pass -/
def pD (E : Nat → Prop) (L : Nat → Nat → Prop) (D0 D : Nat → Option Nat) (c : Bool) (T : Nat → Nat → Prop) : Prop := iD E L D ∧ muD D ≤ muD D0 ∧ (c = true → muD D < muD D0) ∧ (c = false → D = D0 ∧ ∀ a b, T a b → dLf D0 a b = none)
theorem pD_step {E : Nat → Prop} {L : Nat → Nat → Prop} {D0 D : Nat → Option Nat} {c : Bool} {T : Nat → Nat → Prop} (h : pD E L D0 D c T) {a b : Nat} (hb : b < 36) (hl : L a b) : pD E L D0 (dLd D a b) (c || (dLf D a b).isSome) (fun x y => T x y ∨ (x = a ∧ y = b)) := by
  obtain ⟨h1, h2, h3, h4⟩ := h
  obtain ⟨m1, m2⟩ := muD_step h1 hb hl
  refine ⟨iD_step h1 hb hl, Nat.le_trans m1 h2, fun z => ?_, fun z => ?_⟩
  · rw [Bool.or_eq_true] at z
    rcases z with z | z
    · exact Nat.lt_of_le_of_lt m1 (h3 z)
    · exact Nat.lt_of_lt_of_le (m2 z) h2
  · rw [Bool.or_eq_false_iff] at z
    obtain ⟨e, ht⟩ := h4 z.1
    have hn : dLf D a b = none := by
      cases e2 : dLf D a b with
      | none => rfl
      | some n => rw [e2] at z; cases z.2
    have hd : dLd D a b = D := by unfold dLd; rw [hn]
    refine ⟨hd.trans e, fun x y hxy => ?_⟩
    rcases hxy with hxy | ⟨rfl, rfl⟩
    · exact ht x y hxy
    · rw [← e]; exact hn
theorem pD_mono {E : Nat → Prop} {L : Nat → Nat → Prop} {D0 D : Nat → Option Nat} {c : Bool} {T T' : Nat → Nat → Prop} (h : pD E L D0 D c T) (hT : ∀ a b, T' a b → T a b) : pD E L D0 D c T' := ⟨h.1, h.2.1, h.2.2.1, fun z => ⟨(h.2.2.2 z).1, fun a b y => (h.2.2.2 z).2 a b (hT a b y)⟩⟩
theorem pD_0 {E : Nat → Prop} {L : Nat → Nat → Prop} {D : Nat → Option Nat} (h : iD E L D) : pD E L D D false (fun _ _ => False) := ⟨h, Nat.le_refl _, (fun z => by cases z), fun _ => ⟨rfl, fun _ _ z => z.elim⟩⟩
