/-! chains by relaxation: the mathematics -/
noncomputable def nD (D : Nat → Option Nat) (d : Nat) : Nat := sm 36 (fun y => ind (∃ e, D y = some e ∧ e ≤ d))
def iD (E : Nat → Prop) (L : Nat → Nat → Prop) (D : Nat → Option Nat) : Prop := (∀ x d, D x = some d → x < 36 ∧ 1 ≤ d ∧ pth E L (d - 1) x ∧ d ≤ nD D d) ∧ (∀ x, x < 36 → E x → D x = some 1)
theorem nD_bd (D : Nat → Option Nat) (d : Nat) : nD D d ≤ 36 := sm_bd (n := 36) (c := 1) (fun _ _ => ind_le _)
theorem iD_36 {E : Nat → Prop} {L : Nat → Nat → Prop} {D : Nat → Option Nat} (h : iD E L D) {x d : Nat} (e : D x = some d) : d ≤ 36 := Nat.le_trans (h.1 x d e).2.2.2 (nD_bd D d)
theorem dLf_some {D : Nat → Option Nat} {a b n : Nat} (h : dLf D a b = some n) : ∃ d, D a = some d ∧ n = d + 1 ∧ ∀ e, D b = some e → d + 1 < e := by
  unfold dLf at h
  cases ed : D a with
  | none => rw [ed] at h; cases h
  | some d =>
    rw [ed] at h
    cases ee : D b with
    | none =>
      rw [ee] at h
      cases h
      exact ⟨d, rfl, rfl, fun e z => by cases z⟩
    | some e =>
      rw [ee] at h
      replace h : (if d + 1 < e then some (d + 1) else none) = some n := h
      by_cases hlt : d + 1 < e
      · rw [if_pos hlt] at h
        cases h
        refine ⟨d, rfl, rfl, fun e' z => ?_⟩
        cases z
        exact hlt
      · rw [if_neg hlt] at h
        cases h
theorem nD_un {D : Nat → Option Nat} {b n : Nat} (hb : ∀ e, D b = some e → n < e) (d : Nat) : nD D d ≤ nD (un D b (some n)) d := by
  refine sm_le (fun y _ => ind_m (fun ⟨e, z1, z2⟩ => ?_))
  by_cases ey : y = b
  · subst ey
    exact ⟨n, un_s, by have := hb e z1; omega⟩
  · exact ⟨e, by rw [un_n ey]; exact z1, z2⟩
theorem iD_step {E : Nat → Prop} {L : Nat → Nat → Prop} {D : Nat → Option Nat} (h : iD E L D) {a b : Nat} (hb : b < 36) (hl : L a b) : iD E L (dLd D a b) := by
  unfold dLd
  cases e : dLf D a b with
  | none => exact h
  | some n =>
    obtain ⟨d, ed, rfl, hlt⟩ := dLf_some e
    obtain ⟨ha, hd1, hp, hn⟩ := h.1 a d ed
    show iD E L (un D b (some (d + 1)))
    refine ⟨fun x m hx => ?_, fun x hx he => ?_⟩
    · by_cases ex : x = b
      · subst ex
        rw [un_s] at hx
        cases hx
        refine ⟨hb, by omega, ?_, ?_⟩
        · show pth E L (d + 1 - 1) x
          rw [show d + 1 - 1 = (d - 1) + 1 by omega]
          exact ⟨a, ha, hp, hl⟩
        · have h1 : nD D d < nD (un D x (some (d + 1))) (d + 1) := by
            refine sm_lt (fun y _ => ind_m (fun ⟨e, z1, z2⟩ => ?_)) hb ?_
            · by_cases ey : y = x
              · subst ey
                exact ⟨d + 1, un_s, Nat.le_refl _⟩
              · exact ⟨e, by rw [un_n ey]; exact z1, by omega⟩
            · rw [ind_f (p := ∃ e, D x = some e ∧ e ≤ d) (fun ⟨e, z1, z2⟩ => by have := hlt e z1; omega), ind_t (p := ∃ e, un D x (some (d + 1)) x = some e ∧ e ≤ d + 1) ⟨d + 1, un_s, Nat.le_refl _⟩]
              omega
          omega
      · rw [un_n ex] at hx
        obtain ⟨c1, c2, c3, c4⟩ := h.1 x m hx
        exact ⟨c1, c2, c3, Nat.le_trans c4 (nD_un hlt m)⟩
    · by_cases ex : x = b
      · subst ex
        have := hlt 1 (h.2 x hx he)
        omega
      · rw [un_n ex]
        exact h.2 x hx he
/-- what falls with each change -/
def muD (D : Nat → Option Nat) : Nat := sm 36 (fun x => match D x with | none => 37 | some d => d)
theorem muD_step {E : Nat → Prop} {L : Nat → Nat → Prop} {D : Nat → Option Nat} (h : iD E L D) {a b : Nat} (hb : b < 36) (hl : L a b) : muD (dLd D a b) ≤ muD D ∧ ((dLf D a b).isSome = true → muD (dLd D a b) < muD D) := by
  have h2 := iD_step h hb hl
  unfold dLd at *
  cases e : dLf D a b with
  | none => exact ⟨Nat.le_refl _, fun z => by cases z⟩
  | some n =>
    rw [e] at h2
    obtain ⟨d, ed, rfl, hlt⟩ := dLf_some e
    have h36 : d + 1 ≤ 36 := iD_36 (D := un D b (some (d + 1))) h2 un_s
    have : muD (un D b (some (d + 1))) < muD D := by
      refine sm_lt (fun x _ => ?_) hb ?_
      · by_cases ex : x = b
        · subst ex
          rw [un_s]
          cases ee : D x with
          | none => show d + 1 ≤ 37; omega
          | some m => have := hlt m ee; show d + 1 ≤ m; omega
        · rw [un_n ex]
          exact Nat.le_refl _
      · rw [un_s]
        cases ee : D b with
        | none => show d + 1 < 37; omega
        | some m => exact hlt m ee
    exact ⟨Nat.le_of_lt this, fun _ => this⟩
/-- when no link shortens a chain, all are shortest -/
theorem iD_end {E : Nat → Prop} {L : Nat → Nat → Prop} {D : Nat → Option Nat} (h : iD E L D) (hE : ∀ x, E x → x < 36) (hL : ∀ a b, a < 36 → L a b → b < 36) (hn : ∀ a b, a < 36 → L a b → dLf D a b = none) {x : Nat} (hx : x < 36) : rD E L x (oI (D x)) := by
  have key : ∀ n x, pth E L n x → ∃ d, d ≤ n + 1 ∧ D x = some d := by
    intro n
    induction n with
    | zero => exact fun x z => ⟨1, by omega, h.2 x (hE x z) z⟩
    | succ n ih =>
      rintro y ⟨w, hw, hp, hl⟩
      obtain ⟨d, hd, ed⟩ := ih w hp
      have hnone := hn w y hw hl
      unfold dLf at hnone
      rw [ed] at hnone
      cases ey : D y with
      | none => rw [ey] at hnone; cases hnone
      | some e =>
        rw [ey] at hnone
        replace hnone : (if d + 1 < e then some (d + 1) else none) = (none : Option Nat) := hnone
        by_cases hlt : d + 1 < e
        · rw [if_pos hlt] at hnone; cases hnone
        · exact ⟨e, by omega, rfl⟩
  refine ⟨fun n hi => ?_, fun hno => ?_⟩
  · obtain ⟨d, hd, ed⟩ := key n x hi.1
    obtain ⟨_, c2, c3, _⟩ := h.1 x d ed
    have : ¬ d - 1 < n := fun z => hi.2 (d - 1) z c3
    have e : d = n + 1 := by omega
    rw [ed, e]
    rfl
  · cases ed : D x with
    | none => rfl
    | some d => exact absurd (h.1 x d ed).2.2.1 (hno _)
