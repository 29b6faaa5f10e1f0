/-! sets: sums and masks -/
theorem sh_fold : ∀ b, b < 6 → ((1 : Int32) <<< (nI b &&& 31)) = nI (2 ^ b) := by decide +kernel
theorem xhv_bit : ∀ b, b < 6 → ∀ q, q < 64 → xbit (xhv b) q = q.testBit b := by decide +kernel
def foldW (b : Nat) (x : Int64) : Int64 := (x &&& (xhv b ^^^ -1)) ||| ((x &&& xhv b).toUInt64 >>> ((nI (2 ^ b)).toInt64.toUInt64 &&& Int64.toUInt64 63)).toInt64
theorem tb_add : ∀ b, b < 6 → ∀ q, q < 64 → q + 2 ^ b < 64 → (q + 2 ^ b).testBit b = !q.testBit b := by decide +kernel
theorem p2_lt : ∀ b, b < 6 → 2 ^ b < 64 := by decide
theorem tb_hi : ∀ b, b < 6 → ∀ q, q < 64 → 64 ≤ q + 2 ^ b → q.testBit b = true := by decide +kernel
theorem foldW_bit {b : Nat} (hb : b < 6) (x : Int64) {q : Nat} (hq : q < 64) : xbit (foldW b x) q = (!q.testBit b && (xbit x q || xbit x (q + 2 ^ b))) := by
  unfold foldW
  rw [xbit_or, xbit_and, xbit_not _ hq, xhv_bit b hb q hq, xbit_shr _ (p2_lt b hb), xbit_and, Nat.add_comm (2 ^ b) q]
  by_cases h : q + 2 ^ b < 64
  · rw [xhv_bit b hb _ h, tb_add b hb q hq h]
    cases q.testBit b <;> cases xbit x q <;> cases xbit x (q + 2 ^ b) <;> rfl
  · have h1 : xbit x (q + 2 ^ b) = false := by
      cases e : xbit x (q + 2 ^ b) with
      | false => rfl
      | true => exact absurd (xbit_lt e) h
    rw [h1]
    cases q.testBit b <;> cases xbit x q <;> rfl
/-- a set's picture under a mask -/
def sImg (X : Nat → Bool) (m v : Nat) : Prop := ∃ u, u < 256 ∧ X u = true ∧ u &&& m = v
theorem clr_all : ∀ b, b < 8 → ∀ u, u < 256 → u &&& (255 - 2 ^ b) = if u.testBit b then u - 2 ^ b else u := by decide +kernel
theorem clr_tb : ∀ b, b < 8 → ∀ u, u < 256 → u.testBit b = true → (u - 2 ^ b).testBit b = false ∧ u - 2 ^ b + 2 ^ b = u := by decide +kernel
theorem set_tb : ∀ b, b < 8 → ∀ u, u < 256 → u.testBit b = false → (u + 2 ^ b).testBit b = true ∧ u + 2 ^ b < 256 := by decide +kernel
theorem clr_iff {X : Nat → Bool} {b : Nat} (hb : b < 8) {v : Nat} (hv : v < 256) : sImg X (255 - 2 ^ b) v ↔ v.testBit b = false ∧ (X v = true ∨ X (v + 2 ^ b) = true) := by
  constructor
  · rintro ⟨u, hu, hX, e⟩
    rw [clr_all b hb u hu] at e
    cases ht : u.testBit b with
    | true =>
      rw [ht] at e
      obtain ⟨c1, c2⟩ := clr_tb b hb u hu ht
      replace e : u - 2 ^ b = v := e
      rw [e] at c1 c2
      rw [c2]
      exact ⟨c1, Or.inr hX⟩
    | false =>
      rw [ht] at e
      replace e : u = v := e
      subst e
      exact ⟨ht, Or.inl hX⟩
  · rintro ⟨h1, h2⟩
    rcases h2 with h2 | h2
    · exact ⟨v, hv, h2, by rw [clr_all b hb v hv, h1]; rfl⟩
    · obtain ⟨c1, c2⟩ := set_tb b hb v hv h1
      refine ⟨v + 2 ^ b, c2, h2, ?_⟩
      rw [clr_all b hb _ c2, c1]
      show v + 2 ^ b - 2 ^ b = v
      omega
theorem img_img {X Y : Nat → Bool} {m k : Nat} (hY : ∀ v, v < 256 → (Y v = true ↔ sImg X m v)) (hm : m < 256) {v : Nat} : sImg Y k v ↔ sImg X (m &&& k) v := by
  constructor
  · rintro ⟨u, hu, hX, e⟩
    obtain ⟨w, hw, hw2, e2⟩ := (hY u hu).mp hX
    exact ⟨w, hw, hw2, by rw [← Nat.and_assoc, e2, e]⟩
  · rintro ⟨u, hu, hX, e⟩
    have h1 : u &&& m < 256 := Nat.lt_of_le_of_lt Nat.and_le_right hm
    exact ⟨u &&& m, h1, (hY _ h1).mpr ⟨u, hu, hX, rfl⟩, by rw [Nat.and_assoc, e]⟩
def mk (n : Nat) : Nat → Nat
  | 0 => 255
  | b + 1 => if n.testBit b then mk n b else mk n b &&& (255 - 2 ^ b)
theorem mk_8 : ∀ n, n < 256 → mk n 8 = n := by decide +kernel
theorem mk_lt (n : Nat) : ∀ b, mk n b < 256
  | 0 => by show 255 < 256; omega
  | b + 1 => by
    unfold mk
    split
    · exact mk_lt n b
    · exact Nat.lt_of_le_of_lt Nat.and_le_left (mk_lt n b)
theorem and_255' : ∀ u, u < 256 → u &&& 255 = u := by decide +kernel
theorem sImg_255 {X : Nat → Bool} {v : Nat} (hv : v < 256) : sImg X 255 v ↔ X v = true := by
  constructor
  · rintro ⟨u, hu, hX, e⟩
    rw [and_255' u hu] at e
    exact e ▸ hX
  · intro h
    exact ⟨v, hv, h, and_255' v hv⟩
/-- a mask's step, by a set that was folded -/
theorem mk_step {X Y Z : Nat → Bool} {n b : Nat} (hb : b < 8) (ht : n.testBit b = false) (hY : ∀ v, v < 256 → (Y v = true ↔ sImg X (mk n b) v)) (hZ : ∀ v, v < 256 → Z v = (!v.testBit b && (Y v || Y (v + 2 ^ b)))) : ∀ v, v < 256 → (Z v = true ↔ sImg X (mk n (b + 1)) v) := by
  intro v hv
  have e : mk n (b + 1) = mk n b &&& (255 - 2 ^ b) := by
    show (if n.testBit b then _ else _) = _
    rw [ht]
    rfl
  rw [e, ← img_img hY (mk_lt n b), clr_iff hb hv, hZ v hv]
  simp
theorem mk_same {n b : Nat} (ht : n.testBit b = true) : mk n (b + 1) = mk n b := by
  show (if n.testBit b then _ else _) = _
  rw [ht]
  rfl
section XFO
variable (l : Launch) (G : xG)
theorem L_fold (b : Nat) (hb : b < 6) (M0 : xMe) (Q : Option Value → xMe → Prop) (hQ : Q none (xsL M0 26 (fun j => if j < 4 then foldW b (M0.2 26 j) else M0.2 26 j))) : ∀ (m w : Nat), m + w = 4 → xF l G y_OS_foldWords 2 [some (.ref 26), some (.int (nI b)), some (.int (nI w)), none, none] [] (xsL M0 26 (fun j => if j < w then foldW b (M0.2 26 j) else M0.2 26 j)) Q := by
  intro m
  induction m with
  | zero =>
    intro w hw
    obtain rfl : w = 4 := by omega
    refine xF_go o_OS_foldWords [2] 60 (fun K hK => ?_)
    repeat' ((conv => whnf); first | refine ⟨fun h => ?_, fun h => ?_⟩ | refine ⟨?_, ?_⟩ | refine hK _ _ _ _ ?_)
    · refine xF_vret o_OS_foldWords rfl rfl ?_
      exact hQ
    all_goals exact absurd (show nI 4 < nI 4 from by assumption) (nI_nlt (by omega) (by omega))
  | succ m ih =>
    intro w hw
    have i1 : vp_in (nI w) 4 := vp_in_nI (by omega) (by decide)
    have i2 : vp_in (nI b) 6 := vp_in_nI hb (by decide)
    refine xF_go o_OS_foldWords [2] 60 (fun K hK => ?_)
    repeat' ((conv => whnf); first | refine ⟨fun h => ?_, fun h => ?_⟩ | refine ⟨?_, ?_⟩ | refine hK _ _ _ _ ?_)
    · exact absurd (nI_lt (b := 4) (by omega) (by omega)) h
    · exact i1
    · exact i2
    · exact i1
    · exact i2
    · exact i1
    · rw [sh_fold b hb, nI_1, nI_clamp (n := w) (by omega), nI_clamp (n := b) (by omega), xsL_LL]
      have e := ih (w + 1) (by omega)
      rw [xsL_c (g := vp_updL ((xsL M0 26 (fun j => if j < w then foldW b (M0.2 26 j) else M0.2 26 j)).2 26) w (foldW b ((xsL M0 26 (fun j => if j < w then foldW b (M0.2 26 j) else M0.2 26 j)).2 26 w)))] at e
      · refine xF_lv ?_ e
        intro i v hi
        match i, hi with
        | 0, hi => exact hi
        | 1, hi => exact hi
        | 2, hi => exact hi
        | 3, hi => cases hi
        | 4, hi => cases hi
        | i + 5, hi => cases hi
      · intro i
        show _ = vp_updL (fun j => if j < w then foldW b (M0.2 26 j) else M0.2 26 j) w (foldW b (if w < w then foldW b (M0.2 26 w) else M0.2 26 w)) i
        unfold vp_updL
        rw [if_neg (Nat.lt_irrefl w)]
        by_cases e : i = w
        · subst e
          rw [if_pos (by omega), if_pos rfl]
        · rw [if_neg e]
          grind
theorem E_foldWords (b : Nat) (hb : b < 6) (M : xMe) : xE l G y_OS_foldWords [.ref 26, .int (nI b)] M (fun r M' => r = none ∧ M' = xsL M 26 (fun j => if j < 4 then foldW b (M.2 26 j) else M.2 26 j)) := by
  refine xE_of [some (.ref 26), some (.int (nI b)), none, none, none] (by decide +kernel) (Nat.le_of_ble_eq_true rfl) rfl ?_
  refine xF_go o_OS_foldWords [2] 60 (fun K hK => ?_)
  repeat' ((conv => whnf); first | refine ⟨fun h => ?_, fun h => ?_⟩ | refine ⟨?_, ?_⟩ | refine hK _ _ _ _ ?_)
  have e0 : M = xsL M 26 (fun j => if j < 0 then foldW b (M.2 26 j) else M.2 26 j) := (xsL_id (fun i => by rw [if_neg (by omega)])).symm
  have key := L_fold l G b hb M (fun r M' => r = none ∧ M' = xsL M 26 (fun j => if j < 4 then foldW b (M.2 26 j) else M.2 26 j)) ⟨rfl, rfl⟩ 4 0 (by omega)
  rw [← e0] at key
  exact key
end XFO
theorem fold_has {b : Nat} (hb : b < 6) (f : Nat → Int64) {v : Nat} (hv : v < 256) : sHas (fun j => if j < 4 then foldW b (f j) else f j) 0 v = (!v.testBit b && (sHas f 0 v || sHas f 0 (v + 2 ^ b))) := by
  unfold sHas
  show xbit (if 0 + v / 64 < 4 then foldW b (f (0 + v / 64)) else f (0 + v / 64)) (v % 64) = _
  rw [if_pos (by omega), foldW_bit hb _ (by omega)]
  have h1 : ∀ b, b < 6 → ∀ v, v < 256 → (v % 64).testBit b = v.testBit b ∧ (v.testBit b = false → (v + 2 ^ b) / 64 = v / 64 ∧ (v + 2 ^ b) % 64 = v % 64 + 2 ^ b) := by decide +kernel
  obtain ⟨c1, c2⟩ := h1 b hb v hv
  rw [c1]
  cases ht : v.testBit b with
  | true => rfl
  | false =>
    obtain ⟨c3, c4⟩ := c2 ht
    rw [c4]
    rw [show 0 + (v + 2 ^ b) / 64 = 0 + v / 64 by rw [c3]]
theorem move_has {b a t : Nat} (f : Nat → Int64) (hf : (b = 6 ∧ ((a = 1 ∧ t = 0) ∨ (a = 3 ∧ t = 2)) ∨ (b = 7 ∧ ((a = 2 ∧ t = 0) ∨ (a = 3 ∧ t = 1)))) ) {v : Nat} (hv : v < 256) : sHas (vp_updL (vp_updL f t (f t ||| f a)) a 0) 0 v = if v / 64 = a then false else if v / 64 = t then (sHas f 0 v || sHas f 0 (v + 2 ^ b)) else sHas f 0 v := by
  unfold sHas vp_updL
  by_cases e1 : v / 64 = a
  · rw [if_pos e1, if_pos (by omega), xbit_0]
  · rw [if_neg e1, if_neg (by omega)]
    by_cases e2 : v / 64 = t
    · rw [if_pos e2, if_pos (by omega), xbit_or]
      have : (0 + v / 64 = t) ∧ (0 + (v + 2 ^ b) / 64 = a) ∧ (v + 2 ^ b) % 64 = v % 64 := by
        rcases hf with ⟨rfl, hf⟩ | ⟨rfl, hf⟩ <;> omega
      rw [this.1, this.2.1, this.2.2]
    · rw [if_neg e2, if_neg (by omega)]
