/-! the order of blocks: ends, addresses, bytes; the least order -/
def nx (e a : Nat) : Nat := (e + a - 1) / a * a
def one8 (a : Nat) : Prop := a = 1 ∨ a = 2 ∨ a = 4 ∨ a = 8
def ene (A S : Nat → Nat) : Nat → List Nat → Nat
  | e, [] => e
  | e, b :: t => ene A S (nx e (A b) + S b) t
def adr (A S : Nat → Nat) (k : Nat) : Nat → List Nat → Nat
  | _, [] => 0
  | e, b :: t => if b = k then nx e (A b) else adr A S k (nx e (A b) + S b) t
def oct (A S : Nat → Nat) (O : Nat → Nat → Nat) : Nat → List Nat → (Nat → Nat) → Nat → Nat
  | _, [], m => m
  | e, b :: t, m => oct A S O (nx e (A b) + S b) t (fun a => if nx e (A b) ≤ a ∧ a < nx e (A b) + S b then O b (a - nx e (A b)) else m a)
theorem nx_ge {e a : Nat} (h : one8 a) : e ≤ nx e a ∧ nx e a ≤ e + 7 := by
  unfold nx
  rcases h with rfl | rfl | rfl | rfl <;> omega
theorem nx_8 {e a : Nat} (h : one8 a) : nx e a = e / 8 * 8 + nx (e % 8) a := by
  unfold nx
  rcases h with rfl | rfl | rfl | rfl <;> omega
theorem ene_app {A S : Nat → Nat} : ∀ (p q : List Nat) (e : Nat), ene A S e (p ++ q) = ene A S (ene A S e p) q
  | [], _, _ => rfl
  | b :: t, q, e => ene_app t q _
theorem ene_ge {A S : Nat → Nat} : ∀ (p : List Nat) (e : Nat), (∀ b, b ∈ p → one8 (A b)) → e ≤ ene A S e p
  | [], e, _ => Nat.le_refl _
  | b :: t, e, h => Nat.le_trans (Nat.le_trans (nx_ge (h b List.mem_cons_self)).1 (Nat.le_add_right _ _)) (ene_ge t _ (fun c hc => h c (List.mem_cons_of_mem _ hc)))
theorem ene_le {A S : Nat → Nat} : ∀ (p : List Nat) (e : Nat), (∀ b, b ∈ p → one8 (A b) ∧ S b ≤ 64) → ene A S e p ≤ e + 71 * p.length
  | [], e, _ => Nat.le_refl _
  | b :: t, e, h => by
    have h1 := ene_le t (nx e (A b) + S b) (fun c hc => h c (List.mem_cons_of_mem _ hc))
    have h2 := (nx_ge (e := e) (h b List.mem_cons_self).1).2
    have h3 := (h b List.mem_cons_self).2
    show ene A S (nx e (A b) + S b) t ≤ _
    rw [List.length_cons]
    omega
/-- only the rest of 8 matters -/
theorem ene_8 {A S : Nat → Nat} : ∀ (p : List Nat) (e : Nat), (∀ b, b ∈ p → one8 (A b)) → ene A S e p = e / 8 * 8 + ene A S (e % 8) p
  | [], e, _ => by show e = e / 8 * 8 + e % 8; omega
  | b :: t, e, h => by
    have h1 := nx_8 (e := e) (h b List.mem_cons_self)
    have ht := fun c hc => h c (List.mem_cons_of_mem b hc)
    show ene A S (nx e (A b) + S b) t = _ + ene A S (nx (e % 8) (A b) + S b) t
    rw [ene_8 t (nx e (A b) + S b) ht, ene_8 t (nx (e % 8) (A b) + S b) ht, h1]
    have e1 : (e / 8 * 8 + nx (e % 8) (A b) + S b) % 8 = (nx (e % 8) (A b) + S b) % 8 := by omega
    rw [e1]
    omega
/-- orders: of the numbers below n not yet laid each once -/
def oks (n : Nat) (L : Nat → Prop) (p : List Nat) : Prop := p.Nodup ∧ ∀ x, x ∈ p ↔ x < n ∧ ¬ L x
def lad (L : Nat → Prop) (b x : Nat) : Prop := L x ∨ x = b
theorem oks_cons {n : Nat} {L : Nat → Prop} {b : Nat} {t : List Nat} : oks n L (b :: t) ↔ (b < n ∧ ¬ L b) ∧ oks n (lad L b) t := by
  unfold oks lad
  rw [List.nodup_cons]
  constructor
  · rintro ⟨⟨h1, h2⟩, h3⟩
    refine ⟨(h3 b).mp List.mem_cons_self, h2, fun x => ⟨fun hx => ?_, fun ⟨h4, h5⟩ => ?_⟩⟩
    · have := (h3 x).mp (List.mem_cons_of_mem _ hx)
      exact ⟨this.1, fun z => z.elim this.2 (fun e => h1 (e ▸ hx))⟩
    · have := (h3 x).mpr ⟨h4, fun z => h5 (Or.inl z)⟩
      rcases List.mem_cons.mp this with e | e
      · exact absurd (Or.inr e) h5
      · exact e
  · rintro ⟨h1, h2, h3⟩
    refine ⟨⟨fun z => ((h3 b).mp z).2 (Or.inr rfl), h2⟩, fun x => ⟨fun hx => ?_, fun ⟨h4, h5⟩ => ?_⟩⟩
    · rcases List.mem_cons.mp hx with e | e
      · rw [e]; exact h1
      · have := (h3 x).mp e
        exact ⟨this.1, fun z => this.2 (Or.inl z)⟩
    · by_cases e : x = b
      · rw [e]; exact List.mem_cons_self
      · exact List.mem_cons_of_mem _ ((h3 x).mpr ⟨h4, fun z => z.elim h5 e⟩)
theorem oks_nil {n : Nat} {L : Nat → Prop} : oks n L [] ↔ ∀ x, x < n → L x := by
  unfold oks
  constructor
  · rintro ⟨_, h⟩ x hx
    exact Classical.byContradiction (fun z => by have := (h x).mpr ⟨hx, z⟩; simp at this)
  · intro h
    refine ⟨List.nodup_nil, fun x => ⟨fun z => by simp at z, fun ⟨z1, z2⟩ => absurd (h x z1) z2⟩⟩
/-- how many are left -/
noncomputable def lft (L : Nat → Prop) : Nat → Nat
  | 0 => 0
  | n + 1 => lft L n + (if tb (L n) then 0 else 1)
theorem lft_le {L : Nat → Prop} : ∀ n, lft L n ≤ n
  | 0 => Nat.le_refl _
  | n + 1 => by
    have := lft_le (L := L) n
    unfold lft
    split <;> omega
theorem lft_lad {L : Nat → Prop} {b : Nat} (h : ¬ L b) : ∀ n, lft L n = lft (lad L b) n + (if b < n then 1 else 0)
  | 0 => rfl
  | n + 1 => by
    have ih := lft_lad h n
    show lft L n + _ = lft (lad L b) n + _ + _
    rw [ih]
    by_cases e : n = b
    · subst e
      have t1 : tb (L n) = false := tb_f.mpr h
      have t2 : tb (lad L n n) = true := tb_t.mpr (Or.inr rfl)
      rw [t1, t2]
      simp
    · have this : tb (lad L b n) = tb (L n) := tb_c ⟨fun z => z.elim id (fun z => absurd z e), Or.inl⟩
      have e3 : (if b < n + 1 then 1 else 0) = (if b < n then 1 else 0 : Nat) := by
        by_cases q : b < n
        · rw [if_pos q, if_pos (Nat.lt_succ_of_lt q)]
        · rw [if_neg q, if_neg (fun z => q (by omega))]
      rw [this, e3]
      omega
theorem lft_0 {L : Nat → Prop} : ∀ n, lft L n = 0 ↔ ∀ x, x < n → L x
  | 0 => ⟨fun _ x hx => absurd hx (Nat.not_lt_zero _), fun _ => rfl⟩
  | n + 1 => by
    unfold lft
    by_cases e : L n
    · rw [if_pos (tb_t.mpr e), Nat.add_zero, lft_0 n]
      exact ⟨fun h x hx => by
        rcases Nat.lt_succ_iff_lt_or_eq.mp hx with q | q
        · exact h x q
        · rw [q]; exact e, fun h x hx => h x (by omega)⟩
    · rw [if_neg (by rw [tb_f.mpr e]; decide)]
      exact ⟨fun h => by omega, fun h => absurd (h n (by omega)) e⟩
theorem oks_len {n : Nat} : ∀ (p : List Nat) {L : Nat → Prop}, oks n L p → p.length = lft L n
  | [], L, h => ((lft_0 n).mpr (oks_nil.mp h)).symm
  | b :: t, L, h => by
    obtain ⟨h1, h2⟩ := oks_cons.mp h
    rw [List.length_cons, oks_len t h2, lft_lad h1.2 n, if_pos h1.1]
/-- fewest bytes still to come -/
def mns (A S : Nat → Nat) (n : Nat) (L : Nat → Prop) (e m : Nat) : Prop := (∃ p, oks n L p ∧ ene A S e p = e + m) ∧ ∀ p, oks n L p → e + m ≤ ene A S e p
theorem mns_1 {A S : Nat → Nat} {n : Nat} {L : Nat → Prop} {e m m' : Nat} (h : mns A S n L e m) (h' : mns A S n L e m') : m = m' := by
  obtain ⟨⟨p, h1, h2⟩, h3⟩ := h
  obtain ⟨⟨p', h1', h2'⟩, h3'⟩ := h'
  have a := h3 p' h1'
  have b := h3' p h1
  omega
theorem mns_all {A S : Nat → Nat} {n : Nat} {L : Nat → Prop} {e : Nat} (h : ∀ x, x < n → L x) : mns A S n L e 0 := by
  refine ⟨⟨[], oks_nil.mpr h, rfl⟩, fun p hp => ?_⟩
  have := oks_len p hp
  rw [(lft_0 n).mpr h] at this
  rw [List.length_eq_zero_iff.mp this]
  exact Nat.le_refl _
theorem mns_8 {A S : Nat → Nat} {n : Nat} {L : Nat → Prop} {e e' m : Nat} (hA : ∀ x, x < n → one8 (A x)) (he : e % 8 = e' % 8) (h : mns A S n L e m) : mns A S n L e' m := by
  have key : ∀ p, oks n L p → ene A S e' p + e = ene A S e p + e' := by
    intro p hp
    have hp' : ∀ b, b ∈ p → one8 (A b) := fun b hb => hA b ((hp.2 b).mp hb).1
    rw [ene_8 p e hp', ene_8 p e' hp', he]
    omega
  obtain ⟨⟨p, h1, h2⟩, h3⟩ := h
  refine ⟨⟨p, h1, by have := key p h1; omega⟩, fun p hp => ?_⟩
  have a := h3 p hp
  have b := key p hp
  omega
/-- one more laid: what it needs -/
def ned (A S : Nat → Nat) (e b : Nat) : Nat := nx e (A b) + S b - e
theorem mns_step {A S : Nat → Nat} {n : Nat} {L : Nat → Prop} {e m : Nat} (hA : ∀ x, x < n → one8 (A x)) (w : Nat → Nat) (hw : ∀ b, b < n → ¬ L b → mns A S n (lad L b) (nx e (A b) + S b) (w b)) (h1 : ∃ b, b < n ∧ ¬ L b ∧ m = ned A S e b + w b) (h2 : ∀ b, b < n → ¬ L b → m ≤ ned A S e b + w b) : mns A S n L e m := by
  constructor
  · obtain ⟨b, hb, hL, rfl⟩ := h1
    obtain ⟨⟨p, q1, q2⟩, _⟩ := hw b hb hL
    refine ⟨b :: p, oks_cons.mpr ⟨⟨hb, hL⟩, q1⟩, ?_⟩
    show ene A S (nx e (A b) + S b) p = _
    have := (nx_ge (e := e) (hA b hb)).1
    rw [q2]
    unfold ned
    omega
  · intro p hp
    cases p with
    | nil =>
      obtain ⟨b, hb, hL, _⟩ := h1
      exact absurd (oks_nil.mp hp b hb) hL
    | cons b t =>
      obtain ⟨⟨hb, hL⟩, q⟩ := oks_cons.mp hp
      have a := (hw b hb hL).2 t q
      have c := h2 b hb hL
      have d := (nx_ge (e := e) (hA b hb)).1
      show e + m ≤ ene A S (nx e (A b) + S b) t
      unfold ned at c
      omega
/-- its number among all rows of n numbers below n -/
def enc (n : Nat) : List Nat → Nat
  | [] => 0
  | b :: t => b * n ^ t.length + enc n t
theorem enc_lt {n : Nat} : ∀ (p : List Nat), (∀ x, x ∈ p → x < n) → enc n p < n ^ p.length
  | [], _ => by show 0 < 1; omega
  | b :: t, h => by
    have ih := enc_lt t (fun x hx => h x (List.mem_cons_of_mem _ hx))
    have hb := h b List.mem_cons_self
    show b * n ^ t.length + enc n t < n ^ (t.length + 1)
    have h1 : (b + 1) * n ^ t.length ≤ n * n ^ t.length := Nat.mul_le_mul_right _ hb
    rw [Nat.add_mul, Nat.one_mul] at h1
    rw [Nat.pow_succ, Nat.mul_comm (n ^ t.length) n]
    omega
theorem enc_inj {n : Nat} : ∀ (p q : List Nat), p.length = q.length → (∀ x, x ∈ p → x < n) → (∀ x, x ∈ q → x < n) → enc n p = enc n q → p = q
  | [], [], _, _, _, _ => rfl
  | [], c :: u, hl, _, _, _ => by simp at hl
  | b :: t, [], hl, _, _, _ => by simp at hl
  | b :: t, c :: u, hl, hp, hq, he => by
    have hl' : t.length = u.length := by simpa using hl
    have ht := enc_lt t (fun x hx => hp x (List.mem_cons_of_mem _ hx))
    have hu := enc_lt u (fun x hx => hq x (List.mem_cons_of_mem _ hx))
    replace he : b * n ^ t.length + enc n t = c * n ^ u.length + enc n u := he
    rw [← hl'] at he hu
    have e1 : b = c := by
      rcases Nat.lt_trichotomy b c with z | z | z
      · have : (b + 1) * n ^ t.length ≤ c * n ^ t.length := Nat.mul_le_mul_right _ z
        rw [Nat.add_mul, Nat.one_mul] at this
        omega
      · exact z
      · have : (c + 1) * n ^ t.length ≤ b * n ^ t.length := Nat.mul_le_mul_right _ z
        rw [Nat.add_mul, Nat.one_mul] at this
        omega
    subst e1
    rw [enc_inj t u hl' (fun x hx => hp x (List.mem_cons_of_mem _ hx)) (fun x hx => hq x (List.mem_cons_of_mem _ hx)) (by omega)]
/-- the first of the least orders -/
def fst1 (A S : Nat → Nat) (n : Nat) (L : Nat → Prop) (e : Nat) (p : List Nat) : Prop := oks n L p ∧ ∀ q, oks n L q → ene A S e p < ene A S e q ∨ (ene A S e p = ene A S e q ∧ enc n p ≤ enc n q)
theorem fst1_1 {A S : Nat → Nat} {n : Nat} {L : Nat → Prop} {e : Nat} {p q : List Nat} (h : fst1 A S n L e p) (h' : fst1 A S n L e q) : p = q := by
  have a := h.2 q h'.1
  have b := h'.2 p h.1
  refine enc_inj (n := n) p q ((oks_len p h.1).trans (oks_len q h'.1).symm) (fun x hx => ((h.1.2 x).mp hx).1) (fun x hx => ((h'.1.2 x).mp hx).1) ?_
  omega
/-- choosing the least that is still among the best leads to the first of the least -/
theorem fst1_step {A S : Nat → Nat} {n : Nat} {L : Nat → Prop} {e b m : Nat} {t : List Nat} (hA : ∀ x, x < n → one8 (A x)) (hb : b < n ∧ ¬ L b) (hm : mns A S n L e m) (w : Nat → Nat) (hw : ∀ b, b < n → ¬ L b → mns A S n (lad L b) (nx e (A b) + S b) (w b)) (h1 : ned A S e b + w b = m) (h2 : ∀ c, c < b → ¬ L c → ¬ ned A S e c + w c = m) (ht : fst1 A S n (lad L b) (nx e (A b) + S b) t) : fst1 A S n L e (b :: t) := by
  refine ⟨oks_cons.mpr ⟨hb, ht.1⟩, fun q hq => ?_⟩
  have hbest : ene A S (nx e (A b) + S b) t = e + m := by
    obtain ⟨⟨p, q1, q2⟩, q3⟩ := hw b hb.1 hb.2
    have a := ht.2 p q1
    have c := q3 t ht.1
    have d := (nx_ge (e := e) (hA b hb.1)).1
    unfold ned at h1
    omega
  show ene A S (nx e (A b) + S b) t < _ ∨ (ene A S (nx e (A b) + S b) t = _ ∧ _)
  rw [hbest]
  have hle := hm.2 q hq
  rcases Nat.lt_or_eq_of_le hle with z | z
  · exact Or.inl z
  · refine Or.inr ⟨z, ?_⟩
    cases q with
    | nil => exact absurd (oks_nil.mp hq b hb.1) hb.2
    | cons c u =>
      obtain ⟨⟨hc, hcL⟩, hu⟩ := oks_cons.mp hq
      have hlen : t.length = u.length := by
        have a := oks_len _ (oks_cons.mpr ⟨hb, ht.1⟩)
        have b := oks_len _ hq
        simp at a b
        omega
      have hcb : ¬ c < b := by
        intro hlt
        apply h2 c hlt hcL
        obtain ⟨⟨p, q1, q2⟩, q3⟩ := hw c hc hcL
        have a := q3 u hu
        have d := (nx_ge (e := e) (hA c hc)).1
        have f := hm.2 (c :: p) (oks_cons.mpr ⟨⟨hc, hcL⟩, q1⟩)
        replace f : e + m ≤ ene A S (nx e (A c) + S c) p := f
        replace z : e + m = ene A S (nx e (A c) + S c) u := z
        unfold ned
        omega
      show b * n ^ t.length + enc n t ≤ c * n ^ u.length + enc n u
      rw [← hlen]
      rcases Nat.lt_or_eq_of_le (Nat.le_of_not_lt hcb) with y | y
      · have h3 := enc_lt (n := n) t (fun x hx => ((ht.1.2 x).mp hx).1)
        have : (b + 1) * n ^ t.length ≤ c * n ^ t.length := Nat.mul_le_mul_right _ y
        rw [Nat.add_mul, Nat.one_mul] at this
        omega
      · subst y
        replace z : e + m = ene A S (nx e (A b) + S b) u := z
        have := ht.2 u hu
        omega
theorem fst1_all {A S : Nat → Nat} {n : Nat} {L : Nat → Prop} {e : Nat} (h : ∀ x, x < n → L x) : fst1 A S n L e [] := by
  refine ⟨oks_nil.mpr h, fun q hq => ?_⟩
  have := oks_len q hq
  rw [(lft_0 n).mpr h] at this
  rw [List.length_eq_zero_iff.mp this]
  exact Or.inr ⟨rfl, Nat.le_refl _⟩
