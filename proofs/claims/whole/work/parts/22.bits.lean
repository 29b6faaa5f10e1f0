/-! bits of longs -/
def xbit (w : Int64) (p : Nat) : Bool := w.toBitVec.getLsbD p
theorem xsh1_all : ∀ p, p < 64 → ((1 : Int64) <<< ((nI p).toInt64 &&& 63)).toBitVec = BitVec.twoPow 64 p := by decide +kernel
theorem xshr_all : ∀ p, p < 64 → ((nI p).toInt64.toUInt64 &&& Int64.toUInt64 63).toBitVec.toNat = p := by decide +kernel
theorem xshl_all : ∀ p, p < 64 → ((nI p).toInt64 &&& 63).toBitVec.toNat = p := by decide +kernel
theorem xbit_lt {w : Int64} {p : Nat} (h : xbit w p = true) : p < 64 := by
  unfold xbit at h
  exact BitVec.lt_of_getLsbD h
theorem xbit_or (a b : Int64) (q : Nat) : xbit (a ||| b) q = (xbit a q || xbit b q) := by
  unfold xbit
  rw [Int64.toBitVec_or, BitVec.getLsbD_or]
theorem xbit_and (a b : Int64) (q : Nat) : xbit (a &&& b) q = (xbit a q && xbit b q) := by
  unfold xbit
  rw [Int64.toBitVec_and, BitVec.getLsbD_and]
theorem xbit_xor (a b : Int64) (q : Nat) : xbit (a ^^^ b) q = (xbit a q ^^ xbit b q) := by
  unfold xbit
  rw [Int64.toBitVec_xor, BitVec.getLsbD_xor]
theorem xbit_0 (q : Nat) : xbit 0 q = false := by
  unfold xbit
  simp
theorem xbit_m1 (q : Nat) : xbit (-1) q = decide (q < 64) := by
  unfold xbit
  have : (-1 : Int64).toBitVec = BitVec.allOnes 64 := by decide +kernel
  rw [this, BitVec.getLsbD_allOnes]
theorem xbit_1 {p : Nat} (hp : p < 64) (q : Nat) : xbit ((1 : Int64) <<< ((nI p).toInt64 &&& 63)) q = decide (q = p) := by
  unfold xbit
  rw [xsh1_all p hp, BitVec.getLsbD_twoPow]
  by_cases h : q = p
  · subst h; simp [hp]
  · simp [h]; omega
theorem xbit_not (a : Int64) {q : Nat} (hq : q < 64) : xbit (a ^^^ -1) q = !xbit a q := by
  rw [xbit_xor, xbit_m1]
  simp [hq]
theorem xshr_bv (a : Int64) {p : Nat} (hp : p < 64) : (a.toUInt64 >>> ((nI p).toInt64.toUInt64 &&& Int64.toUInt64 63)).toInt64.toBitVec = a.toBitVec >>> p := by
  have h := xshr_all p hp
  show (a.toUInt64 >>> ((nI p).toInt64.toUInt64 &&& Int64.toUInt64 63)).toBitVec = _
  rw [UInt64.toBitVec_shiftRight]
  show a.toBitVec >>> (((nI p).toInt64.toUInt64 &&& Int64.toUInt64 63).toBitVec % 64#64) = _
  have e : ((nI p).toInt64.toUInt64 &&& Int64.toUInt64 63).toBitVec % 64#64 = BitVec.ofNat 64 p := by
    apply BitVec.eq_of_toNat_eq
    rw [BitVec.toNat_umod, h]
    simp
    omega
  rw [e]
  show a.toBitVec >>> (BitVec.ofNat 64 p).toNat = _
  rw [BitVec.toNat_ofNat, Nat.mod_eq_of_lt (by omega)]
theorem xbit_shr (a : Int64) {p : Nat} (hp : p < 64) (q : Nat) : xbit (a.toUInt64 >>> ((nI p).toInt64.toUInt64 &&& Int64.toUInt64 63)).toInt64 q = xbit a (p + q) := by
  unfold xbit
  rw [xshr_bv a hp, BitVec.getLsbD_ushiftRight]
theorem xshl_bv (a : Int64) {p : Nat} (hp : p < 64) : (a <<< ((nI p).toInt64 &&& 63)).toBitVec = a.toBitVec <<< p := by
  have h := xshl_all p hp
  rw [Int64.toBitVec_shiftLeft]
  have e : (((nI p).toInt64 &&& 63).toBitVec.smod 64#64).toNat = p := by
    have : ∀ p, p < 64 → (((nI p).toInt64 &&& 63).toBitVec.smod 64#64).toNat = p := by decide +kernel
    exact this p hp
  show a.toBitVec <<< (((nI p).toInt64 &&& 63).toBitVec.smod 64#64).toNat = _
  rw [e]
theorem xbit_shl (a : Int64) {p : Nat} (hp : p < 64) (q : Nat) : xbit (a <<< ((nI p).toInt64 &&& 63)) q = (decide (q < 64) && (decide (p ≤ q) && xbit a (q - p))) := by
  unfold xbit
  rw [xshl_bv a hp, BitVec.getLsbD_shiftLeft]
  by_cases h1 : q < 64 <;> by_cases h2 : p ≤ q <;> simp [h1, h2] <;> omega
theorem xbit_ext {a b : Int64} (h : ∀ q, q < 64 → xbit a q = xbit b q) : a = b := by
  apply Int64.toBitVec_inj.mp
  apply BitVec.eq_of_getLsbD_eq
  intro i hi
  exact h i hi
theorem xbit_zero {a : Int64} : a = 0 ↔ ∀ q, q < 64 → xbit a q = false := by
  constructor
  · rintro rfl q _
    exact xbit_0 q
  · intro h
    exact xbit_ext (fun q hq => by rw [h q hq, xbit_0])
theorem xbit_one (q : Nat) : xbit 1 q = decide (q = 0) := by
  have := xbit_1 (p := 0) (by omega) q
  have e : (1 : Int64) <<< ((nI 0).toInt64 &&& 63) = 1 := by decide +kernel
  rw [e] at this
  exact this
/-- (x >>> p & 1) != 0 -/
theorem xbit_test (a : Int64) {p : Nat} (hp : p < 64) : ((a.toUInt64 >>> ((nI p).toInt64.toUInt64 &&& Int64.toUInt64 63)).toInt64 &&& 1 = 0) ↔ xbit a p = false := by
  rw [xbit_zero]
  constructor
  · intro h
    have := h 0 (by omega)
    rw [xbit_and, xbit_shr a hp, xbit_one] at this
    simpa using this
  · intro h q hq
    rw [xbit_and, xbit_shr a hp, xbit_one]
    by_cases h0 : q = 0
    · subst h0; simp [h]
    · simp [h0]
theorem xcmp0 (a b : Int64) : lg_cmp a b = 0 ↔ a = b := by
  unfold lg_cmp
  by_cases h : a = b
  · subst h
    have : ¬ a > a := Int64.lt_irrefl
    simp [this]
  · simp [h]
    by_cases h2 : a > b
    · have h3 : b < a := h2
      simp [h3]
    · have h3 : ¬ b < a := h2
      simp [h3]
