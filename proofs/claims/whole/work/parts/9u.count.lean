/-! how many bits: Long.bitCount -/
def cnt (f : Nat → Bool) : Nat → Nat
  | 0 => 0
  | n + 1 => cnt f n + (if f n = true then 1 else 0)
theorem cnt_le (f : Nat → Bool) : ∀ n, cnt f n ≤ n
  | 0 => Nat.le_refl _
  | n + 1 => by
    have := cnt_le f n
    unfold cnt
    split <;> omega
theorem cnt_c {f g : Nat → Bool} : ∀ n, (∀ i, i < n → f i = g i) → cnt f n = cnt g n
  | 0, _ => rfl
  | n + 1, h => by
    unfold cnt
    rw [cnt_c n (fun i hi => h i (by omega)), h n (by omega)]
theorem cnt_add (f : Nat → Bool) (a : Nat) : ∀ b, cnt f (a + b) = cnt f a + cnt (fun i => f (a + i)) b
  | 0 => rfl
  | b + 1 => by
    show cnt f (a + b) + (if f (a + b) = true then 1 else 0) = cnt f a + (cnt (fun i => f (a + i)) b + (if f (a + b) = true then 1 else 0))
    rw [cnt_add f a b]
    omega
theorem cnt_0 {f : Nat → Bool} : ∀ n, (∀ i, i < n → f i = false) → cnt f n = 0
  | 0, _ => rfl
  | n + 1, h => by
    unfold cnt
    rw [cnt_0 n (fun i hi => h i (by omega)), h n (by omega)]
    rfl
/-- the same byte n times -/
def mk8 (d : Nat) : Nat → Nat
  | 0 => 0
  | n + 1 => d + 256 * mk8 d n
theorem and_256 (a b c d : Nat) (ha : a < 256) (hc : c < 256) : (a + 256 * b) &&& (c + 256 * d) = (a &&& c) + 256 * (b &&& d) := by
  have h1 : ((a + 256 * b) &&& (c + 256 * d)) % 2 ^ 8 = a &&& c := by
    rw [Nat.and_mod_two_pow]
    congr 1 <;> omega
  have h2 : ((a + 256 * b) &&& (c + 256 * d)) / 2 ^ 8 = b &&& d := by
    rw [Nat.and_div_two_pow]
    congr 1 <;> omega
  omega
def g1 (m n : Nat) : Nat := n - (n / 2 &&& m)
def g2 (m n : Nat) : Nat := (n &&& m) + (n / 4 &&& m)
def g3 (m n : Nat) : Nat := (n + n / 16) &&& m
theorem b8_1 : ∀ y, y < 256 → ∀ t, t < 2 → (y / 2 + 128 * t) &&& 0x55 = (y / 2 &&& 0x55) ∧ (y / 2 &&& 0x55) ≤ y := by decide +kernel
theorem b8_2 : ∀ y, y < 256 → ∀ t, t < 4 → (y / 4 + 64 * t) &&& 0x33 = (y / 4 &&& 0x33) := by decide +kernel
theorem b8_3 : ∀ a, a < 5 → ∀ b, b < 5 → ∀ t, t < 5 → (a + 16 * b + (b + 16 * t)) &&& 0x0f = (a + 16 * b + b) &&& 0x0f ∧ (a + 16 * b + (b + 16 * t)) < 256 := by decide +kernel
theorem b8_4 : ∀ y, y < 256 → g2 0x33 (g1 0x55 y) % 16 < 5 ∧ g2 0x33 (g1 0x55 y) / 16 < 5 ∧ g3 0x0f (g2 0x33 (g1 0x55 y)) = cnt (fun i => y.testBit i) 8 := by decide +kernel
theorem g1_s {y b m : Nat} (hy : y < 256) : g1 (0x55 + 256 * m) (y + 256 * b) = g1 0x55 y + 256 * g1 m b := by
  unfold g1
  have h0 : b % 2 < 2 := by omega
  obtain ⟨h1, h2⟩ := b8_1 y hy (b % 2) h0
  have e : (y + 256 * b) / 2 = (y / 2 + 128 * (b % 2)) + 256 * (b / 2) := by omega
  rw [e, and_256 _ _ _ _ (by omega) (by omega), h1]
  have h3 : (b / 2 &&& m) ≤ b := Nat.le_trans Nat.and_le_left (by omega)
  omega
theorem g2_s {y b m : Nat} (hy : y < 256) : g2 (0x33 + 256 * m) (y + 256 * b) = g2 0x33 y + 256 * g2 m b := by
  unfold g2
  have h1 := b8_2 y hy (b % 4) (by omega)
  have e : (y + 256 * b) / 4 = (y / 4 + 64 * (b % 4)) + 256 * (b / 4) := by omega
  rw [e, and_256 y b 0x33 m hy (by omega), and_256 (y / 4 + 64 * (b % 4)) (b / 4) 0x33 m (by omega) (by omega), h1]
  omega
theorem g3_s {y b m : Nat} (hy : y % 16 < 5) (hy2 : y / 16 < 5) (hb : b % 16 < 5) : g3 (0x0f + 256 * m) (y + 256 * b) = g3 0x0f y + 256 * g3 m b := by
  unfold g3
  obtain ⟨h1, h2⟩ := b8_3 (y % 16) hy (y / 16) hy2 (b % 16) hb
  have ey : y % 16 + 16 * (y / 16) = y := by omega
  rw [ey] at h1 h2
  have e : y + 256 * b + (y + 256 * b) / 16 = (y + (y / 16 + 16 * (b % 16))) + 256 * (b + b / 16) := by omega
  rw [e, and_256 _ _ _ _ h2 (by omega), h1]
/-- bytes' counts in a row, and their sum -/
def pvl : Nat → Nat → Nat
  | 0, _ => 0
  | n + 1, y => cnt (fun i => (y % 256).testBit i) 8 + 256 * pvl n (y / 256)
theorem g_all : ∀ n y, y < 256 ^ n → g2 (mk8 0x33 n) (g1 (mk8 0x55 n) y) % 16 < 5 ∧ g3 (mk8 0x0f n) (g2 (mk8 0x33 n) (g1 (mk8 0x55 n) y)) = pvl n y
  | 0, y, h => by
    have : y = 0 := by simpa using h
    subst this
    decide
  | n + 1, y, h => by
    have hy : y / 256 < 256 ^ n := by
      rw [Nat.pow_succ] at h
      exact Nat.div_lt_of_lt_mul (by omega)
    obtain ⟨ih1, ih2⟩ := g_all n (y / 256) hy
    have hm : y % 256 < 256 := by omega
    obtain ⟨k1, k2, k3⟩ := b8_4 (y % 256) hm
    have e : y = y % 256 + 256 * (y / 256) := by omega
    have s1 : g1 (mk8 0x55 (n + 1)) y = g1 0x55 (y % 256) + 256 * g1 (mk8 0x55 n) (y / 256) := by
      rw [← g1_s (m := mk8 0x55 n) hm]
      show g1 (0x55 + 256 * mk8 0x55 n) y = _
      congr 1
    have l1 : g1 0x55 (y % 256) < 256 := by unfold g1; omega
    have s2 : g2 (mk8 0x33 (n + 1)) (g1 (mk8 0x55 (n + 1)) y) = g2 0x33 (g1 0x55 (y % 256)) + 256 * g2 (mk8 0x33 n) (g1 (mk8 0x55 n) (y / 256)) := by
      rw [s1]
      exact g2_s l1
    rw [s2]
    refine ⟨by omega, ?_⟩
    show g3 (0x0f + 256 * mk8 0x0f n) _ = _
    rw [g3_s k1 k2 ih1, k3, ih2]
    rfl
def psl : Nat → Nat → Nat
  | 0, _ => 0
  | n + 1, y => cnt (fun i => (y % 256).testBit i) 8 + psl n (y / 256)
theorem psl_cnt : ∀ n y, psl n y = cnt (fun i => y.testBit i) (8 * n)
  | 0, _ => rfl
  | n + 1, y => by
    rw [show 8 * (n + 1) = 8 + 8 * n by omega, cnt_add]
    show cnt (fun i => (y % 256).testBit i) 8 + psl n (y / 256) = _
    rw [psl_cnt n (y / 256)]
    congr 1
    · refine cnt_c 8 (fun i hi => ?_)
      show (y % 2 ^ 8).testBit i = _
      rw [Nat.testBit_mod_two_pow]
      simp [hi]
    · refine cnt_c _ (fun i _ => ?_)
      show (y / 2 ^ 8).testBit i = _
      rw [Nat.testBit_div_two_pow, Nat.add_comm]
theorem sum_p {p0 p1 p2 p3 p4 p5 p6 p7 : Nat} (c0 : p0 ≤ 8) (c1 : p1 ≤ 8) (c2 : p2 ≤ 8) (c3 : p3 ≤ 8) (c4 : p4 ≤ 8) (c5 : p5 ≤ 8) (c6 : p6 ≤ 8) (c7 : p7 ≤ 8) {r1 r2 r3 r4 r5 r6 : Nat} (e6 : r6 = p6 + 256 * p7) (e5 : r5 = p5 + 256 * r6) (e4 : r4 = p4 + 256 * r5) (e3 : r3 = p3 + 256 * r4) (e2 : r2 = p2 + 256 * r3) (e1 : r1 = p1 + 256 * r2) {x x4 x5 x6 : Nat} (hx : x = p0 + 256 * r1) (h4 : x4 = x + x / 256) (h5 : x5 = x4 + x4 / 65536) (h6 : x6 = x5 + x5 / 4294967296) : x < 1152921504606846976 ∧ x4 < 2305843009213693952 ∧ x5 < 4611686018427387904 ∧ x6 < 9223372036854775808 ∧ x6 % 128 = p0 + (p1 + (p2 + (p3 + (p4 + (p5 + (p6 + p7)))))) := by
  have d1 : x / 256 = r1 := by omega
  rw [d1] at h4
  clear d1
  -- pairs
  have w : r6 + p7 = (p6 + p7) + 256 * p7 := by omega
  have v : r4 + r5 = (p4 + p5) + 256 * (p5 + p6) + 65536 * (r6 + p7) := by omega
  have u : r2 + r3 = (p2 + p3) + 256 * (p3 + p4) + 65536 * (r4 + r5) := by omega
  have t : x4 = (p0 + p1) + 256 * (p1 + p2) + 65536 * (r2 + r3) := by omega
  have bx : x < 1152921504606846976 := by omega
  clear h4 hx e1 e2 e3 e4 e5 e6
  generalize r6 + p7 = W at *
  generalize r4 + r5 = Y at *
  generalize r2 + r3 = U at *
  have d2 : x4 / 65536 = U := by omega
  rw [d2] at h5
  clear d2
  have bU : U < 281474976710656 := by omega
  have t5 : x5 = ((p0 + p1) + 256 * (p1 + p2) + (p2 + p3) + 256 * (p3 + p4)) + 65536 * (((p2 + p3) + 256 * (p3 + p4) + (p4 + p5) + 256 * (p5 + p6)) + 65536 * (Y + W)) := by omega
  have d3 : x5 / 4294967296 = Y + W := by
    have a1 : (p0 + p1) + 256 * (p1 + p2) + (p2 + p3) + 256 * (p3 + p4) < 65536 := by omega
    have a2 : (p2 + p3) + 256 * (p3 + p4) + (p4 + p5) + 256 * (p5 + p6) < 65536 := by omega
    generalize (p0 + p1) + 256 * (p1 + p2) + (p2 + p3) + 256 * (p3 + p4) = a at *
    generalize (p2 + p3) + 256 * (p3 + p4) + (p4 + p5) + 256 * (p5 + p6) = b at *
    generalize Y + W = c at *
    clear h5 h6 t u v w
    omega
  rw [d3] at h6
  clear d3
  have b4 : x4 < 2305843009213693952 := by omega
  have b5 : x5 < 4611686018427387904 := by omega
  have b6 : x6 < 9223372036854775808 := by omega
  refine ⟨bx, b4, b5, b6, ?_⟩
  rw [t5] at h6
  clear t5 h5 bx b4 b5 b6 bU t u
  omega
theorem sum_8 (y : Nat) {x x4 x5 x6 : Nat} (hx : x = pvl 8 y) (h4 : x4 = x + x / 256) (h5 : x5 = x4 + x4 / 65536) (h6 : x6 = x5 + x5 / 4294967296) : x < 1152921504606846976 ∧ x4 < 2305843009213693952 ∧ x5 < 4611686018427387904 ∧ x6 < 9223372036854775808 ∧ x6 % 128 = psl 8 y := by
  have c := fun z => cnt_le (fun i => (z % 256).testBit i) 8
  obtain ⟨a1, a2, a3, a4, a5⟩ := sum_p (c y) (c (y / 256)) (c (y / 256 / 256)) (c (y / 256 / 256 / 256)) (c (y / 256 / 256 / 256 / 256)) (c (y / 256 / 256 / 256 / 256 / 256)) (c (y / 256 / 256 / 256 / 256 / 256 / 256)) (c (y / 256 / 256 / 256 / 256 / 256 / 256 / 256)) rfl rfl rfl rfl rfl rfl hx h4 h5 h6
  exact ⟨a1, a2, a3, a4, a5⟩
/-- longs as naturals -/
theorem lN_of (x : Int64) : ∃ n, n < 2 ^ 64 ∧ x = lN n ∧ ∀ i, xbit x i = n.testBit i := by
  refine ⟨x.toBitVec.toNat, x.toBitVec.isLt, ?_, fun i => rfl⟩
  apply Int64.toBitVec_inj.mp
  show x.toBitVec = BitVec.ofNat 64 _
  rw [BitVec.ofNat_toNat]
  simp
theorem lN_and (a b : Nat) : lN a &&& lN b = lN (a &&& b) := by
  apply Int64.toBitVec_inj.mp
  show BitVec.ofNat 64 a &&& BitVec.ofNat 64 b = BitVec.ofNat 64 (a &&& b)
  rw [BitVec.ofNat_and]
theorem lN_shr {a : Nat} (ha : a < 2 ^ 64) {p : Nat} (hp : p < 64) : ((lN a).toUInt64 >>> ((nI p).toInt64.toUInt64 &&& Int64.toUInt64 63)).toInt64 = lN (a / 2 ^ p) := by
  apply Int64.toBitVec_inj.mp
  rw [xshr_bv _ hp]
  show BitVec.ofNat 64 a >>> p = BitVec.ofNat 64 (a / 2 ^ p)
  apply BitVec.eq_of_toNat_eq
  rw [BitVec.toNat_ushiftRight, BitVec.toNat_ofNat, BitVec.toNat_ofNat, Nat.shiftRight_eq_div_pow, Nat.mod_eq_of_lt ha, Nat.mod_eq_of_lt (Nat.lt_of_le_of_lt (Nat.div_le_self _ _) ha)]
theorem lN_7f (a : Nat) : (lN a).toInt32 &&& 127 = nI (a % 128) := by
  rw [lN_i, pk_and _ 7 (by decide)]
  congr 1
  show (BitVec.ofNat 32 a).toNat % 2 ^ 7 = _
  rw [BitVec.toNat_ofNat]
  omega
section XBC
variable (l : Launch) (G : xG)
theorem E_bitCount (x : Int64) (M : xMe) : xE l G y_JL_bitCount [.long x] M (fun r M' => M' = M ∧ r = some (.int (nI (cnt (xbit x) 64)))) := by
  refine xE_cps (fun Q hQ => ?_)
  obtain ⟨n, hn, rfl, hbits⟩ := lN_of x
  have ec : cnt (xbit (lN n)) 64 = psl 8 n := by
    rw [psl_cnt 8 n]
    exact cnt_c 64 (fun i _ => hbits i)
  rw [ec] at hQ
  have k5 : (6148914691236517205 : Int64) = lN (mk8 0x55 8) := by decide +kernel
  have k3 : (3689348814741910323 : Int64) = lN (mk8 0x33 8) := by decide +kernel
  have kf : (1085102592571150095 : Int64) = lN (mk8 0x0f 8) := by decide +kernel
  have m5 : mk8 0x55 8 < 2 ^ 64 := by decide +kernel
  have m3 : mk8 0x33 8 < 2 ^ 62 := by decide +kernel
  have mf : mk8 0x0f 8 < 2 ^ 60 := by decide +kernel
  obtain ⟨_, hall⟩ := g_all 8 n (by exact hn)
  have l1 : (n / 2 &&& mk8 0x55 8) ≤ n := Nat.le_trans Nat.and_le_left (by omega)
  have l1' : g1 (mk8 0x55 8) n < 2 ^ 64 := by unfold g1; omega
  have a1 := Nat.and_lt_two_pow (g1 (mk8 0x55 8) n) m3
  have a2 := Nat.and_lt_two_pow (g1 (mk8 0x55 8) n / 4) m3
  have l2 : g2 (mk8 0x33 8) (g1 (mk8 0x55 8) n) < 2 ^ 63 := by unfold g2; omega
  obtain ⟨z1, z2, z3, z4, z5⟩ := sum_8 n rfl rfl rfl rfl
  refine xE_of [some (.long (lN n)), none] (by decide +kernel) (Nat.le_of_ble_eq_true rfl) rfl ?_
  refine xF_go o_JL_bitCount [10] 60 (fun K hK => ?_)
  repeat' ((conv => whnf); first | refine ⟨fun h => ?_, fun h => ?_⟩ | refine ⟨?_, ?_⟩ | refine hK _ _ _ _ ?_)
  show xF l G y_JL_bitCount 10 [some (.long (lN n - (((lN n).toUInt64 >>> ((nI 1).toInt64.toUInt64 &&& Int64.toUInt64 63)).toInt64 &&& 6148914691236517205))), none] [] M Q
  rw [k5, lN_shr hn (by decide), lN_and, lN_sub (by exact l1)]
  clear hK K
  show xF l G y_JL_bitCount 10 [some (.long (lN (g1 (mk8 0x55 8) n))), none] [] M Q
  generalize g1 (mk8 0x55 8) n = n1 at *
  refine xF_go o_JL_bitCount [24] 60 (fun K hK => ?_)
  repeat' ((conv => whnf); first | refine ⟨fun h => ?_, fun h => ?_⟩ | refine ⟨?_, ?_⟩ | refine hK _ _ _ _ ?_)
  show xF l G y_JL_bitCount 24 [some (.long ((lN n1 &&& 3689348814741910323) + (((lN n1).toUInt64 >>> ((nI 2).toInt64.toUInt64 &&& Int64.toUInt64 63)).toInt64 &&& 3689348814741910323))), none] [] M Q
  rw [k3, lN_shr l1' (by decide), lN_and, lN_and, lN_add]
  clear hK K
  show xF l G y_JL_bitCount 24 [some (.long (lN (g2 (mk8 0x33 8) n1))), none] [] M Q
  generalize g2 (mk8 0x33 8) n1 = n2 at *
  refine xF_go o_JL_bitCount [34] 60 (fun K hK => ?_)
  repeat' ((conv => whnf); first | refine ⟨fun h => ?_, fun h => ?_⟩ | refine ⟨?_, ?_⟩ | refine hK _ _ _ _ ?_)
  show xF l G y_JL_bitCount 34 [some (.long ((lN n2 + ((lN n2).toUInt64 >>> ((nI 4).toInt64.toUInt64 &&& Int64.toUInt64 63)).toInt64) &&& 1085102592571150095)), none] [] M Q
  rw [kf, lN_shr (by omega) (by decide), lN_add, lN_and]
  clear hK K
  show xF l G y_JL_bitCount 34 [some (.long (lN (g3 (mk8 0x0f 8) n2))), none] [] M Q
  rw [hall]
  generalize pvl 8 n = x3 at *
  refine xF_go o_JL_bitCount [41] 60 (fun K hK => ?_)
  repeat' ((conv => whnf); first | refine ⟨fun h => ?_, fun h => ?_⟩ | refine ⟨?_, ?_⟩ | refine hK _ _ _ _ ?_)
  show xF l G y_JL_bitCount 41 [some (.long (lN x3 + ((lN x3).toUInt64 >>> ((nI 8).toInt64.toUInt64 &&& Int64.toUInt64 63)).toInt64)), none] [] M Q
  rw [lN_shr (by omega) (by decide), lN_add]
  clear hK K
  show xF l G y_JL_bitCount 41 [some (.long (lN (x3 + x3 / 256))), none] [] M Q
  generalize x3 + x3 / 256 = x4 at *
  refine xF_go o_JL_bitCount [48] 60 (fun K hK => ?_)
  repeat' ((conv => whnf); first | refine ⟨fun h => ?_, fun h => ?_⟩ | refine ⟨?_, ?_⟩ | refine hK _ _ _ _ ?_)
  show xF l G y_JL_bitCount 48 [some (.long (lN x4 + ((lN x4).toUInt64 >>> ((nI 16).toInt64.toUInt64 &&& Int64.toUInt64 63)).toInt64)), none] [] M Q
  rw [lN_shr (by omega) (by decide), lN_add]
  clear hK K
  show xF l G y_JL_bitCount 48 [some (.long (lN (x4 + x4 / 65536))), none] [] M Q
  generalize x4 + x4 / 65536 = x5 at *
  refine xF_go o_JL_bitCount [55] 60 (fun K hK => ?_)
  repeat' ((conv => whnf); first | refine ⟨fun h => ?_, fun h => ?_⟩ | refine ⟨?_, ?_⟩ | refine hK _ _ _ _ ?_)
  show xF l G y_JL_bitCount 55 [some (.long (lN x5 + ((lN x5).toUInt64 >>> ((nI 32).toInt64.toUInt64 &&& Int64.toUInt64 63)).toInt64)), none] [] M Q
  rw [lN_shr (by omega) (by decide), lN_add]
  clear hK K
  show xF l G y_JL_bitCount 55 [some (.long (lN (x5 + x5 / 4294967296))), none] [] M Q
  generalize x5 + x5 / 4294967296 = x6 at *
  refine xF_go o_JL_bitCount [] 60 (fun K hK => ?_)
  repeat' ((conv => whnf); first | refine ⟨fun h => ?_, fun h => ?_⟩ | refine ⟨?_, ?_⟩ | refine hK _ _ _ _ ?_)
  refine xF_iret o_JL_bitCount rfl rfl ?_
  refine hQ _ _ ⟨rfl, ?_⟩
  rw [← z5, ← lN_7f]
end XBC
