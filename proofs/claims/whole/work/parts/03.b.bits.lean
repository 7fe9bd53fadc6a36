/-! Integer.bitCount of a set of calls is how many they are. -/
theorem bt_split (k : Nat) {a m b q : Nat} (ha : a < 2 ^ k) (hm : m < 2 ^ k) : (2 ^ k * b + a) &&& (2 ^ k * q + m) = 2 ^ k * (b &&& q) + (a &&& m) := by
  have hz : a &&& m < 2 ^ k := Nat.lt_of_le_of_lt Nat.and_le_left ha
  apply Nat.eq_of_testBit_eq
  intro j
  rw [Nat.testBit_and, Nat.testBit_two_pow_mul_add b ha, Nat.testBit_two_pow_mul_add q hm, Nat.testBit_two_pow_mul_add (b &&& q) hz]
  by_cases h : j < k <;> simp [h, Nat.testBit_and]
theorem bt8 {a m b q : Nat} (ha : a < 256) (hm : m < 256) : (256 * b + a) &&& (256 * q + m) = 256 * (b &&& q) + (a &&& m) := bt_split 8 ha hm
def g1 (a : Nat) : Nat := a - (a / 2 &&& 85)
def g2 (a : Nat) : Nat := (a &&& 51) + (a / 4 &&& 51)
def g3 (a : Nat) : Nat := (a + a / 16) % 16
def pop8 (a : Nat) : Nat := g3 (g2 (g1 a))
theorem by_1 : ∀ a, a < 256 → (a / 2 &&& 85) ≤ a ∧ ((128 + a / 2) &&& 85) = (a / 2 &&& 85) := by decide +kernel
theorem by_2 : ∀ a, a < 256 → ((64 + a / 4) &&& 51) = (a / 4 &&& 51) ∧ ((128 + a / 4) &&& 51) = (a / 4 &&& 51) ∧ ((192 + a / 4) &&& 51) = (a / 4 &&& 51) := by decide +kernel
theorem by_g1 : ∀ a, a < 256 → g1 a < 256 ∧ g2 (g1 a) ≤ 68 ∧ g2 (g1 a) % 16 ≤ 4 ∧ g2 (g1 a) / 16 ≤ 4 ∧ (g2 (g1 a) + g2 (g1 a) / 16) &&& 15 = pop8 a ∧ pop8 a ≤ 8 := by decide +kernel
theorem by_m15 : ∀ t, t < 16 → ∀ a, a < 90 → (16 * t + a) &&& 15 = a &&& 15 := by decide +kernel
/-- stage one, byte by byte -/
theorem st_1 (a B M : Nat) (ha : a < 256) : (256 * B + a) / 2 &&& (256 * M + 85) = 256 * (B / 2 &&& M) + (a / 2 &&& 85) := by
  obtain ⟨-, h2⟩ := by_1 a ha
  have e : (256 * B + a) / 2 = 256 * (B / 2) + (128 * (B % 2) + a / 2) := by omega
  rw [e, bt8 (by omega) (by decide)]
  congr 1
  rcases Nat.mod_two_eq_zero_or_one B with h | h <;> rw [h]
  · simp
  · exact h2
theorem st_2 (a B M : Nat) (ha : a < 256) : (256 * B + a) / 4 &&& (256 * M + 51) = 256 * (B / 4 &&& M) + (a / 4 &&& 51) := by
  obtain ⟨h1, h2, h3⟩ := by_2 a ha
  have e : (256 * B + a) / 4 = 256 * (B / 4) + (64 * (B % 4) + a / 4) := by omega
  rw [e, bt8 (by omega) (by decide)]
  congr 1
  have hB : B % 4 = 0 ∨ B % 4 = 1 ∨ B % 4 = 2 ∨ B % 4 = 3 := by omega
  rcases hB with h | h | h | h <;> rw [h]
  · simp
  · exact h1
  · exact h2
  · exact h3
theorem bcN1 (a b d : Nat) (ha : a < 256) (hb : b < 256) (hd : d < 256) : (256 * (256 * d + b) + a) - ((256 * (256 * d + b) + a) / 2 &&& 1431655765) = 256 * (256 * g1 d + g1 b) + g1 a := by
  rw [show (1431655765 : Nat) = 256 * (256 * (256 * 85 + 85) + 85) + 85 by decide, st_1 a _ _ ha, st_1 b _ _ hb]
  have e : d / 2 &&& (256 * 85 + 85) = d / 2 &&& 85 := by
    have := st_1 d 0 85 hd
    simpa using this
  rw [e]
  have h1 := (by_1 a ha).1
  have h2 := (by_1 b hb).1
  have h3 := (by_1 d hd).1
  simp only [g1]
  omega
theorem bcN2 (a b d : Nat) (ha : a < 256) (hb : b < 256) (hd : d < 256) : ((256 * (256 * d + b) + a) &&& 858993459) + ((256 * (256 * d + b) + a) / 4 &&& 858993459) = 256 * (256 * g2 d + g2 b) + g2 a := by
  rw [show (858993459 : Nat) = 256 * (256 * (256 * 51 + 51) + 51) + 51 by decide, st_2 a _ _ ha, st_2 b _ _ hb, bt8 ha (by decide), bt8 hb (by decide)]
  have e : d / 4 &&& (256 * 51 + 51) = d / 4 &&& 51 := by
    have := st_2 d 0 51 hd
    simpa using this
  have e2 : d &&& (256 * 51 + 51) = d &&& 51 := by
    have := bt8 (a := d) (m := 51) (b := 0) (q := 51) hd (by decide)
    simpa using this
  rw [e, e2]
  simp only [g2]
  omega
theorem bcN3 (a b d : Nat) (ha : a ≤ 68 ∧ a % 16 ≤ 4 ∧ a / 16 ≤ 4) (hb : b ≤ 68 ∧ b % 16 ≤ 4 ∧ b / 16 ≤ 4) (hd : d ≤ 68 ∧ d % 16 ≤ 4 ∧ d / 16 ≤ 4) :
    ((256 * (256 * d + b) + a) + (256 * (256 * d + b) + a) / 16) &&& 252645135 = 256 * (256 * ((d + d / 16) &&& 15) + ((b + b / 16) &&& 15)) + ((a + a / 16) &&& 15) := by
  have e : (256 * (256 * d + b) + a) + (256 * (256 * d + b) + a) / 16 = 256 * (256 * (d + d / 16) + (16 * (d % 16) + (b + b / 16))) + (16 * (b % 16) + (a + a / 16)) := by omega
  rw [e, show (252645135 : Nat) = 256 * (256 * (256 * 15 + 15) + 15) + 15 by decide, bt8 (by omega) (by decide), bt8 (by omega) (by decide)]
  have e2 : (d + d / 16) &&& (256 * 15 + 15) = (d + d / 16) &&& 15 := by
    have := bt8 (a := d + d / 16) (m := 15) (b := 0) (q := 15) (by omega) (by decide)
    simpa using this
  rw [e2, by_m15 (b % 16) (by omega) (a + a / 16) (by omega), by_m15 (d % 16) (by omega) (b + b / 16) (by omega)]
def pop (x : Nat) : Nat := pop8 (x % 256) + pop8 (x / 256 % 256) + pop8 (x / 65536)
theorem nx_and' (a b : Nat) : nI a &&& nI b = nI (a &&& b) := by
  apply Int32.toBitVec_inj.mp
  show BitVec.ofNat 32 a &&& BitVec.ofNat 32 b = BitVec.ofNat 32 (a &&& b)
  apply BitVec.eq_of_getLsbD_eq
  intro i hi
  simp [BitVec.getLsbD_ofNat, hi, Nat.testBit_and]
theorem bcI_nI {x : Nat} (hx : x < 16777216) : bcI (nI x) = nI (pop x) := by
  have hA : x % 256 < 256 := by omega
  have hB : x / 256 % 256 < 256 := by omega
  have hC : x / 65536 < 256 := by omega
  have ex : x = 256 * (256 * (x / 65536) + x / 256 % 256) + x % 256 := by omega
  obtain ⟨a1, a2, a3, a4, a5, a6⟩ := by_g1 _ hA
  obtain ⟨b1, b2, b3, b4, b5, b6⟩ := by_g1 _ hB
  obtain ⟨d1, d2, d3, d4, d5, d6⟩ := by_g1 _ hC
  unfold pop
  generalize x % 256 = a at *
  generalize x / 256 % 256 = b at *
  generalize x / 65536 = d at *
  subst ex
  have k1 : ((1 : Int32).toUInt32 &&& Int32.toUInt32 31).toBitVec % 32 = 1#32 := by decide
  have s1 : bc1 (nI (256 * (256 * d + b) + a)) = nI (256 * (256 * g1 d + g1 b) + g1 a) := by
    unfold bc1
    rw [pk_ushrN (by omega) 1 1 (by decide), show (1431655765 : Int32) = nI 1431655765 from rfl, nx_and', show 2 ^ 1 = 2 from rfl, pk_sub (by have := bcN1 a b d hA hB hC; have h9 : ((256 * (256 * d + b) + a) / 2 &&& 1431655765) ≤ (256 * (256 * d + b) + a) / 2 := Nat.and_le_left; omega), bcN1 a b d hA hB hC]
  have s2 : bc2 (nI (256 * (256 * g1 d + g1 b) + g1 a)) = nI (256 * (256 * g2 (g1 d) + g2 (g1 b)) + g2 (g1 a)) := by
    unfold bc2
    rw [pk_ushrN (by omega) 2 2 (by decide), show (858993459 : Int32) = nI 858993459 from rfl, nx_and', nx_and', show 2 ^ 2 = 4 from rfl, nI_add, bcN2 _ _ _ a1 b1 d1]
  have s3 : bc3 (nI (256 * (256 * g2 (g1 d) + g2 (g1 b)) + g2 (g1 a))) = nI (256 * (256 * pop8 d + pop8 b) + pop8 a) := by
    unfold bc3
    rw [pk_ushrN (by omega) 4 4 (by decide), show (252645135 : Int32) = nI 252645135 from rfl, show 2 ^ 4 = 16 from rfl, nI_add, nx_and', bcN3 _ _ _ ⟨a2, a3, a4⟩ ⟨b2, b3, b4⟩ ⟨d2, d3, d4⟩, a5, b5, d5]
  have s4 : bc4 (nI (256 * (256 * pop8 d + pop8 b) + pop8 a)) = nI (65536 * pop8 d + 256 * (pop8 b + pop8 d) + (pop8 a + pop8 b)) := by
    unfold bc4
    rw [pk_ushrN (by omega) 8 8 (by decide), nI_add]
    congr 1
    omega
  have s5 : bc5 (nI (65536 * pop8 d + 256 * (pop8 b + pop8 d) + (pop8 a + pop8 b))) = nI (65536 * pop8 d + 256 * (pop8 b + pop8 d) + (pop8 a + pop8 b + pop8 d)) := by
    unfold bc5
    rw [pk_ushrN (by omega) 16 16 (by decide), nI_add]
    congr 1
    omega
  unfold bcI
  rw [s1, s2, s3, s4, s5, show (63 : Int32) = nI 63 from rfl, pk_andN (by omega) 6 (by decide)]
  congr 1
  omega
/-- the set as a number -/
def setN (f : Nat → Bool) : Nat → Nat
  | 0 => 0
  | k + 1 => if f k = true then setN f k + 2 ^ k else setN f k
theorem setN_lt (f : Nat → Bool) : ∀ n, setN f n < 2 ^ n
  | 0 => by simp [setN]
  | n + 1 => by
    have := setN_lt f n
    have e : 2 ^ (n + 1) = 2 ^ n + 2 ^ n := by rw [Nat.pow_succ]; omega
    unfold setN
    split <;> omega
theorem nI_or (a b : Nat) : nI a ||| nI b = nI (a ||| b) := by
  apply Int32.toBitVec_inj.mp
  show BitVec.ofNat 32 a ||| BitVec.ofNat 32 b = BitVec.ofNat 32 (a ||| b)
  apply BitVec.eq_of_getLsbD_eq
  intro i hi
  simp [BitVec.getLsbD_ofNat, hi, Nat.testBit_or]
theorem nI_bit : ∀ k, k < 31 → (1 : Int32) <<< (nI k &&& 31) = nI (2 ^ k) := by decide +kernel
theorem or_top {y k : Nat} (h : y < 2 ^ k) : y ||| 2 ^ k = y + 2 ^ k := by
  rw [Nat.or_comm, Nat.add_comm]
  have := Nat.two_pow_add_eq_or_of_lt (b := y) (i := k) h 1
  simpa using this.symm
theorem setG_N (f : Nat → Bool) : ∀ n, n ≤ 31 → setG f nI n = nI (setN f n)
  | 0, _ => rfl
  | n + 1, h => by
    have ih := setG_N f n (by omega)
    unfold setG setN
    split
    · rw [ih, nI_bit n (by omega), nI_or, or_top (setN_lt f n)]
    · exact ih
theorem pop_low : ∀ k, k < 8 → ∀ y, y < 2 ^ k → pop8 (y + 2 ^ k) = pop8 y + 1 := by decide +kernel
theorem pop_top {k y : Nat} (hk : k < 24) (hy : y < 2 ^ k) : pop (y + 2 ^ k) = pop y + 1 := by
  unfold pop
  by_cases h1 : k < 8
  · have hp : 2 ^ k ≤ 128 := by
      have : 2 ^ k ≤ 2 ^ 7 := Nat.pow_le_pow_right (by decide) (by omega)
      simpa using this
    have e1 : (y + 2 ^ k) % 256 = y + 2 ^ k := Nat.mod_eq_of_lt (by omega)
    have e2 : y % 256 = y := Nat.mod_eq_of_lt (by omega)
    have e3 : (y + 2 ^ k) / 256 = 0 := by omega
    have e4 : y / 256 = 0 := by omega
    have e5 : (y + 2 ^ k) / 65536 = 0 := by omega
    have e6 : y / 65536 = 0 := by omega
    rw [e1, e2, e3, e4, e5, e6, pop_low k h1 y hy]
    omega
  · by_cases h2 : k < 16
    · obtain ⟨j, rfl⟩ : ∃ j, k = j + 8 := ⟨k - 8, by omega⟩
      have e0 : 2 ^ (j + 8) = 256 * 2 ^ j := by rw [Nat.pow_add]; omega
      have hp : 2 ^ j ≤ 128 := by
        have : 2 ^ j ≤ 2 ^ 7 := Nat.pow_le_pow_right (by decide) (by omega)
        simpa using this
      have hl := pop_low j (by omega) (y / 256) (by omega)
      generalize 2 ^ j = z at *
      rw [e0] at hy ⊢
      have e1 : (y + 256 * z) % 256 = y % 256 := by omega
      have e2 : (y + 256 * z) / 256 % 256 = y / 256 + z := by omega
      have e3 : y / 256 % 256 = y / 256 := by omega
      have e5 : (y + 256 * z) / 65536 = 0 := by omega
      have e6 : y / 65536 = 0 := by omega
      rw [e1, e2, e3, e5, e6, hl]
      omega
    · obtain ⟨j, rfl⟩ : ∃ j, k = j + 16 := ⟨k - 16, by omega⟩
      have e0 : 2 ^ (j + 16) = 65536 * 2 ^ j := by rw [Nat.pow_add]; omega
      have hp : 2 ^ j ≤ 128 := by
        have : 2 ^ j ≤ 2 ^ 7 := Nat.pow_le_pow_right (by decide) (by omega)
        simpa using this
      have hl := pop_low j (by omega) (y / 65536) (by omega)
      generalize 2 ^ j = z at *
      rw [e0] at hy ⊢
      have e1 : (y + 65536 * z) % 256 = y % 256 := by omega
      have e2 : (y + 65536 * z) / 256 % 256 = y / 256 % 256 := by omega
      have e5 : (y + 65536 * z) / 65536 = y / 65536 + z := by omega
      rw [e1, e2, e5, hl]
      omega
theorem pop_set (f : Nat → Bool) : ∀ n, n ≤ 24 → pop (setN f n) = cntW f n
  | 0, _ => by show pop 0 = 0; decide
  | n + 1, h => by
    have ih := pop_set f n (by omega)
    unfold setN cntW
    split
    · rw [pop_top (by omega) (setN_lt f n), ih]
    · exact ih
theorem setN_16 (f : Nat → Bool) {n : Nat} (h : n ≤ 24) : setN f n < 16777216 := Nat.lt_of_lt_of_le (setN_lt f n) (by have : 2 ^ n ≤ 2 ^ 24 := Nat.pow_le_pow_right (by decide) h; simpa using this)
theorem bcI_setG (f : Nat → Bool) {n : Nat} (h : n ≤ 24) : bcI (setG f nI n) = nI (cntW f n) := by
  rw [setG_N f n (by omega), bcI_nI (setN_16 f h), pop_set f n h]
