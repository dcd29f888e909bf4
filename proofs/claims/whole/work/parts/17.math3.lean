/-! numbers in a block; INFO -/
def hasS (ih : Nat → Nat) (k : Int) : Bool := decide (0 ≤ k ∧ k < 5 ∧ (ih ((k + 1).toNat * 2 + 0) ≠ 0 ∨ ih ((k + 1).toNat * 2 + 1) ≠ 0))
def nmK (kw : Nat → Int64) (i : Nat) : Nat := nm (kw (i / 4)) (i % 4)
def infoN (iN : Nat) (ih : Nat → Nat) (i : Nat) : Nat := if i = 0 then iN / 65536 else if i = 1 then iN % 65536 else if i < 14 then ih (i - 2) else 0
theorem i2l_and (a : Nat) (ha : a < 2 ^ 31) : (nI a).toInt64 &&& (65535 : Int64) = lN (a % 65536) := by
  rw [nI_l ha]
  apply wN_inj
  show (lN a &&& 65535).toBitVec.toNat = (lN (a % 65536)).toBitVec.toNat
  have e1 : (lN a).toBitVec = BitVec.ofNat 64 a := rfl
  have e2 : (lN (a % 65536)).toBitVec = BitVec.ofNat 64 (a % 65536) := rfl
  rw [Int64.toBitVec_and, e1, e2, BitVec.toNat_and, BitVec.toNat_ofNat, BitVec.toNat_ofNat, Nat.mod_eq_of_lt (by omega), Nat.mod_eq_of_lt (by omega)]
  show a &&& 2 ^ 16 - 1 = _
  rw [Nat.and_two_pow_sub_one_eq_mod]
theorem wN_shl (a : Nat) (ha : a < 65536) {k : Nat} (hk : k ≤ 48) : wN (lN a <<< ((nI k).toInt64 &&& 63)) = a * 2 ^ k := by
  unfold wN
  have h := sh_s k (by omega)
  rw [Int64.toBitVec_shiftLeft, h]
  have e1 : (lN a).toBitVec = BitVec.ofNat 64 a := rfl
  have e2 : (BitVec.ofNat 64 k).smod 64 = BitVec.ofNat 64 k := by
    have : ∀ k, k < 64 → (BitVec.ofNat 64 k).smod 64 = BitVec.ofNat 64 k := by decide +kernel
    exact this k (by omega)
  have e3 : (BitVec.ofNat 64 k).toNat = k := by rw [BitVec.toNat_ofNat]; omega
  have hp : 2 ^ k ≤ 2 ^ 48 := Nat.pow_le_pow_right (by decide) hk
  have hm : a * 2 ^ k < 2 ^ 64 := Nat.lt_of_lt_of_le (Nat.mul_lt_mul_of_lt_of_le ha hp (by decide)) (by decide)
  rw [BitVec.shiftLeft_eq', e2, e3, e1, BitVec.toNat_shiftLeft, BitVec.toNat_ofNat, Nat.mod_eq_of_lt (show a < 2 ^ 64 by omega), Nat.shiftLeft_eq, Nat.mod_eq_of_lt hm]
theorem wN_or (v w : Int64) : wN (v ||| w) = wN v ||| wN w := by unfold wN; rw [Int64.toBitVec_or, BitVec.toNat_or]
theorem tb16 {y b : Nat} (hy : y < 65536) (hb : 16 ≤ b) : y.testBit b = false := Nat.testBit_lt_two_pow (Nat.lt_of_lt_of_le hy (show 2 ^ 16 ≤ 2 ^ b from Nat.pow_le_pow_right (by decide) hb))
theorem or_bits {x y k : Nat} (hy : y < 65536) (hx : x / 2 ^ k % 65536 = 0) (s : Nat) (hs : s % 16 = k % 16) : (x ||| y * 2 ^ k) / 2 ^ s % 65536 = if s = k then y else x / 2 ^ s % 65536 := by
  apply Nat.eq_of_testBit_eq
  intro b
  rw [show (65536 : Nat) = 2 ^ 16 from rfl]
  by_cases e : s = k
  · subst e
    rw [if_pos rfl]
    rw [Nat.testBit_mod_two_pow, Nat.testBit_div_two_pow, Nat.testBit_or, Nat.testBit_mul_two_pow]
    by_cases hb : b < 16
    · have h0 : x.testBit (b + s) = false := by
        have := congrArg (fun z => z.testBit b) hx
        simp only [show (65536 : Nat) = 2 ^ 16 from rfl, Nat.testBit_mod_two_pow, Nat.testBit_div_two_pow, hb, decide_true, Bool.true_and, Nat.zero_testBit] at this
        exact this
      simp [hb, h0]
    · have : y.testBit b = false := tb16 hy (by omega)
      simp [hb, this]
  · rw [if_neg e]
    rw [Nat.testBit_mod_two_pow, Nat.testBit_div_two_pow, Nat.testBit_or, Nat.testBit_mul_two_pow, Nat.testBit_mod_two_pow, Nat.testBit_div_two_pow]
    by_cases hb : b < 16
    · have : (decide (k ≤ b + s) && y.testBit (b + s - k)) = false := by
        by_cases q : k ≤ b + s
        · have : y.testBit (b + s - k) = false := tb16 hy (by omega)
          simp [this]
        · simp [q]
      simp [this]
    · simp [hb]
theorem nm_stN {w : Int64} {j a : Nat} (hj : j < 4) (h0 : nm w j = 0) (ha : a < 2 ^ 31) {i : Nat} (hi : i < 4) : nm (stN w j (nI a)) i = if i = j then a % 65536 else nm w i := by
  unfold nm stN
  rw [i2l_and a ha, wN_or, wN_shl _ (Nat.mod_lt _ (by decide)) (by omega), or_bits (Nat.mod_lt _ (by decide)) h0 (48 - 16 * i) (by omega)]
  by_cases e : i = j
  · rw [if_pos (by omega), if_pos e]
  · rw [if_neg (by omega), if_neg e]
theorem nmK_set {kw : Nat → Int64} {i j a : Nat} (hi : i < 16) (hj : j < 16) (h0 : nmK kw i = 0) (ha : a < 2 ^ 31) : nmK (va_up kw (i / 4) (stN (kw (i / 4)) (i % 4) (nI a))) j = if j = i then a % 65536 else nmK kw j := by
  unfold nmK va_up
  by_cases e : j / 4 = i / 4
  · rw [if_pos e, nm_stN (by omega) h0 ha (by omega), e]
    by_cases q : j % 4 = i % 4
    · rw [if_pos q, if_pos (by omega)]
    · rw [if_neg q, if_neg (by omega)]
  · rw [if_neg e, if_neg (by omega)]
theorem nmK_0 (j : Nat) : nmK (fun _ => 0) j = 0 := nm_0 _
theorem info_0 {iN : Nat} {ih : Nat → Nat} (hN : iN < 2 ^ 31) : ∀ j, j < 16 → nmK (va_up (va_up (fun _ => (0 : Int64)) (0 / 4) (stN ((fun _ => (0 : Int64)) (0 / 4)) (0 % 4) (nI (iN / 65536)))) (1 / 4) (stN (va_up (fun _ => (0 : Int64)) (0 / 4) (stN ((fun _ => (0 : Int64)) (0 / 4)) (0 % 4) (nI (iN / 65536))) (1 / 4)) (1 % 4) (nI iN))) j = if j < 2 + 0 then infoN iN ih j else 0 := by
  intro j hj
  have a1 : ∀ j, j < 16 → nmK (va_up (fun _ => (0 : Int64)) (0 / 4) (stN ((fun _ => (0 : Int64)) (0 / 4)) (0 % 4) (nI (iN / 65536)))) j = if j = 0 then iN / 65536 % 65536 else 0 := fun j hj => by rw [nmK_set (by omega) hj (nmK_0 _) (by omega), nmK_0]
  rw [nmK_set (by omega) hj (by rw [a1 1 (by omega)]; rfl) hN, a1 j hj]
  unfold infoN
  by_cases e1 : j = 1
  · rw [if_pos e1, if_pos (by omega), if_neg (by omega), if_pos e1]
  · rw [if_neg e1]
    by_cases e0 : j = 0
    · rw [if_pos e0, if_pos (by omega), if_pos e0]; omega
    · rw [if_neg e0, if_neg (by omega)]
theorem info_s {iN i j : Nat} {ih : Nat → Nat} (hi : i < 12) (ha : ih i < 65536) : (if j = 2 + i then ih i % 65536 else if j < 2 + i then infoN iN ih j else 0) = if j < 2 + (i + 1) then infoN iN ih j else 0 := by
  by_cases e : j = 2 + i
  · rw [if_pos e, if_pos (by omega)]
    unfold infoN
    rw [if_neg (by omega), if_neg (by omega), if_pos (by omega), show j - 2 = i by omega]
    omega
  · rw [if_neg e]
    by_cases q : j < 2 + i
    · rw [if_pos q, if_pos (by omega)]
    · rw [if_neg q, if_neg (by omega)]
theorem or_hi {a b : Nat} (hb : b < 65536) : nI (a * 65536) ||| nI b = nI (a * 65536 + b) := by
  apply Int32.toBitVec_inj.mp
  rw [Int32.toBitVec_or]
  have e : ∀ n : Nat, (nI n).toBitVec = BitVec.ofNat 32 n := fun n => rfl
  rw [e, e, e]
  apply BitVec.eq_of_getLsbD_eq
  intro i hi
  simp only [BitVec.getLsbD_or, BitVec.getLsbD_ofNat, hi, decide_true, Bool.true_and]
  rw [show a * 65536 + b = 2 ^ 16 * a + b by omega, show a * 65536 = 2 ^ 16 * a by omega]
  rw [Nat.testBit_two_pow_mul_add _ (show b < 2 ^ 16 from hb), Nat.testBit_two_pow_mul]
  by_cases q : i < 16
  · simp [q, Nat.not_le.mpr q]
  · have : b.testBit i = false := tb16 hb (by omega)
    simp [q, this, Nat.not_lt.mp q]
