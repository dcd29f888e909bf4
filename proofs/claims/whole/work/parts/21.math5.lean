/-! bits of masks; octets of words that are put together -/
theorem sh1 : ∀ k, k < 32 → (nI 1) <<< ((nI k) &&& 31) = zW (BitVec.twoPow 32 k) := by decide +kernel
theorem zW_bit : ∀ k, k < 32 → (((nI k).toUInt32 &&& Int32.toUInt32 31).toBitVec % 32).toNat = k := by decide +kernel
theorem and1_0 (x : Int32) : (x &&& nI 1 = 0) ↔ x.toBitVec.getLsbD 0 = false := by
  rw [pk_and x 1 rfl, nI_eq0 (by omega)]
  rw [← BitVec.testBit_toNat, Nat.testBit_zero]
  have := Nat.mod_two_eq_zero_or_one x.toBitVec.toNat
  rcases this with h | h <;> simp [h]
theorem bit_test (m : BitVec 32) {k : Nat} (hk : k < 32) : (((zW m).toUInt32 >>> ((nI k).toUInt32 &&& Int32.toUInt32 31)).toInt32 &&& nI 1) = 0 ↔ m.getLsbD k = false := by
  rw [and1_0]
  have h := pk_ushr (zW m) (nI k) k (zW_bit k hk)
  have e : ((zW m).toUInt32 >>> ((nI k).toUInt32 &&& Int32.toUInt32 31)).toInt32.toBitVec.getLsbD 0 = m.getLsbD k := by
    rw [← BitVec.testBit_toNat, h, Nat.testBit_div_two_pow, Nat.zero_add, BitVec.testBit_toNat]
    rfl
  rw [e]
def halfC (m : BitVec 32) (h : Nat) : Bool := decide (m.toNat / 2 ^ (h * 16) % 65536 ≠ 0)
theorem half_test (m : BitVec 32) {h : Nat} (hh : h < 2) : (((zW m).toUInt32 >>> ((nI (h * 16)).toUInt32 &&& Int32.toUInt32 31)).toInt32 &&& nI 65535) = 0 ↔ halfC m h = false := by
  have e := pk_ushr (zW m) (nI (h * 16)) (h * 16) (zW_bit _ (by omega))
  rw [pk_and _ 16 rfl, nI_eq0 (by omega), e]
  unfold halfC
  rw [decide_eq_false_iff_not, Decidable.not_not]
  rfl
/-- how many of the first n bits are set -/
def popc (m : BitVec 32) : Nat → Nat
  | 0 => 0
  | n + 1 => popc m n + (if m.getLsbD n then 1 else 0)
def bc1 (n : Nat) : Nat := n - (n / 2 &&& 1431655765)
def bc2 (x : Nat) : Nat := (x &&& 858993459) + (x / 4 &&& 858993459)
def bc3 (x : Nat) : Nat := x + x / 16 &&& 252645135
def bc4 (x : Nat) : Nat := x + x / 256
def bc5 (x : Nat) : Nat := x + x / 65536 &&& 63
def popN (n : Nat) : Nat → Nat
  | 0 => 0
  | k + 1 => popN n k + n / 2 ^ k % 2
theorem bc_all2 : ∀ a, a < 128 → ∀ b, b < 128 → bc5 (bc4 (bc3 (bc2 (bc1 (128 * a + b))))) = popN (128 * a + b) 14 := by decide +kernel
theorem bc_all (n : Nat) (h : n < 16384) : bc5 (bc4 (bc3 (bc2 (bc1 n)))) = popN n 14 := by
  have := bc_all2 (n / 128) (by omega) (n % 128) (by omega)
  rwa [show 128 * (n / 128) + n % 128 = n by omega] at this
theorem popN_c (m : BitVec 32) : ∀ k, popN m.toNat k = popc m k
  | 0 => rfl
  | k + 1 => by
    unfold popN popc
    rw [popN_c m k]
    congr 1
    rw [← BitVec.testBit_toNat, Nat.testBit_eq_decide_div_mod_eq]
    have := Nat.mod_two_eq_zero_or_one (m.toNat / 2 ^ k)
    rcases this with h | h <;> simp [h]
theorem n_and (a b : Nat) : nI a &&& nI b = nI (a &&& b) := by
  apply Int32.toBitVec_inj.mp
  rw [Int32.toBitVec_and]
  have e : ∀ n : Nat, (nI n).toBitVec = BitVec.ofNat 32 n := fun n => rfl
  rw [e, e, e]
  apply BitVec.eq_of_getLsbD_eq
  intro i hi
  simp only [BitVec.getLsbD_and, BitVec.getLsbD_ofNat, hi, decide_true, Bool.true_and, Nat.testBit_and]
theorem and_le' (a b : Nat) : a &&& b ≤ a := Nat.and_le_left
theorem zW_n (m : BitVec 32) : zW m = nI m.toNat := by
  apply Int32.toBitVec_inj.mp
  have e : (nI m.toNat).toBitVec = BitVec.ofNat 32 m.toNat := rfl
  rw [e, BitVec.ofNat_toNat, BitVec.setWidth_eq]
  rfl
theorem msk : ∀ k, k ≤ 14 → ∀ q, q < 32 → (BitVec.twoPow 32 k - 1#32).getLsbD q = decide (q < k) := by decide +kernel
/-- octets: of a file in memory, of a block -/
def mo (mw : Nat → Int64) (f k : Nat) : Nat := oc (mw (f * 56 + k / 8)) (k % 8)
def bo (kw : Nat → Int64) (k : Nat) : Nat := oc (kw (k / 8)) (k % 8)
theorem oc_bits {v w : Int64} {i j : Nat} (hi : i < 8) (hj : j < 8) (h : ∀ b, b < 8 → (wN v).testBit (56 - 8 * i + b) = (wN w).testBit (56 - 8 * j + b)) : oc v i = oc w j := by
  unfold oc
  apply Nat.eq_of_testBit_eq
  intro b
  rw [show (256 : Nat) = 2 ^ 8 from rfl, Nat.testBit_mod_two_pow, Nat.testBit_mod_two_pow, Nat.testBit_div_two_pow, Nat.testBit_div_two_pow]
  by_cases q : b < 8
  · rw [Nat.add_comm b, Nat.add_comm b, h b q]
  · simp [q]
theorem oc_zero {v : Int64} {i : Nat} (h : ∀ b, b < 8 → (wN v).testBit (56 - 8 * i + b) = false) : oc v i = 0 := by
  unfold oc
  apply Nat.eq_of_testBit_eq
  intro b
  rw [show (256 : Nat) = 2 ^ 8 from rfl, Nat.testBit_mod_two_pow, Nat.testBit_div_two_pow, Nat.zero_testBit]
  by_cases q : b < 8
  · rw [Nat.add_comm b, h b q]; simp
  · simp [q]
theorem wN_and (v w : Int64) : wN (v &&& w) = wN v &&& wN w := by unfold wN; rw [Int64.toBitVec_and, BitVec.toNat_and]
theorem wN_xor (v w : Int64) : wN (v ^^^ w) = wN v ^^^ wN w := by unfold wN; rw [Int64.toBitVec_xor, BitVec.toNat_xor]
theorem wN_m1 : wN (-1) = 2 ^ 64 - 1 := by decide
theorem tb_m1 {b : Nat} (h : b < 64) : (wN (-1)).testBit b = true := by rw [wN_m1, Nat.testBit_two_pow_sub_one]; simp [h]
theorem tb_mask {s b : Nat} (hs : s < 64) (hb : b < 64) : (wN ((-1 : Int64).toUInt64 >>> ((nI s).toInt64.toUInt64 &&& Int64.toUInt64 63)).toInt64).testBit b = decide (b < 64 - s) := by
  rw [wN_ushr _ hs, Nat.testBit_div_two_pow, wN_m1, Nat.testBit_two_pow_sub_one]
  by_cases h : b < 64 - s
  · simp [h]; omega
  · simp [h]; omega
theorem tb_ushr (v : Int64) {s b : Nat} (hs : s < 64) : (wN (v.toUInt64 >>> ((nI s).toInt64.toUInt64 &&& Int64.toUInt64 63)).toInt64).testBit b = (wN v).testBit (b + s) := by
  rw [wN_ushr _ hs, Nat.testBit_div_two_pow]
theorem tb_hi (v : Int64) {b : Nat} (h : 64 ≤ b) : (wN v).testBit b = false := Nat.testBit_lt_two_pow (Nat.lt_of_lt_of_le (wN_lt v) (Nat.pow_le_pow_right (by decide) h))
theorem tb_shl (v : Int64) {s b : Nat} (hs : s < 64) (hb : b < 64) : (wN (v <<< ((nI s).toInt64 &&& 63))).testBit b = (decide (s ≤ b) && (wN v).testBit (b - s)) := by
  unfold wN
  have h := sh_s s hs
  have e2 : (BitVec.ofNat 64 s).smod 64 = BitVec.ofNat 64 s := by
    have : ∀ k, k < 64 → (BitVec.ofNat 64 k).smod 64 = BitVec.ofNat 64 k := by decide +kernel
    exact this s hs
  have e3 : (BitVec.ofNat 64 s).toNat = s := by rw [BitVec.toNat_ofNat]; omega
  rw [Int64.toBitVec_shiftLeft, h, BitVec.shiftLeft_eq', e2, e3, BitVec.testBit_toNat, BitVec.testBit_toNat, BitVec.getLsbD_shiftLeft]
  by_cases q : s ≤ b
  · simp [hb, q]
  · simp [q]
/-- the word in which a writing begins, r octets behind its start -/
def wLo (w v : Int64) (r : Nat) : Int64 := (w &&& (((-1 : Int64).toUInt64 >>> ((nI (8 * r)).toInt64.toUInt64 &&& Int64.toUInt64 63)).toInt64 ^^^ (-1))) ||| (v.toUInt64 >>> ((nI (8 * r)).toInt64.toUInt64 &&& Int64.toUInt64 63)).toInt64
def wHi (w v : Int64) (r : Nat) : Int64 := (w &&& ((-1 : Int64).toUInt64 >>> ((nI (8 * r)).toInt64.toUInt64 &&& Int64.toUInt64 63)).toInt64) ||| v <<< ((nI (64 - 8 * r)).toInt64 &&& 63)
theorem oc_wLo (w v : Int64) {r j : Nat} (hr : r < 8) (hj : j < 8) : oc (wLo w v r) j = if j < r then oc w j else oc v (j - r) := by
  have key : ∀ b, b < 64 → (wN (wLo w v r)).testBit b = if b < 64 - 8 * r then (wN v).testBit (b + 8 * r) else (wN w).testBit b := by
    intro b hb
    unfold wLo
    rw [wN_or, wN_and, wN_xor, Nat.testBit_or, Nat.testBit_and, Nat.testBit_xor, tb_mask (by omega) hb, tb_m1 hb, tb_ushr _ (by omega)]
    by_cases q : b < 64 - 8 * r
    · rw [if_pos q]; simp [q]
    · rw [if_neg q, tb_hi v (show 64 ≤ b + 8 * r by omega)]; simp [q]
  by_cases q : j < r
  · rw [if_pos q]
    exact oc_bits hj hj (fun b hb => by rw [key _ (by omega), if_neg (by omega)])
  · rw [if_neg q]
    exact oc_bits hj (by omega) (fun b hb => by rw [key _ (by omega), if_pos (by omega)]; congr 1; omega)
theorem oc_wHi (w v : Int64) {r j : Nat} (hr : r < 8) (h0 : 0 < r) (hj : j < 8) : oc (wHi w v r) j = if j < r then oc v (8 - r + j) else oc w j := by
  have key : ∀ b, b < 64 → (wN (wHi w v r)).testBit b = if 64 - 8 * r ≤ b then (wN v).testBit (b - (64 - 8 * r)) else (wN w).testBit b := by
    intro b hb
    unfold wHi
    rw [wN_or, wN_and, Nat.testBit_or, Nat.testBit_and, tb_mask (by omega) hb, tb_shl _ (by omega) hb]
    by_cases q : 64 - 8 * r ≤ b
    · rw [if_pos q]; simp [q]; omega
    · rw [if_neg q]; simp [q]; omega
  by_cases q : j < r
  · rw [if_pos q]
    exact oc_bits hj (by omega) (fun b hb => by rw [key _ (by omega), if_pos (by omega)]; congr 1; omega)
  · rw [if_neg q]
    exact oc_bits hj hj (fun b hb => by rw [key _ (by omega), if_neg (by omega)])
/-- a word cut to its first octets -/
theorem oc_cut (w : Int64) {o j : Nat} (ho : 0 < o ∧ o < 8) (hj : j < 8) : oc (w &&& (-1 : Int64) <<< ((nI (64 - 8 * o)).toInt64 &&& 63)) j = if j < o then oc w j else 0 := by
  have key : ∀ b, b < 64 → (wN (w &&& (-1 : Int64) <<< ((nI (64 - 8 * o)).toInt64 &&& 63))).testBit b = (decide (64 - 8 * o ≤ b) && (wN w).testBit b) := by
    intro b hb
    rw [wN_and, Nat.testBit_and, tb_shl _ (by omega) hb, tb_m1 (by omega)]
    simp [Bool.and_comm]
  by_cases q : j < o
  · rw [if_pos q]
    exact oc_bits hj hj (fun b hb => by rw [key _ (by omega)]; simp; omega)
  · rw [if_neg q]
    exact oc_zero (fun b hb => by rw [key _ (by omega)]; simp; omega)
theorem and_m1 (w : Int64) : w &&& (-1) = w := by
  apply Int64.toBitVec_inj.mp
  rw [Int64.toBitVec_and]
  have : (-1 : Int64).toBitVec = BitVec.allOnes 64 := by decide
  rw [this, BitVec.and_allOnes]
