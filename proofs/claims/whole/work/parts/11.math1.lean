/-! words of eight octets as numbers -/
def wN (w : Int64) : Nat := w.toBitVec.toNat
theorem wN_lt (w : Int64) : wN w < 2 ^ 64 := w.toBitVec.isLt
theorem wN_inj {v w : Int64} (h : wN v = wN w) : v = w := Int64.toBitVec_inj.mp (BitVec.eq_of_toNat_eq h)
theorem wN_0 : wN 0 = 0 := rfl
/-- the number j (of four), the octet i (of eight) of a word, the highest first -/
def nm (w : Int64) (j : Nat) : Nat := wN w / 2 ^ (48 - 16 * j) % 65536
def oc (w : Int64) (i : Nat) : Nat := wN w / 2 ^ (56 - 8 * i) % 256
theorem nm_lt (w : Int64) (j : Nat) : nm w j < 65536 := Nat.mod_lt _ (by decide)
theorem oc_lt (w : Int64) (i : Nat) : oc w i < 256 := Nat.mod_lt _ (by decide)
theorem sh_u : ∀ k, k < 64 → ((nI k).toInt64.toUInt64 &&& Int64.toUInt64 63).toBitVec.toNat % 64 = k := by decide +kernel
theorem sh_s : ∀ k, k < 64 → ((nI k).toInt64 &&& 63).toBitVec = BitVec.ofNat 64 k := by decide +kernel
theorem wN_ushr (w : Int64) {k : Nat} (hk : k < 64) : wN (w.toUInt64 >>> ((nI k).toInt64.toUInt64 &&& Int64.toUInt64 63)).toInt64 = wN w / 2 ^ k := by
  have h : ((nI k).toInt64.toUInt64 &&& Int64.toUInt64 63).toNat % 64 = k := sh_u k hk
  show (w.toUInt64 >>> ((nI k).toInt64.toUInt64 &&& Int64.toUInt64 63)).toNat = w.toUInt64.toNat / 2 ^ k
  rw [UInt64.toNat_shiftRight, h, Nat.shiftRight_eq_div_pow]
theorem i32_and (x : Int64) (m k : Nat) (hm : m = 2 ^ k - 1) (hk : k ≤ 31) : x.toInt32 &&& nI m = nI (wN x % 2 ^ k) := by
  have h2 : (nI m).toBitVec.toNat = 2 ^ k - 1 := by
    have : 2 ^ k ≤ 2 ^ 31 := Nat.pow_le_pow_right (by decide) hk
    rw [hm, pk_tn (by omega)]
  rw [pk_and _ k h2]
  congr 1
  unfold wN
  rw [Int64.toBitVec_toInt32, BitVec.signExtend_eq_setWidth_of_le _ (by decide), BitVec.toNat_setWidth]
  exact Nat.mod_mod_of_dvd _ (Nat.pow_dvd_pow 2 (by omega))
/-- as the class takes a number, or an octet, out of a word -/
theorem num_raw (w : Int64) {j : Nat} (hj : j < 4) : (w.toUInt64 >>> ((nI (48 - 16 * j)).toInt64.toUInt64 &&& Int64.toUInt64 63)).toInt64.toInt32 &&& nI 65535 = nI (nm w j) := by
  rw [i32_and _ 65535 16 rfl (by decide), wN_ushr w (by omega)]
  rfl
theorem oct_raw (w : Int64) {i : Nat} (hi : i < 8) : (w.toUInt64 >>> ((nI (56 - 8 * i)).toInt64.toUInt64 &&& Int64.toUInt64 63)).toInt64.toInt32 &&& nI 255 = nI (oc w i) := by
  rw [i32_and _ 255 8 rfl (by decide), wN_ushr w (by omega)]
  rfl
theorem nm_oc (w : Int64) {j : Nat} (hj : j < 4) : nm w j = 256 * oc w (2 * j) + oc w (2 * j + 1) := by
  unfold nm oc
  have : j = 0 ∨ j = 1 ∨ j = 2 ∨ j = 3 := by omega
  rcases this with rfl | rfl | rfl | rfl <;> simp only [Nat.reduceMul, Nat.reduceSub, Nat.reduceAdd, Nat.reducePow] <;> omega
theorem wN_oc (w : Int64) : wN w = 256 ^ 7 * oc w 0 + 256 ^ 6 * oc w 1 + 256 ^ 5 * oc w 2 + 256 ^ 4 * oc w 3 + 256 ^ 3 * oc w 4 + 256 ^ 2 * oc w 5 + 256 * oc w 6 + oc w 7 := by
  have := wN_lt w
  unfold oc
  simp only [Nat.reduceMul, Nat.reduceSub, Nat.reduceAdd, Nat.reducePow] at *
  omega
theorem oc_ext {v w : Int64} (h : ∀ i, i < 8 → oc v i = oc w i) : v = w := by
  apply wN_inj
  rw [wN_oc v, wN_oc w, h 0 (by decide), h 1 (by decide), h 2 (by decide), h 3 (by decide), h 4 (by decide), h 5 (by decide), h 6 (by decide), h 7 (by decide)]
theorem wN_nm (w : Int64) : wN w = 65536 ^ 3 * nm w 0 + 65536 ^ 2 * nm w 1 + 65536 * nm w 2 + nm w 3 := by
  have := wN_lt w
  unfold nm
  simp only [Nat.reduceMul, Nat.reduceSub, Nat.reduceAdd, Nat.reducePow] at *
  omega
theorem nm_ext {v w : Int64} (h : ∀ j, j < 4 → nm v j = nm w j) : v = w := by
  apply wN_inj
  rw [wN_nm v, wN_nm w, h 0 (by decide), h 1 (by decide), h 2 (by decide), h 3 (by decide)]
theorem nm_0 (j : Nat) : nm 0 j = 0 := by unfold nm; rw [wN_0]; simp
theorem oc_0 (j : Nat) : oc 0 j = 0 := by unfold oc; rw [wN_0]; simp
