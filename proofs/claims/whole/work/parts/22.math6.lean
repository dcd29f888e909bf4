/-! files in memory -/
def cntF (ms : Nat → Int) : Nat → Nat
  | 0 => 0
  | n + 1 => if ms n = -1 then cntF ms n else cntF ms n + 1
theorem ow_one {mw : Nat → Int64} {f a : Nat} {v : Int64} (hf : f < 32) (ha : a ≤ 440) (h : 8 * (a % 8) = 0) : ∀ g k, g < 32 → k < 448 → mo (va_up mw (f * 56 + a / 8) (wLo (mw (f * 56 + a / 8)) v (a % 8))) g k = if g = f ∧ a ≤ k ∧ k < a + 8 then oc v (k - a) else mo mw g k := by
  intro g k hg hk
  unfold mo va_up
  by_cases e : g * 56 + k / 8 = f * 56 + a / 8
  · rw [if_pos e, oc_wLo _ _ (by omega) (by omega), if_neg (by omega), if_pos (by omega)]
    congr 1
    omega
  · rw [if_neg e, if_neg (by omega)]
theorem ow_two {mw : Nat → Int64} {f a : Nat} {v : Int64} (hf : f < 32) (ha : a ≤ 440) (h : ¬ 8 * (a % 8) = 0) : ∀ g k, g < 32 → k < 448 → mo (va_up (va_up mw (f * 56 + a / 8) (wLo (mw (f * 56 + a / 8)) v (a % 8))) (f * 56 + a / 8 + 1) (wHi (va_up mw (f * 56 + a / 8) (wLo (mw (f * 56 + a / 8)) v (a % 8)) (f * 56 + a / 8 + 1)) v (a % 8))) g k = if g = f ∧ a ≤ k ∧ k < a + 8 then oc v (k - a) else mo mw g k := by
  intro g k hg hk
  unfold mo va_up
  by_cases e1 : g * 56 + k / 8 = f * 56 + a / 8 + 1
  · rw [if_pos e1, oc_wHi _ _ (by omega) (by omega) (by omega)]
    by_cases q : k % 8 < a % 8
    · rw [if_pos q, if_pos (by omega)]
      congr 1
      omega
    · rw [if_neg q, if_neg (by omega), if_neg (by omega), e1]
  · rw [if_neg e1]
    by_cases e : g * 56 + k / 8 = f * 56 + a / 8
    · rw [if_pos e, oc_wLo _ _ (by omega) (by omega)]
      by_cases q : k % 8 < a % 8
      · rw [if_pos q, if_neg (by omega), e]
      · rw [if_neg q, if_pos (by omega)]
        congr 1
        omega
    · rw [if_neg e, if_neg (by omega)]
theorem gl_tp (i j : Nat) (h : i < 32) : (BitVec.twoPow 32 i).getLsbD j = decide (j = i) := by
  rw [BitVec.getLsbD_twoPow]
  by_cases e : i = j
  · simp [e]; omega
  · simp [e]; omega
theorem mb_two {mb : Nat → BitVec 32} {f a : Nat} (ha : a ≤ 440) : ∀ g q, (va_up (va_up mb f (mb f ||| BitVec.twoPow 32 (a / 32))) f (va_up mb f (mb f ||| BitVec.twoPow 32 (a / 32)) f ||| BitVec.twoPow 32 ((a + 7) / 32)) g).getLsbD q = ((mb g).getLsbD q || decide (g = f ∧ (q = a / 32 ∨ q = (a + 7) / 32))) := by
  intro g q
  unfold va_up
  by_cases e : g = f
  · rw [if_pos e, if_pos rfl, BitVec.getLsbD_or, BitVec.getLsbD_or, gl_tp _ _ (by omega), gl_tp _ _ (by omega), e]
    by_cases q1 : q = a / 32 <;> by_cases q2 : q = (a + 7) / 32 <;> simp [q1, q2]
  · rw [if_neg e, if_neg e]
    simp [e]
theorem mc_or (mc : BitVec 32) {f : Nat} (hf : f < 32) : ∀ g, (mc ||| BitVec.twoPow 32 f).getLsbD g = (mc.getLsbD g || decide (g = f)) := by
  intro g
  rw [BitVec.getLsbD_or, gl_tp _ _ hf]
theorem mb_cut {mb : Nat → BitVec 32} {f k : Nat} (hk : k ≤ 14) : ∀ g q, q < 32 → (va_up mb f (mb f &&& (BitVec.twoPow 32 k - 1#32)) g).getLsbD q = ((mb g).getLsbD q && (decide (g ≠ f) || decide (q < k))) := by
  intro g q hq
  unfold va_up
  by_cases e : g = f
  · rw [if_pos e, BitVec.getLsbD_and, msk k hk q hq, e]
    simp
  · rw [if_neg e]
    simp [e]
def needF (ms : Nat → Int) (mb : Nat → BitVec 32) (mc : BitVec 32) : Nat → Nat
  | 0 => 0
  | n + 1 => needF ms mb mc n + popc (mb n) 14 + (if mc.getLsbD n = true ∧ ms n ≠ -1 then 1 else 0)
theorem popc_le (m : BitVec 32) : ∀ n, popc m n ≤ n
  | 0 => Nat.le_refl 0
  | n + 1 => by
    have := popc_le m n
    unfold popc
    split <;> omega
theorem need_f {ms : Nat → Int} {mb : Nat → BitVec 32} {mc : BitVec 32} {n i : Nat} (hn : n = needF ms mb mc i) (h : mc.getLsbD i = false) : n + popc (mb i) 14 = needF ms mb mc (i + 1) := by
  unfold needF
  rw [if_neg (by rw [h]; simp), ← hn, Nat.add_zero]
theorem need_m {ms : Nat → Int} {mb : Nat → BitVec 32} {mc : BitVec 32} {n i : Nat} (hn : n = needF ms mb mc i) (h : ¬ mc.getLsbD i = false) (h2 : ms i = -1) : n + popc (mb i) 14 = needF ms mb mc (i + 1) := by
  unfold needF
  rw [if_neg (by rw [h2]; simp), ← hn, Nat.add_zero]
theorem need_t {ms : Nat → Int} {mb : Nat → BitVec 32} {mc : BitVec 32} {n i : Nat} (hn : n = needF ms mb mc i) (h : ¬ mc.getLsbD i = false) (h2 : ¬ ms i = -1) : n + popc (mb i) 14 + 1 = needF ms mb mc (i + 1) := by
  unfold needF
  rw [if_pos ⟨by simpa using h, h2⟩, ← hn]
theorem need_hf {x n j : Nat} {mc : BitVec 32} (hj : j < 2) (hn : n = x + (if 0 < j ∧ halfC mc 0 = true then 1 else 0) + (if 1 < j ∧ halfC mc 1 = true then 1 else 0)) (h : halfC mc j = false) : n = x + (if 0 < j + 1 ∧ halfC mc 0 = true then 1 else 0) + (if 1 < j + 1 ∧ halfC mc 1 = true then 1 else 0) := by
  have : j = 0 ∨ j = 1 := by omega
  rcases this with rfl | rfl
  · simp [h] at *; omega
  · simp [h] at *; omega
theorem need_ht {x n j : Nat} {mc : BitVec 32} (hj : j < 2) (hn : n = x + (if 0 < j ∧ halfC mc 0 = true then 1 else 0) + (if 1 < j ∧ halfC mc 1 = true then 1 else 0)) (h : ¬ halfC mc j = false) : n + 1 = x + (if 0 < j + 1 ∧ halfC mc 0 = true then 1 else 0) + (if 1 < j + 1 ∧ halfC mc 1 = true then 1 else 0) := by
  have h : halfC mc j = true := by simpa using h
  have : j = 0 ∨ j = 1 := by omega
  rcases this with rfl | rfl
  · simp [h] at *; omega
  · simp [h] at *; omega
theorem pi_z {w mw : Nat → Int64} {ms : Nat → Int} {f q i : Nat} (hi : i < 4) (hw : ∀ k, k < 32 → bo w k = if k < i * 8 ∧ ((q * 32 + k : Nat) : Int) < ms f then mo mw f (q * 32 + k) else 0) (h : ms f - (((q * 4 + i) * 8 : Nat) : Int) ≤ 0) : ∀ k, k < 32 → bo w k = if k < (i + 1) * 8 ∧ ((q * 32 + k : Nat) : Int) < ms f then mo mw f (q * 32 + k) else 0 := by
  intro k hk
  rw [hw k hk]
  by_cases e : k < i * 8 ∧ ((q * 32 + k : Nat) : Int) < ms f
  · rw [if_pos e, if_pos ⟨by omega, e.2⟩]
  · rw [if_neg e, if_neg (by omega)]
theorem pi_f {w mw : Nat → Int64} {ms : Nat → Int} {f q i : Nat} (hi : i < 4) (hw : ∀ k, k < 32 → bo w k = if k < i * 8 ∧ ((q * 32 + k : Nat) : Int) < ms f then mo mw f (q * 32 + k) else 0) (h2 : ¬ ms f - (((q * 4 + i) * 8 : Nat) : Int) < 8) : ∀ k, k < 32 → bo (va_up w i (mw (f * 56 + q * 4 + i) &&& (-1 : Int64))) k = if k < (i + 1) * 8 ∧ ((q * 32 + k : Nat) : Int) < ms f then mo mw f (q * 32 + k) else 0 := by
  intro k hk
  have hwk := hw k hk
  unfold bo va_up at *
  by_cases e : k / 8 = i
  · rw [if_pos e, and_m1, if_pos (by omega)]
    unfold mo
    rw [show (q * 32 + k) / 8 = q * 4 + i by omega, show (q * 32 + k) % 8 = k % 8 by omega, ← Nat.add_assoc]
  · rw [if_neg e, hwk]
    by_cases e2 : k < i * 8 ∧ ((q * 32 + k : Nat) : Int) < ms f
    · rw [if_pos e2, if_pos ⟨by omega, e2.2⟩]
    · rw [if_neg e2, if_neg (by omega)]
theorem pi_c {w mw : Nat → Int64} {ms : Nat → Int} {f q i : Nat} (hi : i < 4) (hw : ∀ k, k < 32 → bo w k = if k < i * 8 ∧ ((q * 32 + k : Nat) : Int) < ms f then mo mw f (q * 32 + k) else 0) (h : ¬ ms f - (((q * 4 + i) * 8 : Nat) : Int) ≤ 0) (h2 : ms f - (((q * 4 + i) * 8 : Nat) : Int) < 8) : ∀ k, k < 32 → bo (va_up w i (mw (f * 56 + q * 4 + i) &&& (-1 : Int64) <<< ((nI (64 - 8 * (ms f - (((q * 4 + i) * 8 : Nat) : Int)).toNat)).toInt64 &&& 63))) k = if k < (i + 1) * 8 ∧ ((q * 32 + k : Nat) : Int) < ms f then mo mw f (q * 32 + k) else 0 := by
  intro k hk
  have hwk := hw k hk
  unfold bo va_up at *
  by_cases e : k / 8 = i
  · rw [if_pos e, oc_cut _ (by omega) (by omega)]
    by_cases e2 : k % 8 < (ms f - (((q * 4 + i) * 8 : Nat) : Int)).toNat
    · rw [if_pos e2, if_pos (by omega)]
      unfold mo
      rw [show (q * 32 + k) / 8 = q * 4 + i by omega, show (q * 32 + k) % 8 = k % 8 by omega, ← Nat.add_assoc]
    · rw [if_neg e2, if_neg (by omega)]
  · rw [if_neg e, hwk]
    by_cases e2 : k < i * 8 ∧ ((q * 32 + k : Nat) : Int) < ms f
    · rw [if_pos e2, if_pos ⟨by omega, e2.2⟩]
    · rw [if_neg e2, if_neg (by omega)]
def inoN (ms : Nat → Int) (mp : Nat → Nat) (f j : Nat) : Nat := if j = 0 then (ms f).toNat else if j < 1 + ((ms f).toNat + 31) / 32 then mp (f * 14 + (j - 1)) else 0
theorem ino_0 {ms : Nat → Int} {mp : Nat → Nat} {f : Nat} (h : (ms f).toNat < 65536) : ∀ j, j < 16 → nmK (va_up (fun _ => (0 : Int64)) (0 / 4) (stN ((fun _ => (0 : Int64)) (0 / 4)) (0 % 4) (nI (ms f).toNat))) j = if j < 1 + 0 then inoN ms mp f j else 0 := by
  intro j hj
  rw [nmK_set (by omega) hj (nmK_0 _) (by omega), nmK_0]
  by_cases e : j = 0
  · rw [if_pos e, if_pos (by omega)]
    unfold inoN
    rw [if_pos e]
    omega
  · rw [if_neg e, if_neg (by omega)]
theorem ino_s {ms : Nat → Int} {mp : Nat → Nat} {f i j : Nat} (hi : i < ((ms f).toNat + 31) / 32) (hm : mp (f * 14 + i) < 65536) : (if j = 1 + i then mp (f * 14 + i) % 65536 else if j < 1 + i then inoN ms mp f j else 0) = if j < 1 + (i + 1) then inoN ms mp f j else 0 := by
  by_cases e : j = 1 + i
  · rw [if_pos e, if_pos (by omega)]
    unfold inoN
    rw [if_neg (by omega), if_pos (by omega), show j - 1 = i by omega]
    omega
  · rw [if_neg e]
    by_cases q : j < 1 + i
    · rw [if_pos q, if_pos (by omega)]
    · rw [if_neg q, if_neg (by omega)]
theorem half_s {mi : Nat → Nat} {h i j : Nat} (hm : mi (h * 16 + i) < 65536) : (if j = i then mi (h * 16 + i) % 65536 else if j < i then mi (h * 16 + j) else 0) = if j < i + 1 then mi (h * 16 + j) else 0 := by
  by_cases e : j = i
  · rw [if_pos e, if_pos (by omega), e]
    omega
  · rw [if_neg e]
    by_cases q : j < i
    · rw [if_pos q, if_pos (by omega)]
    · rw [if_neg q, if_neg (by omega)]
