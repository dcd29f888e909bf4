/-! the reference: crash, disks, words -/
section ZML
variable {p : Program} {l : Launch} {e : Env} {R : Room} {s : State} {m : MethodId} {args : Array Value} {below : List Frame} {meth : Method} {c : Code} {H : Heap} {locs : List Loc} {cells slots : Nat} {Q : State → Prop}
variable {cc : ByteArray} {pc nL idx : Nat} {ls : Array Slot} {rest : List Value} {D : va_G} {tys : List (ClassId × FieldType)} {own : String}
theorem z_mminl (hE : zE p s m args c cc nL own D tys) (hls : ls.size = nL) (hL : zLS own idx yJ9_min_f86c9) (hframes : 1 ≤ R.frames) (hlocals : (rest.map fun v => v.category).sum + 15 ≤ R.locals) (hc : cells ≤ R.cells) (hs : slots ≤ R.slots) {x y : Int64} (hdg : decode cc pc = .ok (.invokestatic idx, 3))
    (kk : W p l e R s m args below meth c H locs cells slots Q (F0 m (pc + 3) ls (.long (if y < x then y else x) :: rest))) : W p l e R s m args below meth c H locs cells slots Q (F0 m pc ls (.long y :: .long x :: rest)) :=
  va_mmin_long hE.1 hE.2.1 (hE.2.2.1.trans hls.symm) hE.2.2.2.1 (hE.2.2.2.2.1 _ hL.1) (hE.2.2.2.2.1 _ hL.2) (hE.2.2.2.2.1 _ lL_J9_min_f86c9.2.1) (hE.2.2.2.2.1 _ lL_J9_min_f86c9.1) hframes hlocals hc hs hdg kk
end ZML
theorem zl_int {a : Int} (h : -2147483648 ≤ a ∧ a < 2147483648) : ((zI a).toInt64).toInt = a := by
  rw [Int32.toInt_toInt64, zI_toInt ⟨h.1, h.2⟩]
theorem min_l {a n : Int} (ha : 0 ≤ a ∧ a ≤ 150) (hn : 0 ≤ n ∧ n < 2147483648) : (if (150 : Int64) < (zI a).toInt64 + (zI n).toInt64 then (150 : Int64) else (zI a).toInt64 + (zI n).toInt64).toInt32 = zI (if 150 ≤ a + n then 150 else a + n) := by
  have hs : ((zI a).toInt64 + (zI n).toInt64).toInt = a + n := by
    rw [Int64.toInt_add, zl_int ⟨by omega, by omega⟩, zl_int ⟨by omega, by omega⟩]
    apply Int.bmod_eq_of_le_mul_two <;> omega
  have h150 : (150 : Int64).toInt = 150 := by decide
  apply Int32.toInt_inj.mp
  by_cases z : 150 ≤ a + n
  · rw [if_pos z]
    by_cases y : (150 : Int64) < (zI a).toInt64 + (zI n).toInt64
    · rw [if_pos y]; decide
    · rw [if_neg y]
      rw [Int64.lt_iff_toInt_lt, hs, h150] at y
      rw [Int64.toInt_toInt32, hs, zI_toInt ⟨by omega, by omega⟩, show a + n = 150 by omega]; decide
  · rw [if_neg z, if_neg (by rw [Int64.lt_iff_toInt_lt, hs, h150]; omega), Int64.toInt_toInt32, hs, zI_toInt ⟨by omega, by omega⟩]
    apply Int.bmod_eq_of_le_mul_two <;> omega
def RML (n : Nat) (es : Nat → Int) (ed : Nat → Nat → Nat) (ew : Nat → Nat → Bool) (ec : Nat → Bool) (a : aM) : Prop :=
  (∀ g, g < n → es g = a.1 g) ∧ (∀ g k, g < n → ((k : Nat) : Int) < a.1 g → ed g k = a.2.1 g k) ∧ (∀ g q, g < n → q < 14 → ew g q = a.2.2.1 g q) ∧ (∀ g, g < n → ec g = a.2.2.2 g)
theorem RML_0 (es : Nat → Int) (ed : Nat → Nat → Nat) (ew : Nat → Nat → Bool) (ec : Nat → Bool) (a : aM) : RML 0 es ed ew ec a := ⟨fun g h => absurd h (Nat.not_lt_zero g), fun g _ h => absurd h (Nat.not_lt_zero g), fun g _ h => absurd h (Nat.not_lt_zero g), fun g h => absurd h (Nat.not_lt_zero g)⟩
theorem RML_s {B : Nat → Int64} {ih : Nat → Nat} {f : Nat} {es : Nat → Int} {ed ed1 : Nat → Nat → Nat} {ew ew1 : Nat → Nat → Bool} {ec : Nat → Bool} (h : RML f es ed ew ec (lodA B ih))
    (hd : ∀ g k : Nat, ed1 g k = if g = f ∧ (k : Int) < szL B (inoO B ih 0 f) then po B (num B (inoO B ih 0 f) (1 + k / 32)) (k % 32) else ed g k) (hw : ∀ g q, q < 14 → ew1 g q = if g = f then false else ew g q) : RML (f + 1) (va_up es f (szL B (inoO B ih 0 f))) ed1 ew1 (va_up ec f false) (lodA B ih) := by
  obtain ⟨h1, h2, h3, h4⟩ := h
  refine ⟨fun g hg => ?_, fun g k hg hk => ?_, fun g q hg hq => ?_, fun g hg => ?_⟩
  · by_cases e : g = f
    · rw [e, vs]; rfl
    · rw [vn e]; exact h1 g (by omega)
  · have hk : (k : Int) < szL B (inoO B ih 0 g) := hk
    rw [hd]
    by_cases e : g = f
    · subst e; rw [if_pos ⟨rfl, hk⟩]; rfl
    · rw [if_neg (fun z => e z.1)]; exact h2 g k (by omega) hk
  · rw [hw g q hq]
    by_cases e : g = f
    · rw [if_pos e]; rfl
    · rw [if_neg e]; exact h3 g q (by omega) hq
  · by_cases e : g = f
    · rw [e, vs]; rfl
    · rw [vn e]; exact h4 g (by omega)
theorem fc_congr {u w : Nat → Bool} : ∀ n, (∀ p, p < n → (u p = true ↔ w p = true)) → fc u n = fc w n
  | 0, _ => rfl
  | n + 1, h => by
    show fc u n + _ = fc w n + _
    rw [fc_congr n (fun p hp => h p (by omega))]
    have := h n (by omega)
    cases e1 : u n <;> cases e2 : w n <;> simp_all
/-! words from octets -/
theorem xor_I {a b : Nat} : nI a ^^^ nI b = nI (a ^^^ b) := by
  apply Int32.toBitVec_inj.mp
  rw [Int32.toBitVec_xor]
  have e : ∀ n : Nat, (nI n).toBitVec = BitVec.ofNat 32 n := fun n => rfl
  rw [e, e, e, BitVec.ofNat_xor]
theorem oc_xor (v w : Int64) (i : Nat) : oc v i ^^^ oc w i = oc (v ^^^ w) i := by
  unfold oc wN
  rw [Int64.toBitVec_xor, BitVec.toNat_xor, ← Nat.shiftRight_eq_div_pow, ← Nat.shiftRight_eq_div_pow, ← Nat.shiftRight_eq_div_pow, Nat.shiftRight_xor_distrib, show 256 = 2 ^ 8 from rfl, Nat.xor_mod_two_pow]
def xw (B : Nat → Int64) (d b w : Nat) : Nat → Int64
  | 0 => 0
  | i + 1 => if d = 4 ∨ i = d then xw B d b w i ^^^ B (4 * (4 * b + i) + w) else xw B d b w i
theorem xw_4 (B : Nat → Int64) {d b w : Nat} (hd : d < 5) (hw : w < 4) : xw B d b w 4 = Bd B d (b * 4 + w) := by
  have h1 : (b * 4 + w) / 4 = b := by omega
  have h2 : (b * 4 + w) % 4 = w := by omega
  have f0 : 4 * (4 * b + 0) + w = 16 * b + w := by omega
  have f1 : 4 * (4 * b + 1) + w = 16 * b + 4 + w := by omega
  have f2 : 4 * (4 * b + 2) + w = 16 * b + 8 + w := by omega
  have f3 : 4 * (4 * b + 3) + w = 16 * b + 12 + w := by omega
  unfold Bd
  rw [h1, h2, ← f0, ← f1, ← f2, ← f3]
  rcases (show d = 0 ∨ d = 1 ∨ d = 2 ∨ d = 3 ∨ d = 4 by omega) with rfl | rfl | rfl | rfl | rfl
  · rw [if_pos (by omega)]; show 0 ^^^ B (4 * (4 * b + 0) + w) = _; rw [Int64.zero_xor]; congr 1; try omega
  · rw [if_pos (by omega)]; show 0 ^^^ B (4 * (4 * b + 1) + w) = _; rw [Int64.zero_xor]; congr 1; try omega
  · rw [if_pos (by omega)]; show 0 ^^^ B (4 * (4 * b + 2) + w) = _; rw [Int64.zero_xor]; congr 1; try omega
  · rw [if_pos (by omega)]; show 0 ^^^ B (4 * (4 * b + 3) + w) = _; rw [Int64.zero_xor]; congr 1; try omega
  · rw [if_neg (by omega)]; show 0 ^^^ B (4 * (4 * b + 0) + w) ^^^ B (4 * (4 * b + 1) + w) ^^^ B (4 * (4 * b + 2) + w) ^^^ B (4 * (4 * b + 3) + w) = _; rw [Int64.zero_xor]
def tw (X : Int64) (j : Nat) : Int64 := lN (wN X / 2 ^ (64 - 8 * j))
theorem tw_0 (X : Int64) : tw X 0 = 0 := by
  unfold tw
  rw [Nat.div_eq_of_lt (show wN X < 2 ^ (64 - 8 * 0) from wN_lt X)]; rfl
theorem tw_8 (X : Int64) : tw X 8 = X := by
  apply wN_inj
  unfold tw
  rw [show 64 - 8 * 8 = 0 from rfl, Nat.pow_zero, Nat.div_one, wN_lN (wN_lt X)]
theorem tw_s (X : Int64) {j : Nat} (hj : j < 8) : (tw X j <<< ((nI 8).toInt64 &&& 63)) ||| (nI (oc X j)).toInt64 = tw X (j + 1) := by
  have hx := wN_lt X
  have hb : wN X / 2 ^ (64 - 8 * j) < 2 ^ 56 := by
    rcases (show j = 0 ∨ j = 1 ∨ j = 2 ∨ j = 3 ∨ j = 4 ∨ j = 5 ∨ j = 6 ∨ j = 7 by omega) with rfl | rfl | rfl | rfl | rfl | rfl | rfl | rfl <;> simp only [Nat.reduceMul, Nat.reduceSub, Nat.reducePow] at * <;> omega
  have hn : wN X / 2 ^ (64 - 8 * (j + 1)) = 2 ^ 8 * (wN X / 2 ^ (64 - 8 * j)) + oc X j := by
    unfold oc
    rcases (show j = 0 ∨ j = 1 ∨ j = 2 ∨ j = 3 ∨ j = 4 ∨ j = 5 ∨ j = 6 ∨ j = 7 by omega) with rfl | rfl | rfl | rfl | rfl | rfl | rfl | rfl <;> simp only [Nat.reduceMul, Nat.reduceSub, Nat.reduceAdd, Nat.reducePow] at * <;> omega
  have ho := oc_lt X j
  have h1 : (nI (oc X j)).toInt64.toBitVec = BitVec.ofNat 64 (oc X j) := by
    generalize oc X j = q at ho
    have : ∀ q, q < 256 → (nI q).toInt64.toBitVec = BitVec.ofNat 64 q := by decide +kernel
    exact this q ho
  have h2 : (tw X j <<< ((nI 8).toInt64 &&& 63)).toBitVec = BitVec.ofNat 64 (2 ^ 8 * (wN X / 2 ^ (64 - 8 * j))) := by
    rw [Int64.toBitVec_shiftLeft, sh_s 8 (by omega)]
    show (BitVec.ofNat 64 (wN X / 2 ^ (64 - 8 * j))) <<< ((BitVec.ofNat 64 8).smod 64) = _
    rw [show (BitVec.ofNat 64 8).smod 64 = 8#64 by decide]
    apply BitVec.eq_of_toNat_eq
    simp only [BitVec.shiftLeft_eq', BitVec.toNat_shiftLeft, BitVec.toNat_ofNat, Nat.reduceMod, Nat.reducePow, Nat.shiftLeft_eq] at *
    omega
  apply Int64.toBitVec_inj.mp
  rw [Int64.toBitVec_or, h1, h2]
  show _ = BitVec.ofNat 64 (wN X / 2 ^ (64 - 8 * (j + 1)))
  rw [hn]
  apply BitVec.eq_of_toNat_eq
  rw [BitVec.toNat_or, BitVec.toNat_ofNat, BitVec.toNat_ofNat, BitVec.toNat_ofNat, Nat.mod_eq_of_lt (show 2 ^ 8 * (wN X / 2 ^ (64 - 8 * j)) < 2 ^ 64 by omega), Nat.mod_eq_of_lt (show oc X j < 2 ^ 64 by omega), Nat.mod_eq_of_lt (by omega), Nat.two_pow_add_eq_or_of_lt (show oc X j < 2 ^ 8 from ho)]
theorem lod_0 {g : Nat} : (lodA (fun _ => 0) (fun _ => 0)).1 g = -1 := rfl
theorem cntF_le (es : Nat → Int) : ∀ n, cntF es n ≤ n
  | 0 => Nat.le_refl 0
  | n + 1 => by
    have := cntF_le es n
    show (if es n = -1 then cntF es n else cntF es n + 1) ≤ n + 1
    split <;> omega
