/-! what should stand on the five disks, by what the PLACES hold (word i of PLACE p: B (4 * p + i)) -/
def Bd (B : Nat → Int64) (d o : Nat) : Int64 := if d < 4 then B (16 * (o / 4) + 4 * d + o % 4) else B (16 * (o / 4) + o % 4) ^^^ B (16 * (o / 4) + 4 + o % 4) ^^^ B (16 * (o / 4) + 8 + o % 4) ^^^ B (16 * (o / 4) + 12 + o % 4)
/-- the disks' words, usable stripes, the one that isn't sound, whether it failed -/
def DR (B dw : Nat → Int64) (du : Nat → Int) (dn : Int) (df : Bool) : Prop :=
  (-1 ≤ dn ∧ dn < 5) ∧ (∀ d, d < 5 → 0 ≤ du d ∧ du d ≤ 150) ∧ (∀ d : Nat, d < 5 → (d : Int) ≠ dn → du d = 150) ∧ (dn = -1 → df = false) ∧ (df = true → du dn.toNat = 0) ∧ (0 ≤ dn → df = false → du dn.toNat < 150) ∧
  (∀ d o, d < 5 → o < 600 → ((o / 4 : Nat) : Int) < du d → dw (d * 600 + o) = Bd B d o) ∧ (0 ≤ dn → df = false → ∀ o, o < 600 → du dn.toNat ≤ ((o / 4 : Nat) : Int) → dw (dn.toNat * 600 + o) = 0)
/-- as much of it as reading needs -/
def DU (B dw : Nat → Int64) (du : Nat → Int) (dn : Int) : Prop :=
  (-1 ≤ dn ∧ dn < 5) ∧ (∀ d, d < 5 → 0 ≤ du d ∧ du d ≤ 150) ∧ (∀ d : Nat, d < 5 → (d : Int) ≠ dn → du d = 150) ∧ (∀ d o, d < 5 → o < 600 → ((o / 4 : Nat) : Int) < du d → dw (d * 600 + o) = Bd B d o)
theorem DR.u {B dw : Nat → Int64} {du : Nat → Int} {dn : Int} {df : Bool} (h : DR B dw du dn df) : DU B dw du dn := ⟨h.1, h.2.1, h.2.2.1, h.2.2.2.2.2.2.1⟩
/-- the others' words, taken together -/
def xr (f : Nat → Int64) (d : Nat) : Nat → Int64
  | 0 => 0
  | n + 1 => if n = d then xr f d n else xr f d n ^^^ f n
theorem x4 (a b c d : Int64) : b ^^^ c ^^^ d ^^^ (a ^^^ b ^^^ c ^^^ d) = a := by
  apply Int64.toBitVec_inj.mp
  simp only [Int64.toBitVec_xor]
  apply BitVec.eq_of_getLsbD_eq
  intro i hi
  simp only [BitVec.getLsbD_xor]
  cases a.toBitVec.getLsbD i <;> cases b.toBitVec.getLsbD i <;> cases c.toBitVec.getLsbD i <;> cases d.toBitVec.getLsbD i <;> rfl
theorem x0 (a : Int64) : (0 : Int64) ^^^ a = a := by simp
theorem xr_due {B dw : Nat → Int64} {du : Nat → Int} {dn : Int} (h : DU B dw du dn) {d o : Nat} (hd : d < 5) (ho : o < 600) (hu : ¬ ((o / 4 : Nat) : Int) < du d) : xr (fun j => dw (j * 600 + o)) d 5 = Bd B d o := by
  obtain ⟨h1, h2, h3, h7⟩ := h
  have hdn : (d : Int) = dn := by
    by_cases q : (d : Int) = dn
    · exact q
    · have := h3 d hd q
      omega
  have other : ∀ j, j < 5 → j ≠ d → dw (j * 600 + o) = Bd B j o := fun j hj hne => h7 j o hj ho (by have := h3 j hj (by omega); omega)
  have e0 := fun q => other 0 (by decide) q
  have e1 := fun q => other 1 (by decide) q
  have e2 := fun q => other 2 (by decide) q
  have e3 := fun q => other 3 (by decide) q
  have e4 := fun q => other 4 (by decide) q
  have cs : d = 0 ∨ d = 1 ∨ d = 2 ∨ d = 3 ∨ d = 4 := by omega
  rcases cs with rfl | rfl | rfl | rfl | rfl
  · simp only [xr, Nat.reduceEqDiff, if_true, if_false]
    rw [e1 (by decide), e2 (by decide), e3 (by decide), e4 (by decide)]
    simp only [Bd, Nat.reduceLT, if_true, if_false, Nat.mul_zero, Nat.add_zero, Nat.reduceMul, x0]
    exact x4 _ _ _ _
  · simp only [xr, Nat.reduceEqDiff, if_true, if_false]
    rw [e0 (by decide), e2 (by decide), e3 (by decide), e4 (by decide)]
    simp only [Bd, Nat.reduceLT, if_true, if_false, Nat.mul_zero, Nat.add_zero, Nat.reduceMul, x0]
    rw [Int64.xor_comm (B (16 * (o / 4) + o % 4)) (B (16 * (o / 4) + 4 + o % 4))]
    exact x4 _ _ _ _
  · simp only [xr, Nat.reduceEqDiff, if_true, if_false]
    rw [e0 (by decide), e1 (by decide), e3 (by decide), e4 (by decide)]
    simp only [Bd, Nat.reduceLT, if_true, if_false, Nat.mul_zero, Nat.add_zero, Nat.reduceMul, x0]
    generalize B (16 * (o / 4) + o % 4) = a
    generalize B (16 * (o / 4) + 4 + o % 4) = b
    generalize B (16 * (o / 4) + 8 + o % 4) = c
    generalize B (16 * (o / 4) + 12 + o % 4) = d
    rw [show a ^^^ b ^^^ c ^^^ d = c ^^^ a ^^^ b ^^^ d by rw [Int64.xor_comm (a ^^^ b) c, Int64.xor_assoc c a b]]
    exact x4 _ _ _ _
  · simp only [xr, Nat.reduceEqDiff, if_true, if_false]
    rw [e0 (by decide), e1 (by decide), e2 (by decide), e4 (by decide)]
    simp only [Bd, Nat.reduceLT, if_true, if_false, Nat.mul_zero, Nat.add_zero, Nat.reduceMul, x0]
    generalize B (16 * (o / 4) + o % 4) = a
    generalize B (16 * (o / 4) + 4 + o % 4) = b
    generalize B (16 * (o / 4) + 8 + o % 4) = c
    generalize B (16 * (o / 4) + 12 + o % 4) = d
    rw [show a ^^^ b ^^^ c ^^^ d = d ^^^ a ^^^ b ^^^ c by rw [Int64.xor_comm (a ^^^ b ^^^ c) d, Int64.xor_assoc d a b, Int64.xor_assoc d (a ^^^ b) c]]
    exact x4 _ _ _ _
  · simp only [xr, Nat.reduceEqDiff, if_true, if_false]
    rw [e0 (by decide), e1 (by decide), e2 (by decide), e3 (by decide)]
    simp only [Bd, Nat.reduceLT, if_true, if_false, Nat.mul_zero, Nat.add_zero, Nat.reduceMul, x0]
/-- a number put into a word: as the class does it -/
def stN (w : Int64) (j : Nat) (x : Int32) : Int64 := w ||| (x.toInt64 &&& (65535 : Int64)) <<< ((nI (48 - 16 * j)).toInt64 &&& 63)
/-- number i (of sixteen) of PLACE p -/
def num (B : Nat → Int64) (p i : Nat) : Nat := nm (B (4 * p + i / 4)) (i % 4)
/-- i words of PLACE p written anew -/
def upB (B : Nat → Int64) (p : Nat) (kw : Nat → Int64) : Nat → Nat → Int64
  | 0 => B
  | i + 1 => fun j => if j = 4 * p + i then kw i else upB B p kw i j
theorem upB_4 (B : Nat → Int64) (p : Nat) (kw : Nat → Int64) (j : Nat) : upB B p kw 4 j = if j / 4 = p then kw (j % 4) else B j := by
  simp only [upB]
  by_cases h : j / 4 = p
  · rw [if_pos h]
    have : j % 4 = 0 ∨ j % 4 = 1 ∨ j % 4 = 2 ∨ j % 4 = 3 := by omega
    rcases this with q | q | q | q <;> rw [q]
    · rw [if_neg (by omega), if_neg (by omega), if_neg (by omega), if_pos (by omega)]
    · rw [if_neg (by omega), if_neg (by omega), if_pos (by omega)]
    · rw [if_neg (by omega), if_pos (by omega)]
    · rw [if_pos (by omega)]
  · rw [if_neg h, if_neg (by omega), if_neg (by omega), if_neg (by omega), if_neg (by omega)]
theorem x5 (a b c d v : Int64) : (a ^^^ b ^^^ c ^^^ d) ^^^ a ^^^ v = v ^^^ b ^^^ c ^^^ d ∧ (a ^^^ b ^^^ c ^^^ d) ^^^ b ^^^ v = a ^^^ v ^^^ c ^^^ d ∧ (a ^^^ b ^^^ c ^^^ d) ^^^ c ^^^ v = a ^^^ b ^^^ v ^^^ d ∧ (a ^^^ b ^^^ c ^^^ d) ^^^ d ^^^ v = a ^^^ b ^^^ c ^^^ v := by
  refine ⟨?_, ?_, ?_, ?_⟩ <;>
  · apply Int64.toBitVec_inj.mp
    simp only [Int64.toBitVec_xor]
    apply BitVec.eq_of_getLsbD_eq
    intro i hi
    simp only [BitVec.getLsbD_xor]
    cases a.toBitVec.getLsbD i <;> cases b.toBitVec.getLsbD i <;> cases c.toBitVec.getLsbD i <;> cases d.toBitVec.getLsbD i <;> cases v.toBitVec.getLsbD i <;> rfl
/-- one word of a PLACE is written, with its parity, where they can be used -/
theorem DR_put {B dw : Nat → Int64} {du : Nat → Int} {dn : Int} {df : Bool} {p i : Nat} (h : DR B dw du dn df) (hp : p < 600) (hi : i < 4) (v : Int64) :
    DR (fun j => if j = 4 * p + i then v else B j)
      (if du 4 ≤ ((p / 4 : Nat) : Int) then (if du (p % 4) ≤ ((p / 4 : Nat) : Int) then dw else va_up dw (p % 4 * 600 + (p / 4 * 4 + i)) v) else va_up (if du (p % 4) ≤ ((p / 4 : Nat) : Int) then dw else va_up dw (p % 4 * 600 + (p / 4 * 4 + i)) v) (2400 + (p / 4 * 4 + i)) (Bd B 4 (p / 4 * 4 + i) ^^^ Bd B (p % 4) (p / 4 * 4 + i) ^^^ v)) du dn df := by
  obtain ⟨h1, h2, h3, h4, h5, h6, h7, h8⟩ := h
  obtain ⟨o, ho⟩ : ∃ o, o = p / 4 * 4 + i := ⟨_, rfl⟩
  have o4 : o / 4 = p / 4 := by omega
  have om : o % 4 = i := by omega
  rw [← ho]
  have rd : ∀ d' o', d' < 5 → o' < 600 → (if du 4 ≤ ((p / 4 : Nat) : Int) then (if du (p % 4) ≤ ((p / 4 : Nat) : Int) then dw else va_up dw (p % 4 * 600 + o) v) else va_up (if du (p % 4) ≤ ((p / 4 : Nat) : Int) then dw else va_up dw (p % 4 * 600 + o) v) (2400 + o) (Bd B 4 o ^^^ Bd B (p % 4) o ^^^ v)) (d' * 600 + o') = if d' = 4 ∧ o' = o ∧ ¬ du 4 ≤ ((p / 4 : Nat) : Int) then Bd B 4 o ^^^ Bd B (p % 4) o ^^^ v else if d' = p % 4 ∧ o' = o ∧ ¬ du (p % 4) ≤ ((p / 4 : Nat) : Int) then v else dw (d' * 600 + o') := by
    intro d' o' hd' ho'
    by_cases c4 : du 4 ≤ ((p / 4 : Nat) : Int) <;> by_cases cd : du (p % 4) ≤ ((p / 4 : Nat) : Int) <;> simp only [c4, cd, if_true, if_false, not_true, not_false_eq_true, and_false, and_true]
    · by_cases q : d' * 600 + o' = p % 4 * 600 + o
      · rw [if_pos (by omega)]; unfold va_up; rw [if_pos q]
      · rw [if_neg (by omega)]; unfold va_up; rw [if_neg q]
    · by_cases q : d' * 600 + o' = 2400 + o
      · rw [if_pos (by omega)]; unfold va_up; rw [if_pos q]
      · rw [if_neg (by omega)]; unfold va_up; rw [if_neg q]
    · by_cases q : d' * 600 + o' = 2400 + o
      · rw [if_pos (by omega)]; unfold va_up; rw [if_pos q]
      · rw [if_neg (by omega)]
        by_cases q2 : d' * 600 + o' = p % 4 * 600 + o
        · rw [if_pos (by omega)]; unfold va_up; rw [if_neg q, if_pos q2]
        · rw [if_neg (by omega)]; unfold va_up; rw [if_neg q, if_neg q2]
  have bd : ∀ d' o', d' < 5 → o' ≠ o → Bd (fun j => if j = 4 * p + i then v else B j) d' o' = Bd B d' o' := by
    intro d' o' hd' hne
    unfold Bd
    by_cases q : d' < 4
    · rw [if_pos q, if_pos q]
      dsimp only
      rw [if_neg (by omega)]
    · rw [if_neg q, if_neg q]
      dsimp only
      rw [if_neg (by omega), if_neg (by omega), if_neg (by omega), if_neg (by omega)]
  refine ⟨h1, h2, h3, h4, h5, h6, ?_, ?_⟩
  · intro d' o' hd' ho' hu
    rw [rd d' o' hd' ho']
    by_cases hoo : o' = o
    · subst hoo
      by_cases e4 : d' = 4
      · subst e4
        rw [if_pos ⟨rfl, rfl, by omega⟩]
        obtain ⟨a1, a2, a3, a4⟩ := x5 (B (16 * (o' / 4) + o' % 4)) (B (16 * (o' / 4) + 4 + o' % 4)) (B (16 * (o' / 4) + 8 + o' % 4)) (B (16 * (o' / 4) + 12 + o' % 4)) v
        have cs : p % 4 = 0 ∨ p % 4 = 1 ∨ p % 4 = 2 ∨ p % 4 = 3 := by omega
        rcases cs with q | q | q | q <;> rw [q] <;> simp only [Bd, Nat.reduceLT, if_true, if_false, Nat.reduceMul, Nat.mul_zero, Nat.add_zero]
        · rw [a1, if_pos (by omega), if_neg (by omega), if_neg (by omega), if_neg (by omega)]
        · rw [a2, if_neg (by omega), if_pos (by omega), if_neg (by omega), if_neg (by omega)]
        · rw [a3, if_neg (by omega), if_neg (by omega), if_pos (by omega), if_neg (by omega)]
        · rw [a4, if_neg (by omega), if_neg (by omega), if_neg (by omega), if_pos (by omega)]
      · rw [if_neg (fun z => e4 z.1)]
        by_cases ed : d' = p % 4
        · rw [if_pos ⟨ed, rfl, by rw [← ed]; omega⟩]
          unfold Bd
          rw [if_pos (by omega)]
          dsimp only
          rw [if_pos (by omega)]
        · rw [if_neg (fun z => ed z.1), h7 d' o' hd' ho' hu]
          unfold Bd
          rw [if_pos (by omega), if_pos (by omega)]
          dsimp only
          rw [if_neg (by omega)]
    · rw [if_neg (fun z => hoo z.2.1), if_neg (fun z => hoo z.2.1), bd d' o' hd' hoo]
      exact h7 d' o' hd' ho' hu
  · intro g0 gf o' ho' hu
    rw [rd dn.toNat o' (by omega) ho']
    rw [if_neg (by rintro ⟨z1, z2, z3⟩; rw [z1] at hu; omega), if_neg (by rintro ⟨z1, z2, z3⟩; rw [z1] at hu; omega)]
    exact h8 g0 gf o' ho' hu
theorem DR_renew {B dw w : Nat → Int64} {du : Nat → Int} {dn : Int} {df : Bool} (h : DR B dw du dn df) (h0 : 0 ≤ dn) (hf : df = true) (hw : ∀ j, w j = if dn.toNat * 600 ≤ j ∧ j < dn.toNat * 600 + 600 then 0 else dw j) : DR B w du dn false := by
  obtain ⟨h1, h2, h3, h4, h5, h6, h7, h8⟩ := h
  have hz := h5 hf
  refine ⟨h1, h2, h3, fun _ => rfl, (fun q => by cases q), (fun _ _ => by omega), ?_, ?_⟩
  · intro d o hd ho hu
    have : (d : Int) ≠ dn := fun q => by rw [show dn.toNat = d by omega] at hz; omega
    rw [hw, if_neg (by omega)]
    exact h7 d o hd ho hu
  · intro _ _ o ho _
    rw [hw, if_pos (by omega)]

theorem up_rng {α : Type} {g w F : Nat → α} {lo hi : Nat} {v : α} (hlo : lo ≤ hi) (hw : ∀ j, w j = if lo ≤ j ∧ j < hi then F j else g j) (hv : v = F hi) : ∀ j, va_up w hi v j = if lo ≤ j ∧ j < hi + 1 then F j else g j := by
  intro j
  unfold va_up
  by_cases q : j = hi
  · rw [if_pos q, if_pos (by omega), hv, q]
  · rw [if_neg q, hw j]
    by_cases r : lo ≤ j ∧ j < hi
    · rw [if_pos r, if_pos (by omega)]
    · rw [if_neg r, if_neg (by omega)]
/-- behind a rebuild up to stripe en -/
theorem DU_mid {B dw w : Nat → Int64} {du : Nat → Int} {dn : Int} {df : Bool} {i : Nat} (h : DR B dw du dn df) (h0 : 0 ≤ dn) (hi : i ≤ 600) (hw : ∀ j, w j = if dn.toNat * 600 + (du dn.toNat).toNat * 4 ≤ j ∧ j < dn.toNat * 600 + i then Bd B dn.toNat (j - dn.toNat * 600) else dw j) : DU B w du dn := by
  obtain ⟨h1, h2, h3, h4, h5, h6, h7, h8⟩ := h
  refine ⟨h1, h2, h3, ?_⟩
  intro d o hd ho hu
  rw [hw]
  by_cases q : (d : Int) = dn
  · have e : dn.toNat = d := by omega
    rw [e]
    rw [e] at hw
    have := h2 d hd
    rw [if_neg (by omega)]
    exact h7 d o hd ho hu
  · rw [if_neg (by omega)]
    exact h7 d o hd ho hu
theorem DR_restore {B dw w : Nat → Int64} {du : Nat → Int} {dn : Int} {df : Bool} {en : Nat} (h : DR B dw du dn df) (h0 : 0 ≤ dn) (hf : df = false) (hs : du dn.toNat ≤ en) (hen : en ≤ 150) (hw : ∀ j, w j = if dn.toNat * 600 + (du dn.toNat).toNat * 4 ≤ j ∧ j < dn.toNat * 600 + en * 4 then Bd B dn.toNat (j - dn.toNat * 600) else dw j) :
    DR B w (va_up du dn.toNat en) (if en = 150 then -1 else dn) df := by
  obtain ⟨h1, h2, h3, h4, h5, h6, h7, h8⟩ := h
  have hdn : dn.toNat < 5 := by omega
  have hz := h2 dn.toNat hdn
  have w1 : ∀ d o, d < 5 → o < 600 → ((o / 4 : Nat) : Int) < va_up du dn.toNat (en : Int) d → w (d * 600 + o) = Bd B d o := by
    intro d o hd ho hu
    rw [hw]
    unfold va_up at hu
    by_cases q : d = dn.toNat
    · rw [if_pos q] at hu
      subst q
      by_cases r : dn.toNat * 600 + (du dn.toNat).toNat * 4 ≤ dn.toNat * 600 + o
      · rw [if_pos (by omega)]
        congr 1
        omega
      · rw [if_neg (by omega)]
        exact h7 _ o hd ho (by omega)
    · rw [if_neg q] at hu
      rw [if_neg (by omega)]
      exact h7 d o hd ho hu
  have us : ∀ d, d < 5 → d ≠ dn.toNat → va_up du dn.toNat (en : Int) d = 150 := fun d hd hne => by unfold va_up; rw [if_neg hne]; exact h3 d hd (by omega)
  have u0 : va_up du dn.toNat (en : Int) dn.toNat = en := by unfold va_up; rw [if_pos rfl]
  by_cases q : en = 150
  · rw [if_pos q]
    refine ⟨by omega, ?_, ?_, fun _ => hf, (fun z => by rw [hf] at z; cases z), (fun z => by omega), w1, (fun z => by omega)⟩
    · intro d hd
      by_cases r : d = dn.toNat
      · rw [r, u0]; omega
      · rw [us d hd r]; omega
    · intro d hd _
      by_cases r : d = dn.toNat
      · rw [r, u0]; omega
      · exact us d hd r
  · rw [if_neg q]
    refine ⟨h1, ?_, ?_, fun _ => hf, (fun z => by rw [hf] at z; cases z), (fun _ _ => by rw [u0]; omega), w1, ?_⟩
    · intro d hd
      by_cases r : d = dn.toNat
      · rw [r, u0]; omega
      · rw [us d hd r]; omega
    · intro d hd hne
      exact us d hd (by omega)
    · intro _ _ o ho hu
      rw [u0] at hu
      rw [hw, if_neg (by omega)]
      exact h8 h0 hf o ho (by omega)
