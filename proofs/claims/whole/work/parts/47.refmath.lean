/-! the reference: octets of PLACES, FILES -/
def RP (B : Nat → Int64) (eP : Nat → Nat) : Prop := ∀ p k, p < 600 → k < 32 → eP (p * 32 + k) = po B p k
def RM (es : Nat → Int) (ed : Nat → Nat → Nat) (ew : Nat → Nat → Bool) (ec : Nat → Bool) (a : aM) : Prop :=
  (∀ g, g < 32 → es g = a.1 g) ∧ (∀ g k, g < 32 → ((k : Nat) : Int) < a.1 g → ed g k = a.2.1 g k) ∧ (∀ g q, g < 32 → q < 14 → ew g q = a.2.2.1 g q) ∧ (∀ g, g < 32 → ec g = a.2.2.2 g)
theorem po_lt (B : Nat → Int64) (p k : Nat) : po B p k < 256 := oc_lt _ _
theorem num_po (B : Nat → Int64) (p : Nat) {j : Nat} (hj : j < 16) : num B p j = po B p (2 * j) * 256 + po B p (2 * j + 1) := by
  unfold num po
  rw [nm_oc _ (by omega), show 2 * j / 8 = j / 4 by omega, show (2 * j + 1) / 8 = j / 4 by omega, show 2 * j % 8 = 2 * (j % 4) by omega, show (2 * j + 1) % 8 = 2 * (j % 4) + 1 by omega]
  omega
theorem or8 {a b : Nat} (hb : b < 256) : nI (a * 256) ||| nI b = nI (a * 256 + b) := by
  apply Int32.toBitVec_inj.mp
  rw [Int32.toBitVec_or]
  have e : ∀ n : Nat, (nI n).toBitVec = BitVec.ofNat 32 n := fun n => rfl
  rw [e, e, e]
  apply BitVec.eq_of_getLsbD_eq
  intro i hi
  simp only [BitVec.getLsbD_or, BitVec.getLsbD_ofNat, hi, decide_true, Bool.true_and]
  rw [show a * 256 + b = 2 ^ 8 * a + b by omega, show a * 256 = 2 ^ 8 * a by omega]
  rw [Nat.testBit_two_pow_mul_add _ (show b < 2 ^ 8 from hb), Nat.testBit_two_pow_mul]
  by_cases q : i < 8
  · simp [q, Nat.not_le.mpr q]
  · have : b.testBit i = false := Nat.testBit_lt_two_pow (Nat.lt_of_lt_of_le hb (show 2 ^ 8 ≤ 2 ^ i from Nat.pow_le_pow_right (by decide) (by omega)))
    simp [q, this, Nat.not_lt.mp q]
theorem zB_or (a b : Bool) : zB a ||| zB b = zB (a || b) := by cases a <;> cases b <;> decide
theorem info_ih {B : Nat → Int64} {ih : Nat → Nat} {iN : Nat} (h : ∀ j, j < 16 → num B 0 j = infoN iN ih j) {k : Nat} (hk : k < 12) : num B 0 (2 + k) = ih k := by
  rw [h (2 + k) (by omega)]
  unfold infoN
  rw [if_neg (by omega), if_neg (by omega), if_pos (by omega), show 2 + k - 2 = k by omega]
/-- the MAPS gone through, with INODES and PIECES -/
def UM (B : Nat → Int64) (ih : Nat → Nat) (K p : Nat) : Prop := p = 0 ∨ (∃ m h, m < K ∧ h < 2 ∧ p = ih (m * 2 + h)) ∨ (∃ m f, m < K ∧ f < 32 ∧ inoO B ih m f ≠ 0 ∧ cInd B (inoO B ih m f) p)
theorem UM_UA {B : Nat → Int64} {ih : Nat → Nat} {p : Nat} : UM B ih 6 p ↔ UA B ih 12 p := by
  constructor
  · rintro (z | ⟨m, h, m1, h1, z⟩ | ⟨m, f, m1, f1, n1, z⟩)
    · exact Or.inl z
    · by_cases e : ih (m * 2 + h) = 0
      · exact Or.inl (z.trans e)
      · rw [z]; exact UA_half (by omega) e
    · unfold inoO at n1 z
      by_cases e : ih (m * 2 + f / 16) = 0
      · rw [if_pos e] at n1; exact absurd rfl n1
      · rw [if_neg e] at n1 z
        exact Or.inr ⟨_, by omega, e, Or.inr ⟨f % 16, by omega, n1, z⟩⟩
  · rintro (z | ⟨k, k1, k2, z | ⟨i, i1, i2, z⟩⟩)
    · exact Or.inl z
    · exact Or.inr (Or.inl ⟨k / 2, k % 2, by omega, by omega, by rw [show k / 2 * 2 + k % 2 = k by omega]; exact z⟩)
    · refine Or.inr (Or.inr ⟨k / 2, k % 2 * 16 + i, by omega, by omega, ?_⟩)
      have e : inoO B ih (k / 2) (k % 2 * 16 + i) = num B (ih k) i := by
        unfold inoO
        rw [show k / 2 * 2 + (k % 2 * 16 + i) / 16 = k by omega, if_neg k2, show (k % 2 * 16 + i) % 16 = i by omega]
      rw [e]; exact ⟨i2, z⟩
theorem UM_s {B : Nat → Int64} {ih : Nat → Nat} {K p : Nat} : ((UM B ih K p ∨ ∃ h, h < 2 ∧ p = ih (K * 2 + h)) ∨ ∃ f, f < 32 ∧ inoO B ih K f ≠ 0 ∧ cInd B (inoO B ih K f) p) ↔ UM B ih (K + 1) p := by
  unfold UM
  constructor
  · rintro (((z | ⟨m, h, m1, h1, z⟩ | ⟨m, f, m1, f1, n1, z⟩) | ⟨h, h1, z⟩) | ⟨f, f1, n1, z⟩)
    · exact Or.inl z
    · exact Or.inr (Or.inl ⟨m, h, by omega, h1, z⟩)
    · exact Or.inr (Or.inr ⟨m, f, by omega, f1, n1, z⟩)
    · exact Or.inr (Or.inl ⟨K, h, by omega, h1, z⟩)
    · exact Or.inr (Or.inr ⟨K, f, by omega, f1, n1, z⟩)
  · rintro (z | ⟨m, h, m1, h1, z⟩ | ⟨m, f, m1, f1, n1, z⟩)
    · exact Or.inl (Or.inl (Or.inl z))
    · rcases Nat.eq_or_lt_of_le (Nat.le_of_lt_succ m1) with e | e
      · subst e; exact Or.inl (Or.inr ⟨h, h1, z⟩)
      · exact Or.inl (Or.inl (Or.inr (Or.inl ⟨m, h, e, h1, z⟩)))
    · rcases Nat.eq_or_lt_of_le (Nat.le_of_lt_succ m1) with e | e
      · subst e; exact Or.inr ⟨f, f1, n1, z⟩
      · exact Or.inl (Or.inl (Or.inr (Or.inr ⟨m, f, e, f1, n1, z⟩)))
theorem ex_s {n : Nat} {P : Nat → Prop} {A : Prop} : ((A ∨ ∃ h, h < n ∧ P h) ∨ P n) ↔ (A ∨ ∃ h, h < n + 1 ∧ P h) := by
  constructor
  · rintro ((z | ⟨h, h1, z⟩) | z)
    · exact Or.inl z
    · exact Or.inr ⟨h, by omega, z⟩
    · exact Or.inr ⟨n, by omega, z⟩
  · rintro (z | ⟨h, h1, z⟩)
    · exact Or.inl (Or.inl z)
    · rcases Nat.eq_or_lt_of_le (Nat.le_of_lt_succ h1) with e | e
      · subst e; exact Or.inr z
      · exact Or.inl (Or.inr ⟨h, e, z⟩)
theorem ex_n {n : Nat} {P : Nat → Prop} {A : Prop} (h : ¬ P n) : (A ∨ ∃ h, h < n ∧ P h) ↔ (A ∨ ∃ h, h < n + 1 ∧ P h) := by
  rw [← ex_s]
  constructor
  · exact Or.inl
  · rintro (z | z)
    · exact z
    · exact absurd z h
theorem v2 {α : Type} {g : Nat → Nat → α} {i k y x : Nat} {v : α} : va_up2 g i k v y x = if y = i ∧ x = k then v else g y x := rfl
/-- changes of FILES -/
theorem RM_W {es : Nat → Int} {ed ed1 : Nat → Nat → Nat} {ew ew1 : Nat → Nat → Bool} {ec : Nat → Bool} {a : aM} {f o : Nat} {v : Int64} {n : Int} (h : RM es ed ew ec a) (hf : f < 32) (ho : o ≤ 440 ∧ ((o : Int) ≤ a.1 f ∨ o = 0)) (hn : n = if a.1 f < (o : Int) + 8 then (o : Int) + 8 else a.1 f) {es1 : Nat → Int} (hs : ∀ g, g ≠ f → es1 g = es g)
    (hd : ∀ g x, ed1 g x = if g = f ∧ o ≤ x ∧ x < o + 8 then oc v (x - o) else ed g x) (hw : ∀ g q, ew1 g q = (ew g q || decide (g = f ∧ (q = o / 32 ∨ q = (o + 7) / 32)))) : RM (va_up es1 f n) ed1 ew1 (va_up ec f true) (aW a f o v) := by
  obtain ⟨h1, h2, h3, h4⟩ := h
  refine ⟨fun g hg => ?_, fun g k hg hk => ?_, fun g q hg hq => ?_, fun g hg => ?_⟩
  · show _ = va_up _ _ _ g
    by_cases e : g = f
    · rw [e, vs, vs]; exact hn
    · rw [vn e, vn e, hs g e]; exact h1 g hg
  · have hk : (k : Int) < va_up a.1 f (if a.1 f < (o : Int) + 8 then (o : Int) + 8 else a.1 f) g := hk
    rw [hd]
    show _ = if g = f ∧ o ≤ k ∧ k < o + 8 then oc v (k - o) else a.2.1 g k
    by_cases y : g = f ∧ o ≤ k ∧ k < o + 8
    · rw [if_pos y, if_pos y]
    · rw [if_neg y, if_neg y]
      apply h2 g k hg
      by_cases e : g = f
      · subst e
        rw [vs] at hk
        split at hk <;> omega
      · rw [vn e] at hk; exact hk
  · rw [hw, h3 g q hg hq]; rfl
  · show va_up _ _ _ _ = (a.2.2.2 g || decide (g = f))
    by_cases e : g = f
    · rw [e, vs]; simp
    · rw [vn e, h4 g hg]; simp [e]
theorem RM_C {es : Nat → Int} {ed : Nat → Nat → Nat} {ew ew1 : Nat → Nat → Bool} {ec : Nat → Bool} {a : aM} {f n : Nat} (h : RM es ed ew ec a) (hn : (n : Int) ≤ a.1 f)
    (hw : ∀ g q, q < 14 → ew1 g q = (ew g q && (decide (g ≠ f) || decide (q < (n + 31) / 32)))) : RM (va_up es f (n : Int)) ed ew1 (va_up ec f true) (aC a f n) := by
  obtain ⟨h1, h2, h3, h4⟩ := h
  refine ⟨fun g hg => ?_, fun g k hg hk => ?_, fun g q hg hq => ?_, fun g hg => ?_⟩
  · show _ = va_up _ _ _ g
    by_cases e : g = f
    · rw [e, vs, vs]
    · rw [vn e, vn e]; exact h1 g hg
  · have hk : (k : Int) < va_up a.1 f (n : Int) g := hk
    apply h2 g k hg
    by_cases e : g = f
    · subst e
      rw [vs] at hk
      omega
    · rw [vn e] at hk; exact hk
  · rw [hw g q hq, h3 g q hg hq]; rfl
  · show va_up _ _ _ _ = (a.2.2.2 g || decide (g = f))
    by_cases e : g = f
    · rw [e, vs]; simp
    · rw [vn e, h4 g hg]; simp [e]
theorem RM_R {es : Nat → Int} {ed : Nat → Nat → Nat} {ew ew1 : Nat → Nat → Bool} {ec : Nat → Bool} {a : aM} {f : Nat} (h : RM es ed ew ec a)
    (hw : ∀ g q, q < 14 → ew1 g q = if g = f then false else ew g q) : RM (va_up es f (-1)) ed ew1 (va_up (va_up ec f false) f true) (aR a f) := by
  obtain ⟨h1, h2, h3, h4⟩ := h
  refine ⟨fun g hg => ?_, fun g k hg hk => ?_, fun g q hg hq => ?_, fun g hg => ?_⟩
  · show _ = va_up _ _ _ g
    by_cases e : g = f
    · rw [e, vs, vs]
    · rw [vn e, vn e]; exact h1 g hg
  · have hk : (k : Int) < va_up a.1 f (-1) g := hk
    apply h2 g k hg
    by_cases e : g = f
    · subst e
      rw [vs] at hk
      omega
    · rw [vn e] at hk; exact hk
  · rw [hw g q hq]
    show _ = (a.2.2.1 g q && decide (g ≠ f))
    by_cases e : g = f
    · rw [if_pos e]; simp [e]
    · rw [if_neg e, h3 g q hg hq]; simp [e]
  · show va_up _ _ _ _ = (a.2.2.2 g || decide (g = f))
    by_cases e : g = f
    · rw [e, vs]; simp
    · rw [vn e, vn e, h4 g hg]; simp [e]
theorem RM_E {es : Nat → Int} {ed : Nat → Nat → Nat} {ew : Nat → Nat → Bool} {ec : Nat → Bool} {a b : aM} (h : RM es ed ew ec a) (e : aE a b) : RM es ed ew ec b := by
  obtain ⟨h1, h2, h3, h4⟩ := h
  obtain ⟨e1, e2, e3, e4⟩ := e
  exact ⟨fun g hg => (h1 g hg).trans (e1 g hg), fun g k hg hk => (h2 g k hg (by rw [e1 g hg]; exact hk)).trans (e2 g k hg (by rw [e1 g hg]; exact hk)), fun g q hg hq => (h3 g q hg hq).trans (e3 g q hg (by omega)), fun g hg => (h4 g hg).trans (e4 g hg)⟩
