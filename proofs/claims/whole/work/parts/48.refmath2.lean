theorem pc_lt {B : Nat → Int64} {ro : Nat → Nat} {x q : Nat} (hT : TY B ro) (hx : x = 0 ∨ (x < 600 ∧ ro x = 2)) (h0 : ¬ x = 0) (hq : q < 14) : num B x (1 + q) < 600 := by
  have h := hx.resolve_left h0
  obtain ⟨t1, t2, t3⟩ := hT.2.2 x h.1 h.2
  by_cases z : q < (num B x 0 + 31) / 32
  · exact (t2 q z).1
  · rw [t3 q hq (by omega)]; omega
theorem wr_two {ew : Nat → Nat → Bool} (f o : Nat) : ∀ g q, va_up2 (va_up2 ew f (o / 32) true) f ((o + 7) / 32) true g q = (ew g q || decide (g = f ∧ (q = o / 32 ∨ q = (o + 7) / 32))) := by
  intro g q
  rw [v2, v2]
  by_cases e : g = f
  · by_cases z1 : q = o / 32 <;> by_cases z2 : q = (o + 7) / 32 <;> simp [e, z1, z2]
  · simp [e]
theorem ct_w {ew : Nat → Nat → Bool} {f n : Nat} (g q : Nat) (hq : q < 14) : (if g = f ∧ (n + 31) / 32 ≤ q ∧ q < 14 then false else ew g q) = (ew g q && (decide (g ≠ f) || decide (q < (n + 31) / 32))) := by
  by_cases e : g = f
  · by_cases z : (n + 31) / 32 ≤ q
    · rw [if_pos ⟨e, z, hq⟩]; simp [e, Nat.not_lt.mpr z]
    · rw [if_neg (fun y => z y.2.1)]; simp [e, Nat.not_le.mp z]
  · rw [if_neg (fun y => e y.1)]; simp [e]
