/-! which PLACES are in use: roles (1 a half of a MAP, 2 an INODE, 3 a PIECE) -/
def TY (B : Nat → Int64) (ro : Nat → Nat) : Prop :=
  ro 0 = 0 ∧ (∀ p, p < 600 → ro p = 1 → ∀ i, i < 16 → num B p i = 0 ∨ (num B p i < 600 ∧ ro (num B p i) = 2)) ∧
  (∀ p, p < 600 → ro p = 2 → num B p 0 ≤ 448 ∧ (∀ q, q < (num B p 0 + 31) / 32 → num B p (1 + q) < 600 ∧ num B p (1 + q) ≠ 0 ∧ ro (num B p (1 + q)) = 3) ∧ (∀ q, q < 14 → (num B p 0 + 31) / 32 ≤ q → num B p (1 + q) = 0))
def cInd (B : Nat → Int64) (x p : Nat) : Prop := p = x ∨ ∃ q, q < 14 ∧ p = num B x (1 + q)
def cHlf (B : Nat → Int64) (h p : Nat) : Prop := p = h ∨ ∃ i, i < 16 ∧ num B h i ≠ 0 ∧ cInd B (num B h i) p
def UA (B : Nat → Int64) (ih : Nat → Nat) (n p : Nat) : Prop := p = 0 ∨ ∃ k, k < n ∧ ih k ≠ 0 ∧ cHlf B (ih k) p
/-- what is marked is closed -/
def C1 (B : Nat → Int64) (ro : Nat → Nat) (u : Nat → Bool) : Prop := ∀ p, p < 600 → u p = true → ro p = 1 → ∀ i, i < 16 → u (num B p i) = true ∧ (num B p i ≠ 0 → ∀ q, q < 14 → u (num B (num B p i) (1 + q)) = true)
def C2 (B : Nat → Int64) (ro : Nat → Nat) (u : Nat → Bool) : Prop := ∀ p, p < 600 → u p = true → ro p = 2 → ∀ q, q < 14 → u (num B p (1 + q)) = true
/-- how many of the first n are not marked -/
def fc (u : Nat → Bool) : Nat → Nat
  | 0 => 0
  | n + 1 => fc u n + (if u n then 0 else 1)
theorem fc_up (u : Nat → Bool) (x : Nat) : ∀ n, fc (va_up u x true) n + (if x < n ∧ u x = false then 1 else 0) = fc u n
  | 0 => by simp [fc]
  | n + 1 => by
    have ih := fc_up u x n
    unfold fc
    by_cases e : n = x
    · subst e
      have h1 : va_up u n true n = true := by unfold va_up; rw [if_pos rfl]
      rw [h1]
      rw [if_neg (by omega)] at ih
      cases h : u n <;> simp [h] <;> omega
    · have h1 : va_up u x true n = u n := by unfold va_up; rw [if_neg e]
      rw [h1]
      by_cases q : x < n ∧ u x = false
      · rw [if_pos q] at ih
        have e2 : (if x < n + 1 ∧ u x = false then 1 else 0) = (1 : Nat) := if_pos ⟨by omega, q.2⟩
        rw [e2]
        omega
      · rw [if_neg q] at ih
        have e2 : (if x < n + 1 ∧ u x = false then 1 else 0) = (0 : Nat) := if_neg (fun z => q ⟨by omega, z.2⟩)
        rw [e2]
        omega
theorem fc_le (u : Nat → Bool) : ∀ n, fc u n ≤ n
  | 0 => Nat.le_refl 0
  | n + 1 => by
    have := fc_le u n
    unfold fc
    split <;> omega
theorem va_same {u : Nat → Bool} {x : Nat} (h : u x = true) : va_up u x true = u := by
  funext j
  unfold va_up
  by_cases e : j = x
  · rw [if_pos e, e, h]
  · rw [if_neg e]
theorem vt {u : Nat → Bool} {x p : Nat} : va_up u x true p = true ↔ u p = true ∨ p = x := by
  unfold va_up
  by_cases e : p = x
  · simp [e]
  · simp [e]
/-- an INODE that was not marked, with its PIECES -/
theorem C2_inode {B : Nat → Int64} {ro : Nat → Nat} {u w : Nat → Bool} {x : Nat} (ht : TY B ro) (hx : x < 600) (hr : ro x = 2) (h2 : C2 B ro u) (h0 : u 0 = true) (hw : ∀ p, w p = true ↔ u p = true ∨ cInd B x p) : C2 B ro w := by
  intro p hp hwp hrp q hq
  rcases (hw p).mp hwp with h | h | ⟨r, hr1, hr2⟩
  · exact (hw _).mpr (Or.inl (h2 p hp h hrp q hq))
  · rw [h]; exact (hw _).mpr (Or.inr (Or.inr ⟨q, hq, rfl⟩))
  · obtain ⟨t1, t2, t3⟩ := ht.2.2 x hx hr
    by_cases z : r < (num B x 0 + 31) / 32
    · have := (t2 r z).2.2
      rw [← hr2] at this
      omega
    · have := t3 r hr1 (by omega)
      rw [this] at hr2
      rw [hr2, ht.1] at hrp
      omega
theorem inode_marked {B : Nat → Int64} {ro : Nat → Nat} {u : Nat → Bool} {x : Nat} (hx : x < 600) (h0 : u 0 = true) (hr : x = 0 ∨ ro x = 2) (h2 : C2 B ro u) (hu : u x = true) : ∀ p, u p = true ↔ u p = true ∨ (x ≠ 0 ∧ cInd B x p) := by
  intro p
  constructor
  · exact Or.inl
  · rintro (h | ⟨h, h | ⟨q, q1, q2⟩⟩)
    · exact h
    · rw [h]; exact hu
    · rw [q2]; exact h2 x hx hu (hr.resolve_left h) q q1
/-- behind a whole half -/
theorem half_done {B : Nat → Int64} {ro : Nat → Nat} {u w : Nat → Bool} {h : Nat} (ht : TY B ro) (hh : h < 600) (hr : ro h = 1) (h0 : u 0 = true) (h1 : C1 B ro u) (h2 : C2 B ro w) (hw : ∀ p, w p = true ↔ (u p = true ∨ p = h) ∨ ∃ j, j < 16 ∧ num B h j ≠ 0 ∧ cInd B (num B h j) p) : (∀ p, w p = true ↔ u p = true ∨ (h ≠ 0 ∧ cHlf B h p)) ∧ C1 B ro w := by
  have hne : h ≠ 0 := fun z => by rw [z, ht.1] at hr; omega
  have w0 : w 0 = true := (hw 0).mpr (Or.inl (Or.inl h0))
  refine ⟨fun p => ?_, ?_⟩
  · rw [hw p]
    constructor
    · rintro ((q | q) | q)
      · exact Or.inl q
      · exact Or.inr ⟨hne, Or.inl q⟩
      · exact Or.inr ⟨hne, Or.inr q⟩
    · rintro (q | ⟨-, q | q⟩)
      · exact Or.inl (Or.inl q)
      · exact Or.inl (Or.inr q)
      · exact Or.inr q
  · intro p hp hwp hrp i hi
    rcases (hw p).mp hwp with (q | q) | ⟨j, j1, j2, j3⟩
    · obtain ⟨a, b⟩ := h1 p hp q hrp i hi
      exact ⟨(hw _).mpr (Or.inl (Or.inl a)), fun z r hr => (hw _).mpr (Or.inl (Or.inl (b z r hr)))⟩
    · subst q
      by_cases z : num B p i = 0
      · exact ⟨by rw [z]; exact w0, fun z2 => absurd z z2⟩
      · exact ⟨(hw _).mpr (Or.inr ⟨i, hi, z, Or.inl rfl⟩), fun _ r hr => (hw _).mpr (Or.inr ⟨i, hi, z, Or.inr ⟨r, hr, rfl⟩⟩)⟩
    · exfalso
      have hi2 := (ht.2.1 h hh hr j j1).resolve_left j2
      rcases j3 with e | ⟨r, r1, r2⟩
      · rw [e, hi2.2] at hrp; omega
      · obtain ⟨t1, t2, t3⟩ := ht.2.2 _ hi2.1 hi2.2
        by_cases z : r < (num B (num B h j) 0 + 31) / 32
        · have := (t2 r z).2.2
          rw [← r2] at this
          omega
        · have := t3 r r1 (by omega)
          rw [this] at r2
          rw [r2, ht.1] at hrp
          omega
theorem half_marked {B : Nat → Int64} {ro : Nat → Nat} {u : Nat → Bool} {h : Nat} (hh : h < 600) (h0 : u 0 = true) (hr : h = 0 ∨ ro h = 1) (h1 : C1 B ro u) (hu : u h = true) : ∀ p, u p = true ↔ u p = true ∨ (h ≠ 0 ∧ cHlf B h p) := by
  intro p
  constructor
  · exact Or.inl
  · rintro (q | ⟨hne, q | ⟨i, i1, i2, q | ⟨r, r1, r2⟩⟩⟩)
    · exact q
    · rw [q]; exact hu
    · rw [q]; exact (h1 h hh hu (hr.resolve_left hne) i i1).1
    · rw [r2]; exact (h1 h hh hu (hr.resolve_left hne) i i1).2 i2 r r1
theorem C2_half {B : Nat → Int64} {ro : Nat → Nat} {u : Nat → Bool} {h : Nat} (hr : ro h = 1) (h2 : C2 B ro u) : C2 B ro (va_up u h true) := by
  intro p hp hu hrp q hq
  rcases vt.mp hu with z | z
  · exact vt.mpr (Or.inl (h2 p hp z hrp q hq))
  · rw [z, hr] at hrp; omega
theorem fc_all : ∀ n, fc (fun _ => false) n = n
  | 0 => rfl
  | n + 1 => by unfold fc; rw [fc_all n]; rfl
theorem UA_s {B : Nat → Int64} {ih : Nat → Nat} {n p : Nat} : (UA B ih n p ∨ ih n ≠ 0 ∧ cHlf B (ih n) p) ↔ UA B ih (n + 1) p := by
  unfold UA
  constructor
  · rintro ((z | ⟨k, z1, z2⟩) | z)
    · exact Or.inl z
    · exact Or.inr ⟨k, by omega, z2⟩
    · exact Or.inr ⟨n, by omega, z⟩
  · rintro (z | ⟨k, z1, z2⟩)
    · exact Or.inl (Or.inl z)
    · by_cases e : k = n
      · rw [e] at z2; exact Or.inr z2
      · exact Or.inl (Or.inr ⟨k, by omega, z2⟩)
theorem fresh_eq {pu : Nat → Bool} {pl i q : Nat} (hi : pl < i ∧ i ≤ q) (h3 : ∀ j, pl < j → j < q → pu j = true) (h : pu i = false) : i = q := by
  rcases Nat.lt_or_ge i q with z | z
  · rw [h3 i hi.1 z] at h
    cases h
  · omega
