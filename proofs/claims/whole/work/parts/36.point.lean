/-! a POINT keeps all -/
def fR (u : Nat → Bool) (k : Nat) : Nat := (frB u 600).getD k 0
def pp0 (B : Nat → Int64) (ih : Nat → Nat) (j : Nat) : Nat := num B (inoO B ih 0 (j / 14)) (1 + j % 14)
def ii0 (B : Nat → Int64) (ih : Nat → Nat) (f : Nat) : Nat := inoO B ih 0 f
def plX (B : Nat → Int64) (ih : Nat → Nat) (u : Nat → Bool) (a : aM) : List Wt × (Nat → Nat) × (Nat → Nat) := pL (fR u) a (pp0 B ih) (ii0 B ih) 32
def plY (B : Nat → Int64) (ih : Nat → Nat) (u : Nat → Bool) (a : aM) : List Wt × (Nat → Nat) := pH (fR u) a (plX B ih u a).2.2 ((plX B ih u a).1, ih) 2
def plL (B : Nat → Int64) (ih : Nat → Nat) (iN : Nat) (u : Nat → Bool) (a : aM) : List Wt := (plY B ih u a).1 ++ [(0, mkW (numO (infoN (iN + 1) (plY B ih u a).2)), 0)]
/-- what leads on from a PLACE in use is in use -/
theorem UA_half {B : Nat → Int64} {ih : Nat → Nat} {k : Nat} (hk : k < 12) (h : ih k ≠ 0) : UA B ih 12 (ih k) := Or.inr ⟨k, hk, h, Or.inl rfl⟩
theorem UA_ino {B : Nat → Int64} {ih : Nat → Nat} {k i : Nat} (hk : k < 12) (h : ih k ≠ 0) (hi : i < 16) : UA B ih 12 (num B (ih k) i) := by
  by_cases z : num B (ih k) i = 0
  · rw [z]; exact Or.inl rfl
  · exact Or.inr ⟨k, hk, h, Or.inr ⟨i, hi, z, Or.inl rfl⟩⟩
theorem UA_pc {B : Nat → Int64} {ih : Nat → Nat} {k i q : Nat} (hk : k < 12) (h : ih k ≠ 0) (hi : i < 16) (hn : num B (ih k) i ≠ 0) (hq : q < 14) : UA B ih 12 (num B (num B (ih k) i) (1 + q)) := Or.inr ⟨k, hk, h, Or.inr ⟨i, hi, hn, Or.inr ⟨q, hq, rfl⟩⟩⟩
theorem UA_cl1 {B : Nat → Int64} {ro ih : Nat → Nat} {iN p : Nat} (h : AI B ro ih iN) (hu : UA B ih 12 p) (hr : ro p = 1) {i : Nat} (hi : i < 16) : UA B ih 12 (num B p i) := by
  obtain ⟨h1, h2, -⟩ := h
  rcases hu with z | ⟨k, k1, k2, z | ⟨j, j1, j2, z | ⟨q, q1, z⟩⟩⟩
  · rw [z, h1.1] at hr; omega
  · rw [z]; exact UA_ino k1 k2 hi
  · have a1 := (h2 k k1).resolve_left k2
    have a2 := (h1.2.1 _ a1.1 a1.2 j j1).resolve_left j2
    rw [z, a2.2] at hr; omega
  · have a1 := (h2 k k1).resolve_left k2
    have a2 := (h1.2.1 _ a1.1 a1.2 j j1).resolve_left j2
    obtain ⟨t1, t2, t3⟩ := h1.2.2 _ a2.1 a2.2
    by_cases y : q < (num B (num B (ih k) j) 0 + 31) / 32
    · have := (t2 q y).2.2
      rw [← z] at this; omega
    · rw [t3 q q1 (by omega)] at z
      rw [z, h1.1] at hr; omega
theorem UA_cl2 {B : Nat → Int64} {ro ih : Nat → Nat} {iN p : Nat} (h : AI B ro ih iN) (hu : UA B ih 12 p) (hr : ro p = 2) {q : Nat} (hq : q < 14) : UA B ih 12 (num B p (1 + q)) := by
  obtain ⟨h1, h2, -⟩ := h
  rcases hu with z | ⟨k, k1, k2, z | ⟨j, j1, j2, z | ⟨q, q1, z⟩⟩⟩
  · rw [z, h1.1] at hr; omega
  · have a1 := (h2 k k1).resolve_left k2
    rw [z, a1.2] at hr; omega
  · rw [z]; exact UA_pc k1 k2 j1 j2 hq
  · have a1 := (h2 k k1).resolve_left k2
    have a2 := (h1.2.1 _ a1.1 a1.2 j j1).resolve_left j2
    obtain ⟨t1, t2, t3⟩ := h1.2.2 _ a2.1 a2.2
    by_cases y : q < (num B (num B (ih k) j) 0 + 31) / 32
    · have := (t2 q y).2.2
      rw [← z] at this; omega
    · rw [t3 q q1 (by omega)] at z
      rw [z, h1.1] at hr; omega
theorem UA_inoO {B : Nat → Int64} {ih : Nat → Nat} {m f : Nat} (hm : m < 6) (hf : f < 32) : UA B ih 12 (inoO B ih m f) := by
  unfold inoO
  by_cases e : ih (m * 2 + f / 16) = 0
  · rw [if_pos e]; exact Or.inl rfl
  · rw [if_neg e]; exact UA_ino (by omega) e (by omega)
/-- a MAP of which no PLACE in use has changed -/
theorem keep_TY {B C : Nat → Int64} {ro ih : Nat → Nat} {iN : Nat} (h : AI B ro ih iN) (hk : ∀ p, UA B ih 12 p → ∀ i, i < 4 → C (4 * p + i) = B (4 * p + i)) : ∃ ro', AI C ro' ih iN ∧ (∀ p, UA B ih 12 p → ro' p = ro p) ∧ (∀ p, ¬ UA B ih 12 p → ro' p = 0) := by
  have hN : ∀ p, UA B ih 12 p → ∀ j, j < 16 → num C p j = num B p j := fun p hp j hj => num_congr (hk p hp) hj
  refine ⟨fun p => @ite _ (UA B ih 12 p) (Classical.propDecidable _) (ro p) 0, ?_, fun p hp => if_pos hp, fun p hp => if_neg hp⟩
  have r1 : ∀ p, UA B ih 12 p → (fun p => @ite _ (UA B ih 12 p) (Classical.propDecidable _) (ro p) 0) p = ro p := fun p hp => if_pos hp
  have r0 : ∀ p, ¬ UA B ih 12 p → (fun p => @ite _ (UA B ih 12 p) (Classical.propDecidable _) (ro p) 0) p = 0 := fun p hp => if_neg hp
  generalize (fun p => @ite _ (UA B ih 12 p) (Classical.propDecidable _) (ro p) 0) = r at r1 r0
  have h' := h
  obtain ⟨⟨t0, t1, t2⟩, h2, h3⟩ := h'
  refine ⟨⟨?_, fun p hp hr i hi => ?_, fun p hp hr => ?_⟩, fun k hk => ?_, fun j hj => ?_⟩
  · rw [r1 0 (Or.inl rfl)]; exact t0
  · rcases Classical.em (UA B ih 12 p) with z | z
    · rw [r1 p z] at hr
      rw [hN p z i hi]
      have y := UA_cl1 h z hr hi
      rw [r1 _ y]
      exact t1 p hp hr i hi
    · rw [r0 p z] at hr; omega
  · rcases Classical.em (UA B ih 12 p) with z | z
    · rw [r1 p z] at hr
      rw [hN p z 0 (by omega)]
      obtain ⟨a1, a2, a3⟩ := t2 p hp hr
      refine ⟨a1, fun q hq => ?_, fun q hq hq2 => ?_⟩
      · rw [hN p z (1 + q) (by omega), r1 _ (UA_cl2 h z hr (by omega))]
        exact a2 q hq
      · rw [hN p z (1 + q) (by omega)]
        exact a3 q hq hq2
    · rw [r0 p z] at hr; omega
  · by_cases z : ih k = 0
    · exact Or.inl z
    · rw [r1 _ (UA_half hk z)]
      exact h2 k hk
  · rw [hN 0 (Or.inl rfl) j hj]; exact h3 j hj
theorem keep_ino {B C : Nat → Int64} {ih : Nat → Nat} (hk : ∀ p, UA B ih 12 p → ∀ i, i < 4 → C (4 * p + i) = B (4 * p + i)) {m f : Nat} (hm : m < 6) (hf : f < 32) : inoO C ih m f = inoO B ih m f := by
  unfold inoO
  by_cases e : ih (m * 2 + f / 16) = 0
  · rw [if_pos e, if_pos e]
  · rw [if_neg e, if_neg e]
    exact num_congr (hk _ (UA_half (by omega) e)) (by omega)
theorem keep_UA {B C : Nat → Int64} {ih : Nat → Nat} (hk : ∀ p, UA B ih 12 p → ∀ i, i < 4 → C (4 * p + i) = B (4 * p + i)) : ∀ p, UA C ih 12 p ↔ UA B ih 12 p := by
  have n1 : ∀ k i, k < 12 → ih k ≠ 0 → i < 16 → num C (ih k) i = num B (ih k) i := fun k i h1 h2 h3 => num_congr (hk _ (UA_half h1 h2)) h3
  have n2 : ∀ k i q, k < 12 → ih k ≠ 0 → i < 16 → num B (ih k) i ≠ 0 → q < 14 → num C (num B (ih k) i) (1 + q) = num B (num B (ih k) i) (1 + q) := fun k i q h1 h2 h3 h4 h5 => num_congr (hk _ (UA_ino h1 h2 h3)) (by omega)
  intro p
  constructor
  · rintro (z | ⟨k, k1, k2, z | ⟨i, i1, i2, z | ⟨q, q1, z⟩⟩⟩)
    · exact Or.inl z
    · rw [z]; exact UA_half k1 k2
    · rw [z, n1 k i k1 k2 i1]; exact UA_ino k1 k2 i1
    · rw [n1 k i k1 k2 i1] at z i2
      rw [z, n2 k i q k1 k2 i1 i2 q1]
      exact UA_pc k1 k2 i1 i2 q1
  · rintro (z | ⟨k, k1, k2, z | ⟨i, i1, i2, z | ⟨q, q1, z⟩⟩⟩)
    · exact Or.inl z
    · rw [z]; exact UA_half k1 k2
    · rw [z, ← n1 k i k1 k2 i1]; exact UA_ino k1 k2 i1
    · rw [z, ← n2 k i q k1 k2 i1 i2 q1]
      rw [← n1 k i k1 k2 i1] at i2 ⊢
      exact UA_pc k1 k2 i1 i2 q1
theorem keep_lod {B C : Nat → Int64} {ro ih : Nat → Nat} {iN : Nat} (h : AI B ro ih iN) (hk : ∀ p, UA B ih 12 p → ∀ i, i < 4 → C (4 * p + i) = B (4 * p + i)) : aE (lodA B ih) (lodA C ih) := by
  have hN : ∀ p, UA B ih 12 p → ∀ j, j < 16 → num C p j = num B p j := fun p hp j hj => num_congr (hk p hp) hj
  refine ⟨fun f hf => ?_, fun f k hf hk2 => ?_, fun _ _ _ _ => rfl, fun _ _ => rfl⟩
  · show szL B (inoO B ih 0 f) = szL C (inoO C ih 0 f)
    rw [keep_ino hk (by omega) hf]
    unfold szL
    rw [hN _ (UA_inoO (by omega) hf) 0 (by omega)]
  · have hk2 : (k : Int) < szL B (inoO B ih 0 f) := hk2
    show po B (num B (inoO B ih 0 f) (1 + k / 32)) (k % 32) = po C (num C (inoO C ih 0 f) (1 + k / 32)) (k % 32)
    have hin := inoO_ok h.1 h.2.1 (show 0 < 6 by omega) hf
    have hs := szL_in h.1 hin
    rw [keep_ino hk (by omega) hf, hN _ (UA_inoO (by omega) hf) (1 + k / 32) (by omega)]
    have hne : inoO B ih 0 f ≠ 0 := fun z => by rw [z] at hk2; unfold szL at hk2; rw [if_pos rfl] at hk2; omega
    exact (po_congr (hk _ (UA_cl2 h (UA_inoO (by omega) hf) (hin.resolve_left hne).2 (by omega))) (by omega)).symm
