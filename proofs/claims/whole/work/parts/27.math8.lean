/-! the PLACE of an INODE by the MAP m (0: now, 1 + k: SNAPSHOT k) -/
def inoO (B : Nat → Int64) (ih : Nat → Nat) (m f : Nat) : Nat := if ih (m * 2 + f / 16) = 0 then 0 else num B (ih (m * 2 + f / 16)) (f % 16)
theorem inoO_ok {B : Nat → Int64} {ro : Nat → Nat} {ih : Nat → Nat} {m f : Nat} (hT : TY B ro) (hi : ∀ k, k < 12 → ih k = 0 ∨ (ih k < 600 ∧ ro (ih k) = 1)) (hm : m < 6) (hf : f < 32) : inoO B ih m f = 0 ∨ (inoO B ih m f < 600 ∧ ro (inoO B ih m f) = 2) := by
  unfold inoO
  by_cases e : ih (m * 2 + f / 16) = 0
  · rw [if_pos e]; exact Or.inl rfl
  · rw [if_neg e]
    have := (hi (m * 2 + f / 16) (by omega)).resolve_left e
    exact hT.2.1 _ this.1 this.2 (f % 16) (by omega)
theorem hasS_in {ih : Nat → Nat} {k : Int} (h : k = -1 ∨ hasS ih k = true) : -1 ≤ k ∧ k < 5 := by
  rcases h with h | h
  · omega
  · unfold hasS at h
    have := of_decide_eq_true h
    omega
theorem szL_in {B : Nat → Int64} {ro : Nat → Nat} {x : Nat} (hT : TY B ro) (hx : x = 0 ∨ (x < 600 ∧ ro x = 2)) : -1 ≤ szL B x ∧ szL B x ≤ 448 := by
  unfold szL
  split
  · omega
  · have := (hT.2.2 x (hx.resolve_left (by assumption)).1 (hx.resolve_left (by assumption)).2).1
    omega
theorem octs_in {B : Nat → Int64} {ro : Nat → Nat} {ih : Nat → Nat} {k : Int} {ms : Nat → Int} {f : Nat} (hk : -1 ≤ k ∧ k < 5) (hT : TY B ro) (hi : ∀ k, k < 12 → ih k = 0 ∨ (ih k < 600 ∧ ro (ih k) = 1)) (hms : ∀ f, f < 32 → -1 ≤ ms f ∧ ms f ≤ 448) (hf : f < 32) : -1 ≤ (if k = -1 then ms f else szL B (inoO B ih (k + 1).toNat f)) ∧ (if k = -1 then ms f else szL B (inoO B ih (k + 1).toNat f)) ≤ 448 := by
  split
  · exact hms f hf
  · exact szL_in hT (inoO_ok hT hi (by omega) hf)
theorem piece_in {B : Nat → Int64} {ro : Nat → Nat} {x : Nat} {o : Int} (hT : TY B ro) (hx : x = 0 ∨ (x < 600 ∧ ro x = 2)) (h : 0 ≤ o ∧ o < szL B x) : o.toNat < 448 ∧ num B x (1 + o.toNat / 32) < 600 := by
  unfold szL at h
  split at h
  · omega
  · have q := hx.resolve_left (by assumption)
    obtain ⟨t1, t2, t3⟩ := hT.2.2 x q.1 q.2
    exact ⟨by omega, (t2 (o.toNat / 32) (by omega)).1⟩
