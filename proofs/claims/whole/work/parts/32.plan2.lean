theorem pI_ii {fr : Nat → Nat} {a : aM} {f : Nat} {x : List Wt × (Nat → Nat) × (Nat → Nat)} {iv : Nat → Nat} (h : ∀ g, g < 32 → iv g = x.2.2 g) : ∀ g, g < 32 → va_up iv f ((pI fr a f x).2.2 f) g = (pI fr a f x).2.2 g := by
  intro g hg
  by_cases e : g = f
  · rw [e, vs]
  · rw [vn e, h g hg]
    unfold pI
    split
    · show _ = va_up _ _ _ _
      rw [vn e]
    · show _ = va_up _ _ _ _
      rw [vn e]
theorem pI_pp {fr : Nat → Nat} {a : aM} {f : Nat} {x : List Wt × (Nat → Nat) × (Nat → Nat)} {j : Nat} (h : j / 14 ≠ f) : (pI fr a f x).2.1 j = x.2.1 j := by
  unfold pI
  split <;> exact pF_oth h 14 (Nat.le_refl _)
theorem PP_skip {a : aM} {pv pp : Nat → Nat} {f : Nat} (hB : MB a) (hMW : ∀ f q, f < 32 → q < 32 → a.2.2.1 f q = true → a.2.2.2 f = true) (hc : a.2.2.2 f = false) (h : PP a pv pp f) : PP a pv pp (f + 1) := by
  intro g q hg hq hs hor
  by_cases e : g = f
  · refine h g q hg hq hs (Or.inr ?_)
    cases hw : a.2.2.1 g q with
    | false => rfl
    | true =>
      have := hMW g q hg (by omega) hw
      rw [e, hc] at this
      cases this
  · exact h g q hg hq hs (hor.imp (fun z => by omega) id)
theorem PP_file {fr : Nat → Nat} {a : aM} {pv pv1 : Nat → Nat} {f : Nat} {x : List Wt × (Nat → Nat) × (Nat → Nat)} (h : PP a pv x.2.1 f) (h6 : ∀ j, j / 14 ≠ f → pv1 j = pv j) (h7 : ∀ q : Nat, q < 14 → (q * 32 : Int) < a.1 f → pv1 (f * 14 + q) = (pI fr a f x).2.1 (f * 14 + q)) : PP a pv1 (pI fr a f x).2.1 (f + 1) := by
  intro g q hg hq hs hor
  by_cases e : g = f
  · rw [e] at hs ⊢
    exact h7 q hq hs
  · rw [h6 _ (by omega), pI_pp (by omega)]
    exact h g q hg hq hs (hor.imp (fun z => by omega) id)
theorem info_lt {N j : Nat} {hv : Nat → Nat} (hN : N < 2 ^ 31) (hh : ∀ j, hv j < 65536) : infoN N hv j < 65536 := by
  have := hh (j - 2)
  unfold infoN
  split
  · omega
  · split
    · omega
    · split <;> omega
