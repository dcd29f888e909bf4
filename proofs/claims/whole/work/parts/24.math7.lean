/-! files, as a mathematical value: how many octets, the octets, which PIECES were written, which FILES changed -/
def szL (B : Nat → Int64) (x : Nat) : Int := if x = 0 then -1 else (num B x 0 : Int)
abbrev aM : Type := (Nat → Int) × (Nat → Nat → Nat) × (Nat → Nat → Bool) × (Nat → Bool)
/-- what the class has of it -/
def MR (ms : Nat → Int) (mw : Nat → Int64) (mb : Nat → BitVec 32) (mc : BitVec 32) (a : aM) : Prop :=
  (∀ g, g < 32 → ms g = a.1 g) ∧ (∀ g k, g < 32 → ((k : Nat) : Int) < a.1 g → mo mw g k = a.2.1 g k) ∧ (∀ g q, g < 32 → q < 32 → (mb g).getLsbD q = a.2.2.1 g q) ∧ (∀ g, g < 32 → mc.getLsbD g = a.2.2.2 g)
/-- bounds -/
def MB (a : aM) : Prop := (∀ f, f < 32 → -1 ≤ a.1 f ∧ a.1 f ≤ 448) ∧ (∀ f q, f < 32 → q < 32 → a.2.2.1 f q = true → (q * 32 : Int) < a.1 f)
def aW (a : aM) (f o : Nat) (v : Int64) : aM := (va_up a.1 f (if a.1 f < (o : Int) + 8 then (o : Int) + 8 else a.1 f), fun g k => if g = f ∧ o ≤ k ∧ k < o + 8 then oc v (k - o) else a.2.1 g k, fun g q => a.2.2.1 g q || decide (g = f ∧ (q = o / 32 ∨ q = (o + 7) / 32)), fun g => a.2.2.2 g || decide (g = f))
def aC (a : aM) (f n : Nat) : aM := (va_up a.1 f (n : Int), a.2.1, fun g q => a.2.2.1 g q && (decide (g ≠ f) || decide (q < (n + 31) / 32)), fun g => a.2.2.2 g || decide (g = f))
def aR (a : aM) (f : Nat) : aM := (va_up a.1 f (-1), a.2.1, fun g q => a.2.2.1 g q && decide (g ≠ f), fun g => a.2.2.2 g || decide (g = f))
/-- one entry of the LOG done; n of them -/
def aS (a : aM) (k f o : Nat) (v : Int64) : aM := if k = 0 then aW a f o v else if k = 1 then aC a f o else aR a f
def aOk (a : aM) (k f o : Nat) : Prop := f < 32 ∧ (k = 0 → o ≤ 440 ∧ ((o : Int) ≤ a.1 f ∨ o = 0)) ∧ (k = 1 → (o : Int) ≤ a.1 f)
def aRun (gk gf go : Nat → Nat) (gv : Nat → Int64) (a : aM) : Nat → aM
  | 0 => a
  | n + 1 => aS (aRun gk gf go gv a n) (gk n) (gf n) (go n) (gv n)
theorem MR_W {ms : Nat → Int} {mw mw1 : Nat → Int64} {mb mb1 : Nat → BitVec 32} {mc mc1 : BitVec 32} {a : aM} {f o : Nat} {v : Int64} (h : MR ms mw mb mc a) (hB : MB a) (hf : f < 32) (ho : o ≤ 440 ∧ ((o : Int) ≤ a.1 f ∨ o = 0))
    (hq : ∀ g k, g < 32 → k < 448 → mo mw1 g k = if g = f ∧ o ≤ k ∧ k < o + 8 then oc v (k - o) else mo mw g k) (hq2 : ∀ g q, (mb1 g).getLsbD q = ((mb g).getLsbD q || decide (g = f ∧ (q = o / 32 ∨ q = (o + 7) / 32)))) (hq3 : ∀ g, mc1.getLsbD g = (mc.getLsbD g || decide (g = f))) :
    MR (va_up ms f (if ms f < (o : Int) + 8 then (o : Int) + 8 else ms f)) mw1 mb1 mc1 (aW a f o v) := by
  obtain ⟨h1, h2, h3, h4⟩ := h
  refine ⟨fun g hg => ?_, fun g k hg hk => ?_, fun g q hg hq' => ?_, fun g hg => ?_⟩
  · unfold aW va_up
    by_cases e : g = f
    · simp only [e, if_true]; rw [h1 f hf]
    · simp only [e, if_false]; exact h1 g hg
  · have hB1 := hB.1 g hg
    have hB2 := hB.1 f hf
    unfold aW va_up at hk
    by_cases e : g = f
    · subst e
      simp only [if_true] at hk
      have hk4 : k < 448 := by split at hk <;> omega
      rw [hq g k hg hk4]
      show _ = if g = g ∧ o ≤ k ∧ k < o + 8 then oc v (k - o) else a.2.1 g k
      by_cases z : g = g ∧ o ≤ k ∧ k < o + 8
      · rw [if_pos z, if_pos z]
      · rw [if_neg z, if_neg z]
        exact h2 g k hg (by split at hk <;> omega)
    · simp only [e, if_false] at hk
      rw [hq g k hg (by omega), if_neg (fun z => e z.1)]
      show _ = if g = f ∧ o ≤ k ∧ k < o + 8 then oc v (k - o) else a.2.1 g k
      rw [if_neg (fun z => e z.1)]
      exact h2 g k hg hk
  · rw [hq2 g q, h3 g q hg hq']; rfl
  · rw [hq3 g, h4 g hg]; rfl
theorem MR_C {ms : Nat → Int} {mw : Nat → Int64} {mb mb1 : Nat → BitVec 32} {mc mc1 : BitVec 32} {a : aM} {f n : Nat} (h : MR ms mw mb mc a) (hn : (n : Int) ≤ a.1 f)
    (hq2 : ∀ g q, q < 32 → (mb1 g).getLsbD q = ((mb g).getLsbD q && (decide (g ≠ f) || decide (q < (n + 31) / 32)))) (hq3 : ∀ g, mc1.getLsbD g = (mc.getLsbD g || decide (g = f))) :
    MR (va_up ms f (n : Int)) mw mb1 mc1 (aC a f n) := by
  obtain ⟨h1, h2, h3, h4⟩ := h
  refine ⟨fun g hg => ?_, fun g k hg hk => ?_, fun g q hg hq' => ?_, fun g hg => ?_⟩
  · unfold aC va_up
    by_cases e : g = f
    · simp only [e, if_true]
    · simp only [e, if_false]; exact h1 g hg
  · refine h2 g k hg ?_
    unfold aC va_up at hk
    by_cases e : g = f
    · simp only [e, if_true] at hk ⊢; omega
    · simp only [e, if_false] at hk; exact hk
  · rw [hq2 g q hq', h3 g q hg hq']; rfl
  · rw [hq3 g, h4 g hg]; rfl
theorem MR_R {ms : Nat → Int} {mw : Nat → Int64} {mb : Nat → BitVec 32} {mc mc1 : BitVec 32} {a : aM} {f : Nat} (h : MR ms mw mb mc a) (hq3 : ∀ g, mc1.getLsbD g = (mc.getLsbD g || decide (g = f))) :
    MR (va_up ms f (-1)) mw (va_up mb f 0#32) mc1 (aR a f) := by
  obtain ⟨h1, h2, h3, h4⟩ := h
  refine ⟨fun g hg => ?_, fun g k hg hk => ?_, fun g q hg hq' => ?_, fun g hg => ?_⟩
  · unfold aR va_up
    by_cases e : g = f
    · simp only [e, if_true]
    · simp only [e, if_false]; exact h1 g hg
  · refine h2 g k hg ?_
    unfold aR va_up at hk
    by_cases e : g = f
    · simp only [e, if_true] at hk; omega
    · simp only [e, if_false] at hk; exact hk
  · unfold aR va_up
    by_cases e : g = f
    · simp [e]
    · simp only [e, if_false]; rw [h3 g q hg hq']; simp [e]
  · rw [hq3 g, h4 g hg]; rfl
/-- the bounds stay -/
theorem MB_W {a : aM} {f o : Nat} {v : Int64} (h : MB a) (hf : f < 32) (ho : o ≤ 440) : MB (aW a f o v) := by
  obtain ⟨h1, h2⟩ := h
  refine ⟨fun g hg => ?_, fun g q hg hq' hw => ?_⟩
  · have := h1 g hg
    have hh := h1 f hf
    unfold aW va_up
    by_cases e : g = f
    · simp only [e, if_true]; split <;> omega
    · simp only [e, if_false]; exact this
  · unfold aW at hw ⊢
    unfold va_up
    simp only [Bool.or_eq_true, decide_eq_true_eq] at hw
    by_cases e : g = f
    · simp only [e, if_true]
      rcases hw with hw | hw
      · rw [e] at hw
        have := h2 f q hf hq' hw
        split <;> omega
      · split <;> omega
    · simp only [e, if_false]
      exact h2 g q hg hq' (hw.resolve_right (fun z => e z.1))
theorem MB_C {a : aM} {f n : Nat} (h : MB a) (hf : f < 32) (hn : (n : Int) ≤ a.1 f) : MB (aC a f n) := by
  obtain ⟨h1, h2⟩ := h
  refine ⟨fun g hg => ?_, fun g q hg hq' hw => ?_⟩
  · have := h1 g hg
    have hh := h1 f hf
    unfold aC va_up
    by_cases e : g = f
    · simp only [e, if_true]; omega
    · simp only [e, if_false]; exact this
  · unfold aC at hw ⊢
    unfold va_up
    simp only [Bool.and_eq_true, Bool.or_eq_true, decide_eq_true_eq] at hw
    by_cases e : g = f
    · simp only [e, if_true]
      rcases hw.2 with z | z
      · exact absurd e z
      · omega
    · simp only [e, if_false]
      exact h2 g q hg hq' hw.1
theorem MB_R {a : aM} {f : Nat} (h : MB a) : MB (aR a f) := by
  obtain ⟨h1, h2⟩ := h
  refine ⟨fun g hg => ?_, fun g q hg hq' hw => ?_⟩
  · have := h1 g hg
    unfold aR va_up
    by_cases e : g = f
    · simp only [e, if_true]; omega
    · simp only [e, if_false]; exact this
  · unfold aR at hw ⊢
    unfold va_up
    simp only [Bool.and_eq_true, decide_eq_true_eq] at hw
    simp only [hw.2, if_false]
    exact h2 g q hg hq' hw.1
theorem MB_S {a : aM} {k f o : Nat} {v : Int64} (h : MB a) (hk : aOk a k f o) : MB (aS a k f o v) := by
  unfold aS
  by_cases e0 : k = 0
  · rw [if_pos e0]; exact MB_W h hk.1 (hk.2.1 e0).1
  · rw [if_neg e0]
    by_cases e1 : k = 1
    · rw [if_pos e1]; exact MB_C h hk.1 (hk.2.2 e1)
    · rw [if_neg e1]; exact MB_R h
theorem MR.hms {ms : Nat → Int} {mw : Nat → Int64} {mb : Nat → BitVec 32} {mc : BitVec 32} {a : aM} (h : MR ms mw mb mc a) (hb : MB a) : ∀ f, f < 32 → -1 ≤ ms f ∧ ms f ≤ 448 := fun f hf => by rw [h.1 f hf]; exact hb.1 f hf
