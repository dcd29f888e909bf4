/-! the state of all, as mathematics -/
def po (B : Nat → Int64) (p k : Nat) : Nat := oc (B (4 * p + k / 8)) (k % 8)
def lodA (B : Nat → Int64) (ih : Nat → Nat) : aM := (fun f => szL B (inoO B ih 0 f), fun f k => po B (num B (inoO B ih 0 f) (1 + k / 32)) (k % 32), fun _ _ => false, fun _ => false)
def AI (B : Nat → Int64) (ro ih : Nat → Nat) (iN : Nat) : Prop := TY B ro ∧ (∀ k, k < 12 → ih k = 0 ∨ (ih k < 600 ∧ ro (ih k) = 1)) ∧ (∀ j, j < 16 → num B 0 j = infoN iN ih j)
def MW (a : aM) : Prop := ∀ f q, f < 32 → q < 32 → a.2.2.1 f q = true → a.2.2.2 f = true
def WI (B : Nat → Int64) (ih : Nat → Nat) (a : aM) : Prop := ∀ f q : Nat, f < 32 → q < 14 → (q * 32 : Int) < a.1 f → a.2.2.1 f q = false → inoO B ih 0 f ≠ 0 ∧ ∀ k : Nat, k / 32 = q → (k : Int) < a.1 f → (k : Int) < szL B (inoO B ih 0 f) ∧ a.2.1 f k = po B (num B (inoO B ih 0 f) (1 + q)) (k % 32)
def CW (B : Nat → Int64) (ih : Nat → Nat) (a : aM) : Prop := ∀ f, f < 32 → a.2.2.2 f = false → a.1 f = szL B (inoO B ih 0 f)
def AW (B : Nat → Int64) (ih : Nat → Nat) (a : aM) : Prop := MB a ∧ MO a ∧ MW a ∧ WI B ih a ∧ CW B ih a
theorem AW_lod {B : Nat → Int64} {ro ih : Nat → Nat} {iN : Nat} (h : AI B ro ih iN) : AW B ih (lodA B ih) := by
  refine ⟨⟨fun f hf => szL_in h.1 (inoO_ok h.1 h.2.1 (by omega) hf), (fun f q _ _ z => by cases z)⟩, fun f k _ _ => oc_lt _ _, (fun f q _ _ z => by cases z), fun f q hf hq hs _ => ?_, fun f hf _ => rfl⟩
  have hs : (q * 32 : Int) < szL B (inoO B ih 0 f) := hs
  refine ⟨fun z => by rw [z] at hs; unfold szL at hs; rw [if_pos rfl] at hs; omega, fun k hk hs2 => ⟨hs2, ?_⟩⟩
  show po B (num B (inoO B ih 0 f) (1 + k / 32)) (k % 32) = _
  rw [hk]
theorem AW_W {B : Nat → Int64} {ih : Nat → Nat} {a : aM} {f o : Nat} {v : Int64} (h : AW B ih a) (hf : f < 32) (ho : o ≤ 440 ∧ ((o : Int) ≤ a.1 f ∨ o = 0)) : AW B ih (aW a f o v) := by
  obtain ⟨h1, h2, h3, h4, h5⟩ := h
  have hbf := h1.1 f hf
  have sz : (aW a f o v).1 f = if a.1 f < (o : Int) + 8 then (o : Int) + 8 else a.1 f := vs
  have szn : ∀ g, g ≠ f → (aW a f o v).1 g = a.1 g := fun g hg => vn hg
  have da : ∀ g k, (aW a f o v).2.1 g k = if g = f ∧ o ≤ k ∧ k < o + 8 then oc v (k - o) else a.2.1 g k := fun g k => rfl
  have wr : ∀ g q, (aW a f o v).2.2.1 g q = (a.2.2.1 g q || decide (g = f ∧ (q = o / 32 ∨ q = (o + 7) / 32))) := fun g q => rfl
  have ch : ∀ g, (aW a f o v).2.2.2 g = (a.2.2.2 g || decide (g = f)) := fun g => rfl
  refine ⟨MB_W h1 hf ho.1, fun g k hg hk => ?_, fun g q hg hq z => ?_, fun g q hg hq hs hw => ?_, fun g hg z => ?_⟩
  · rw [da]
    by_cases e : g = f ∧ o ≤ k ∧ k < o + 8
    · rw [if_pos e]; exact oc_lt _ _
    · rw [if_neg e]
      apply h2 g k hg
      by_cases e2 : g = f
      · subst e2; rw [sz] at hk; split at hk <;> omega
      · rw [szn g e2] at hk; exact hk
  · rw [wr] at z
    rw [ch]
    rw [Bool.or_eq_true] at z ⊢
    rcases z with z | z
    · exact Or.inl (h3 g q hg hq z)
    · exact Or.inr (by rw [decide_eq_true_eq] at z ⊢; exact z.1)
  · rw [wr, Bool.or_eq_false_iff, decide_eq_false_iff_not] at hw
    by_cases e : g = f
    · subst e
      have hne : ¬ (q = o / 32 ∨ q = (o + 7) / 32) := fun z => hw.2 ⟨rfl, z⟩
      rw [sz] at hs
      have hs' : (q * 32 : Int) < a.1 g := by split at hs <;> omega
      obtain ⟨w1, w2⟩ := h4 g q hg hq hs' hw.1
      refine ⟨w1, fun k hk hk2 => ?_⟩
      rw [da, if_neg (by omega)]
      exact w2 k hk (by rw [sz] at hk2; split at hk2 <;> omega)
    · rw [szn g e] at hs
      obtain ⟨w1, w2⟩ := h4 g q hg hq hs hw.1
      refine ⟨w1, fun k hk hk2 => ?_⟩
      rw [da, if_neg (fun z => e z.1)]
      exact w2 k hk (by rw [szn g e] at hk2; exact hk2)
  · rw [ch, Bool.or_eq_false_iff, decide_eq_false_iff_not] at z
    rw [szn g z.2]
    exact h5 g hg z.1
theorem AW_C {B : Nat → Int64} {ih : Nat → Nat} {a : aM} {f n : Nat} (h : AW B ih a) (hf : f < 32) (hn : (n : Int) ≤ a.1 f) : AW B ih (aC a f n) := by
  obtain ⟨h1, h2, h3, h4, h5⟩ := h
  have sz : (aC a f n).1 f = (n : Int) := vs
  have szn : ∀ g, g ≠ f → (aC a f n).1 g = a.1 g := fun g hg => vn hg
  have wr : ∀ g q, (aC a f n).2.2.1 g q = (a.2.2.1 g q && (decide (g ≠ f) || decide (q < (n + 31) / 32))) := fun g q => rfl
  have ch : ∀ g, (aC a f n).2.2.2 g = (a.2.2.2 g || decide (g = f)) := fun g => rfl
  have le : ∀ g, (aC a f n).1 g ≤ a.1 g := fun g => by
    by_cases e : g = f
    · rw [e, sz]; exact hn
    · rw [szn g e]; exact Int.le_refl _
  refine ⟨MB_C h1 hf hn, fun g k hg hk => h2 g k hg (by have := le g; omega), fun g q hg hq z => ?_, fun g q hg hq hs hw => ?_, fun g hg z => ?_⟩
  · rw [wr, Bool.and_eq_true] at z
    rw [ch, Bool.or_eq_true]
    exact Or.inl (h3 g q hg hq z.1)
  · have hw' : a.2.2.1 g q = false := by
      rw [wr, Bool.and_eq_false_iff] at hw
      rcases hw with hw | hw
      · exact hw
      · rw [Bool.or_eq_false_iff, decide_eq_false_iff_not, decide_eq_false_iff_not] at hw
        have e : g = f := Decidable.not_not.mp hw.1
        subst e
        rw [sz] at hs
        omega
    obtain ⟨w1, w2⟩ := h4 g q hg hq (by have := le g; omega) hw'
    exact ⟨w1, fun k hk hk2 => w2 k hk (by have := le g; omega)⟩
  · rw [ch, Bool.or_eq_false_iff, decide_eq_false_iff_not] at z
    rw [szn g z.2]
    exact h5 g hg z.1
theorem AW_R {B : Nat → Int64} {ih : Nat → Nat} {a : aM} {f : Nat} (h : AW B ih a) : AW B ih (aR a f) := by
  obtain ⟨h1, h2, h3, h4, h5⟩ := h
  have sz : (aR a f).1 f = -1 := vs
  have szn : ∀ g, g ≠ f → (aR a f).1 g = a.1 g := fun g hg => vn hg
  have wr : ∀ g q, (aR a f).2.2.1 g q = (a.2.2.1 g q && decide (g ≠ f)) := fun g q => rfl
  have ch : ∀ g, (aR a f).2.2.2 g = (a.2.2.2 g || decide (g = f)) := fun g => rfl
  refine ⟨MB_R h1, fun g k hg hk => ?_, fun g q hg hq z => ?_, fun g q hg hq hs hw => ?_, fun g hg z => ?_⟩
  · by_cases e : g = f
    · rw [e, sz] at hk; omega
    · rw [szn g e] at hk; exact h2 g k hg hk
  · rw [wr, Bool.and_eq_true] at z
    rw [ch, Bool.or_eq_true]
    exact Or.inl (h3 g q hg hq z.1)
  · by_cases e : g = f
    · rw [e, sz] at hs; omega
    · rw [szn g e] at hs
      have hw' : a.2.2.1 g q = false := by
        rw [wr, Bool.and_eq_false_iff] at hw
        rcases hw with hw | hw
        · exact hw
        · rw [decide_eq_false_iff_not] at hw
          exact absurd e hw
      obtain ⟨w1, w2⟩ := h4 g q hg hq hs hw'
      exact ⟨w1, fun k hk hk2 => w2 k hk (by rw [szn g e] at hk2; exact hk2)⟩
  · rw [ch, Bool.or_eq_false_iff, decide_eq_false_iff_not] at z
    rw [szn g z.2]
    exact h5 g hg z.1
theorem AW_S {B : Nat → Int64} {ih : Nat → Nat} {a : aM} {k f o : Nat} {v : Int64} (h : AW B ih a) (hk : aOk a k f o) : AW B ih (aS a k f o v) := by
  unfold aS
  by_cases e0 : k = 0
  · rw [if_pos e0]; exact AW_W h hk.1 (hk.2.1 e0)
  · rw [if_neg e0]
    by_cases e1 : k = 1
    · rw [if_pos e1]; exact AW_C h hk.1 (hk.2.2 e1)
    · rw [if_neg e1]; exact AW_R h
def LOK (gk gf go : Nat → Nat) (gv : Nat → Int64) (gl : Nat) (a : aM) : Prop := gl ≤ 40 ∧ (∀ i, i < gl → aOk (aRun gk gf go gv a i) (gk i) (gf i) (go i)) ∧ (∀ i, i < gl → gk i < 3)
theorem AW_run {B : Nat → Int64} {ih : Nat → Nat} {gk gf go : Nat → Nat} {gv : Nat → Int64} {a : aM} (h : AW B ih a) : ∀ n, (∀ i, i < n → aOk (aRun gk gf go gv a i) (gk i) (gf i) (go i)) → AW B ih (aRun gk gf go gv a n)
  | 0, _ => h
  | n + 1, hk => AW_S (AW_run h n (fun i hi => hk i (by omega))) (hk n (by omega))
/-- alike, as far as anything shows it -/
def aE (a b : aM) : Prop := (∀ f, f < 32 → a.1 f = b.1 f) ∧ (∀ f k, f < 32 → ((k : Nat) : Int) < a.1 f → a.2.1 f k = b.2.1 f k) ∧ (∀ f q, f < 32 → q < 32 → a.2.2.1 f q = b.2.2.1 f q) ∧ (∀ f, f < 32 → a.2.2.2 f = b.2.2.2 f)
theorem MR_E {ms : Nat → Int} {mw : Nat → Int64} {mb : Nat → BitVec 32} {mc : BitVec 32} {a b : aM} (h : MR ms mw mb mc a) (e : aE a b) : MR ms mw mb mc b := by
  obtain ⟨h1, h2, h3, h4⟩ := h
  obtain ⟨e1, e2, e3, e4⟩ := e
  exact ⟨fun g hg => (h1 g hg).trans (e1 g hg), fun g k hg hk => (h2 g k hg (by rw [e1 g hg]; exact hk)).trans (e2 g k hg (by rw [e1 g hg]; exact hk)), fun g q hg hq => (h3 g q hg hq).trans (e3 g q hg hq), fun g hg => (h4 g hg).trans (e4 g hg)⟩
theorem aE_S {a b : aM} {k f o : Nat} {v : Int64} (e : aE a b) (hk : aOk a k f o) : aE (aS a k f o v) (aS b k f o v) := by
  obtain ⟨e1, e2, e3, e4⟩ := e
  obtain ⟨k1, k2, k3⟩ := hk
  have ef := e1 f k1
  unfold aS
  by_cases z0 : k = 0
  · rw [if_pos z0, if_pos z0]
    have k2 := k2 z0
    refine ⟨fun g hg => ?_, fun g j hg hj => ?_, fun g q hg hq => ?_, fun g hg => ?_⟩
    · show va_up _ _ _ g = va_up _ _ _ g
      unfold va_up
      split
      · rw [ef]
      · exact e1 g hg
    · have hj : (j : Int) < va_up a.1 f (if a.1 f < (o : Int) + 8 then (o : Int) + 8 else a.1 f) g := hj
      show (if g = f ∧ o ≤ j ∧ j < o + 8 then oc v (j - o) else a.2.1 g j) = if g = f ∧ o ≤ j ∧ j < o + 8 then oc v (j - o) else b.2.1 g j
      by_cases y : g = f ∧ o ≤ j ∧ j < o + 8
      · rw [if_pos y, if_pos y]
      · rw [if_neg y, if_neg y]
        apply e2 g j hg
        by_cases w : g = f
        · subst w
          rw [vs] at hj
          split at hj <;> omega
        · rw [vn w] at hj; exact hj
    · show (_ || _) = (_ || _)
      rw [e3 g q hg hq]
    · show (_ || _) = (_ || _)
      rw [e4 g hg]
  · rw [if_neg z0, if_neg z0]
    by_cases z1 : k = 1
    · rw [if_pos z1, if_pos z1]
      have k3 := k3 z1
      refine ⟨fun g hg => ?_, fun g j hg hj => ?_, fun g q hg hq => ?_, fun g hg => ?_⟩
      · show va_up _ _ _ g = va_up _ _ _ g
        unfold va_up
        split
        · rfl
        · exact e1 g hg
      · have hj : (j : Int) < va_up a.1 f (o : Int) g := hj
        apply e2 g j hg
        by_cases w : g = f
        · subst w
          rw [vs] at hj
          omega
        · rw [vn w] at hj; exact hj
      · show (_ && _) = (_ && _)
        rw [e3 g q hg hq]
      · show (_ || _) = (_ || _)
        rw [e4 g hg]
    · rw [if_neg z1, if_neg z1]
      refine ⟨fun g hg => ?_, fun g j hg hj => ?_, fun g q hg hq => ?_, fun g hg => ?_⟩
      · show va_up _ _ _ g = va_up _ _ _ g
        unfold va_up
        split
        · rfl
        · exact e1 g hg
      · have hj : (j : Int) < va_up a.1 f (-1) g := hj
        apply e2 g j hg
        by_cases w : g = f
        · subst w
          rw [vs] at hj
          omega
        · rw [vn w] at hj; exact hj
      · show (_ && _) = (_ && _)
        rw [e3 g q hg hq]
      · show (_ || _) = (_ || _)
        rw [e4 g hg]
theorem aOk_E {a b : aM} {k f o : Nat} (e : aE a b) (h : aOk a k f o) : aOk b k f o := ⟨h.1, fun z => ⟨(h.2.1 z).1, by rw [← e.1 f h.1]; exact (h.2.1 z).2⟩, fun z => by rw [← e.1 f h.1]; exact h.2.2 z⟩
theorem aE_run {gk gf go : Nat → Nat} {gv : Nat → Int64} {a b : aM} (e : aE a b) : ∀ n, (∀ i, i < n → aOk (aRun gk gf go gv a i) (gk i) (gf i) (go i)) → aE (aRun gk gf go gv a n) (aRun gk gf go gv b n)
  | 0, _ => e
  | n + 1, hk => aE_S (aE_run e n (fun i hi => hk i (by omega))) (hk n (by omega))
theorem LOK_E {gk gf go : Nat → Nat} {gv : Nat → Int64} {gl : Nat} {a b : aM} (e : aE a b) (h : LOK gk gf go gv gl a) : LOK gk gf go gv gl b := ⟨h.1, fun i hi => aOk_E (aE_run e i (fun j hj => h.2.1 j (by omega))) (h.2.1 i hi), h.2.2⟩
