/-! what a POINT's writings are -/
def PL (fr : Nat → Nat) (L : List Wt) : Prop := ∀ i x, L[i]? = some x → x.1 = fr i
theorem PL_nil (fr : Nat → Nat) : PL fr [] := fun i x h => by simp at h
theorem PL_snoc {fr : Nat → Nat} {L : List Wt} {c : Nat → Int64} {k : Nat} (h : PL fr L) : PL fr (L ++ [(fr L.length, c, k)]) := by
  intro i x hx
  rcases Nat.lt_trichotomy i L.length with z | z | z
  · rw [List.getElem?_append_left z] at hx; exact h i x hx
  · subst z
    rw [List.getElem?_append_right (Nat.le_refl _), Nat.sub_self] at hx
    simp at hx
    rw [← hx]
  · rw [List.getElem?_eq_none (by simp; omega)] at hx
    cases hx
theorem FR.lt {u : Nat → Bool} {fr : Nat → Nat} {m : Nat} (h : FR u fr m) {i : Nat} : ∀ j, i < j → j < m → fr i < fr j
  | 0, hi, _ => absurd hi (Nat.not_lt_zero i)
  | j + 1, hi, hj => by
    have h1 := (h (j + 1) hj).1.1
    unfold lst at h1
    rw [if_neg (by omega)] at h1
    have h1 : fr j < fr (j + 1) := h1
    rcases Nat.eq_or_lt_of_le (Nat.le_of_lt_succ hi) with z | z
    · rw [z]; exact h1
    · exact Nat.lt_trans (FR.lt h j z (by omega)) h1
theorem PL_pw {u : Nat → Bool} {fr : Nat → Nat} {m : Nat} {L : List Wt} (h : PL fr L) (hF : FR u fr m) (hm : L.length ≤ m) : L.Pairwise (fun x y => x.1 ≠ y.1) := by
  rw [List.pairwise_iff_getElem]
  intro i j hi hj hij
  rw [h i _ (List.getElem?_eq_getElem hi), h j _ (List.getElem?_eq_getElem hj)]
  have := hF.lt j hij (by omega)
  omega
theorem PL_mem {u : Nat → Bool} {fr : Nat → Nat} {m : Nat} {L : List Wt} {x : Wt} (h : PL fr L) (hF : FR u fr m) (hm : L.length ≤ m) (hx : x ∈ L) : 0 < x.1 ∧ x.1 < 600 ∧ u x.1 = false := by
  obtain ⟨i, hi, e⟩ := List.getElem_of_mem hx
  have := h i _ (List.getElem?_eq_getElem hi)
  rw [e] at this
  rw [this]
  obtain ⟨⟨f1, f2⟩, f3, -⟩ := hF i (by omega)
  exact ⟨by omega, f2, f3⟩
theorem app_out {p : Nat} : ∀ (L : List Wt) (B : Nat → Int64), (∀ x, x ∈ L → x.1 ≠ p) → ∀ i, i < 4 → app B L (4 * p + i) = B (4 * p + i)
  | [], B, _, i, _ => rfl
  | y :: L, B, h, i, hi => by
    show app (upB B y.1 y.2.1 4) L (4 * p + i) = _
    rw [app_out L _ (fun x hx => h x (List.mem_cons_of_mem _ hx)) i hi, upB_4, if_neg]
    have := h y List.mem_cons_self
    omega
theorem app_mem {x : Wt} : ∀ (L : List Wt) (B : Nat → Int64), L.Pairwise (fun x y => x.1 ≠ y.1) → x ∈ L → ∀ i, i < 4 → app B L (4 * x.1 + i) = x.2.1 i
  | [], B, _, hx, i, _ => by cases hx
  | y :: L, B, h, hx, i, hi => by
    show app (upB B y.1 y.2.1 4) L (4 * x.1 + i) = _
    rw [List.pairwise_cons] at h
    rcases List.mem_cons.mp hx with e | e
    · subst e
      rw [app_out L _ (fun z hz => Ne.symm (h.1 z hz)) i hi, upB_4, if_pos (by omega), show (4 * x.1 + i) % 4 = i by omega]
    · exact app_mem L _ h.2 e i hi
theorem num_congr {B C : Nat → Int64} {p : Nat} (h : ∀ i, i < 4 → B (4 * p + i) = C (4 * p + i)) {j : Nat} (hj : j < 16) : num B p j = num C p j := by
  unfold num; rw [h _ (by omega)]
theorem po_congr {B C : Nat → Int64} {p : Nat} (h : ∀ i, i < 4 → B (4 * p + i) = C (4 * p + i)) {j : Nat} (hj : j < 32) : po B p j = po C p j := by
  unfold po; rw [h _ (by omega)]
theorem num_mem {x : Wt} {L : List Wt} {B : Nat → Int64} (h : L.Pairwise (fun x y => x.1 ≠ y.1)) (hx : x ∈ L) {j : Nat} (hj : j < 16) : num (app B L) x.1 j = nmK x.2.1 j := by
  unfold num nmK; rw [app_mem L B h hx _ (by omega)]
theorem po_mem {x : Wt} {L : List Wt} {B : Nat → Int64} (h : L.Pairwise (fun x y => x.1 ≠ y.1)) (hx : x ∈ L) {j : Nat} (hj : j < 32) : po (app B L) x.1 j = bo x.2.1 j := by
  unfold po bo; rw [app_mem L B h hx _ (by omega)]
theorem pF_all (fr : Nat → Nat) (a : aM) (f : Nat) (x : List Wt × (Nat → Nat)) : ∀ q, (PL fr x.1 → PL fr (pF fr a f q x).1) ∧ (∀ w, w ∈ x.1 → w ∈ (pF fr a f q x).1) ∧ (∀ r, r < q → a.2.2.1 f r = true → ((pF fr a f q x).2 (f * 14 + r), mkW (pcO a f r), 3) ∈ (pF fr a f q x).1) ∧ (∀ r, (q ≤ r ∨ a.2.2.1 f r = false) → (pF fr a f q x).2 (f * 14 + r) = x.2 (f * 14 + r)) ∧ (∀ w, w ∈ (pF fr a f q x).1 → w ∈ x.1 ∨ w.2.2 = 3)
  | 0 => ⟨id, fun w h => h, fun r h => absurd h (Nat.not_lt_zero r), fun r _ => rfl, fun w h => Or.inl h⟩
  | q + 1 => by
    obtain ⟨i1, i2, i3, i4, i5⟩ := pF_all fr a f x q
    cases hw : a.2.2.1 f q with
    | false =>
      rw [pF_f hw]
      refine ⟨i1, i2, fun r h1 h2 => ?_, fun r h => ?_, i5⟩
      · rcases Nat.eq_or_lt_of_le (Nat.le_of_lt_succ h1) with z | z
        · rw [z, hw] at h2; cases h2
        · exact i3 r z h2
      · apply i4 r
        by_cases e : r = q
        · rw [e]; exact Or.inl (Nat.le_refl _)
        · rcases h with h | h
          · exact Or.inl (by omega)
          · exact Or.inr h
    | true =>
      rw [pF_t hw]
      refine ⟨fun h => PL_snoc (i1 h), fun w h => List.mem_append_left _ (i2 w h), fun r h1 h2 => ?_, fun r h => ?_, fun w h => ?_⟩
      · by_cases z : r = q
        · subst z
          show (va_up _ _ _ _, _) ∈ _
          rw [vs]
          exact List.mem_append_right _ List.mem_cons_self
        · show (va_up _ _ _ _, _) ∈ _
          rw [vn (by omega)]
          exact List.mem_append_left _ (i3 r (by omega) h2)
      · have hne : r ≠ q := fun z => by
          rw [z, hw] at h
          rcases h with h | h
          · omega
          · cases h
        show va_up _ _ _ _ = _
        rw [vn (by omega)]
        apply i4 r
        rcases h with h | h
        · exact Or.inl (by omega)
        · exact Or.inr h
      · rcases List.mem_append.mp h with h | h
        · exact i5 w h
        · rw [List.mem_singleton] at h
          rw [h]
          exact Or.inr rfl
theorem pI_all (fr : Nat → Nat) (a : aM) (f : Nat) (x : List Wt × (Nat → Nat) × (Nat → Nat)) : (PL fr x.1 → PL fr (pI fr a f x).1) ∧ (∀ w, w ∈ x.1 → w ∈ (pI fr a f x).1) ∧ (∀ r, r < 14 → a.2.2.1 f r = true → ((pI fr a f x).2.1 (f * 14 + r), mkW (pcO a f r), 3) ∈ (pI fr a f x).1) ∧ (∀ r, a.2.2.1 f r = false → (pI fr a f x).2.1 (f * 14 + r) = x.2.1 (f * 14 + r)) ∧ (a.1 f ≠ -1 → ((pI fr a f x).2.2 f, mkW (numO (inN a (pI fr a f x).2.1 f)), 2) ∈ (pI fr a f x).1) ∧ (a.1 f = -1 → (pI fr a f x).2.2 f = 0) ∧ (∀ g, g ≠ f → (pI fr a f x).2.2 g = x.2.2 g) ∧
    (∀ w, w ∈ (pI fr a f x).1 → w ∈ x.1 ∨ w.2.2 = 3 ∨ (w.2.2 = 2 ∧ a.1 f ≠ -1 ∧ w.2.1 = mkW (numO (inN a (pI fr a f x).2.1 f)))) := by
  obtain ⟨i1, i2, i3, i4, i5⟩ := pF_all fr a f (x.1, x.2.1) 14
  by_cases hs : a.1 f = -1
  · rw [pI_m hs]
    exact ⟨i1, i2, i3, fun r h => i4 r (Or.inr h), fun h => absurd hs h, fun _ => vs, fun g hg => vn hg, fun w h => (i5 w h).imp id Or.inl⟩
  · rw [pI_p hs]
    refine ⟨fun h => PL_snoc (i1 h), fun w h => List.mem_append_left _ (i2 w h), fun r h1 h2 => List.mem_append_left _ (i3 r h1 h2), fun r h => i4 r (Or.inr h), fun _ => ?_, fun h => absurd h hs, fun g hg => vn hg, fun w h => ?_⟩
    · show (va_up _ _ _ _, _) ∈ _
      rw [vs]
      exact List.mem_append_right _ List.mem_cons_self
    · rcases List.mem_append.mp h with h | h
      · exact (i5 w h).imp id Or.inl
      · rw [List.mem_singleton] at h
        rw [h]
        exact Or.inr (Or.inr ⟨rfl, hs, rfl⟩)
theorem inN_congr {a : aM} {pp pq : Nat → Nat} {g : Nat} (h : a.1 g ≤ 448) (e : ∀ r, r < 14 → pp (g * 14 + r) = pq (g * 14 + r)) : inN a pp g = inN a pq g := by
  funext j
  unfold inN
  split
  · rfl
  · split
    · exact e _ (by omega)
    · rfl
theorem pL_all {fr : Nat → Nat} {a : aM} {pp ii : Nat → Nat} (hb : ∀ f, f < 32 → a.1 f ≤ 448) : ∀ n, n ≤ 32 → PL fr (pL fr a pp ii n).1 ∧ (∀ g r, g < n → r < 14 → a.2.2.2 g = true → a.2.2.1 g r = true → ((pL fr a pp ii n).2.1 (g * 14 + r), mkW (pcO a g r), 3) ∈ (pL fr a pp ii n).1) ∧ (∀ g r, g < 32 → r < 14 → (n ≤ g ∨ a.2.2.2 g = false ∨ a.2.2.1 g r = false) → (pL fr a pp ii n).2.1 (g * 14 + r) = pp (g * 14 + r)) ∧ (∀ g, g < n → a.2.2.2 g = true → a.1 g ≠ -1 → ((pL fr a pp ii n).2.2 g, mkW (numO (inN a (pL fr a pp ii n).2.1 g)), 2) ∈ (pL fr a pp ii n).1) ∧ (∀ g, g < n → a.2.2.2 g = true → a.1 g = -1 → (pL fr a pp ii n).2.2 g = 0) ∧ (∀ g, (n ≤ g ∨ a.2.2.2 g = false) → (pL fr a pp ii n).2.2 g = ii g) ∧
    (∀ w, w ∈ (pL fr a pp ii n).1 → w.2.2 = 3 ∨ (w.2.2 = 2 ∧ ∃ g, g < n ∧ a.2.2.2 g = true ∧ a.1 g ≠ -1 ∧ w.2.1 = mkW (numO (inN a (pL fr a pp ii n).2.1 g))))
  | 0, _ => ⟨PL_nil fr, fun g r h => absurd h (Nat.not_lt_zero g), fun g r _ _ _ => rfl, fun g h => absurd h (Nat.not_lt_zero g), fun g h => absurd h (Nat.not_lt_zero g), fun g _ => rfl, (fun w h => by cases h)⟩
  | n + 1, hn => by
    obtain ⟨i1, i2, i3, i4, i5, i6, i7⟩ := pL_all (fr := fr) (pp := pp) (ii := ii) hb n (by omega)
    cases hc : a.2.2.2 n with
    | false =>
      have e : pL fr a pp ii (n + 1) = pL fr a pp ii n := by rw [pL, if_neg (by rw [hc]; simp)]
      rw [e]
      have ne : ∀ g, g < n + 1 → a.2.2.2 g = true → g < n := fun g h1 h2 => by
        rcases Nat.eq_or_lt_of_le (Nat.le_of_lt_succ h1) with z | z
        · rw [z, hc] at h2; cases h2
        · exact z
      refine ⟨i1, fun g r h1 h2 h3 h4 => i2 g r (ne g h1 h3) h2 h3 h4, fun g r h1 h2 h3 => i3 g r h1 h2 ?_, fun g h1 h2 h3 => i4 g (ne g h1 h2) h2 h3, fun g h1 h2 h3 => i5 g (ne g h1 h2) h2 h3, fun g h1 => i6 g ?_, fun w h => ?_⟩
      · rcases h3 with h3 | h3
        · exact Or.inl (by omega)
        · exact Or.inr h3
      · rcases h1 with h1 | h1
        · exact Or.inl (by omega)
        · exact Or.inr h1
      · rcases i7 w h with z | ⟨z1, g, z2, z3⟩
        · exact Or.inl z
        · exact Or.inr ⟨z1, g, by omega, z3⟩
    | true =>
      have e : pL fr a pp ii (n + 1) = pI fr a n (pL fr a pp ii n) := by rw [pL, if_pos hc]
      rw [e]
      obtain ⟨j1, j2, j3, j4, j5, j6, j7, j8⟩ := pI_all fr a n (pL fr a pp ii n)
      have jp : ∀ g r, g ≠ n → r < 14 → (pI fr a n (pL fr a pp ii n)).2.1 (g * 14 + r) = (pL fr a pp ii n).2.1 (g * 14 + r) := fun g r h1 h2 => pI_pp (by omega)
      have ji : ∀ g, g < 32 → g ≠ n → inN a (pI fr a n (pL fr a pp ii n)).2.1 g = inN a (pL fr a pp ii n).2.1 g := fun g h0 h1 => inN_congr (hb g h0) (fun r hr => jp g r h1 hr)
      refine ⟨j1 i1, fun g r h1 h2 h3 h4 => ?_, fun g r h1 h2 h3 => ?_, fun g h1 h2 h3 => ?_, fun g h1 h2 h3 => ?_, fun g h1 => ?_, fun w h => ?_⟩
      · by_cases z : g = n
        · subst z; exact j3 r h2 h4
        · rw [jp g r z h2]; exact j2 _ (i2 g r (by omega) h2 h3 h4)
      · by_cases z : g = n
        · subst z
          rw [j4 r (by rcases h3 with h3 | h3 | h3
                       · omega
                       · rw [hc] at h3; cases h3
                       · exact h3)]
          exact i3 g r h1 h2 (Or.inl (Nat.le_refl _))
        · rw [jp g r z h2]
          apply i3 g r h1 h2
          rcases h3 with h3 | h3
          · exact Or.inl (by omega)
          · exact Or.inr h3
      · by_cases z : g = n
        · subst z; exact j5 h3
        · rw [j7 g z, ji g (by omega) z]; exact j2 _ (i4 g (by omega) h2 h3)
      · by_cases z : g = n
        · subst z; exact j6 h3
        · rw [j7 g z]; exact i5 g (by omega) h2 h3
      · have z : g ≠ n := fun z => by
          rw [z, hc] at h1
          rcases h1 with h1 | h1
          · omega
          · cases h1
        rw [j7 g z]
        apply i6 g
        rcases h1 with h1 | h1
        · exact Or.inl (by omega)
        · exact Or.inr h1
      · rcases j8 w h with z | z | ⟨z1, z2, z3⟩
        · rcases i7 w z with y | ⟨y1, g, y2, y3, y4, y5⟩
          · exact Or.inl y
          · exact Or.inr ⟨y1, g, by omega, y3, y4, by rw [ji g (by omega) (by omega)]; exact y5⟩
        · exact Or.inl z
        · exact Or.inr ⟨z1, n, by omega, hc, z2, z3⟩
theorem pH_all (fr : Nat → Nat) (a : aM) (ii : Nat → Nat) (x : List Wt × (Nat → Nat)) : ∀ n, (PL fr x.1 → PL fr (pH fr a ii x n).1) ∧ (∀ w, w ∈ x.1 → w ∈ (pH fr a ii x n).1) ∧ (∀ h, h < n → chH a h = true → ((pH fr a ii x n).2 h, mkW (numO (fun j => ii (h * 16 + j))), 1) ∈ (pH fr a ii x n).1) ∧ (∀ h, (n ≤ h ∨ chH a h = false) → (pH fr a ii x n).2 h = x.2 h) ∧ (∀ w, w ∈ (pH fr a ii x n).1 → w ∈ x.1 ∨ (w.2.2 = 1 ∧ ∃ h, h < n ∧ w.2.1 = mkW (numO (fun j => ii (h * 16 + j)))))
  | 0 => ⟨id, fun w h => h, fun r h => absurd h (Nat.not_lt_zero r), fun r _ => rfl, fun w h => Or.inl h⟩
  | n + 1 => by
    obtain ⟨i1, i2, i3, i4, i5⟩ := pH_all fr a ii x n
    cases hw : chH a n with
    | false =>
      have e : pH fr a ii x (n + 1) = pH fr a ii x n := by rw [pH, if_neg (by rw [hw]; simp)]
      rw [e]
      refine ⟨i1, i2, fun r h1 h2 => ?_, fun r h => i4 r ?_, fun w h => ?_⟩
      · rcases Nat.eq_or_lt_of_le (Nat.le_of_lt_succ h1) with z | z
        · rw [z, hw] at h2; cases h2
        · exact i3 r z h2
      · rcases h with h | h
        · exact Or.inl (by omega)
        · exact Or.inr h
      · rcases i5 w h with z | ⟨z1, g, z2, z3⟩
        · exact Or.inl z
        · exact Or.inr ⟨z1, g, by omega, z3⟩
    | true =>
      have e : pH fr a ii x (n + 1) = ((pH fr a ii x n).1 ++ [(fr (pH fr a ii x n).1.length, mkW (numO (fun j => ii (n * 16 + j))), 1)], va_up (pH fr a ii x n).2 n (fr (pH fr a ii x n).1.length)) := by rw [pH, if_pos hw]
      rw [e]
      refine ⟨fun h => PL_snoc (i1 h), fun w h => List.mem_append_left _ (i2 w h), fun r h1 h2 => ?_, fun r h => ?_, fun w h => ?_⟩
      · by_cases z : r = n
        · subst z
          show (va_up _ _ _ _, _) ∈ _
          rw [vs]
          exact List.mem_append_right _ List.mem_cons_self
        · show (va_up _ _ _ _, _) ∈ _
          rw [vn z]
          exact List.mem_append_left _ (i3 r (by omega) h2)
      · have hne : r ≠ n := fun z => by
          rw [z, hw] at h
          rcases h with h | h
          · omega
          · cases h
        show va_up _ _ _ _ = _
        rw [vn hne]
        apply i4 r
        rcases h with h | h
        · exact Or.inl (by omega)
        · exact Or.inr h
      · rcases List.mem_append.mp h with h | h
        · rcases i5 w h with z | ⟨z1, g, z2, z3⟩
          · exact Or.inl z
          · exact Or.inr ⟨z1, g, by omega, z3⟩
        · rw [List.mem_singleton] at h
          rw [h]
          exact Or.inr ⟨rfl, n, by omega, rfl⟩
