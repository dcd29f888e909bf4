/-! a POINT as a list of writings -/
abbrev Wt : Type := Nat × (Nat → Int64) × Nat
def app (B : Nat → Int64) : List Wt → Nat → Int64
  | [] => B
  | x :: l => app (upB B x.1 x.2.1 4) l
theorem app_snoc (l : List Wt) (x : Wt) : ∀ B, app B (l ++ [x]) = upB (app B l) x.1 x.2.1 4 := by
  induction l with
  | nil => intro B; rfl
  | cons y l ih => intro B; exact ih _
theorem app_take (B : Nat → Int64) (l : List Wt) (x : Wt) (n : Nat) : app B ((l ++ [x]).take n) = if l.length < n then upB (app B (l.take n)) x.1 x.2.1 4 else app B (l.take n) := by
  by_cases h : l.length < n
  · rw [if_pos h, List.take_of_length_le (by rw [List.length_append]; simp; omega), List.take_of_length_le (by omega), app_snoc]
  · rw [if_neg h, List.take_append_of_le_length (by omega)]
theorem upB_congr {B : Nat → Int64} {p : Nat} {v w : Nat → Int64} (h : ∀ i, i < 4 → v i = w i) : upB B p v 4 = upB B p w 4 := by
  funext j
  rw [upB_4, upB_4]
  split
  · exact h _ (by omega)
  · rfl
theorem eq4_bo {v w : Nat → Int64} (h : ∀ k, k < 32 → bo v k = bo w k) : ∀ i, i < 4 → v i = w i := by
  intro i hi
  apply oc_ext
  intro j hj
  have := h (8 * i + j) (by omega)
  unfold bo at this
  rwa [show (8 * i + j) / 8 = i by omega, show (8 * i + j) % 8 = j by omega] at this
theorem eq4_nm {v w : Nat → Int64} (h : ∀ k, k < 16 → nmK v k = nmK w k) : ∀ i, i < 4 → v i = w i := by
  intro i hi
  apply nm_ext
  intro j hj
  have := h (4 * i + j) (by omega)
  unfold nmK at this
  rwa [show (4 * i + j) / 4 = i by omega, show (4 * i + j) % 4 = j by omega] at this
/-- words out of octets, octets out of numbers -/
def mkW (o : Nat → Nat) (i : Nat) : Int64 := lN (256 ^ 7 * o (8 * i) + 256 ^ 6 * o (8 * i + 1) + 256 ^ 5 * o (8 * i + 2) + 256 ^ 4 * o (8 * i + 3) + 256 ^ 3 * o (8 * i + 4) + 256 ^ 2 * o (8 * i + 5) + 256 * o (8 * i + 6) + o (8 * i + 7))
def numO (n : Nat → Nat) (k : Nat) : Nat := if k % 2 = 0 then n (k / 2) / 256 else n (k / 2) % 256
theorem wN_lN {n : Nat} (h : n < 2 ^ 64) : wN (lN n) = n := by
  show (BitVec.ofNat 64 n).toNat = n
  rw [BitVec.toNat_ofNat]
  exact Nat.mod_eq_of_lt h
theorem oc_mkW {o : Nat → Nat} {i j : Nat} (hj : j < 8) (h : ∀ r, r < 8 → o (8 * i + r) < 256) : oc (mkW o i) j = o (8 * i + j) := by
  have h0 := h 0 (by decide)
  have h1 := h 1 (by decide)
  have h2 := h 2 (by decide)
  have h3 := h 3 (by decide)
  have h4 := h 4 (by decide)
  have h5 := h 5 (by decide)
  have h6 := h 6 (by decide)
  have h7 := h 7 (by decide)
  rw [Nat.add_zero] at h0
  unfold oc mkW
  have cs : j = 0 ∨ j = 1 ∨ j = 2 ∨ j = 3 ∨ j = 4 ∨ j = 5 ∨ j = 6 ∨ j = 7 := by omega
  simp only [Nat.reducePow] at *
  rw [wN_lN (by simp only [Nat.reducePow]; omega)]
  rcases cs with rfl | rfl | rfl | rfl | rfl | rfl | rfl | rfl <;> simp only [Nat.reduceMul, Nat.reduceSub, Nat.reducePow, Nat.add_zero] <;> omega
theorem bo_mkW {o : Nat → Nat} {k : Nat} (h : ∀ r, r < 32 → o r < 256) (hk : k < 32) : bo (mkW o) k = o k := by
  unfold bo
  rw [oc_mkW (by omega) (fun r hr => h _ (by omega))]
  congr 1
  omega
theorem nmK_mkW {n : Nat → Nat} {j : Nat} (h : ∀ r, r < 16 → n r < 65536) (hj : j < 16) : nmK (mkW (numO n)) j = n j := by
  unfold nmK
  have ho : ∀ i, i < 4 → ∀ r, r < 8 → numO n (8 * i + r) < 256 := fun i hi r hr => by
    have := h ((8 * i + r) / 2) (by omega)
    unfold numO
    split <;> omega
  rw [nm_oc _ (by omega), oc_mkW (by omega) (ho _ (by omega)), oc_mkW (by omega) (ho _ (by omega))]
  unfold numO
  rw [if_pos (by omega), if_neg (by omega)]
  have := h j hj
  rw [show (8 * (j / 4) + 2 * (j % 4)) / 2 = j by omega, show (8 * (j / 4) + (2 * (j % 4) + 1)) / 2 = j by omega]
  omega
/-- what comes to a PLACE -/
def pcO (a : aM) (f q k : Nat) : Nat := if ((q * 32 + k : Nat) : Int) < a.1 f then a.2.1 f (q * 32 + k) else 0
def inN (a : aM) (pp : Nat → Nat) (f j : Nat) : Nat := if j = 0 then (a.1 f).toNat else if j < 1 + ((a.1 f).toNat + 31) / 32 then pp (f * 14 + (j - 1)) else 0
def MO (a : aM) : Prop := ∀ f k, f < 32 → ((k : Nat) : Int) < a.1 f → a.2.1 f k < 256
/-- the last of the fresh ones that was taken; the next -/
def lst (fr : Nat → Nat) (k : Nat) : Nat := if k = 0 then 0 else fr (k - 1)
def FR (u : Nat → Bool) (fr : Nat → Nat) (m : Nat) : Prop := ∀ k, k < m → (lst fr k < fr k ∧ fr k < 600) ∧ u (fr k) = false ∧ ∀ j, lst fr k < j → j < fr k → u j = true
def pF (fr : Nat → Nat) (a : aM) (f : Nat) : Nat → List Wt × (Nat → Nat) → List Wt × (Nat → Nat)
  | 0, x => x
  | q + 1, x => if a.2.2.1 f q = true then ((pF fr a f q x).1 ++ [(fr (pF fr a f q x).1.length, mkW (pcO a f q), 3)], va_up (pF fr a f q x).2 (f * 14 + q) (fr (pF fr a f q x).1.length)) else pF fr a f q x
def pI (fr : Nat → Nat) (a : aM) (f : Nat) (x : List Wt × (Nat → Nat) × (Nat → Nat)) : List Wt × (Nat → Nat) × (Nat → Nat) :=
  if a.1 f = -1 then ((pF fr a f 14 (x.1, x.2.1)).1, (pF fr a f 14 (x.1, x.2.1)).2, va_up x.2.2 f 0)
  else ((pF fr a f 14 (x.1, x.2.1)).1 ++ [(fr (pF fr a f 14 (x.1, x.2.1)).1.length, mkW (numO (inN a (pF fr a f 14 (x.1, x.2.1)).2 f)), 2)], (pF fr a f 14 (x.1, x.2.1)).2, va_up x.2.2 f (fr (pF fr a f 14 (x.1, x.2.1)).1.length))
def pL (fr : Nat → Nat) (a : aM) (pp ii : Nat → Nat) : Nat → List Wt × (Nat → Nat) × (Nat → Nat)
  | 0 => ([], pp, ii)
  | f + 1 => if a.2.2.2 f = true then pI fr a f (pL fr a pp ii f) else pL fr a pp ii f
def chH (a : aM) (h : Nat) : Bool := (List.range 16).any (fun i => a.2.2.2 (h * 16 + i))
def pH (fr : Nat → Nat) (a : aM) (ii : Nat → Nat) (x : List Wt × (Nat → Nat)) : Nat → List Wt × (Nat → Nat)
  | 0 => x
  | h + 1 => if chH a h = true then ((pH fr a ii x h).1 ++ [(fr (pH fr a ii x h).1.length, mkW (numO (fun j => ii (h * 16 + j))), 1)], va_up (pH fr a ii x h).2 h (fr (pH fr a ii x h).1.length)) else pH fr a ii x h
theorem pF_len (fr : Nat → Nat) (a : aM) (f : Nat) (x : List Wt × (Nat → Nat)) : ∀ q, (pF fr a f q x).1.length ≤ (pF fr a f (q + 1) x).1.length := by
  intro q
  rw [pF]
  split
  · simp
  · exact Nat.le_refl _
theorem pF_mono (fr : Nat → Nat) (a : aM) (f : Nat) (x : List Wt × (Nat → Nat)) {q r : Nat} (h : q ≤ r) : (pF fr a f q x).1.length ≤ (pF fr a f r x).1.length := by
  induction r with
  | zero => rw [show q = 0 by omega]; exact Nat.le_refl _
  | succ r ih =>
    by_cases e : q = r + 1
    · rw [e]; exact Nat.le_refl _
    · exact Nat.le_trans (ih (by omega)) (pF_len fr a f x r)
theorem pI_len (fr : Nat → Nat) (a : aM) (f : Nat) (x : List Wt × (Nat → Nat) × (Nat → Nat)) : (pF fr a f 14 (x.1, x.2.1)).1.length ≤ (pI fr a f x).1.length ∧ x.1.length ≤ (pI fr a f x).1.length := by
  have h1 : x.1.length ≤ (pF fr a f 14 (x.1, x.2.1)).1.length := pF_mono fr a f (x.1, x.2.1) (Nat.zero_le 14)
  unfold pI
  split
  · exact ⟨Nat.le_refl _, h1⟩
  · simp; omega
theorem pL_mono (fr : Nat → Nat) (a : aM) (pp ii : Nat → Nat) {f g : Nat} (h : f ≤ g) : (pL fr a pp ii f).1.length ≤ (pL fr a pp ii g).1.length := by
  induction g with
  | zero => rw [show f = 0 by omega]; exact Nat.le_refl _
  | succ g ih =>
    by_cases e : f = g + 1
    · rw [e]; exact Nat.le_refl _
    · refine Nat.le_trans (ih (by omega)) ?_
      rw [pL]
      split
      · exact (pI_len fr a g _).2
      · exact Nat.le_refl _
theorem pH_mono (fr : Nat → Nat) (a : aM) (ii : Nat → Nat) (x : List Wt × (Nat → Nat)) {f g : Nat} (h : f ≤ g) : (pH fr a ii x f).1.length ≤ (pH fr a ii x g).1.length := by
  induction g with
  | zero => rw [show f = 0 by omega]; exact Nat.le_refl _
  | succ g ih =>
    by_cases e : f = g + 1
    · rw [e]; exact Nat.le_refl _
    · refine Nat.le_trans (ih (by omega)) ?_
      rw [pH]
      split
      · simp
      · exact Nat.le_refl _
/-- the free ones below n, in order -/
def frB (u : Nat → Bool) : Nat → List Nat
  | 0 => []
  | n + 1 => if u n then frB u n else frB u n ++ [n]
theorem frB_len (u : Nat → Bool) : ∀ n, (frB u n).length = fc u n
  | 0 => rfl
  | n + 1 => by
    unfold frB fc
    rw [← frB_len u n]
    split <;> simp
theorem frB_mem (u : Nat → Bool) : ∀ n p, p ∈ frB u n ↔ p < n ∧ u p = false
  | 0, p => by simp [frB]
  | n + 1, p => by
    unfold frB
    have ih := frB_mem u n p
    cases h : u n with
    | true =>
      rw [if_pos rfl, ih]
      constructor
      · rintro ⟨a, b⟩; exact ⟨by omega, b⟩
      · rintro ⟨a, b⟩
        refine ⟨?_, b⟩
        by_cases e : p = n
        · rw [e, h] at b; cases b
        · omega
    | false =>
      rw [if_neg (by simp), List.mem_append, ih, List.mem_singleton]
      constructor
      · rintro (⟨a, b⟩ | e)
        · exact ⟨by omega, b⟩
        · rw [e]; exact ⟨by omega, h⟩
      · rintro ⟨a, b⟩
        by_cases e : p = n
        · exact Or.inr e
        · exact Or.inl ⟨by omega, b⟩
theorem frB_sort (u : Nat → Bool) : ∀ n, (frB u n).Pairwise (· < ·)
  | 0 => List.Pairwise.nil
  | n + 1 => by
    unfold frB
    split
    · exact frB_sort u n
    · rw [List.pairwise_append]
      refine ⟨frB_sort u n, List.pairwise_singleton _ _, ?_⟩
      intro x hx y hy
      rw [List.mem_singleton] at hy
      rw [hy]
      exact ((frB_mem u n x).mp hx).1
theorem FR_of (u : Nat → Bool) (h0 : u 0 = true) : FR u (fun k => (frB u 600).getD k 0) (fc u 600) := by
  intro k hk
  rw [← frB_len] at hk
  have hs := List.pairwise_iff_getElem.mp (frB_sort u 600)
  have gd : ∀ i (hi : i < (frB u 600).length), (frB u 600).getD i 0 = (frB u 600)[i] := fun i hi => by simp [List.getD_eq_getElem?_getD, hi]
  have hm := (frB_mem u 600 _).mp (List.getElem_mem hk)
  refine ⟨⟨?_, ?_⟩, ?_, ?_⟩
  · show lst _ k < (frB u 600).getD k 0
    rw [gd k hk]
    unfold lst
    split
    · rcases Nat.eq_zero_or_pos (frB u 600)[k] with z | z
      · rw [z, h0] at hm; cases hm.2
      · exact z
    · dsimp only
      rw [gd (k - 1) (by omega)]
      exact hs (k - 1) k (by omega) hk (by omega)
  · show (frB u 600).getD k 0 < 600
    rw [gd k hk]; exact hm.1
  · show u ((frB u 600).getD k 0) = false
    rw [gd k hk]; exact hm.2
  · intro j h1 h2
    have h2 : j < (frB u 600).getD k 0 := h2
    rw [gd k hk] at h2
    cases hu : u j with
    | true => rfl
    | false =>
      exfalso
      obtain ⟨i, hi, e⟩ := List.getElem_of_mem ((frB_mem u 600 j).mpr ⟨by omega, hu⟩)
      rw [← e] at h1 h2
      have hik : i < k := by
        rcases Nat.lt_or_ge i k with z | z
        · exact z
        · exfalso
          rcases Nat.eq_or_lt_of_le z with z | z
          · subst z; omega
          · have := hs k i hk hi z; omega
      unfold lst at h1
      rw [if_neg (by omega)] at h1
      dsimp only at h1
      rw [gd (k - 1) (by omega)] at h1
      rcases Nat.eq_or_lt_of_le (show i ≤ k - 1 by omega) with z | z
      · subst z; omega
      · have := hs i (k - 1) hi (by omega) z; omega

/-- how far a POINT is: its writings L, of which the first n come to the disks -/
def PS (B0 : Nat → Int64) (n : Nat) (fr : Nat → Nat) (dcB : Int) (L : List Wt) (dw : Nat → Int64) (du : Nat → Int) (dn : Int) (df : Bool) (rl dc : Int) (pl : Nat) : Prop :=
  DR (app B0 (L.take n)) dw du dn df ∧ rl = ((n - L.length : Nat) : Int) ∧ dc = dcB + ((min L.length n : Nat) : Int) ∧ pl = lst fr L.length
theorem PS_put {B0 : Nat → Int64} {n : Nat} {fr : Nat → Nat} {dcB : Int} {L : List Wt} {dw dw1 : Nat → Int64} {du : Nat → Int} {dn : Int} {df : Bool} {rl rl1 dc dc1 : Int} {pl : Nat} {x : Wt} {kw : Nat → Int64} (h : PS B0 n fr dcB L dw du dn df rl dc pl) (he : ∀ i, i < 4 → kw i = x.2.1 i)
    (hq : DR (if 0 < rl then upB (app B0 (L.take n)) x.1 kw 4 else app B0 (L.take n)) dw1 du dn df) (hq2 : rl1 = if 0 < rl then rl - 1 else rl) (hq3 : dc1 = if 0 < rl then dc + 1 else dc) :
    DR (app B0 ((L ++ [x]).take n)) dw1 du dn df ∧ rl1 = ((n - (L ++ [x]).length : Nat) : Int) ∧ dc1 = dcB + ((min (L ++ [x]).length n : Nat) : Int) := by
  obtain ⟨h1, h2, h3, h4⟩ := h
  rw [app_take, List.length_append, List.length_singleton]
  by_cases z : L.length < n
  · rw [if_pos z]
    rw [if_pos (by omega), upB_congr he] at hq
    rw [if_pos (by omega)] at hq2 hq3
    exact ⟨hq, by omega, by omega⟩
  · rw [if_neg z]
    rw [if_neg (by omega)] at hq hq2 hq3
    exact ⟨hq, by omega, by omega⟩
theorem PS_fresh {B0 : Nat → Int64} {n : Nat} {fr : Nat → Nat} {dcB : Int} {L : List Wt} {dw dw1 : Nat → Int64} {du : Nat → Int} {dn : Int} {df : Bool} {rl rl1 dc dc1 : Int} {pl ka : Nat} {c kw : Nat → Int64} (h : PS B0 n fr dcB L dw du dn df rl dc pl) (he : ∀ i, i < 4 → kw i = c i)
    (hq : DR (if 0 < rl then upB (app B0 (L.take n)) (fr L.length) kw 4 else app B0 (L.take n)) dw1 du dn df) (hq2 : rl1 = if 0 < rl then rl - 1 else rl) (hq3 : dc1 = if 0 < rl then dc + 1 else dc) :
    PS B0 n fr dcB (L ++ [(fr L.length, c, ka)]) dw1 du dn df rl1 dc1 (fr L.length) := by
  obtain ⟨a1, a2, a3⟩ := PS_put (x := (fr L.length, c, ka)) h he hq hq2 hq3
  refine ⟨a1, a2, a3, ?_⟩
  unfold lst
  rw [List.length_append, List.length_singleton, if_neg (by omega)]
  rfl
theorem FR.at {u : Nat → Bool} {fr : Nat → Nat} {m k pl : Nat} (h : FR u fr m) (hk : k < m) (hp : pl = lst fr k) : (pl < fr k ∧ fr k < 600) ∧ u (fr k) = false ∧ ∀ j, pl < j → j < fr k → u j = true := by
  rw [hp]; exact h k hk
theorem pF_t {fr : Nat → Nat} {a : aM} {f q : Nat} {x : List Wt × (Nat → Nat)} (h : a.2.2.1 f q = true) : pF fr a f (q + 1) x = ((pF fr a f q x).1 ++ [(fr (pF fr a f q x).1.length, mkW (pcO a f q), 3)], va_up (pF fr a f q x).2 (f * 14 + q) (fr (pF fr a f q x).1.length)) := by
  rw [pF, if_pos h]
theorem pF_f {fr : Nat → Nat} {a : aM} {f q : Nat} {x : List Wt × (Nat → Nat)} (h : a.2.2.1 f q = false) : pF fr a f (q + 1) x = pF fr a f q x := by
  rw [pF, if_neg (by rw [h]; simp)]
/-- the PLACES of PIECES, as far as they count -/
def PP (a : aM) (pv pp : Nat → Nat) (f : Nat) : Prop := ∀ g q : Nat, g < 32 → q < 14 → (q * 32 : Int) < a.1 g → (g < f ∨ a.2.2.1 g q = false) → pv (g * 14 + q) = pp (g * 14 + q)
theorem pc_eq {ms : Nat → Int} {mw : Nat → Int64} {mb : Nat → BitVec 32} {mc : BitVec 32} {a : aM} {f q : Nat} {kw : Nat → Int64} (hM : MR ms mw mb mc a) (hO : MO a) (hf : f < 32) (hp : ∀ k, k < 32 → bo kw k = if ((q * 32 + k : Nat) : Int) < ms f then mo mw f (q * 32 + k) else 0) : ∀ i, i < 4 → kw i = mkW (pcO a f q) i := by
  have lt : ∀ r, r < 32 → pcO a f q r < 256 := fun r hr => by
    unfold pcO
    split
    · exact hO f _ hf (by assumption)
    · omega
  refine eq4_bo (fun k hk => ?_)
  rw [bo_mkW lt hk, hp k hk, hM.1 f hf]
  unfold pcO
  split
  · exact hM.2.1 f _ hf (by assumption)
  · rfl
theorem in_eq {ms : Nat → Int} {mw : Nat → Int64} {mb : Nat → BitVec 32} {mc : BitVec 32} {a : aM} {f : Nat} {kw : Nat → Int64} {pv pp : Nat → Nat} (hM : MR ms mw mb mc a) (hB : MB a) (hf : f < 32) (hv : ∀ j, pv j < 65536) (hpp : ∀ r : Nat, r < 14 → (r * 32 : Int) < a.1 f → pv (f * 14 + r) = pp (f * 14 + r)) (hp : ∀ j, j < 16 → nmK kw j = inoN ms pv f j) : ∀ i, i < 4 → kw i = mkW (numO (inN a pp f)) i := by
  have hb := hB.1 f hf
  have e : ∀ j, inoN ms pv f j = inN a pp f j := fun j => by
    unfold inoN inN
    rw [hM.1 f hf]
    by_cases z : j = 0
    · rw [if_pos z, if_pos z]
    · rw [if_neg z, if_neg z]
      by_cases y : j < 1 + ((a.1 f).toNat + 31) / 32
      · rw [if_pos y, if_pos y]
        exact hpp (j - 1) (by omega) (by omega)
      · rw [if_neg y, if_neg y]
  have lt : ∀ r, r < 16 → inN a pp f r < 65536 := fun r _ => by
    rw [← e r]
    unfold inoN
    rw [hM.1 f hf]
    split
    · omega
    · split
      · exact hv _
      · omega
  exact eq4_nm (fun k hk => by rw [nmK_mkW lt hk, hp k hk, e])
theorem nm_eq {kw : Nat → Int64} {n : Nat → Nat} (h : ∀ j, j < 16 → n j < 65536) (hp : ∀ j, j < 16 → nmK kw j = n j) : ∀ i, i < 4 → kw i = mkW (numO n) i := eq4_nm (fun k hk => by rw [nmK_mkW h hk, hp k hk])
theorem pF_oth {fr : Nat → Nat} {a : aM} {f : Nat} {x : List Wt × (Nat → Nat)} {j : Nat} (h : j / 14 ≠ f) : ∀ q, q ≤ 14 → (pF fr a f q x).2 j = x.2 j
  | 0, _ => rfl
  | q + 1, hq => by
    rw [pF]
    split
    · show va_up _ _ _ j = _
      unfold va_up
      rw [if_neg (by omega)]
      exact pF_oth h q (by omega)
    · exact pF_oth h q (by omega)
theorem pI_m {fr : Nat → Nat} {a : aM} {f : Nat} {x : List Wt × (Nat → Nat) × (Nat → Nat)} (h : a.1 f = -1) : pI fr a f x = ((pF fr a f 14 (x.1, x.2.1)).1, (pF fr a f 14 (x.1, x.2.1)).2, va_up x.2.2 f 0) := by
  unfold pI; rw [if_pos h]
theorem pI_p {fr : Nat → Nat} {a : aM} {f : Nat} {x : List Wt × (Nat → Nat) × (Nat → Nat)} (h : ¬ a.1 f = -1) : pI fr a f x = ((pF fr a f 14 (x.1, x.2.1)).1 ++ [(fr (pF fr a f 14 (x.1, x.2.1)).1.length, mkW (numO (inN a (pF fr a f 14 (x.1, x.2.1)).2 f)), 2)], (pF fr a f 14 (x.1, x.2.1)).2, va_up x.2.2 f (fr (pF fr a f 14 (x.1, x.2.1)).1.length)) := by
  unfold pI; rw [if_neg h]
theorem vs {α : Type} {g : Nat → α} {i : Nat} {v : α} : va_up g i v i = v := by unfold va_up; rw [if_pos rfl]
theorem vn {α : Type} {g : Nat → α} {i j : Nat} {v : α} (h : j ≠ i) : va_up g i v j = g j := by unfold va_up; rw [if_neg h]
theorem tb_any (m : BitVec 32) {h : Nat} (hh : h < 2) : halfC m h = (List.range 16).any (fun i => m.getLsbD (h * 16 + i)) := by
  rw [Bool.eq_iff_iff]
  unfold halfC
  rw [decide_eq_true_eq, List.any_eq_true]
  constructor
  · intro z
    rcases Classical.em (∃ x, x ∈ List.range 16 ∧ m.getLsbD (h * 16 + x) = true) with y | y
    · exact y
    · exfalso
      apply z
      apply Nat.eq_of_testBit_eq
      intro i
      rw [show (65536 : Nat) = 2 ^ 16 from rfl, Nat.testBit_mod_two_pow, Nat.testBit_div_two_pow, Nat.zero_testBit, BitVec.testBit_toNat]
      by_cases q : i < 16
      · have : ¬ m.getLsbD (i + h * 16) = true := fun w => y ⟨i, List.mem_range.mpr q, by rw [Nat.add_comm]; exact w⟩
        simp [this]
      · simp [q]
  · rintro ⟨i, hi, hb⟩ z
    have hi := List.mem_range.mp hi
    have := congrArg (fun t => t.testBit i) z
    simp only [show (65536 : Nat) = 2 ^ 16 from rfl, Nat.testBit_mod_two_pow, Nat.testBit_div_two_pow, Nat.zero_testBit, BitVec.testBit_toNat, hi, decide_true, Bool.true_and] at this
    rw [Nat.add_comm, hb] at this
    cases this
theorem halfC_ch {ms : Nat → Int} {mw : Nat → Int64} {mb : Nat → BitVec 32} {mc : BitVec 32} {a : aM} {h : Nat} (hM : MR ms mw mb mc a) (hh : h < 2) : halfC mc h = chH a h := by
  rw [tb_any mc hh]
  unfold chH
  rw [Bool.eq_iff_iff, List.any_eq_true, List.any_eq_true]
  constructor
  · rintro ⟨i, hi, z⟩
    have hi2 := List.mem_range.mp hi
    exact ⟨i, hi, by rw [← hM.2.2.2 _ (by omega)]; exact z⟩
  · rintro ⟨i, hi, z⟩
    have hi2 := List.mem_range.mp hi
    exact ⟨i, hi, by rw [hM.2.2.2 _ (by omega)]; exact z⟩
