/-! the reference's changes -/
def RT (B : Nat → Int64) (ih gk gf go : Nat → Nat) (gv : Nat → Int64) (gl : Nat) (dc : Int) (eP : Nat → Nat) (es : Nat → Int) (ed : Nat → Nat → Nat) (ec : Nat → Bool) (ew : Nat → Nat → Bool) (lk lf lo : Nat → Nat) (lv : Nat → Int64) (le : Nat) (eW : Int) : Prop :=
  RP B eP ∧ RM es ed ew ec (aRun gk gf go gv (lodA B ih) gl) ∧ lk = gk ∧ lf = gf ∧ lo = go ∧ lv = gv ∧ le = gl ∧ eW = dc
theorem po_upB {B : Nat → Int64} {p : Nat} {kw : Nat → Int64} {x j : Nat} (hj : j < 32) : po (upB B p kw 4) x j = if x = p then bo kw j else po B x j := by
  unfold po bo
  rw [upB_4]
  by_cases e : x = p
  · rw [if_pos e, if_pos (by omega), show (4 * x + j / 8) % 4 = j / 8 by omega]
  · rw [if_neg e, if_neg (by omega)]
theorem RP_put {B : Nat → Int64} {wP yP eh et : Nat → Nat} {L : List Wt} {k : Nat} (h : RP (app B (L.take k)) wP) (hk : k < L.length) (hL : PLN L et eh) (hy : ∀ p j, p < 600 → j < 32 → yP (p * 32 + j) = if p = et k then eh (k * 32 + j) else wP (p * 32 + j)) : RP (app B (L.take (k + 1))) yP := by
  obtain ⟨h1, h2⟩ := hL k L[k] (List.getElem?_eq_getElem hk)
  rw [List.take_succ_eq_append_getElem hk, app_snoc]
  intro p j hp hj
  rw [po_upB hj, hy p j hp hj, h1]
  by_cases e : p = L[k].1
  · rw [if_pos e, if_pos e]; exact h2 j hj
  · rw [if_neg e, if_neg e]; exact h p j hp hj
theorem RM_set {es es1 : Nat → Int} {ed : Nat → Nat → Nat} {ew ew1 : Nat → Nat → Bool} {ec ec1 : Nat → Bool} {a : aM} (h : RM es ed ew ec a) (h1 : ∀ g, g < 32 → es1 g = es g) (h2 : ∀ g, g < 32 → ec1 g = false) (h3 : ∀ g q, g < 32 → q < 14 → ew1 g q = false) : RM es1 ed ew1 ec1 (a.1, a.2.1, fun _ _ => false, fun _ => false) :=
  ⟨fun g hg => (h1 g hg).trans (h.1 g hg), h.2.1, fun g q hg hq => h3 g q hg hq, fun g hg => h2 g hg⟩
theorem plL_lt {B : Nat → Int64} {ih : Nat → Nat} {iN : Nat} {u : Nat → Bool} {a : aM} (hB : MB a) (h0 : u 0 = true) (hm : (plY B ih u a).1.length ≤ fc u 600) : ∀ x, x ∈ plL B ih iN u a → x.1 < 600 := by
  intro x hx
  obtain ⟨i1, -⟩ := pL_all (fr := fR u) (a := a) (pp := pp0 B ih) (ii := ii0 B ih) (fun f hf => (hB.1 f hf).2) 32 (Nat.le_refl _)
  obtain ⟨j1, -⟩ := pH_all (fR u) a (plX B ih u a).2.2 ((plX B ih u a).1, ih) 2
  unfold plL at hx
  rcases List.mem_append.mp hx with z | z
  · exact (PL_mem (j1 i1) (FR_of u h0) hm z).2.1
  · rw [List.mem_singleton] at z
    rw [z]; show 0 < 600; omega
theorem aRun_n {lk lf lo : Nat → Nat} {lv : Nat → Int64} {a : aM} {n k f o : Nat} {v : Int64} : ∀ m, m ≤ n → aRun (va_up lk n k) (va_up lf n f) (va_up lo n o) (va_up lv n v) a m = aRun lk lf lo lv a m
  | 0, _ => rfl
  | m + 1, hm => by
    show aS _ _ _ _ _ = aS _ _ _ _ _
    rw [aRun_n m (by omega), vn (by omega), vn (by omega), vn (by omega), vn (by omega)]
theorem aRun_up {lk lf lo : Nat → Nat} {lv : Nat → Int64} {a : aM} {n k f o : Nat} {v : Int64} : aRun (va_up lk n k) (va_up lf n f) (va_up lo n o) (va_up lv n v) a (n + 1) = aS (aRun lk lf lo lv a n) k f o v := by
  show aS _ _ _ _ _ = _
  rw [aRun_n n (Nat.le_refl _), vs, vs, vs, vs]
theorem RW_info {eP n : Nat → Nat} {j v : Nat} (h : RW eP 0 (numO n)) (hj : j < 16) (hv : v < 65536) : RW (va_up (va_up eP (2 * j) (v / 256)) (2 * j + 1) (v % 256)) 0 (numO (va_up n j v)) := by
  have z := RW_put (v := v) h hj
  rw [Nat.zero_mul, Nat.zero_add, show v / 256 % 256 = v / 256 by omega, show v % 65536 = v by omega] at z
  exact z
theorem RP_info {B : Nat → Int64} {ro ih eP eQ : Nat → Nat} {iN k x y : Nat} (hA : AI B ro ih iN) (hN : iN < 2 ^ 31) (hP : RP B eP) (hk : k < 5) (hx : x < 65536) (hy : y < 65536)
    (hb : ∀ j, va_up (va_up ih ((k + 1) * 2) x) ((k + 1) * 2 + 1) y j < 65536)
    (e : eQ = va_up (va_up (va_up (va_up eP (8 + 4 * k) (x / 256)) (8 + 4 * k + 1) (x % 256)) (8 + 4 * k + 2) (y / 256)) (8 + 4 * k + 3) (y % 256)) : RP (inB B iN (va_up (va_up ih ((k + 1) * 2) x) ((k + 1) * 2 + 1) y)) eQ := by
  intro p j hp hj
  unfold inB
  rw [po_upB hj]
  by_cases z : p = 0
  · rw [if_pos z, bo_mkW (numO_lt (fun r hr => info_lt hN hb)) hj, z]
    have h0 : RW eP 0 (numO (infoN iN ih)) := fun j hj => by
      rw [hP 0 j (by omega) hj, po_num B 0 hj]
      exact numO_n hA.2.2 j hj
    have h1 := RW_info (RW_info h0 (show 4 + 2 * k < 16 by omega) hx) (show 5 + 2 * k < 16 by omega) hy
    have h2 := h1 j hj
    rw [e, show 8 + 4 * k + 2 = 2 * (5 + 2 * k) by omega, show 8 + 4 * k + 3 = 2 * (5 + 2 * k) + 1 by omega, show 8 + 4 * k = 2 * (4 + 2 * k) by omega, h2]
    refine numO_n (fun r hr => ?_) j hj
    unfold va_up infoN
    dsimp only
    by_cases e5 : r = 5 + 2 * k
    · rw [if_pos e5, if_neg (by omega), if_neg (by omega), if_pos (by omega), if_pos (by omega)]
    · rw [if_neg e5]
      by_cases e4 : r = 4 + 2 * k
      · rw [if_pos e4, if_neg (by omega), if_neg (by omega), if_pos (by omega), if_neg (by omega), if_pos (by omega)]
      · rw [if_neg e4]
        by_cases q0 : r = 0
        · rw [if_pos q0, if_pos q0]
        · rw [if_neg q0, if_neg q0]
          by_cases q1 : r = 1
          · rw [if_pos q1, if_pos q1]
          · rw [if_neg q1, if_neg q1]
            by_cases q2 : r < 14
            · rw [if_pos q2, if_pos q2, if_neg (by omega), if_neg (by omega)]
            · rw [if_neg q2, if_neg q2]
  · rw [if_neg z, e]
    have w : ∀ c : Nat, c < 32 → ¬ p * 32 + j = c := fun c hc => by omega
    rw [vn (w _ (by omega)), vn (w _ (by omega)), vn (w _ (by omega)), vn (w _ (by omega))]
    exact hP p j hp hj
theorem sn_b {y ih : Nat → Nat} (h1 : ∀ r, r < 2 → y r < 600) (h2 : ∀ k, 2 ≤ k → y k = ih k) (h3 : ∀ j, ih j < 65536) (k : Nat) : ∀ j, va_up (va_up y ((k + 1) * 2) (y 0)) ((k + 1) * 2 + 1) (y 1) j < 65536 := by
  have hy : ∀ j, y j < 65536 := fun j => by
    by_cases z : j < 2
    · have := h1 j z; omega
    · rw [h2 j (by omega)]; exact h3 j
  intro j
  unfold va_up
  split
  · exact hy 1
  · split
    · exact hy 0
    · exact hy j
