/-! the reference's plan: rows of octets to be written -/
def RW (eh : Nat → Nat) (r : Nat) (o : Nat → Nat) : Prop := ∀ k, k < 32 → eh (r * 32 + k) = o k
def PLN (L : List Wt) (et eh : Nat → Nat) : Prop := ∀ i x, L[i]? = some x → et i = x.1 ∧ RW eh i (bo x.2.1)
def FU (eu u : Nat → Bool) (fr : Nat → Nat) (k : Nat) : Prop := ∀ p, p < 600 → (eu p = true ↔ (u p = true ∨ ∃ i, i < k ∧ p = fr i))
def PLS (u : Nat → Bool) (L : List Wt) (et eh : Nat → Nat) (eu : Nat → Bool) (em : Nat) : Prop := PLN L et eh ∧ em = L.length ∧ FU eu u (fR u) em ∧ em ≤ fc u 600
theorem RW_up {eh o : Nat → Nat} {r k v : Nat} (h : RW eh r o) (hk : k < 32) : RW (va_up eh (r * 32 + k) v) r (va_up o k v) := by
  intro j hj
  unfold va_up
  by_cases e : j = k
  · rw [if_pos (by omega), if_pos e]
  · rw [if_neg (by omega), if_neg e]; exact h j hj
theorem RW_n {eh o o1 : Nat → Nat} {r : Nat} (h : RW eh r o) (e : ∀ k, k < 32 → o k = o1 k) : RW eh r o1 := fun k hk => (h k hk).trans (e k hk)
theorem numO_n {n n1 : Nat → Nat} (e : ∀ j, j < 16 → n j = n1 j) : ∀ k, k < 32 → numO n k = numO n1 k := fun k hk => by unfold numO; rw [e _ (by omega)]
theorem numO_put {n : Nat → Nat} {j v : Nat} (k : Nat) : va_up (va_up (numO n) (2 * j) (v / 256 % 256)) (2 * j + 1) (v % 256) k = numO (va_up n j (v % 65536)) k := by
  unfold va_up numO
  by_cases e1 : k = 2 * j + 1
  · rw [if_pos e1, if_neg (by omega)]
    show _ = (if k / 2 = j then v % 65536 else n (k / 2)) % 256
    rw [if_pos (by omega)]; omega
  · rw [if_neg e1]
    by_cases e2 : k = 2 * j
    · rw [if_pos e2, if_pos (by omega)]
      show _ = (if k / 2 = j then v % 65536 else n (k / 2)) / 256
      rw [if_pos (by omega)]; omega
    · rw [if_neg e2]
      have e3 : ¬ k / 2 = j := by omega
      simp only [e3, if_false]
theorem RW_put {eh n : Nat → Nat} {r j v : Nat} (h : RW eh r (numO n)) (hj : j < 16) : RW (va_up (va_up eh (r * 32 + 2 * j) (v / 256 % 256)) (r * 32 + 2 * j + 1) (v % 256)) r (numO (va_up n j (v % 65536))) := by
  rw [show r * 32 + 2 * j + 1 = r * 32 + (2 * j + 1) by omega]
  exact RW_n (RW_up (RW_up h (by omega)) (by omega)) (fun k _ => numO_put k)
theorem PLN_up {L : List Wt} {et eh : Nat → Nat} {r k v : Nat} (h : PLN L et eh) (hr : L.length ≤ r) : PLN L et (va_up eh (r * 32 + k) v) := by
  intro i x hx
  obtain ⟨h1, h2⟩ := h i x hx
  have hi : i < L.length := (List.getElem?_eq_some_iff.mp hx).1
  refine ⟨h1, fun j hj => ?_⟩
  rw [vn (by omega)]; exact h2 j hj
theorem PLN_to {L : List Wt} {et eh : Nat → Nat} {r v : Nat} (h : PLN L et eh) (hr : L.length ≤ r) : PLN L (va_up et r v) eh := by
  intro i x hx
  obtain ⟨h1, h2⟩ := h i x hx
  have hi : i < L.length := (List.getElem?_eq_some_iff.mp hx).1
  exact ⟨by rw [vn (by omega)]; exact h1, h2⟩
theorem PLN_nil (et eh : Nat → Nat) : PLN [] et eh := fun i x hx => by simp at hx
theorem PLN_snoc {L : List Wt} {et eh o : Nat → Nat} {p kk : Nat} (h : PLN L et eh) (ht : et L.length = p) (hr : RW eh L.length o) (ho : ∀ r, r < 32 → o r < 256) : PLN (L ++ [(p, mkW o, kk)]) et eh := by
  intro i x hx
  rcases Nat.lt_trichotomy i L.length with z | z | z
  · rw [List.getElem?_append_left z] at hx; exact h i x hx
  · subst z
    rw [List.getElem?_append_right (Nat.le_refl _), Nat.sub_self] at hx
    simp at hx
    rw [← hx]
    exact ⟨ht, RW_n hr (fun k hk => (bo_mkW ho hk).symm)⟩
  · rw [List.getElem?_eq_none (by simp; omega)] at hx
    cases hx
theorem numO_lt {n : Nat → Nat} (h : ∀ j, j < 16 → n j < 65536) : ∀ k, k < 32 → numO n k < 256 := fun k hk => by
  have := h (k / 2) (by omega)
  unfold numO; split <;> omega
theorem PLS_snoc {u eu1 : Nat → Bool} {L : List Wt} {et1 eh1 o : Nat → Nat} {em em1 kk : Nat} (hem : em = L.length) (hk : em < fc u 600) (h1 : em1 = em + 1) (hL : PLN L et1 eh1) (ht : et1 em = fR u em) (hr : RW eh1 em o) (ho : ∀ r, r < 32 → o r < 256) (hU : FU eu1 u (fR u) (em + 1)) : PLS u (L ++ [(fR u L.length, mkW o, kk)]) et1 eh1 eu1 em1 := by
  subst hem
  refine ⟨PLN_snoc hL ht hr ho, by rw [h1]; simp, by rw [h1]; exact hU, by omega⟩
theorem fc0 {u : Nat → Bool} (h : u 0 = true) : ∀ n, fc u (n + 1) ≤ n
  | 0 => by show fc u 0 + _ ≤ 0; rw [if_pos h]; exact Nat.le_refl 0
  | n + 1 => by
    have := fc0 h n
    show fc u (n + 1) + _ ≤ n + 1
    split <;> omega
theorem fR_all {u : Nat → Bool} {p : Nat} (hp : p < 600) (h : u p = false) : ∃ i, i < fc u 600 ∧ p = fR u i := by
  obtain ⟨i, hi, e⟩ := List.getElem_of_mem ((frB_mem u 600 p).mpr ⟨hp, h⟩)
  refine ⟨i, by rw [← frB_len]; exact hi, ?_⟩
  unfold fR
  rw [List.getD_eq_getElem?_getD, List.getElem?_eq_getElem hi, e]; rfl
theorem fresh_k {eu u : Nat → Bool} {fr : Nat → Nat} {m k p : Nat} (hU : FU eu u fr k) (hF : FR u fr m) (hc : ∀ p, p < 600 → u p = false → ∃ i, i < m ∧ p = fr i) (hp : p < 600) (he : eu p = false) (hw : ∀ j, 0 < j → j < p → eu j = true) : k < m ∧ p = fr k := by
  have hn : ¬ (u p = true ∨ ∃ i, i < k ∧ p = fr i) := fun z => by rw [(hU p hp).mpr z] at he; cases he
  have hu : u p = false := by
    cases z : u p
    · rfl
    · exact absurd (Or.inl z) hn
  obtain ⟨i, hi, e⟩ := hc p hp hu
  have hik : ¬ i < k := fun z => hn (Or.inr ⟨i, z, e⟩)
  rcases Nat.eq_or_lt_of_le (Nat.le_of_not_lt hik) with z | z
  · subst z; exact ⟨hi, e⟩
  · exfalso
    have hlt := hF.lt i z hi
    obtain ⟨⟨f1, f2⟩, f3, -⟩ := hF k (by omega)
    have hf := hw (fr k) (by omega) (by omega)
    rcases (hU (fr k) f2).mp hf with y | ⟨j, hj, y⟩
    · rw [f3] at y; cases y
    · have := hF.lt k hj (by omega)
      omega
theorem fresh_no {eu u : Nat → Bool} {fr : Nat → Nat} {m k : Nat} (hU : FU eu u fr k) (hF : FR u fr m) (hw : ∀ j, 0 < j → j < 600 → eu j = true) : ¬ k < m := by
  intro hk
  obtain ⟨⟨f1, f2⟩, f3, -⟩ := hF k hk
  rcases (hU (fr k) f2).mp (hw (fr k) (by omega) f2) with y | ⟨j, hj, y⟩
  · rw [f3] at y; cases y
  · have := hF.lt k hj hk
    omega
theorem FU_s {eu u : Nat → Bool} {fr : Nat → Nat} {k p : Nat} (hU : FU eu u fr k) (hp : p = fr k) : FU (va_up eu p true) u fr (k + 1) := fun x hx => by
  rw [vt, hU x hx, hp]; exact ex_s (P := fun i => x = fr i)
theorem pF_stop {fr : Nat → Nat} {a : aM} {f : Nat} {x : List Wt × (Nat → Nat)} (hB : MB a) (hf : f < 32) : ∀ q d, ((a.1 f).toNat + 31) / 32 ≤ q → q + d ≤ 14 → pF fr a f (q + d) x = pF fr a f q x
  | q, 0, _, _ => rfl
  | q, d + 1, h1, h2 => by
    have hw : a.2.2.1 f (q + d) = false := by
      cases z : a.2.2.1 f (q + d)
      · rfl
      · have := hB.2 f (q + d) hf (by omega) z
        omega
    rw [← pF_stop hB hf q d h1 (by omega)]
    exact pF_f hw
def inR (a : aM) (xp : Nat → Int) (f r j : Nat) : Nat := if j = 0 then (a.1 f).toNat else if j < 1 + r then (xp (j - 1)).toNat else 0
theorem po_num (B : Nat → Int64) (p : Nat) {k : Nat} (hk : k < 32) : po B p k = numO (num B p) k := by
  have h1 := num_po B p (show k / 2 < 16 by omega)
  have h2 := po_lt B p (2 * (k / 2) + 1)
  have h3 := po_lt B p (2 * (k / 2))
  unfold numO
  rw [h1]
  by_cases e : k % 2 = 0
  · have : k = 2 * (k / 2) := by omega
    rw [if_pos e, show po B p k = po B p (2 * (k / 2)) by rw [← this]]; omega
  · rw [if_neg e]
    have : k = 2 * (k / 2) + 1 := by omega
    rw [show po B p k = po B p (2 * (k / 2) + 1) by rw [← this]]; omega
theorem plX_lt {B : Nat → Int64} {ro ih : Nat → Nat} {iN : Nat} {u : Nat → Bool} {a : aM} (h : AI B ro ih iN) (hB : MB a) (h0 : u 0 = true) (hm : (plX B ih u a).1.length ≤ fc u 600) : ∀ g, g < 32 → (plX B ih u a).2.2 g < 600 := by
  intro g hg
  obtain ⟨i1, i2, i3, i4, i5, i6, i7⟩ := pL_all (fr := fR u) (a := a) (pp := pp0 B ih) (ii := ii0 B ih) (fun f hf => (hB.1 f hf).2) 32 (Nat.le_refl _)
  show (pL (fR u) a (pp0 B ih) (ii0 B ih) 32).2.2 g < 600
  cases hc : a.2.2.2 g with
  | false =>
    rw [i6 g (Or.inr hc)]
    show inoO B ih 0 g < 600
    rcases inoO_ok h.1 h.2.1 (show 0 < 6 by omega) hg with z | z <;> omega
  | true =>
    by_cases e : a.1 g = -1
    · rw [i5 g hg hc e]; omega
    · exact (PL_mem i1 (FR_of u h0) hm (i4 g hg hc e)).2.1
theorem plY_lt {B : Nat → Int64} {ro ih : Nat → Nat} {iN : Nat} {u : Nat → Bool} {a : aM} (h : AI B ro ih iN) (hB : MB a) (h0 : u 0 = true) (hm : (plY B ih u a).1.length ≤ fc u 600) : ∀ r, r < 2 → (plY B ih u a).2 r < 600 := by
  intro r hr
  obtain ⟨i1, -⟩ := pL_all (fr := fR u) (a := a) (pp := pp0 B ih) (ii := ii0 B ih) (fun f hf => (hB.1 f hf).2) 32 (Nat.le_refl _)
  obtain ⟨j1, j2, j3, j4, j5⟩ := pH_all (fR u) a (plX B ih u a).2.2 ((plX B ih u a).1, ih) 2
  show (pH (fR u) a (plX B ih u a).2.2 ((plX B ih u a).1, ih) 2).2 r < 600
  cases hc : chH a r with
  | false =>
    rw [j4 r (Or.inr hc)]
    rcases h.2.1 r (by omega) with z | z
    · show ih r < 600; omega
    · exact z.1
  | true => exact (PL_mem (j1 i1) (FR_of u h0) hm (j3 r hr hc)).2.1
theorem plX_Y (B : Nat → Int64) (ih : Nat → Nat) (u : Nat → Bool) (a : aM) : (plX B ih u a).1.length ≤ (plY B ih u a).1.length := pH_mono (fR u) a (plX B ih u a).2.2 ((plX B ih u a).1, ih) (show 0 ≤ 2 by omega)
theorem plF_Y (B : Nat → Int64) (ih : Nat → Nat) (u : Nat → Bool) (a : aM) {f : Nat} (hf : f < 32) (hc : a.2.2.2 f = true) {q : Nat} (hq : q ≤ 14) : (pF (fR u) a f q ((pL (fR u) a (pp0 B ih) (ii0 B ih) f).1, (pL (fR u) a (pp0 B ih) (ii0 B ih) f).2.1)).1.length ≤ (plY B ih u a).1.length := by
  have h1 := pF_mono (fR u) a f ((pL (fR u) a (pp0 B ih) (ii0 B ih) f).1, (pL (fR u) a (pp0 B ih) (ii0 B ih) f).2.1) hq
  have h2 := (pI_len (fR u) a f (pL (fR u) a (pp0 B ih) (ii0 B ih) f)).1
  have h3 := pL_mono (fR u) a (pp0 B ih) (ii0 B ih) (show f + 1 ≤ 32 by omega)
  have e : pL (fR u) a (pp0 B ih) (ii0 B ih) (f + 1) = pI (fR u) a f (pL (fR u) a (pp0 B ih) (ii0 B ih) f) := by rw [pL, if_pos hc]
  rw [e] at h3
  have h4 := plX_Y B ih u a
  have h5 : (pL (fR u) a (pp0 B ih) (ii0 B ih) 32).1.length = (plX B ih u a).1.length := rfl
  omega
theorem plI_Y (B : Nat → Int64) (ih : Nat → Nat) (u : Nat → Bool) (a : aM) {f : Nat} (hf : f < 32) (hc : a.2.2.2 f = true) (hs : ¬ a.1 f = -1) : (pF (fR u) a f 14 ((pL (fR u) a (pp0 B ih) (ii0 B ih) f).1, (pL (fR u) a (pp0 B ih) (ii0 B ih) f).2.1)).1.length + 1 ≤ (plY B ih u a).1.length := by
  have h2 : (pI (fR u) a f (pL (fR u) a (pp0 B ih) (ii0 B ih) f)).1.length = (pF (fR u) a f 14 ((pL (fR u) a (pp0 B ih) (ii0 B ih) f).1, (pL (fR u) a (pp0 B ih) (ii0 B ih) f).2.1)).1.length + 1 := by
    rw [pI_p hs]; simp
  have h3 := pL_mono (fR u) a (pp0 B ih) (ii0 B ih) (show f + 1 ≤ 32 by omega)
  have e : pL (fR u) a (pp0 B ih) (ii0 B ih) (f + 1) = pI (fR u) a f (pL (fR u) a (pp0 B ih) (ii0 B ih) f) := by rw [pL, if_pos hc]
  rw [e] at h3
  have h4 := plX_Y B ih u a
  have h5 : (pL (fR u) a (pp0 B ih) (ii0 B ih) 32).1.length = (plX B ih u a).1.length := rfl
  omega
theorem pH_Y (B : Nat → Int64) (ih : Nat → Nat) (u : Nat → Bool) (a : aM) {h : Nat} (hh : h < 2) (hc : chH a h = true) : (pH (fR u) a (plX B ih u a).2.2 ((plX B ih u a).1, ih) h).1.length + 1 ≤ (plY B ih u a).1.length := by
  have h1 := pH_mono (fR u) a (plX B ih u a).2.2 ((plX B ih u a).1, ih) (show h + 1 ≤ 2 by omega)
  have e : (pH (fR u) a (plX B ih u a).2.2 ((plX B ih u a).1, ih) (h + 1)).1.length = (pH (fR u) a (plX B ih u a).2.2 ((plX B ih u a).1, ih) h).1.length + 1 := by
    rw [pH, if_pos hc]; simp
  have h2 : (pH (fR u) a (plX B ih u a).2.2 ((plX B ih u a).1, ih) 2).1.length = (plY B ih u a).1.length := rfl
  omega
theorem WQ_new {cI cJ cZ cII cZZ : ClassId} {X : va_W} {c : Nat × va_E} {t0 : Nat} {t1 : Nat} {t2 : Nat} {t3 : Nat} {t4 : Nat} {t5 : Nat} {t6 : Nat} {t7 : Nat} {t8 : Nat} {t9 : Nat} {tA : Nat} {tB : Nat} {tC : Nat} {tD : Nat} {tR : Nat → Nat} {tS : Nat → Nat} {e0 : Nat} {eP : Nat → Nat} {eb : Int} {er : Int} {ek : Bool} {es : Nat → Int} {ed : Nat → Nat → Nat} {ec : Nat → Bool} {ew : Nat → Nat → Bool} {lk : Nat → Nat} {lf : Nat → Nat} {lo : Nat → Nat} {lv : Nat → Int64} {le : Nat} {eW : Int} {et : Nat → Nat} {eh : Nat → Nat} {ei : Nat → Int} {eu : Nat → Bool} {em : Nat} : (WQ cI cJ cZ cII cZZ X t0 t1 t2 t3 t4 t5 t6 t7 t8 t9 tA tB tC tD tR tS e0 eP eb er ek es ed ec ew lk lf lo lv le eW et eh ei eu em ++ [c]).Perm (WQ cI cJ cZ cII cZZ (X ++ [c]) t0 t1 t2 t3 t4 t5 t6 t7 t8 t9 tA tB tC tD tR tS e0 eP eb er ek es ed ec ew lk lf lo lv le eW et eh ei eu em) := by
  unfold WQ
  rw [← List.append_assoc _ X [c], List.append_assoc _ _ [c], List.append_assoc _ [c] _]
  exact List.Perm.append_left _ List.perm_append_comm
theorem WQ_drop {D : va_G} {A : Nat → Prop} {H0 H : Heap} {locs : List Loc} {cI cJ cZ cII cZZ : ClassId} {X : va_W} {t0 : Nat} {t1 : Nat} {t2 : Nat} {t3 : Nat} {t4 : Nat} {t5 : Nat} {t6 : Nat} {t7 : Nat} {t8 : Nat} {t9 : Nat} {tA : Nat} {tB : Nat} {tC : Nat} {tD : Nat} {tR : Nat → Nat} {tS : Nat → Nat} {e0 : Nat} {eP : Nat → Nat} {eb : Int} {er : Int} {ek : Bool} {es : Nat → Int} {ed : Nat → Nat → Nat} {ec : Nat → Bool} {ew : Nat → Nat → Bool} {lk : Nat → Nat} {lf : Nat → Nat} {lo : Nat → Nat} {lv : Nat → Int64} {le : Nat} {eW : Int} {et : Nat → Nat} {eh : Nat → Nat} {ei : Nat → Int} {eu : Nat → Bool} {em : Nat} (h : zS D A H0 H locs (WQ cI cJ cZ cII cZZ X t0 t1 t2 t3 t4 t5 t6 t7 t8 t9 tA tB tC tD tR tS e0 eP eb er ek es ed ec ew lk lf lo lv le eW et eh ei eu em)) : zS D A H0 H locs (WQ cI cJ cZ cII cZZ [] t0 t1 t2 t3 t4 t5 t6 t7 t8 t9 tA tB tC tD tR tS e0 eP eb er ek es ed ec ew lk lf lo lv le eW et eh ei eu em) :=
  z_sub (z_perm WQ_pm h) _ (sub_d _ _).2.1 (sub_r X _)
theorem info_pl {B : Nat → Int64} {ih y : Nat → Nat} {iN j : Nat} (h1 : num B 0 j = infoN iN ih j) (y0 : y 0 < 600) (y1 : y 1 < 600) (hk : ∀ k, 2 ≤ k → y k = ih k) (hN : iN + 1 < 2 ^ 31) (hj : j < 16) :
    va_up (va_up (va_up (va_up (num B 0) 0 ((iN + 1) / 65536 % 65536)) 1 ((iN + 1) % 65536)) 2 (y 0 % 65536)) 3 (y 1 % 65536) j = infoN (iN + 1) y j := by
  unfold va_up infoN
  by_cases e3 : j = 3
  · rw [if_pos e3, if_neg (by omega), if_neg (by omega), if_pos (by omega), e3]; show y 1 % 65536 = y 1; omega
  · rw [if_neg e3]
    by_cases e2 : j = 2
    · rw [if_pos e2, if_neg (by omega), if_neg (by omega), if_pos (by omega), e2]; show y 0 % 65536 = y 0; omega
    · rw [if_neg e2]
      by_cases e1 : j = 1
      · rw [if_pos e1, if_neg (by omega), if_pos e1]
      · rw [if_neg e1]
        by_cases e0 : j = 0
        · rw [if_pos e0, if_pos e0]; omega
        · rw [if_neg e0, if_neg e0, if_neg e1, h1]
          unfold infoN
          rw [if_neg e0, if_neg e1, hk (j - 2) (by omega)]
theorem info_pl2 {B : Nat → Int64} {ro ih y : Nat → Nat} {iN j : Nat} (hA : AI B ro ih iN) (y0 : y 0 < 600) (y1 : y 1 < 600) (hk : ∀ k, 2 ≤ k → y k = ih k) (hN : iN + 1 < 2 ^ 31) (hj : j < 16) : infoN (iN + 1) y j < 65536 := by
  unfold infoN
  split
  · omega
  · split
    · omega
    · split
      · rename_i e0 e1 e2
        by_cases e : j - 2 < 2
        · rcases (show j - 2 = 0 ∨ j - 2 = 1 by omega) with z | z <;> rw [z] <;> omega
        · rw [hk _ (by omega)]
          rcases hA.2.1 (j - 2) (by omega) with z | z <;> omega
      · omega
