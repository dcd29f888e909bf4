/-! reading all back -/
def ihB (B : Nat → Int64) (i : Nat) : Nat := num B 0 (2 + i)
theorem ihB_eq {B : Nat → Int64} {ro ih : Nat → Nat} {iN : Nat} (h : AI B ro ih iN) {k : Nat} (hk : k < 12) : ihB B k = ih k := by
  unfold ihB
  rw [h.2.2 (2 + k) (by omega)]
  unfold infoN
  rw [if_neg (by omega), if_neg (by omega), if_pos (by omega), show 2 + k - 2 = k by omega]
theorem iNB_eq {B : Nat → Int64} {ro ih : Nat → Nat} {iN : Nat} (h : AI B ro ih iN) : num B 0 0 * 65536 + num B 0 1 = iN := by
  rw [h.2.2 0 (by omega), h.2.2 1 (by omega)]
  unfold infoN
  rw [if_pos rfl, if_neg (by omega), if_pos rfl]
  omega
theorem iNB_lt {B : Nat → Int64} {ro ih : Nat → Nat} {iN : Nat} (h : AI B ro ih iN) (hN : iN < 2 ^ 31) : num B 0 0 < 32768 := by
  rw [h.2.2 0 (by omega)]
  unfold infoN
  rw [if_pos rfl]
  omega
theorem AI_ihB {B : Nat → Int64} {ro ih : Nat → Nat} {iN : Nat} (h : AI B ro ih iN) : AI B ro (ihB B) iN := by
  refine ⟨h.1, fun k hk => by rw [ihB_eq h hk]; exact h.2.1 k hk, fun j hj => ?_⟩
  rw [h.2.2 j hj]
  unfold infoN
  split
  · rfl
  · split
    · rfl
    · split
      · rw [ihB_eq h (by omega)]
      · rfl
theorem ino_ih {B : Nat → Int64} {ih ih1 : Nat → Nat} (e : ∀ k, k < 12 → ih1 k = ih k) {m f : Nat} (hm : m < 6) (hf : f < 32) : inoO B ih1 m f = inoO B ih m f := by
  unfold inoO; rw [e _ (by omega)]
theorem lod_ih {B : Nat → Int64} {ih ih1 : Nat → Nat} (e : ∀ k, k < 12 → ih1 k = ih k) : aE (lodA B ih) (lodA B ih1) := by
  refine ⟨fun f hf => ?_, fun f k hf hk => ?_, fun _ _ _ _ => rfl, fun _ _ => rfl⟩
  · show szL B (inoO B ih 0 f) = szL B (inoO B ih1 0 f)
    rw [ino_ih e (by omega) hf]
  · show po B (num B (inoO B ih 0 f) (1 + k / 32)) (k % 32) = po B (num B (inoO B ih1 0 f) (1 + k / 32)) (k % 32)
    rw [ino_ih e (by omega) hf]
def LD (B : Nat → Int64) (ih : Nat → Nat) (n : Nat) (ms : Nat → Int) (mw : Nat → Int64) (mi mp : Nat → Nat) : Prop :=
  ∀ g, g < n → ms g = szL B (inoO B ih 0 g) ∧ mi g = inoO B ih 0 g ∧ (∀ q, q < (szL B (inoO B ih 0 g) + 31).toNat / 32 → mp (g * 14 + q) = num B (inoO B ih 0 g) (1 + q)) ∧ (∀ q i, q < (szL B (inoO B ih 0 g) + 31).toNat / 32 → i < 4 → mw (g * 56 + q * 4 + i) = B (4 * num B (inoO B ih 0 g) (1 + q) + i))
theorem LD_s {B : Nat → Int64} {ro ih : Nat → Nat} {f : Nat} {ms : Nat → Int} {mw mw1 : Nat → Int64} {mi mp mp1 : Nat → Nat} (hT : TY B ro) (hi : ∀ k, k < 12 → ih k = 0 ∨ (ih k < 600 ∧ ro (ih k) = 1)) (hf : f < 32) (h : LD B ih f ms mw mi mp)
    (hq : ∀ j, j / 14 ≠ f → mp1 j = mp j) (hq2 : ∀ q, q < (szL B (inoO B ih 0 f) + 31).toNat / 32 → mp1 (f * 14 + q) = num B (inoO B ih 0 f) (1 + q)) (hq3 : ∀ j, j / 56 ≠ f → mw1 j = mw j) (hq4 : ∀ q i, q < (szL B (inoO B ih 0 f) + 31).toNat / 32 → i < 4 → mw1 (f * 56 + q * 4 + i) = B (4 * num B (inoO B ih 0 f) (1 + q) + i)) :
    LD B ih (f + 1) (va_up ms f (szL B (inoO B ih 0 f))) mw1 (va_up mi f (inoO B ih 0 f)) mp1 := by
  intro g hg
  by_cases e : g = f
  · subst e
    rw [vs, vs]
    exact ⟨rfl, rfl, hq2, hq4⟩
  · rw [vn e, vn e]
    obtain ⟨a1, a2, a3, a4⟩ := h g (by omega)
    have hs := szL_in hT (inoO_ok hT hi (show 0 < 6 by omega) (show g < 32 by omega))
    refine ⟨a1, a2, fun q hq' => ?_, fun q i hq' hi' => ?_⟩
    · rw [hq _ (by omega)]; exact a3 q hq'
    · rw [hq3 _ (by omega)]; exact a4 q i hq' hi'
theorem LD_MR {B : Nat → Int64} {ro ih : Nat → Nat} {ms : Nat → Int} {mw : Nat → Int64} {mi mp : Nat → Nat} (hT : TY B ro) (hi : ∀ k, k < 12 → ih k = 0 ∨ (ih k < 600 ∧ ro (ih k) = 1)) (h : LD B ih 32 ms mw mi mp) : MR ms mw (fun _ => 0#32) 0#32 (lodA B ih) := by
  refine ⟨fun g hg => (h g hg).1, fun g k hg hk => ?_, (fun _ _ _ _ => by simp [lodA]), (fun _ _ => by simp [lodA])⟩
  have hk : (k : Int) < szL B (inoO B ih 0 g) := hk
  have hs := szL_in hT (inoO_ok hT hi (show 0 < 6 by omega) hg)
  have := (h g hg).2.2.2 (k / 32) (k % 32 / 8) (by omega) (by omega)
  unfold mo
  rw [show g * 56 + k / 8 = g * 56 + k / 32 * 4 + k % 32 / 8 by omega, this]
  show _ = oc _ (k % 32 % 8)
  rw [show k % 32 % 8 = k % 8 by omega]
theorem CI_load {B : Nat → Int64} {ro ih : Nat → Nat} {iN : Nat} {gk gf go : Nat → Nat} {gv : Nat → Int64} {gl : Nat} {pu : Nat → Bool} {pf : Int} {ms ms1 : Nat → Int} {mw mw1 : Nat → Int64} {mi mp : Nat → Nat} {mb : Nat → BitVec 32} {mc : BitVec 32} {dw : Nat → Int64} {du : Nat → Int} {dn : Int} {df : Bool}
    (h : AI B ro ih iN) (hl : LOK gk gf go gv gl (lodA B ih)) (hb : ∀ j, ih j < 65536) (hD : DR B dw du dn df) (hu : ∀ p, pu p = true ↔ UA B ih 12 p) (hf : pf = (fc pu 600 : Int)) (hLD : LD B ih 32 ms mw mi mp) (hmi : ∀ j, mi j < 65536) (hmp : ∀ j, mp j < 65536) (hM : MR ms1 mw1 mb mc (aRun gk gf go gv (lodA B ih) gl)) :
    CI B ro ih iN gk gf go gv gl pu pf ms1 mw1 mi mp mb mc dw du dn df := by
  have haw := h.aw hl
  refine ⟨h, hl, hD, hu, hf, hM, fun f hf => (hLD f hf).2.1, fun g q hg hq hs hw => ?_, hmi, hmp, hb⟩
  have hw := hw.resolve_left (Nat.not_lt_zero g)
  obtain ⟨v1, v2⟩ := haw.2.2.2.1 g q hg hq hs hw
  have v3 := (v2 (q * 32) (by omega) (by omega)).1
  unfold pp0
  rw [show (g * 14 + q) / 14 = g by omega, show (g * 14 + q) % 14 = q by omega]
  exact (hLD g hg).2.2.1 q (by omega)
/-- what a crash leaves on the disks, of the LOG, and whether the POINT was made -/
def crB (B : Nat → Int64) (ih : Nat → Nat) (iN : Nat) (u : Nat → Bool) (a : aM) (n : Nat) : Nat → Int64 := if (plY B ih u a).1.length ≤ fc u 600 then app B ((plL B ih iN u a).take n) else B
def crM (B : Nat → Int64) (ih : Nat → Nat) (u : Nat → Bool) (a : aM) (n : Nat) : Bool := decide ((plY B ih u a).1.length ≤ fc u 600 ∧ (plY B ih u a).1.length < n)
def crC (B : Nat → Int64) (ih : Nat → Nat) (iN : Nat) (u : Nat → Bool) (a : aM) (n : Nat) (dc : Int) : Int := if (plY B ih u a).1.length ≤ fc u 600 then dc + ((min (plL B ih iN u a).length n : Nat) : Int) else dc
def crG (m lg : Bool) (gl : Nat) : Nat := if (m || !lg) = true then 0 else gl
theorem plL_len (B : Nat → Int64) (ih : Nat → Nat) (iN : Nat) (u : Nat → Bool) (a : aM) : (plL B ih iN u a).length = (plY B ih u a).1.length + 1 := by unfold plL; simp
theorem LOK_0 {gk gf go : Nat → Nat} {gv : Nat → Int64} {a : aM} : LOK gk gf go gv 0 a := ⟨by omega, fun i hi => absurd hi (Nat.not_lt_zero i), fun i hi => absurd hi (Nat.not_lt_zero i)⟩
theorem crash_ok {B : Nat → Int64} {ro ih : Nat → Nat} {iN : Nat} {gk gf go : Nat → Nat} {gv : Nat → Int64} {gl : Nat} {u : Nat → Bool} {a : aM} {n : Nat} {lg : Bool} (h : AI B ro ih iN) (hl : LOK gk gf go gv gl (lodA B ih)) (hA : a = aRun gk gf go gv (lodA B ih) gl) (hu : ∀ p, p < 600 → (u p = true ↔ UA B ih 12 p)) (hN : iN + 1 < 2 ^ 31) :
    ∃ ro1 iN1, AI (crB B ih iN u a n) ro1 (ihB (crB B ih iN u a n)) iN1 ∧ iN1 ≤ iN + 1 ∧ LOK gk gf go gv (crG (crM B ih u a n) lg gl) (lodA (crB B ih iN u a n) (ihB (crB B ih iN u a n))) := by
  have haw := h.aw hl
  rw [← hA] at haw
  have fin : ∀ C ro1 ih1 iN1, AI C ro1 ih1 iN1 → iN1 ≤ iN + 1 → LOK gk gf go gv (crG (crM B ih u a n) lg gl) (lodA C ih1) → ∃ ro1 iN1, AI C ro1 (ihB C) iN1 ∧ iN1 ≤ iN + 1 ∧ LOK gk gf go gv (crG (crM B ih u a n) lg gl) (lodA C (ihB C)) := fun C ro1 ih1 iN1 a1 a2 a3 => ⟨ro1, iN1, AI_ihB a1, a2, LOK_E (lod_ih (fun k hk => ihB_eq a1 hk)) a3⟩
  by_cases hm : (plY B ih u a).1.length ≤ fc u 600
  · have eB : crB B ih iN u a n = app B ((plL B ih iN u a).take n) := by unfold crB; rw [if_pos hm]
    rw [eB]
    by_cases hn : (plY B ih u a).1.length < n
    · have eM : crM B ih u a n = true := by unfold crM; rw [decide_eq_true_eq]; exact ⟨hm, hn⟩
      rw [List.take_of_length_le (by rw [plL_len]; omega)]
      obtain ⟨ro1, p1, p2, -⟩ := point_ok h haw hu hm hN
      refine fin _ ro1 _ (iN + 1) p1 (Nat.le_refl _) ?_
      rw [eM]
      exact LOK_0
    · have et : (plL B ih iN u a).take n = (plY B ih u a).1.take n := by unfold plL; rw [List.take_append_of_le_length (by omega)]
      rw [et]
      have hF : FR u (fR u) (fc u 600) := FR_of u ((hu 0 (by omega)).mpr (Or.inl rfl))
      have hPL : PL (fR u) (plY B ih u a).1 := (pH_all (fR u) a (plX B ih u a).2.2 ((plX B ih u a).1, ih) 2).1 (pL_all (fun f hf => (haw.1.1 f hf).2) 32 (Nat.le_refl _)).1
      have kp := pt_keep (L := (plY B ih u a).1.take n) hu (fun w hw => PL_mem hPL hF hm (List.mem_of_mem_take hw))
      obtain ⟨ro1, p1, -⟩ := keep_TY h kp
      refine fin _ ro1 ih iN p1 (by omega) ?_
      have le := LOK_E (keep_lod h kp) hl
      unfold crG
      split
      · exact LOK_0
      · exact le
  · have eB : crB B ih iN u a n = B := by unfold crB; rw [if_neg hm]
    rw [eB]
    refine fin _ ro ih iN h (by omega) ?_
    unfold crG
    split
    · exact LOK_0
    · exact hl
/-- the POINT that a full LOG makes -/
def ptB (B : Nat → Int64) (ih : Nat → Nat) (iN : Nat) (u : Nat → Bool) (a : aM) (gl : Nat) : Nat → Int64 := if gl = 40 then app B (plL B ih iN u a) else B
def ptH (B : Nat → Int64) (ih : Nat → Nat) (u : Nat → Bool) (a : aM) (gl : Nat) : Nat → Nat := if gl = 40 then (plY B ih u a).2 else ih
def ptN (iN gl : Nat) : Nat := if gl = 40 then iN + 1 else iN
def ptG (gl : Nat) : Nat := if gl = 40 then 0 else gl
def ptC (B : Nat → Int64) (ih : Nat → Nat) (iN : Nat) (u : Nat → Bool) (a : aM) (gl : Nat) (dc : Int) : Int := if gl = 40 then dc + ((plL B ih iN u a).length : Int) else dc
theorem crG_t {m lg : Bool} {gl : Nat} (h : m = true ∨ lg = false) : 0 = crG m lg gl := by
  unfold crG; rw [if_pos]; rcases h with h | h <;> simp [h]
theorem crG_f {m lg : Bool} {gl : Nat} (h : m = false) (h2 : lg = true) : gl = crG m lg gl := by
  unfold crG; rw [if_neg]; simp [h, h2]
