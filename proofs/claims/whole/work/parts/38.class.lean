/-! what holds of the class between its calls -/
def CI (B : Nat → Int64) (ro ih : Nat → Nat) (iN : Nat) (gk gf go : Nat → Nat) (gv : Nat → Int64) (gl : Nat) (pu : Nat → Bool) (pf : Int) (ms : Nat → Int) (mw : Nat → Int64) (mi mp : Nat → Nat) (mb : Nat → BitVec 32) (mc : BitVec 32) (dw : Nat → Int64) (du : Nat → Int) (dn : Int) (df : Bool) : Prop :=
  AI B ro ih iN ∧ LOK gk gf go gv gl (lodA B ih) ∧ DR B dw du dn df ∧ (∀ p, pu p = true ↔ UA B ih 12 p) ∧ pf = (fc pu 600 : Int) ∧ MR ms mw mb mc (aRun gk gf go gv (lodA B ih) gl) ∧ (∀ f, f < 32 → mi f = inoO B ih 0 f) ∧ PP (aRun gk gf go gv (lodA B ih) gl) mp (pp0 B ih) 0 ∧ (∀ j, mi j < 65536) ∧ (∀ j, mp j < 65536) ∧ (∀ j, ih j < 65536)
theorem AI.aw {B : Nat → Int64} {ro ih : Nat → Nat} {iN : Nat} {gk gf go : Nat → Nat} {gv : Nat → Int64} {gl : Nat} (h : AI B ro ih iN) (hl : LOK gk gf go gv gl (lodA B ih)) : AW B ih (aRun gk gf go gv (lodA B ih) gl) := AW_run (AW_lod h) gl hl.2.1
theorem popc_0 {m : BitVec 32} : ∀ n, (∀ r, r < n → m.getLsbD r = false) → popc m n = 0
  | 0, _ => rfl
  | n + 1, h => by
    unfold popc
    rw [popc_0 n (fun r hr => h r (by omega)), h n (by omega)]
    rfl
theorem pF_cnt {fr : Nat → Nat} {a : aM} {f : Nat} {m : BitVec 32} (x : List Wt × (Nat → Nat)) : ∀ q, (∀ r, r < q → m.getLsbD r = a.2.2.1 f r) → (pF fr a f q x).1.length = x.1.length + popc m q
  | 0, _ => rfl
  | q + 1, h => by
    have ih := pF_cnt (fr := fr) x q (fun r hr => h r (by omega))
    unfold popc
    rw [h q (by omega)]
    cases hw : a.2.2.1 f q with
    | false => rw [pF_f hw, ih]; simp
    | true => rw [pF_t hw]; simp [ih]; omega
theorem pL_cnt {fr : Nat → Nat} {a : aM} {pp ii : Nat → Nat} {ms : Nat → Int} {mw : Nat → Int64} {mb : Nat → BitVec 32} {mc : BitVec 32} (hM : MR ms mw mb mc a) (hW : MW a) : ∀ n, n ≤ 32 → (pL fr a pp ii n).1.length = needF ms mb mc n
  | 0, _ => rfl
  | n + 1, hn => by
    have ih := pL_cnt (fr := fr) (pp := pp) (ii := ii) hM hW n (by omega)
    unfold needF
    rw [hM.2.2.2 n (by omega), hM.1 n (by omega)]
    cases hc : a.2.2.2 n with
    | false =>
      rw [pL, if_neg (by rw [hc]; simp), ih, popc_0 14 (fun r hr => ?_)]
      · simp
      · rw [hM.2.2.1 n r (by omega) (by omega)]
        cases hw : a.2.2.1 n r with
        | false => rfl
        | true => have := hW n r (by omega) (by omega) hw; rw [hc] at this; cases this
    | true =>
      rw [pL, if_pos hc]
      have e := pF_cnt (fr := fr) (a := a) (f := n) (m := mb n) ((pL fr a pp ii n).1, (pL fr a pp ii n).2.1) 14 (fun r hr => hM.2.2.1 n r (by omega) (by omega))
      by_cases hs : a.1 n = -1
      · rw [pI_m hs, if_neg (by rw [hs]; simp)]
        show (pF _ _ _ _ _).1.length = _
        rw [e, ih]; rfl
      · rw [pI_p hs, if_pos ⟨rfl, hs⟩]
        simp [e, ih]
theorem need_eq {B : Nat → Int64} {ih : Nat → Nat} {u : Nat → Bool} {a : aM} {ms : Nat → Int} {mw : Nat → Int64} {mb : Nat → BitVec 32} {mc : BitVec 32} (hM : MR ms mw mb mc a) (hW : MW a) : (plY B ih u a).1.length = needA ms mb mc := by
  have e := pL_cnt (fr := fR u) (pp := pp0 B ih) (ii := ii0 B ih) hM hW 32 (Nat.le_refl _)
  unfold plY needA
  rw [← e, halfC_ch hM (by omega), halfC_ch hM (by omega)]
  show (pH (fR u) a (plX B ih u a).2.2 ((plX B ih u a).1, ih) 2).1.length = (plX B ih u a).1.length + _ + _
  cases h0 : chH a 0 <;> cases h1 : chH a 1 <;> simp [pH, h0, h1]
theorem mb_lt {m : BitVec 32} (h : ∀ q, 14 ≤ q → q < 32 → m.getLsbD q = false) : m.toNat < 16384 := by
  show m.toNat < 2 ^ 14
  apply Nat.lt_pow_two_of_testBit
  intro i hi
  rw [BitVec.testBit_toNat]
  by_cases e : i < 32
  · exact h i hi e
  · exact BitVec.getLsbD_of_ge _ _ (by omega)
theorem MR.hmb {ms : Nat → Int} {mw : Nat → Int64} {mb : Nat → BitVec 32} {mc : BitVec 32} {a : aM} (h : MR ms mw mb mc a) (hb : MB a) : ∀ f, f < 32 → (mb f).toNat < 16384 := fun f hf => mb_lt (fun q h1 h2 => by
  rw [h.2.2.1 f q hf h2]
  cases hw : a.2.2.1 f q with
  | false => rfl
  | true => have := hb.2 f q hf h2 hw; have := hb.1 f hf; omega)
theorem MR_set {ms : Nat → Int} {mw : Nat → Int64} {mb : Nat → BitVec 32} {mc : BitVec 32} {a : aM} (h : MR ms mw mb mc a) : MR ms mw (fun _ => 0#32) 0#32 (a.1, a.2.1, fun _ _ => false, fun _ => false) := ⟨h.1, h.2.1, fun _ _ _ _ => by simp, fun _ _ => by simp⟩
theorem CI_point {B : Nat → Int64} {ro ih : Nat → Nat} {iN : Nat} {gk gf go : Nat → Nat} {gv : Nat → Int64} {gl : Nat} {pu : Nat → Bool} {pf : Int} {ms : Nat → Int} {mw : Nat → Int64} {mi mp : Nat → Nat} {mb : Nat → BitVec 32} {mc : BitVec 32} {dw : Nat → Int64} {du : Nat → Int} {dn : Int} {df : Bool} {mi1 mp1 : Nat → Nat} {dw1 : Nat → Int64} {n : Nat} {a : aM} (hA : a = aRun gk gf go gv (lodA B ih) gl)
    (hC : CI B ro ih iN gk gf go gv gl pu pf ms mw mi mp mb mc dw du dn df) (hN : iN + 1 < 2 ^ 31) (hm : (plY B ih pu a).1.length ≤ fc pu 600)
    (hq : DR (app B ((plL B ih iN pu a).take n)) dw1 du dn df) (hn : (plL B ih iN pu a).length ≤ n) (hq5 : ∀ g, g < 32 → mi1 g = (plX B ih pu a).2.2 g) (hq6 : PP a mp1 (plX B ih pu a).2.1 32) :
    ∃ ro1, AI (app B (plL B ih iN pu a)) ro1 (plY B ih pu a).2 (iN + 1) ∧ DR (app B (plL B ih iN pu a)) dw1 du dn df ∧ MR ms mw (fun _ => 0#32) 0#32 (lodA (app B (plL B ih iN pu a)) (plY B ih pu a).2) ∧ (∀ f, f < 32 → mi1 f = inoO (app B (plL B ih iN pu a)) (plY B ih pu a).2 0 f) ∧
      PP (lodA (app B (plL B ih iN pu a)) (plY B ih pu a).2) mp1 (pp0 (app B (plL B ih iN pu a)) (plY B ih pu a).2) 0 := by
  subst hA
  obtain ⟨c1, c2, c3, c4, c5, c6, c7, c8, c9, c10, c11⟩ := hC
  have haw := c1.aw c2
  obtain ⟨ro1, p1, p2, p3, p4⟩ := point_ok c1 haw (fun p _ => c4 p) hm hN
  rw [List.take_of_length_le hn] at hq
  refine ⟨ro1, p1, hq, MR_E (MR_set c6) p2, fun f hf => by rw [hq5 f hf, p3 f hf], fun g q hg hq1 hs _ => ?_⟩
  rw [← p2.1 g hg] at hs
  have hs : (q * 32 : Int) < (aRun gk gf go gv (lodA B ih) gl).1 g := hs
  rw [p4 g q hg hq1 hs]
  exact hq6 g q hg hq1 hs (Or.inl hg)
/-- INFO written alone -/
def inB (B : Nat → Int64) (iN : Nat) (ih : Nat → Nat) : Nat → Int64 := upB B 0 (mkW (numO (infoN iN ih))) 4
theorem in_oth {B : Nat → Int64} {iN : Nat} {ih : Nat → Nat} {p : Nat} (h : p ≠ 0) : ∀ i, i < 4 → inB B iN ih (4 * p + i) = B (4 * p + i) := fun i hi => by unfold inB; rw [upB_4, if_neg (by omega)]
theorem info_ok {B : Nat → Int64} {ro ih : Nat → Nat} {iN : Nat} (hT : TY B ro) (h2 : ∀ k, k < 12 → ih k = 0 ∨ (ih k < 600 ∧ ro (ih k) = 1)) (hN : iN < 2 ^ 31) (hb : ∀ j, ih j < 65536) : AI (inB B iN ih) ro ih iN := by
  obtain ⟨t0, t1, t2⟩ := hT
  have nk : ∀ p, p ≠ 0 → ∀ j, j < 16 → num (inB B iN ih) p j = num B p j := fun p hp j hj => num_congr (in_oth hp) hj
  refine ⟨⟨t0, fun p hp hr i hi => ?_, fun p hp hr => ?_⟩, h2, fun j hj => ?_⟩
  · rw [nk p (fun z => by rw [z, t0] at hr; omega) i hi]; exact t1 p hp hr i hi
  · have p0 : p ≠ 0 := fun z => by rw [z, t0] at hr; omega
    rw [nk p p0 0 (by omega)]
    obtain ⟨a1, a2, a3⟩ := t2 p hp hr
    exact ⟨a1, fun q hq => by rw [nk p p0 (1 + q) (by omega)]; exact a2 q hq, fun q hq hq2 => by rw [nk p p0 (1 + q) (by omega)]; exact a3 q hq hq2⟩
  · unfold num inB
    rw [upB_4, if_pos (by omega), show (4 * 0 + j / 4) % 4 = j / 4 by omega]
    exact nmK_mkW (n := infoN iN ih) (fun r _ => info_lt hN hb) hj
theorem info_ino {B : Nat → Int64} {ih ih1 : Nat → Nat} {iN : Nat} (e0 : ih1 0 = ih 0) (e1 : ih1 1 = ih 1) {f : Nat} (hf : f < 32) : inoO (inB B iN ih1) ih1 0 f = inoO B ih 0 f := by
  unfold inoO
  have e : ih1 (0 * 2 + f / 16) = ih (0 * 2 + f / 16) := by
    have : 0 * 2 + f / 16 = 0 ∨ 0 * 2 + f / 16 = 1 := by omega
    rcases this with z | z <;> rw [z] <;> assumption
  rw [e]
  by_cases z : ih (0 * 2 + f / 16) = 0
  · rw [if_pos z, if_pos z]
  · rw [if_neg z, if_neg z]; exact num_congr (in_oth z) (by omega)
theorem info_lod {B : Nat → Int64} {ro ih ih1 : Nat → Nat} {iN iM : Nat} (h : AI B ro ih iM) (e0 : ih1 0 = ih 0) (e1 : ih1 1 = ih 1) : aE (lodA B ih) (lodA (inB B iN ih1) ih1) := by
  refine ⟨fun f hf => ?_, fun f k hf hk => ?_, fun _ _ _ _ => rfl, fun _ _ => rfl⟩
  · show szL B (inoO B ih 0 f) = szL _ (inoO _ ih1 0 f)
    rw [info_ino e0 e1 hf]
    unfold szL
    split
    · rfl
    · rw [num_congr (in_oth (by assumption)) (by omega)]
  · have hk : (k : Int) < szL B (inoO B ih 0 f) := hk
    show po B (num B (inoO B ih 0 f) (1 + k / 32)) (k % 32) = po _ (num _ (inoO _ ih1 0 f) (1 + k / 32)) (k % 32)
    have hin := inoO_ok h.1 h.2.1 (show 0 < 6 by omega) hf
    have hs := szL_in h.1 hin
    have hne : inoO B ih 0 f ≠ 0 := fun z => by rw [z] at hk; unfold szL at hk; rw [if_pos rfl] at hk; omega
    rw [info_ino e0 e1 hf, num_congr (in_oth hne) (by omega)]
    have hi := hin.resolve_left hne
    unfold szL at hk
    rw [if_neg hne] at hk
    have := ((h.1.2.2 _ hi.1 hi.2).2.1 (k / 32) (by omega)).2.1
    rw [po_congr (in_oth this) (by omega)]
theorem CI_info {B : Nat → Int64} {ro ih : Nat → Nat} {iN : Nat} {gk gf go : Nat → Nat} {gv : Nat → Int64} {gl : Nat} {pu pu1 : Nat → Bool} {pf pf1 : Int} {ms : Nat → Int} {mw : Nat → Int64} {mi mp : Nat → Nat} {mb : Nat → BitVec 32} {mc : BitVec 32} {dw dw1 : Nat → Int64} {du : Nat → Int} {dn : Int} {df : Bool} {ih1 : Nat → Nat}
    (hC : CI B ro ih iN gk gf go gv gl pu pf ms mw mi mp mb mc dw du dn df) (hN : iN < 2 ^ 31) (e0 : ih1 0 = ih 0) (e1 : ih1 1 = ih 1) (hi : ∀ k, k < 12 → ih1 k = 0 ∨ (ih1 k < 600 ∧ ro (ih1 k) = 1)) (hb : ∀ j, ih1 j < 65536) (hD : DR (inB B iN ih1) dw1 du dn df) (hu : ∀ p, pu1 p = true ↔ UA (inB B iN ih1) ih1 12 p) (hf : pf1 = (fc pu1 600 : Int)) :
    CI (inB B iN ih1) ro ih1 iN gk gf go gv gl pu1 pf1 ms mw mi mp mb mc dw1 du dn df := by
  obtain ⟨c1, c2, c3, c4, c5, c6, c7, c8, c9, c10, c11⟩ := hC
  have le := info_lod (iN := iN) c1 e0 e1
  have lr := aE_run le gl c2.2.1
  have haw := c1.aw c2
  refine ⟨info_ok c1.1 hi hN hb, LOK_E le c2, hD, hu, hf, MR_E c6 lr, fun f hf => by rw [c7 f hf, info_ino e0 e1 hf], fun g q hg hq hs hw => ?_, c9, c10, hb⟩
  rw [← lr.1 g hg] at hs
  have hw := hw.resolve_left (Nat.not_lt_zero g)
  rw [← lr.2.2.1 g q hg (by omega)] at hw
  rw [c8 g q hg hq hs (Or.inr hw)]
  have hne := (haw.2.2.2.1 g q hg hq hs hw).1
  unfold pp0
  rw [show (g * 14 + q) / 14 = g by omega, show (g * 14 + q) % 14 = q by omega, info_ino e0 e1 hg]
  exact (num_congr (in_oth hne) (by omega)).symm
theorem CI_log {B : Nat → Int64} {ro ih : Nat → Nat} {iN : Nat} {gk gf go : Nat → Nat} {gv : Nat → Int64} {gl : Nat} {pu : Nat → Bool} {pf : Int} {ms ms1 : Nat → Int} {mw mw1 : Nat → Int64} {mi mp : Nat → Nat} {mb mb1 : Nat → BitVec 32} {mc mc1 : BitVec 32} {dw : Nat → Int64} {du : Nat → Int} {dn : Int} {df : Bool} {k f o : Nat} {v : Int64}
    (hC : CI B ro ih iN gk gf go gv gl pu pf ms mw mi mp mb mc dw du dn df) (hg : gl < 40) (hk : k < 3) (hok : aOk (aRun gk gf go gv (lodA B ih) gl) k f o) (hM : MR ms1 mw1 mb1 mc1 (aS (aRun gk gf go gv (lodA B ih) gl) k f o v)) :
    CI B ro ih iN (va_up gk gl k) (va_up gf gl f) (va_up go gl o) (va_up gv gl v) (gl + 1) pu pf ms1 mw1 mi mp mb1 mc1 dw du dn df := by
  obtain ⟨c1, c2, c3, c4, c5, c6, c7, c8, c9, c10, c11⟩ := hC
  have er : ∀ n, n ≤ gl → aRun (va_up gk gl k) (va_up gf gl f) (va_up go gl o) (va_up gv gl v) (lodA B ih) n = aRun gk gf go gv (lodA B ih) n := by
    intro n
    induction n with
    | zero => intro _; rfl
    | succ n ihn =>
      intro hn
      show aS _ _ _ _ _ = aS _ _ _ _ _
      rw [ihn (by omega), vn (by omega), vn (by omega), vn (by omega), vn (by omega)]
  have e1 : aRun (va_up gk gl k) (va_up gf gl f) (va_up go gl o) (va_up gv gl v) (lodA B ih) (gl + 1) = aS (aRun gk gf go gv (lodA B ih) gl) k f o v := by
    show aS _ _ _ _ _ = _
    rw [er gl (Nat.le_refl _), vs, vs, vs, vs]
  have hl : LOK (va_up gk gl k) (va_up gf gl f) (va_up go gl o) (va_up gv gl v) (gl + 1) (lodA B ih) := by
    refine ⟨by omega, fun i hi => ?_, fun i hi => ?_⟩
    · by_cases z : i = gl
      · rw [z, er gl (Nat.le_refl _), vs, vs, vs]; exact hok
      · rw [er i (by omega), vn z, vn z, vn z]; exact c2.2.1 i (by omega)
    · by_cases z : i = gl
      · rw [z, vs]; exact hk
      · rw [vn z]; exact c2.2.2 i (by omega)
  have haw := c1.aw c2
  have haw2 := c1.aw hl
  rw [e1] at haw2
  refine ⟨c1, hl, c3, c4, c5, by rw [e1]; exact hM, c7, ?_, c9, c10, c11⟩
  rw [e1]
  intro g q hg hq hs hw
  have hw := hw.resolve_left (Nat.not_lt_zero g)
  have hbf := haw.1.1 f hok.1
  -- what is not written now was not before
  have key : (q * 32 : Int) < (aRun gk gf go gv (lodA B ih) gl).1 g ∧ (aRun gk gf go gv (lodA B ih) gl).2.2.1 g q = false := by
    generalize aRun gk gf go gv (lodA B ih) gl = a at *
    unfold aS at hs hw
    by_cases k0 : k = 0
    · rw [if_pos k0] at hs hw
      have ho := hok.2.1 k0
      have hw : (a.2.2.1 g q || decide (g = f ∧ (q = o / 32 ∨ q = (o + 7) / 32))) = false := hw
      have hs : (q * 32 : Int) < va_up a.1 f (if a.1 f < (o : Int) + 8 then (o : Int) + 8 else a.1 f) g := hs
      rw [Bool.or_eq_false_iff, decide_eq_false_iff_not] at hw
      refine ⟨?_, hw.1⟩
      by_cases z : g = f
      · subst z
        rw [vs] at hs
        have hne : ¬ (q = o / 32 ∨ q = (o + 7) / 32) := fun z => hw.2 ⟨rfl, z⟩
        split at hs <;> omega
      · rw [vn z] at hs; exact hs
    · rw [if_neg k0] at hs hw
      by_cases k1 : k = 1
      · rw [if_pos k1] at hs hw
        have hn := hok.2.2 k1
        have hw : (a.2.2.1 g q && (decide (g ≠ f) || decide (q < (o + 31) / 32))) = false := hw
        have hs : (q * 32 : Int) < va_up a.1 f (o : Int) g := hs
        by_cases z : g = f
        · subst z
          rw [vs] at hs
          refine ⟨by omega, ?_⟩
          have : decide (q < (o + 31) / 32) = true := by simp; omega
          rw [this] at hw
          simpa using hw
        · rw [vn z] at hs
          refine ⟨hs, ?_⟩
          simpa [z] using hw
      · rw [if_neg k1] at hs hw
        have hw : (a.2.2.1 g q && decide (g ≠ f)) = false := hw
        have hs : (q * 32 : Int) < va_up a.1 f (-1) g := hs
        by_cases z : g = f
        · subst z
          rw [vs] at hs
          omega
        · rw [vn z] at hs
          refine ⟨hs, ?_⟩
          simpa [z] using hw
  exact c8 g q hg hq key.1 (Or.inr key.2)
