theorem pw_uniq {x y : Wt} : ∀ {L : List Wt}, L.Pairwise (fun x y => x.1 ≠ y.1) → x ∈ L → y ∈ L → x.1 = y.1 → x = y
  | [], _, hx, _, _ => by cases hx
  | z :: L, h, hx, hy, e => by
    rw [List.pairwise_cons] at h
    rcases List.mem_cons.mp hx with a | a <;> rcases List.mem_cons.mp hy with b | b
    · rw [a, b]
    · exact absurd e (by rw [a]; exact h.1 y b)
    · exact absurd e.symm (by rw [b]; exact h.1 x a)
    · exact pw_uniq h.2 a b e
theorem ro_ex {L : List Wt} (pw : L.Pairwise (fun x y => x.1 ≠ y.1)) (P : Nat → Prop) (ro : Nat → Nat) (hd : ∀ w, w ∈ L → ¬ P w.1) : ∃ r : Nat → Nat, (∀ p, P p → r p = ro p) ∧ (∀ w, w ∈ L → r w.1 = w.2.2) ∧ (∀ p, r p ≠ 0 → P p ∨ ∃ w, w ∈ L ∧ w.1 = p) := by
  have key : ∀ p, ∃ n, (P p → n = ro p) ∧ (∀ w, w ∈ L → w.1 = p → n = w.2.2) ∧ (n ≠ 0 → P p ∨ ∃ w, w ∈ L ∧ w.1 = p) := by
    intro p
    rcases Classical.em (P p) with z | z
    · exact ⟨ro p, fun _ => rfl, (fun w hw e => absurd (by rw [e]; exact z) (hd w hw)), fun _ => Or.inl z⟩
    · rcases Classical.em (∃ w, w ∈ L ∧ w.1 = p) with ⟨w, w1, w2⟩ | y
      · exact ⟨w.2.2, fun q => absurd q z, (fun v hv e => by rw [pw_uniq pw w1 hv (by rw [w2, e])]), fun _ => Or.inr ⟨w, w1, w2⟩⟩
      · exact ⟨0, fun q => absurd q z, fun w hw e => absurd ⟨w, hw, e⟩ y, fun q => absurd rfl q⟩
  refine ⟨fun p => Classical.choose (key p), fun p hp => (Classical.choose_spec (key p)).1 hp, fun w hw => (Classical.choose_spec (key w.1)).2.1 w hw rfl, fun p hp => (Classical.choose_spec (key p)).2.2 hp⟩
theorem chH_f {a : aM} {h i : Nat} (hc : chH a h = false) (hi : i < 16) : a.2.2.2 (h * 16 + i) = false := by
  unfold chH at hc
  rw [List.any_eq_false] at hc
  have := hc i (List.mem_range.mpr hi)
  simpa using this
/-- the PLACES in use are not written but for INFO's -/
theorem pt_keep {B : Nat → Int64} {ih : Nat → Nat} {u : Nat → Bool} {L : List Wt} (hu : ∀ p, p < 600 → (u p = true ↔ UA B ih 12 p)) (hL : ∀ w, w ∈ L → 0 < w.1 ∧ w.1 < 600 ∧ u w.1 = false) : ∀ p, UA B ih 12 p → ∀ i, i < 4 → app B L (4 * p + i) = B (4 * p + i) := by
  intro p hp i hi
  refine app_out L B (fun w hw e => ?_) i hi
  obtain ⟨w1, w2, w3⟩ := hL w hw
  rw [(hu w.1 w2).mpr (by rw [e]; exact hp)] at w3
  cases w3
theorem point_ok {B : Nat → Int64} {ro ih : Nat → Nat} {iN : Nat} {u : Nat → Bool} {a : aM} (h : AI B ro ih iN) (hw : AW B ih a) (hu : ∀ p, p < 600 → (u p = true ↔ UA B ih 12 p)) (hm : (plY B ih u a).1.length ≤ fc u 600) (hN : iN + 1 < 2 ^ 31) :
    ∃ ro', AI (app B (plL B ih iN u a)) ro' (plY B ih u a).2 (iN + 1) ∧ aE (a.1, a.2.1, fun _ _ => false, fun _ => false) (lodA (app B (plL B ih iN u a)) (plY B ih u a).2) ∧ (∀ f, f < 32 → inoO (app B (plL B ih iN u a)) (plY B ih u a).2 0 f = (plX B ih u a).2.2 f) ∧ (∀ f q : Nat, f < 32 → q < 14 → (q * 32 : Int) < a.1 f → pp0 (app B (plL B ih iN u a)) (plY B ih u a).2 (f * 14 + q) = (plX B ih u a).2.1 (f * 14 + q)) := by
  have h' := h
  obtain ⟨⟨t0, t1, t2⟩, h2, h3⟩ := h'
  obtain ⟨w1, w2, w3, w4, w5⟩ := hw
  have hF : FR u (fR u) (fc u 600) := FR_of u ((hu 0 (by omega)).mpr (Or.inl rfl))
  obtain ⟨X, hX⟩ : ∃ X, X = plX B ih u a := ⟨_, rfl⟩
  obtain ⟨Y, hY⟩ : ∃ Y, Y = plY B ih u a := ⟨_, rfl⟩
  obtain ⟨x1, x2, x3, x4, x5, x6, x7⟩ := pL_all (fr := fR u) (a := a) (pp := pp0 B ih) (ii := ii0 B ih) (fun f hf => (w1.1 f hf).2) 32 (Nat.le_refl _)
  obtain ⟨y1, y2, y3, y4, y5⟩ := pH_all (fR u) a (plX B ih u a).2.2 ((plX B ih u a).1, ih) 2
  change PL _ (plX B ih u a).1 at x1
  replace y1 := y1 x1
  change PL _ (plY B ih u a).1 at y1
  change ∀ w, w ∈ (plX B ih u a).1 → w ∈ (plY B ih u a).1 at y2
  change ∀ h, h < 2 → chH a h = true → ((plY B ih u a).2 h, _, _) ∈ (plY B ih u a).1 at y3
  change ∀ h, (2 ≤ h ∨ chH a h = false) → (plY B ih u a).2 h = ih h at y4
  change ∀ w, w ∈ (plY B ih u a).1 → w ∈ (plX B ih u a).1 ∨ _ at y5
  change ∀ g r, g < 32 → r < 14 → a.2.2.2 g = true → a.2.2.1 g r = true → ((plX B ih u a).2.1 (g * 14 + r), _, _) ∈ (plX B ih u a).1 at x2
  change ∀ g r, g < 32 → r < 14 → (32 ≤ g ∨ a.2.2.2 g = false ∨ a.2.2.1 g r = false) → (plX B ih u a).2.1 (g * 14 + r) = _ at x3
  change ∀ g, g < 32 → a.2.2.2 g = true → a.1 g ≠ -1 → ((plX B ih u a).2.2 g, mkW (numO (inN a (plX B ih u a).2.1 g)), 2) ∈ (plX B ih u a).1 at x4
  change ∀ g, g < 32 → a.2.2.2 g = true → a.1 g = -1 → (plX B ih u a).2.2 g = 0 at x5
  change ∀ g, (32 ≤ g ∨ a.2.2.2 g = false) → (plX B ih u a).2.2 g = _ at x6
  change ∀ w, w ∈ (plX B ih u a).1 → w.2.2 = 3 ∨ (w.2.2 = 2 ∧ ∃ g, g < 32 ∧ a.2.2.2 g = true ∧ a.1 g ≠ -1 ∧ w.2.1 = mkW (numO (inN a (plX B ih u a).2.1 g))) at x7
  unfold plL
  rw [app_snoc]
  rw [← hY] at y1 y2 y3 y4 y5 hm ⊢
  rw [← hX] at x1 x2 x3 x4 x5 x6 x7 y2 y3 y5 ⊢
  clear hX hY
  have pw := PL_pw y1 hF hm
  have me : ∀ w, w ∈ Y.1 → 0 < w.1 ∧ w.1 < 600 ∧ u w.1 = false := fun w hw => PL_mem y1 hF hm hw
  have nu : ∀ w, w ∈ Y.1 → ¬ UA B ih 12 w.1 := fun w hw z => by
    obtain ⟨a1, a2, a3⟩ := me w hw
    rw [(hu _ a2).mpr z] at a3; cases a3
  obtain ⟨C, hC⟩ : ∃ C, C = upB (app B Y.1) 0 (mkW (numO (infoN (iN + 1) Y.2))) 4 := ⟨_, rfl⟩
  rw [show upB (app B Y.1) (0, mkW (numO (infoN (iN + 1) Y.2)), 0).1 (0, mkW (numO (infoN (iN + 1) Y.2)), 0).2.1 4 = C from hC.symm]
  have c0 : ∀ i, i < 4 → C (4 * 0 + i) = mkW (numO (infoN (iN + 1) Y.2)) i := fun i hi => by rw [hC, upB_4, if_pos (by omega), show (4 * 0 + i) % 4 = i by omega]
  have c1 : ∀ p, p ≠ 0 → ∀ i, i < 4 → C (4 * p + i) = app B Y.1 (4 * p + i) := fun p hp i hi => by rw [hC, upB_4, if_neg (by omega)]
  have kp : ∀ p, UA B ih 12 p → p ≠ 0 → ∀ i, i < 4 → C (4 * p + i) = B (4 * p + i) := fun p hp h0 i hi => by rw [c1 p h0 i hi]; exact pt_keep hu me p hp i hi
  have nk : ∀ p, UA B ih 12 p → p ≠ 0 → ∀ j, j < 16 → num C p j = num B p j := fun p hp h0 j hj => num_congr (kp p hp h0) hj
  have nmw : ∀ w, w ∈ Y.1 → ∀ j, j < 16 → num C w.1 j = nmK w.2.1 j := fun w hw j hj => by
    rw [num_congr (c1 w.1 (by have := (me w hw).1; omega)) hj]; exact num_mem pw hw hj
  have pmw : ∀ w, w ∈ Y.1 → ∀ j, j < 32 → po C w.1 j = bo w.2.1 j := fun w hw j hj => by
    rw [po_congr (c1 w.1 (by have := (me w hw).1; omega)) hj]; exact po_mem pw hw hj
  obtain ⟨r, r1, r2, r3⟩ := ro_ex pw (UA B ih 12) ro nu
  -- inodes
  have T2 : ∀ g, g < 32 → X.2.2 g = 0 ∨ (X.2.2 g < 600 ∧ r (X.2.2 g) = 2) := fun g hg => by
    cases hc : a.2.2.2 g with
    | true =>
      by_cases e : a.1 g = -1
      · exact Or.inl (x5 g hg hc e)
      · have m := y2 _ (x4 g hg hc e)
        exact Or.inr ⟨(me _ m).2.1, r2 _ m⟩
    | false =>
      rw [x6 g (Or.inr hc)]
      rcases inoO_ok h.1 h2 (show 0 < 6 by omega) hg with z | z
      · exact Or.inl z
      · refine Or.inr ⟨z.1, ?_⟩
        rw [← z.2]; exact r1 _ (UA_inoO (by omega) hg)
  have pq : ∀ g q, q < 14 → pp0 B ih (g * 14 + q) = num B (inoO B ih 0 g) (1 + q) := fun g q hq => by
    unfold pp0; rw [show (g * 14 + q) / 14 = g by omega, show (g * 14 + q) % 14 = q by omega]
  -- PIECES that were not written
  have T4 : ∀ g q : Nat, g < 32 → q < 14 → (q * 32 : Int) < a.1 g → a.2.2.1 g q = false → num B (inoO B ih 0 g) (1 + q) < 600 ∧ num B (inoO B ih 0 g) (1 + q) ≠ 0 ∧ ro (num B (inoO B ih 0 g) (1 + q)) = 3 ∧ UA B ih 12 (num B (inoO B ih 0 g) (1 + q)) := fun g q hg hq hs hf => by
    obtain ⟨v1, v2⟩ := w4 g q hg hq hs hf
    have v3 := (v2 (q * 32) (by omega) (by omega)).1
    have v4 := (inoO_ok h.1 h2 (show 0 < 6 by omega) hg).resolve_left v1
    unfold szL at v3
    rw [if_neg v1] at v3
    obtain ⟨b1, b2, b3⟩ := t2 _ v4.1 v4.2
    obtain ⟨b4, b5, b6⟩ := b2 q (by omega)
    exact ⟨b4, b5, b6, UA_cl2 h (UA_inoO (by omega) hg) v4.2 hq⟩
  have T3 : ∀ g q : Nat, g < 32 → q < 14 → (q * 32 : Int) < a.1 g → X.2.1 (g * 14 + q) < 600 ∧ X.2.1 (g * 14 + q) ≠ 0 ∧ r (X.2.1 (g * 14 + q)) = 3 := fun g q hg hq hs => by
    cases hf : a.2.2.1 g q with
    | true =>
      have m := y2 _ (x2 g q hg hq (w3 g q hg (by omega) hf) hf)
      have m2 := me _ m
      exact ⟨m2.2.1, Nat.ne_of_gt m2.1, r2 _ m⟩
    | false =>
      obtain ⟨b1, b2, b3, b4⟩ := T4 g q hg hq hs hf
      rw [x3 g q hg hq (Or.inr (Or.inr hf)), pq g q hq]
      exact ⟨b1, b2, by rw [r1 _ b4]; exact b3⟩
  have inB : ∀ g, g < 32 → ∀ j, j < 16 → inN a X.2.1 g j < 65536 := fun g hg j hj => by
    have := w1.1 g hg
    unfold inN
    split
    · omega
    · split
      · have := (T3 g (j - 1) hg (by omega) (by omega)).1; omega
      · omega
  have inM : ∀ g, g < 32 → a.2.2.2 g = true → a.1 g ≠ -1 → ∀ j, j < 16 → num C (X.2.2 g) j = inN a X.2.1 g j := fun g hg hc e j hj => by
    rw [nmw _ (y2 _ (x4 g hg hc e)) j hj]
    exact nmK_mkW (inB g hg) hj
  have haB : ∀ g, g < 32 → X.2.2 g < 65536 := fun g hg => by rcases T2 g hg with z | z <;> omega
  have haM : ∀ hh, hh < 2 → chH a hh = true → ∀ j, j < 16 → num C (Y.2 hh) j = X.2.2 (hh * 16 + j) := fun hh h1 hc j hj => by
    rw [nmw _ (y3 hh h1 hc) j hj]
    exact nmK_mkW (n := fun j => X.2.2 (hh * 16 + j)) (fun r hr => haB _ (by omega)) hj
  have T1 : ∀ k, k < 12 → Y.2 k = 0 ∨ (Y.2 k < 600 ∧ r (Y.2 k) = 1) := fun k hk => by
    by_cases e : k < 2 ∧ chH a k = true
    · have m := y3 k e.1 e.2
      exact Or.inr ⟨(me _ m).2.1, r2 _ m⟩
    · rw [y4 k (by
        rcases Nat.lt_or_ge k 2 with z | z
        · exact Or.inr (by simpa using fun q => e ⟨z, q⟩)
        · exact Or.inl z)]
      by_cases z : ih k = 0
      · exact Or.inl z
      · rw [r1 _ (UA_half hk z)]
        exact h2 k hk
  have AI' : AI C r Y.2 (iN + 1) := by
    refine ⟨⟨?_, fun p hp hr i hi => ?_, fun p hp hr => ?_⟩, T1, fun j hj => ?_⟩
    · rw [r1 0 (Or.inl rfl)]; exact t0
    · rcases r3 p (by omega) with z | ⟨w, m, e⟩
      · rw [r1 p z] at hr
        have p0 : p ≠ 0 := fun q => by rw [q, t0] at hr; omega
        rw [nk p z p0 i hi]
        rw [r1 _ (UA_cl1 h z hr hi)]
        exact t1 p hp hr i hi
      · subst e
        rw [r2 w m] at hr
        rcases y5 w m with q | ⟨q1, hh, q2, q3⟩
        · rcases x7 w q with q | ⟨q, -⟩ <;> omega
        · rw [nmw w m i hi, q3, nmK_mkW (n := fun j => X.2.2 (hh * 16 + j)) (fun r hr => haB _ (by omega)) hi]
          exact T2 _ (by omega)
    · rcases r3 p (by omega) with z | ⟨w, m, e⟩
      · rw [r1 p z] at hr
        have p0 : p ≠ 0 := fun q => by rw [q, t0] at hr; omega
        rw [nk p z p0 0 (by omega)]
        obtain ⟨a1, a2, a3⟩ := t2 p hp hr
        refine ⟨a1, fun q hq => ?_, fun q hq hq2 => ?_⟩
        · rw [nk p z p0 (1 + q) (by omega), r1 _ (UA_cl2 h z hr (by omega))]
          exact a2 q hq
        · rw [nk p z p0 (1 + q) (by omega)]
          exact a3 q hq hq2
      · subst e
        rw [r2 w m] at hr
        rcases y5 w m with q | ⟨q1, -⟩
        · rcases x7 w q with q | ⟨q, g, g1, g2, g3, g4⟩
          · omega
          · have e : ∀ j, j < 16 → num C w.1 j = inN a X.2.1 g j := fun j hj => by rw [nmw w m j hj, g4]; exact nmK_mkW (inB g g1) hj
            have hb := w1.1 g g1
            have e0 : num C w.1 0 = (a.1 g).toNat := by rw [e 0 (by omega)]; rfl
            rw [e0]
            refine ⟨by omega, fun q hq => ?_, fun q hq hq2 => ?_⟩
            · rw [e (1 + q) (by omega)]
              unfold inN
              rw [if_neg (by omega), if_pos (by omega), show 1 + q - 1 = q by omega]
              exact T3 g q g1 (by omega) (by omega)
            · rw [e (1 + q) (by omega)]
              unfold inN
              rw [if_neg (by omega), if_neg (by omega)]
        · omega
    · unfold num
      rw [c0 _ (by omega)]
      have yB : ∀ k, k < 12 → Y.2 k < 65536 := fun k hk => by rcases T1 k hk with z | z <;> omega
      exact nmK_mkW (n := infoN (iN + 1) Y.2) (fun r hr => by
        unfold infoN
        split
        · omega
        · split
          · omega
          · split
            · exact yB _ (by omega)
            · omega) hj
  have INO : ∀ f, f < 32 → inoO C Y.2 0 f = X.2.2 f := fun f hf => by
    unfold inoO
    rw [show 0 * 2 + f / 16 = f / 16 by omega]
    cases hc : chH a (f / 16) with
    | true =>
      have m := y3 (f / 16) (by omega) hc
      rw [if_neg (Nat.ne_of_gt (me _ m).1), haM (f / 16) (by omega) hc (f % 16) (by omega), show f / 16 * 16 + f % 16 = f by omega]
    | false =>
      have hf0 := chH_f hc (show f % 16 < 16 by omega)
      rw [show f / 16 * 16 + f % 16 = f by omega] at hf0
      rw [y4 (f / 16) (Or.inr hc), x6 f (Or.inr hf0)]
      unfold ii0 inoO
      rw [show 0 * 2 + f / 16 = f / 16 by omega]
      by_cases z : ih (f / 16) = 0
      · rw [if_pos z, if_pos z]
      · rw [if_neg z, if_neg z]
        exact nk _ (UA_half (by omega) z) z _ (by omega)
  have PPN : ∀ f q : Nat, f < 32 → q < 14 → (q * 32 : Int) < a.1 f → pp0 C Y.2 (f * 14 + q) = X.2.1 (f * 14 + q) := fun f q hf hq hs => by
    unfold pp0
    rw [show (f * 14 + q) / 14 = f by omega, show (f * 14 + q) % 14 = q by omega, INO f hf]
    cases hc : a.2.2.2 f with
    | true =>
      rw [inM f hf hc (by omega) (1 + q) (by omega)]
      unfold inN
      rw [if_neg (by omega), if_pos (by omega), show 1 + q - 1 = q by omega]
    | false =>
      rw [x6 f (Or.inr hc), x3 f q hf hq (Or.inr (Or.inl hc)), pq f q hq]
      have hs2 := w5 f hf hc
      have z : inoO B ih 0 f ≠ 0 := fun z => by rw [hs2, z] at hs; unfold szL at hs; rw [if_pos rfl] at hs; omega
      exact nk _ (UA_inoO (by omega) hf) z _ (by omega)
  refine ⟨r, AI', ⟨fun f hf => ?_, fun f k hf hk => ?_, fun _ _ _ _ => rfl, fun _ _ => rfl⟩, INO, PPN⟩
  · show a.1 f = szL C (inoO C Y.2 0 f)
    rw [INO f hf]
    have hb := w1.1 f hf
    cases hc : a.2.2.2 f with
    | true =>
      by_cases e : a.1 f = -1
      · rw [x5 f hf hc e, e]; rfl
      · unfold szL
        have m := y2 _ (x4 f hf hc e)
        rw [if_neg (Nat.ne_of_gt (me _ m).1), inM f hf hc e 0 (by omega)]
        unfold inN
        rw [if_pos rfl]
        omega
    | false =>
      rw [x6 f (Or.inr hc), w5 f hf hc]
      unfold szL ii0
      by_cases z : inoO B ih 0 f = 0
      · rw [if_pos z, if_pos z]
      · rw [if_neg z, if_neg z, nk _ (UA_inoO (by omega) hf) z 0 (by omega)]
  · have hk : (k : Int) < a.1 f := hk
    have hb := w1.1 f hf
    show a.2.1 f k = po C (num C (inoO C Y.2 0 f) (1 + k / 32)) (k % 32)
    have e := PPN f (k / 32) hf (by omega) (by omega)
    unfold pp0 at e
    rw [show (f * 14 + k / 32) / 14 = f by omega, show (f * 14 + k / 32) % 14 = k / 32 by omega] at e
    rw [e]
    cases hc : a.2.2.1 f (k / 32) with
    | true =>
      have m := y2 _ (x2 f (k / 32) hf (by omega) (w3 f _ hf (by omega) hc) hc)
      rw [pmw _ m _ (by omega)]
      have lt : ∀ r, r < 32 → pcO a f (k / 32) r < 256 := fun r hr => by
        unfold pcO
        split
        · exact w2 f _ hf (by assumption)
        · omega
      show _ = bo (mkW (pcO a f (k / 32))) (k % 32)
      rw [bo_mkW lt (by omega)]
      unfold pcO
      rw [show k / 32 * 32 + k % 32 = k by omega, if_pos hk]
    | false =>
      obtain ⟨b1, b2, b3, b4⟩ := T4 f (k / 32) hf (by omega) (by omega) hc
      rw [x3 f (k / 32) hf (by omega) (Or.inr (Or.inr hc)), pq f _ (by omega), po_congr (kp _ b4 b2) (by omega)]
      exact ((w4 f (k / 32) hf (by omega) (by omega) hc).2 k rfl hk).2
