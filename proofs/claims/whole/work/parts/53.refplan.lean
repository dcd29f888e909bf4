set_option maxHeartbeats 1000000 in
set_option maxRecDepth 100000 in
theorem c_X7_plan (l : Launch) (D : va_G) (cI cJ cZ cII cZZ : ClassId) (t0 : Nat) (t1 : Nat) (t2 : Nat) (t3 : Nat) (t4 : Nat) (t5 : Nat) (t6 : Nat) (t7 : Nat) (t8 : Nat) (t9 : Nat) (tA : Nat) (tB : Nat) (tC : Nat) (tD : Nat) (tR : Nat → Nat) (tS : Nat → Nat) (e0 : Nat) (eP : Nat → Nat) (eb : Int) (er : Int) (ek : Bool) (es : Nat → Int) (ed : Nat → Nat → Nat) (ec : Nat → Bool) (ew : Nat → Nat → Bool) (lk : Nat → Nat) (lf : Nat → Nat) (lo : Nat → Nat) (lv : Nat → Int64) (le : Nat) (eW : Int) (et : Nat → Nat) (eh : Nat → Nat) (ei : Nat → Int) (eu : Nat → Bool) (em : Nat) (B : Nat → Int64) (ro : Nat → Nat) (ih : Nat → Nat) (iN : Nat) (uv : Nat → Bool) (a : aM) (hP : RP B eP) (hA : AI B ro ih iN) (hN : iN + 1 < 2 ^ 31) (hM : RM es ed ew ec a) (hAW : AW B ih a) (hu : ∀ p, p < 600 → (uv p = true ↔ UA B ih 12 p)) :
    zC l yX7_plan cX7_plan 6 (some .boolean) { frames := 4, cells := 2, slots := 16, locals := 91 } D (zT cI cJ cZ cII cZZ) [.ref t0] (WQ cI cJ cZ cII cZZ [] t0 t1 t2 t3 t4 t5 t6 t7 t8 t9 tA tB tC tD tR tS e0 eP eb er ek es ed ec ew lk lf lo lv le eW et eh ei eu em) (S := (Nat → Nat) × (Nat → Nat) × (Nat → Int) × (Nat → Bool) × Nat) (fun u => some (.int (zB (decide ((plY B ih uv a).1.length ≤ fc uv 600))))) (fun u => ((plY B ih uv a).1.length ≤ fc uv 600 → PLN (plL B ih iN uv a) u.1 u.2.1 ∧ u.2.2.2.2 = (plL B ih iN uv a).length)) (fun u => (WQ cI cJ cZ cII cZZ [] t0 t1 t2 t3 t4 t5 t6 t7 t8 t9 tA tB tC tD tR tS e0 eP eb er ek es ed ec ew lk lf lo lv le eW u.1 u.2.1 u.2.2.1 u.2.2.2.1 u.2.2.2.2)) := by
  refine zC_of (by decide) (Nat.le_of_ble_eq_true rfl) ?_
  intro prg env s mth below meth cde A ls hE hrt9 hlocks hnm hZ hl
  have hx := hE.1
  have hb := hE.2.1
  have hl : lv_has ls 6 [(0, .ref t0)] := hl
  obtain ⟨hMB, hMO, hMW, hWI, hCW⟩ := hAW
  have hu0 : uv 0 = true := (hu 0 (by omega)).mpr (Or.inl rfl)
  have hFR := FR_of uv hu0
  have hf0 : fc uv 600 ≤ 599 := fc0 hu0 599
  refine lv_aload_n hx hb dX7_plan_0 rfl (lv_at hl 0 rfl) ?_
  refine z_kVp (As := []) (rest := []) hE hZ (c_X7_free l D cI cJ cZ cII cZZ t0 t1 t2 t3 t4 t5 t6 t7 t8 t9 tA tB tC tD tR tS e0 eP eb er ek es ed ec ew lk lf lo lv le eW et eh ei eu em B ro ih iN (by first | assumption | omega) (hA)) lL_X7_free lC_X7_132 rfl [] (List.Perm.refl _) (fun u => (WQ cI cJ cZ cII cZZ [] t0 t1 t2 t3 t4 t5 t6 t7 t8 t9 tA tB tC tD tR tS e0 eP eb er ek es ed ec ew lk lf lo lv le eW et eh ei u em)) (fun _ => List.Perm.refl _) 0 rfl ⟨by decide, by decide⟩ 0 0 rfl rfl ⟨by decide, by decide⟩ rfl hl.1 rfl (Nat.le_of_ble_eq_true rfl) dX7_plan_1 (fun u H locs hq9 hZ => ?_)
  obtain ⟨eu1_1, hu9⟩ : ∃ z, z = u := ⟨u, rfl⟩
  subst hu9
  have hq_1 := hq9
  have hq_1 : ∀ p, p < 600 → (eu1_1 p = true ↔ UA B ih 12 p) := hq_1
  have hZ : zS D A s.heap H locs (WQ cI cJ cZ cII cZZ [] t0 t1 t2 t3 t4 t5 t6 t7 t8 t9 tA tB tC tD tR tS e0 eP eb er ek es ed ec ew lk lf lo lv le eW et eh ei eu1_1 em) := hZ
  refine W.eq (g2 := F0 mth 4 ls []) rfl ?_
  refine lv_aload_n hx hb dX7_plan_4 rfl (lv_at hl 0 rfl) ?_
  refine z_iconst hx hb (nI 0) dX7_plan_5 (by decide) ?_
  refine z_put hE fF_X7_19 fP_X7 rfl hZ 0 rfl rfl rfl (Nat.le_of_ble_eq_true rfl) dX7_plan_6 (WQ cI cJ cZ cII cZZ [] t0 t1 t2 t3 t4 t5 t6 t7 t8 t9 tA tB tC tD tR tS e0 eP eb er ek es ed ec ew lk lf lo lv le eW et eh ei eu1_1 0) rfl (fun H locs hZ => ?_)
  refine z_bipush hx hb (nI 14) dX7_plan_9 (by decide) ?_
  refine z_newI hE hZ 0 rfl mg822 14 (f := (fun x9 => zI ((fun _ => 0) x9))) (by funext _; rfl) (by decide) 1 14 rfl rfl ⟨by decide, by decide⟩ dX7_plan_11 (fun q11 => (WQ cI cJ cZ cII cZZ [] t0 t1 t2 t3 t4 t5 t6 t7 t8 t9 tA tB tC tD tR tS e0 eP eb er ek es ed ec ew lk lf lo lv le eW et eh ei eu1_1 0) ++ [(q11, .inl (cI, 14, .inl (fun x9 => zI ((fun _ => 0) x9))))]) (fun _ => rfl) (fun q11 H hZ => ?_)
  have hZ : zS D A s.heap H locs (WQ cI cJ cZ cII cZZ [(q11, .inl (cI, 14, .inl (fun x9 => zI ((fun _ => 0) x9))))] t0 t1 t2 t3 t4 t5 t6 t7 t8 t9 tA tB tC tD tR tS e0 eP eb er ek es ed ec ew lk lf lo lv le eW et eh ei eu1_1 0) := z_perm WQ_new hZ
  refine lv_astore_n (lv' := [(1, .ref q11), (0, .ref t0)]) hx hb dX7_plan_13 rfl hl (by decide) rfl (fun ls hl => ?_)
  refine z_iconst hx hb (nI 0) dX7_plan_14 (by decide) ?_
  refine lv_istore_n (lv' := [(2, .int (nI 0)), (1, .ref q11), (0, .ref t0)]) hx hb dX7_plan_15 rfl hl (by decide) rfl (fun ls hl => ?_)
  refine z_loop (σ := Nat × (Nat → Int) × (Nat → Nat) × (Nat → Nat) × (Nat → Bool) × Nat × (Nat → Int)) (fun (f, wi, wt, wh, wu, wm, wp) H locs ls => (f ≤ 32) ∧ (PLS uv (pL (fR uv) a (pp0 B ih) (ii0 B ih) f).1 wt wh wu wm) ∧ (∀ g, g < f → wi g = ((pL (fR uv) a (pp0 B ih) (ii0 B ih) f).2.2 g : Int)) ∧ zS D A s.heap H locs (WQ cI cJ cZ cII cZZ [(q11, .inl (cI, 14, .inl (fun x9 => zI (wp x9))))] t0 t1 t2 t3 t4 t5 t6 t7 t8 t9 tA tB tC tD tR tS e0 eP eb er ek es ed ec ew lk lf lo lv le eW wt wh wi wu wm) ∧ lv_has ls 6 [(0, .ref t0), (1, .ref q11), (2, .int (nI f))]) (fun (f, wi, wt, wh, wu, wm, wp) => 32 - f) [] (0, ei, et, eh, eu1_1, 0, fun _ => 0) ⟨by omega, ⟨PLN_nil _ _, rfl, (fun p hp => by rw [hq_1 p hp, hu p hp]; simp), Nat.zero_le _⟩, fun g h => absurd h (Nat.not_lt_zero g), hZ, lv_sub hl [2, 1, 0] (by first | rfl | (simp only [lv_pick]; rfl))⟩ ?_
  intro x H locs ls hI ih16
  obtain ⟨f, wi, wt, wh, wu, wm, wp⟩ := x
  obtain ⟨hf, hX, hi, hZ, hl⟩ := hI
  refine lv_iload_n hx hb dX7_plan_16 rfl (lv_at hl 2 rfl) ?_
  refine z_bipush hx hb (nI 32) dX7_plan_17 (by decide) ?_
  refine z_icmp_ge hx hb 311 dX7_plan_19 (by decide) (C := 32 ≤ f) (nIle (by omega) (by omega)) (fun h19 => ?_) (fun h19 => ?_)
  · skip
    have hf32 : f = 32 := by omega
    have hXX : PLS uv (plX B ih uv a).1 wt wh wu wm := by rw [hf32] at hX; exact hX
    have hii : ∀ g, g < 32 → wi g = ((plX B ih uv a).2.2 g : Int) := by rw [hf32] at hi; exact hi
    have hxl := plX_lt hA hMB hu0 (by have z1 := hXX.2.1; have z2 := hXX.2.2.2; omega)
    refine z_iconst hx hb (nI 2) dX7_plan_311 (by decide) ?_
    refine z_newI hE hZ 0 rfl mg822 2 (f := (fun x9 => zI ((fun _ => 0) x9))) (by funext _; rfl) (by decide) 2 16 rfl rfl ⟨by decide, by decide⟩ dX7_plan_312 (fun q312 => (WQ cI cJ cZ cII cZZ [(q11, .inl (cI, 14, .inl (fun x9 => zI (wp x9))))] t0 t1 t2 t3 t4 t5 t6 t7 t8 t9 tA tB tC tD tR tS e0 eP eb er ek es ed ec ew lk lf lo lv le eW wt wh wi wu wm) ++ [(q312, .inl (cI, 2, .inl (fun x9 => zI ((fun _ => 0) x9))))]) (fun _ => rfl) (fun q312 H hZ => ?_)
    have hZ : zS D A s.heap H locs (WQ cI cJ cZ cII cZZ [(q11, .inl (cI, 14, .inl (fun x9 => zI (wp x9)))), (q312, .inl (cI, 2, .inl (fun x9 => zI ((fun _ => 0) x9))))] t0 t1 t2 t3 t4 t5 t6 t7 t8 t9 tA tB tC tD tR tS e0 eP eb er ek es ed ec ew lk lf lo lv le eW wt wh wi wu wm) := z_perm WQ_new hZ
    refine lv_astore_n (lv' := [(2, .ref q312), (0, .ref t0), (1, .ref q11)]) hx hb dX7_plan_314 rfl hl (by decide) rfl (fun ls hl => ?_)
    refine z_iconst hx hb (nI 0) dX7_plan_315 (by decide) ?_
    refine lv_istore_n (lv' := [(3, .int (nI 0)), (2, .ref q312), (0, .ref t0), (1, .ref q11)]) hx hb dX7_plan_316 rfl hl (by decide) rfl (fun ls hl => ?_)
    refine z_loop (σ := Nat × (Nat → Nat) × (Nat → Nat) × (Nat → Bool) × Nat × (Nat → Int)) (fun (h, bt, bh, bu, bm, bv) H locs ls => (h ≤ 2) ∧ (PLS uv (pH (fR uv) a (plX B ih uv a).2.2 ((plX B ih uv a).1, ih) h).1 bt bh bu bm) ∧ (∀ r, r < h → bv r = ((pH (fR uv) a (plX B ih uv a).2.2 ((plX B ih uv a).1, ih) h).2 r : Int)) ∧ zS D A s.heap H locs (WQ cI cJ cZ cII cZZ [(q11, .inl (cI, 14, .inl (fun x9 => zI (wp x9)))), (q312, .inl (cI, 2, .inl (fun x9 => zI (bv x9))))] t0 t1 t2 t3 t4 t5 t6 t7 t8 t9 tA tB tC tD tR tS e0 eP eb er ek es ed ec ew lk lf lo lv le eW bt bh wi bu bm) ∧ lv_has ls 6 [(0, .ref t0), (1, .ref q11), (2, .ref q312), (3, .int (nI h))]) (fun (h, bt, bh, bu, bm, bv) => 2 - h) [] (0, wt, wh, wu, wm, fun _ => 0) ⟨by omega, hXX, fun r z => absurd z (Nat.not_lt_zero r), hZ, lv_sub hl [2, 3, 1, 0] (by first | rfl | (simp only [lv_pick]; rfl))⟩ ?_
    intro x H locs ls hI ih317
    obtain ⟨h, bt, bh, bu, bm, bv⟩ := x
    obtain ⟨hh, hY, hv, hZ, hl⟩ := hI
    refine lv_iload_n hx hb dX7_plan_317 rfl (lv_at hl 3 rfl) ?_
    refine z_iconst hx hb (nI 2) dX7_plan_318 (by decide) ?_
    refine z_icmp_ge hx hb 439 dX7_plan_319 (by decide) (C := 2 ≤ h) (nIle (by omega) (by omega)) (fun h319 => ?_) (fun h319 => ?_)
    · skip
      have hh2 : h = 2 := by omega
      have hYY : PLS uv (plY B ih uv a).1 bt bh bu bm := by rw [hh2] at hY; exact hY
      have hvv : ∀ r, r < 2 → bv r = ((plY B ih uv a).2 r : Int) := by rw [hh2] at hv; exact hv
      have hbm : bm ≤ fc uv 600 := hYY.2.2.2
      have hyl := plY_lt hA hMB hu0 (by have z1 := hYY.2.1; have z2 := hYY.2.2.2; omega)
      refine lv_aload_n hx hb dX7_plan_439 rfl (lv_at hl 0 rfl) ?_
      refine z_iconst hx hb (nI 0) dX7_plan_440 (by decide) ?_
      refine z_kVp (As := [.int (nI 0)]) (rest := []) hE hZ (c_X7_next l D cI cJ cZ cII cZZ t0 t1 t2 t3 t4 t5 t6 t7 t8 t9 tA tB tC tD tR tS e0 eP eb er ek es ed ec ew lk lf lo lv le eW bt bh wi bu bm ((plY B ih uv a).1) (0 : Int) (nI 0) (by omega) (hYY.1) (⟨hYY.2.1, by have := hYY.2.2.2; omega⟩) (zI_n _)) lL_X7_next lC_X7_139 rfl [(q11, .inl (cI, 14, .inl (fun x9 => zI (wp x9)))), (q312, .inl (cI, 2, .inl (fun x9 => zI (bv x9))))] (WQ_pm) (fun u => (WQ cI cJ cZ cII cZZ [(q11, .inl (cI, 14, .inl (fun x9 => zI (wp x9)))), (q312, .inl (cI, 2, .inl (fun x9 => zI (bv x9))))] t0 t1 t2 t3 t4 t5 t6 t7 t8 t9 tA tB tC tD tR tS e0 eP eb er ek es ed ec ew lk lf lo lv le eW u.1 u.2.1 wi bu u.2.2)) (fun u => WQ_pm.symm) 0 rfl ⟨by decide, by decide⟩ 2 16 rfl rfl ⟨by decide, by decide⟩ rfl hl.1 rfl (Nat.le_of_ble_eq_true rfl) dX7_plan_441 (fun u H locs hq9 hZ => ?_)
      obtain ⟨et1_441, eh1_441, em1_441⟩ := u
      have hq_441 := hq9
      have hq_441 : 0 ≤ (0 : Int) → em1_441 = bm + 1 ∧ PLN ((plY B ih uv a).1) et1_441 eh1_441 ∧ et1_441 bm = (0 : Int).toNat ∧ RW eh1_441 bm (fun _ => 0) := hq_441
      have hZ : zS D A s.heap H locs (WQ cI cJ cZ cII cZZ [(q11, .inl (cI, 14, .inl (fun x9 => zI (wp x9)))), (q312, .inl (cI, 2, .inl (fun x9 => zI (bv x9))))] t0 t1 t2 t3 t4 t5 t6 t7 t8 t9 tA tB tC tD tR tS e0 eP eb er ek es ed ec ew lk lf lo lv le eW et1_441 eh1_441 wi bu em1_441) := hZ
      refine W.eq (g2 := F0 mth 444 ls [.int (zB (decide (0 ≤ (0 : Int))))]) rfl ?_
      obtain ⟨hen, hLn, htn, hrn⟩ := hq_441 (by omega)
      refine lv_pop hx hb dX7_plan_444 rfl ?_
      refine z_iconst hx hb (nI 0) dX7_plan_445 (by decide) ?_
      refine lv_istore_n (lv' := [(3, .int (nI 0)), (0, .ref t0), (1, .ref q11), (2, .ref q312)]) hx hb dX7_plan_446 rfl hl (by decide) rfl (fun ls hl => ?_)
      refine z_loop (σ := Nat × (Nat → Nat)) (fun (i8, dh) H locs ls => (i8 ≤ 32) ∧ (PLN (plY B ih uv a).1 et1_441 dh) ∧ (RW dh bm (fun k => if k < i8 then po B 0 k else 0)) ∧ zS D A s.heap H locs (WQ cI cJ cZ cII cZZ [(q11, .inl (cI, 14, .inl (fun x9 => zI (wp x9)))), (q312, .inl (cI, 2, .inl (fun x9 => zI (bv x9))))] t0 t1 t2 t3 t4 t5 t6 t7 t8 t9 tA tB tC tD tR tS e0 eP eb er ek es ed ec ew lk lf lo lv le eW et1_441 dh wi bu em1_441) ∧ lv_has ls 6 [(0, .ref t0), (1, .ref q11), (2, .ref q312), (3, .int (nI i8))]) (fun (i8, dh) => 32 - i8) [] (0, eh1_441) ⟨by omega, hLn, hrn, hZ, lv_sub hl [1, 2, 3, 0] (by first | rfl | (simp only [lv_pick]; rfl))⟩ ?_
      intro x H locs ls hI ih447
      obtain ⟨i8, dh⟩ := x
      obtain ⟨hi8, hLd, hrd, hZ, hl⟩ := hI
      refine lv_iload_n hx hb dX7_plan_447 rfl (lv_at hl 3 rfl) ?_
      refine z_bipush hx hb (nI 32) dX7_plan_448 (by decide) ?_
      refine z_icmp_ge hx hb 481 dX7_plan_450 (by decide) (C := 32 ≤ i8) (nIle (by omega) (by omega)) (fun h450 => ?_) (fun h450 => ?_)
      · skip
        have hrD : RW dh (plY B ih uv a).1.length (numO (num B 0)) := by
                rw [← hYY.2.1]
                exact RW_n hrd (fun k hk => by rw [if_pos (by omega), po_num B 0 hk])
        refine lv_aload_n hx hb dX7_plan_481 rfl (lv_at hl 0 rfl) ?_
        refine z_kVp (As := []) (rest := []) hE hZ (c_X7_number l D cI cJ cZ cII cZZ t0 t1 t2 t3 t4 t5 t6 t7 t8 t9 tA tB tC tD tR tS e0 eP eb er ek es ed ec ew lk lf lo lv le eW et1_441 dh wi bu em1_441 B ro ih iN (by first | assumption | omega) (hA) (by omega)) lL_X7_number lC_X7_145 rfl [(q11, .inl (cI, 14, .inl (fun x9 => zI (wp x9)))), (q312, .inl (cI, 2, .inl (fun x9 => zI (bv x9))))] (WQ_pm) (fun u => (WQ cI cJ cZ cII cZZ [(q11, .inl (cI, 14, .inl (fun x9 => zI (wp x9)))), (q312, .inl (cI, 2, .inl (fun x9 => zI (bv x9))))] t0 t1 t2 t3 t4 t5 t6 t7 t8 t9 tA tB tC tD tR tS e0 eP eb er ek es ed ec ew lk lf lo lv le eW et1_441 dh wi bu em1_441)) (fun u => WQ_pm.symm) 0 rfl ⟨by decide, by decide⟩ 2 16 rfl rfl ⟨by decide, by decide⟩ rfl hl.1 rfl (Nat.le_of_ble_eq_true rfl) dX7_plan_482 (fun u H locs hq9 hZ => ?_)
        have hZ : zS D A s.heap H locs (WQ cI cJ cZ cII cZZ [(q11, .inl (cI, 14, .inl (fun x9 => zI (wp x9)))), (q312, .inl (cI, 2, .inl (fun x9 => zI (bv x9))))] t0 t1 t2 t3 t4 t5 t6 t7 t8 t9 tA tB tC tD tR tS e0 eP eb er ek es ed ec ew lk lf lo lv le eW et1_441 dh wi bu em1_441) := hZ
        refine W.eq (g2 := F0 mth 485 ls [.int (nI iN)]) rfl ?_
        refine z_iconst hx hb (nI 1) dX7_plan_485 (by decide) ?_
        refine z_iadd hx hb dX7_plan_486 (z := nI (iN + 1)) (nI_add _ _) ?_
        refine lv_istore_n (lv' := [(3, .int (nI (iN + 1))), (0, .ref t0), (1, .ref q11), (2, .ref q312)]) hx hb dX7_plan_487 rfl hl (by decide) rfl (fun ls hl => ?_)
        refine lv_aload_n hx hb dX7_plan_488 rfl (lv_at hl 1 rfl) ?_
        refine z_iconst hx hb (nI 0) dX7_plan_489 (by decide) ?_
        refine lv_iload_n hx hb dX7_plan_490 rfl (lv_at hl 0 rfl) ?_
        refine z_bipush hx hb (nI 16) dX7_plan_491 (by decide) ?_
        refine lv_ishr hx hb dX7_plan_493 ?_
        refine z_top (show (nI (iN + 1)) >>> ((nI 16) &&& 31) = nI ((iN + 1) / 65536) from pk_shrN hN _ 16 (by decide)) ?_
        refine z_kVp (As := [.int (nI 0), .int (nI ((iN + 1) / 65536))]) (rest := []) hE hZ (c_X7_put l D cI cJ cZ cII cZZ t0 t1 t2 t3 t4 t5 t6 t7 t8 t9 tA tB tC tD tR tS e0 eP eb er ek es ed ec ew lk lf lo lv le eW et1_441 dh wi bu em1_441 ((plY B ih uv a).1) (num B 0) 0 0 ((iN + 1) / 65536) (rfl) (by omega) (by omega) (hLd) (⟨by have := hYY.2.1; omega, by omega⟩) (hrD)) lL_X7_put lC_X7_142 rfl [(q11, .inl (cI, 14, .inl (fun x9 => zI (wp x9)))), (q312, .inl (cI, 2, .inl (fun x9 => zI (bv x9))))] (WQ_pm) (fun u => (WQ cI cJ cZ cII cZZ [(q11, .inl (cI, 14, .inl (fun x9 => zI (wp x9)))), (q312, .inl (cI, 2, .inl (fun x9 => zI (bv x9))))] t0 t1 t2 t3 t4 t5 t6 t7 t8 t9 tA tB tC tD tR tS e0 eP eb er ek es ed ec ew lk lf lo lv le eW et1_441 u wi bu em1_441)) (fun u => WQ_pm.symm) 0 rfl ⟨by decide, by decide⟩ 2 16 rfl rfl ⟨by decide, by decide⟩ rfl hl.1 rfl (Nat.le_of_ble_eq_true rfl) dX7_plan_494 (fun u H locs hq9 hZ => ?_)
        obtain ⟨eh1_494, hu9⟩ : ∃ z, z = u := ⟨u, rfl⟩
        subst hu9
        obtain ⟨hq_494, hq2_494⟩ := hq9
        have hq_494 : PLN ((plY B ih uv a).1) et1_441 eh1_494 := hq_494
        have hq2_494 : RW eh1_494 ((plY B ih uv a).1).length (numO (va_up (num B 0) 0 (((iN + 1) / 65536) % 65536))) := hq2_494
        have hZ : zS D A s.heap H locs (WQ cI cJ cZ cII cZZ [(q11, .inl (cI, 14, .inl (fun x9 => zI (wp x9)))), (q312, .inl (cI, 2, .inl (fun x9 => zI (bv x9))))] t0 t1 t2 t3 t4 t5 t6 t7 t8 t9 tA tB tC tD tR tS e0 eP eb er ek es ed ec ew lk lf lo lv le eW et1_441 eh1_494 wi bu em1_441) := hZ
        refine W.eq (g2 := F0 mth 497 ls []) rfl ?_
        refine lv_aload_n hx hb dX7_plan_497 rfl (lv_at hl 1 rfl) ?_
        refine z_iconst hx hb (nI 2) dX7_plan_498 (by decide) ?_
        refine lv_iload_n hx hb dX7_plan_499 rfl (lv_at hl 0 rfl) ?_
        refine z_kVp (As := [.int (nI 2), .int (nI (iN + 1))]) (rest := []) hE hZ (c_X7_put l D cI cJ cZ cII cZZ t0 t1 t2 t3 t4 t5 t6 t7 t8 t9 tA tB tC tD tR tS e0 eP eb er ek es ed ec ew lk lf lo lv le eW et1_441 eh1_494 wi bu em1_441 ((plY B ih uv a).1) (va_up (num B 0) 0 ((iN + 1) / 65536 % 65536)) 1 2 (iN + 1) (rfl) (by omega) (hN) (hq_494) (⟨by have := hYY.2.1; omega, by omega⟩) (hq2_494)) lL_X7_put lC_X7_142 rfl [(q11, .inl (cI, 14, .inl (fun x9 => zI (wp x9)))), (q312, .inl (cI, 2, .inl (fun x9 => zI (bv x9))))] (WQ_pm) (fun u => (WQ cI cJ cZ cII cZZ [(q11, .inl (cI, 14, .inl (fun x9 => zI (wp x9)))), (q312, .inl (cI, 2, .inl (fun x9 => zI (bv x9))))] t0 t1 t2 t3 t4 t5 t6 t7 t8 t9 tA tB tC tD tR tS e0 eP eb er ek es ed ec ew lk lf lo lv le eW et1_441 u wi bu em1_441)) (fun u => WQ_pm.symm) 0 rfl ⟨by decide, by decide⟩ 2 16 rfl rfl ⟨by decide, by decide⟩ rfl hl.1 rfl (Nat.le_of_ble_eq_true rfl) dX7_plan_500 (fun u H locs hq9 hZ => ?_)
        obtain ⟨eh1_500, hu9⟩ : ∃ z, z = u := ⟨u, rfl⟩
        subst hu9
        obtain ⟨hq_500, hq2_500⟩ := hq9
        have hq_500 : PLN ((plY B ih uv a).1) et1_441 eh1_500 := hq_500
        have hq2_500 : RW eh1_500 ((plY B ih uv a).1).length (numO (va_up (va_up (num B 0) 0 ((iN + 1) / 65536 % 65536)) 1 ((iN + 1) % 65536))) := hq2_500
        have hZ : zS D A s.heap H locs (WQ cI cJ cZ cII cZZ [(q11, .inl (cI, 14, .inl (fun x9 => zI (wp x9)))), (q312, .inl (cI, 2, .inl (fun x9 => zI (bv x9))))] t0 t1 t2 t3 t4 t5 t6 t7 t8 t9 tA tB tC tD tR tS e0 eP eb er ek es ed ec ew lk lf lo lv le eW et1_441 eh1_500 wi bu em1_441) := hZ
        refine W.eq (g2 := F0 mth 503 ls []) rfl ?_
        refine lv_aload_n hx hb dX7_plan_503 rfl (lv_at hl 1 rfl) ?_
        refine z_iconst hx hb (nI 4) dX7_plan_504 (by decide) ?_
        refine lv_aload_n hx hb dX7_plan_505 rfl (lv_at hl 3 rfl) ?_
        refine z_iconst hx hb (nI 0) dX7_plan_506 (by decide) ?_
        refine z_iald hE hZ 15 0 rfl rfl (by decide) (by omega) dX7_plan_507 ?_
        refine z_top (show zI (bv 0) = nI ((plY B ih uv a).2 0) from by rw [hvv 0 (by omega), zI_n]) ?_
        refine z_kVp (As := [.int (nI 4), .int (nI ((plY B ih uv a).2 0))]) (rest := []) hE hZ (c_X7_put l D cI cJ cZ cII cZZ t0 t1 t2 t3 t4 t5 t6 t7 t8 t9 tA tB tC tD tR tS e0 eP eb er ek es ed ec ew lk lf lo lv le eW et1_441 eh1_500 wi bu em1_441 ((plY B ih uv a).1) (va_up (va_up (num B 0) 0 ((iN + 1) / 65536 % 65536)) 1 ((iN + 1) % 65536)) 2 4 ((plY B ih uv a).2 0) (rfl) (by omega) (by have := hyl 0 (by omega); omega) (hq_500) (⟨by have := hYY.2.1; omega, by omega⟩) (hq2_500)) lL_X7_put lC_X7_142 rfl [(q11, .inl (cI, 14, .inl (fun x9 => zI (wp x9)))), (q312, .inl (cI, 2, .inl (fun x9 => zI (bv x9))))] (WQ_pm) (fun u => (WQ cI cJ cZ cII cZZ [(q11, .inl (cI, 14, .inl (fun x9 => zI (wp x9)))), (q312, .inl (cI, 2, .inl (fun x9 => zI (bv x9))))] t0 t1 t2 t3 t4 t5 t6 t7 t8 t9 tA tB tC tD tR tS e0 eP eb er ek es ed ec ew lk lf lo lv le eW et1_441 u wi bu em1_441)) (fun u => WQ_pm.symm) 0 rfl ⟨by decide, by decide⟩ 2 16 rfl rfl ⟨by decide, by decide⟩ rfl hl.1 rfl (Nat.le_of_ble_eq_true rfl) dX7_plan_508 (fun u H locs hq9 hZ => ?_)
        obtain ⟨eh1_508, hu9⟩ : ∃ z, z = u := ⟨u, rfl⟩
        subst hu9
        obtain ⟨hq_508, hq2_508⟩ := hq9
        have hq_508 : PLN ((plY B ih uv a).1) et1_441 eh1_508 := hq_508
        have hq2_508 : RW eh1_508 ((plY B ih uv a).1).length (numO (va_up (va_up (va_up (num B 0) 0 ((iN + 1) / 65536 % 65536)) 1 ((iN + 1) % 65536)) 2 (((plY B ih uv a).2 0) % 65536))) := hq2_508
        have hZ : zS D A s.heap H locs (WQ cI cJ cZ cII cZZ [(q11, .inl (cI, 14, .inl (fun x9 => zI (wp x9)))), (q312, .inl (cI, 2, .inl (fun x9 => zI (bv x9))))] t0 t1 t2 t3 t4 t5 t6 t7 t8 t9 tA tB tC tD tR tS e0 eP eb er ek es ed ec ew lk lf lo lv le eW et1_441 eh1_508 wi bu em1_441) := hZ
        refine W.eq (g2 := F0 mth 511 ls []) rfl ?_
        refine lv_aload_n hx hb dX7_plan_511 rfl (lv_at hl 1 rfl) ?_
        refine z_bipush hx hb (nI 6) dX7_plan_512 (by decide) ?_
        refine lv_aload_n hx hb dX7_plan_514 rfl (lv_at hl 3 rfl) ?_
        refine z_iconst hx hb (nI 1) dX7_plan_515 (by decide) ?_
        refine z_iald hE hZ 15 0 rfl rfl (by decide) (by omega) dX7_plan_516 ?_
        refine z_top (show zI (bv 1) = nI ((plY B ih uv a).2 1) from by rw [hvv 1 (by omega), zI_n]) ?_
        refine z_kVp (As := [.int (nI 6), .int (nI ((plY B ih uv a).2 1))]) (rest := []) hE hZ (c_X7_put l D cI cJ cZ cII cZZ t0 t1 t2 t3 t4 t5 t6 t7 t8 t9 tA tB tC tD tR tS e0 eP eb er ek es ed ec ew lk lf lo lv le eW et1_441 eh1_508 wi bu em1_441 ((plY B ih uv a).1) (va_up (va_up (va_up (num B 0) 0 ((iN + 1) / 65536 % 65536)) 1 ((iN + 1) % 65536)) 2 ((plY B ih uv a).2 0 % 65536)) 3 6 ((plY B ih uv a).2 1) (rfl) (by omega) (by have := hyl 1 (by omega); omega) (hq_508) (⟨by have := hYY.2.1; omega, by omega⟩) (hq2_508)) lL_X7_put lC_X7_142 rfl [(q11, .inl (cI, 14, .inl (fun x9 => zI (wp x9)))), (q312, .inl (cI, 2, .inl (fun x9 => zI (bv x9))))] (WQ_pm) (fun u => (WQ cI cJ cZ cII cZZ [(q11, .inl (cI, 14, .inl (fun x9 => zI (wp x9)))), (q312, .inl (cI, 2, .inl (fun x9 => zI (bv x9))))] t0 t1 t2 t3 t4 t5 t6 t7 t8 t9 tA tB tC tD tR tS e0 eP eb er ek es ed ec ew lk lf lo lv le eW et1_441 u wi bu em1_441)) (fun u => WQ_pm.symm) 0 rfl ⟨by decide, by decide⟩ 2 16 rfl rfl ⟨by decide, by decide⟩ rfl hl.1 rfl (Nat.le_of_ble_eq_true rfl) dX7_plan_517 (fun u H locs hq9 hZ => ?_)
        obtain ⟨eh1_517, hu9⟩ : ∃ z, z = u := ⟨u, rfl⟩
        subst hu9
        obtain ⟨hq_517, hq2_517⟩ := hq9
        have hq_517 : PLN ((plY B ih uv a).1) et1_441 eh1_517 := hq_517
        have hq2_517 : RW eh1_517 ((plY B ih uv a).1).length (numO (va_up (va_up (va_up (va_up (num B 0) 0 ((iN + 1) / 65536 % 65536)) 1 ((iN + 1) % 65536)) 2 ((plY B ih uv a).2 0 % 65536)) 3 (((plY B ih uv a).2 1) % 65536))) := hq2_517
        have hZ : zS D A s.heap H locs (WQ cI cJ cZ cII cZZ [(q11, .inl (cI, 14, .inl (fun x9 => zI (wp x9)))), (q312, .inl (cI, 2, .inl (fun x9 => zI (bv x9))))] t0 t1 t2 t3 t4 t5 t6 t7 t8 t9 tA tB tC tD tR tS e0 eP eb er ek es ed ec ew lk lf lo lv le eW et1_441 eh1_517 wi bu em1_441) := hZ
        refine W.eq (g2 := F0 mth 520 ls []) rfl ?_
        refine z_iconst hx hb (nI 1) dX7_plan_520 (by decide) ?_
        have hZ := WQ_drop hZ
        refine z_top (show nI 1 = zB (decide ((plY B ih uv a).1.length ≤ fc uv 600)) from by first | (have z : ¬ (plY B ih uv a).1.length ≤ fc uv 600 := hno; rw [show decide ((plY B ih uv a).1.length ≤ fc uv 600) = false by rw [decide_eq_false_iff_not]; exact z]; rfl) | (rw [show decide ((plY B ih uv a).1.length ≤ fc uv 600) = true by rw [decide_eq_true_eq]; have z1 := hYY.2.1; have z2 := hYY.2.2.2; omega]; rfl)) ?_
        exact z_zret (decide ((plY B ih uv a).1.length ≤ fc uv 600)) rfl hE hrt9 hlocks hZ (et1_441, eh1_517, wi, bu, em1_441) rfl (show ((plY B ih uv a).1.length ≤ fc uv 600 → PLN (plL B ih iN uv a) et1_441 eh1_517 ∧ em1_441 = (plL B ih iN uv a).length) from fun _ => by
                refine ⟨?_, by rw [plL_len]; have := hYY.2.1; omega⟩
                unfold plL
                refine PLN_snoc hq_517 (by rw [← hYY.2.1, htn]; rfl) (RW_n hq2_517 (numO_n (n1 := infoN (iN + 1) (plY B ih uv a).2) (fun j hj => ?_))) (numO_lt (fun j hj => ?_))
                · exact info_pl (hA.2.2 j hj) (hyl 0 (by omega)) (hyl 1 (by omega)) (fun k hk => (pH_all (fR uv) a (plX B ih uv a).2.2 ((plX B ih uv a).1, ih) 2).2.2.2.1 k (Or.inl hk)) hN hj
                · exact info_pl2 hA (hyl 0 (by omega)) (hyl 1 (by omega)) (fun k hk => (pH_all (fR uv) a (plX B ih uv a).2.2 ((plX B ih uv a).1, ih) 2).2.2.2.1 k (Or.inl hk)) hN hj) rfl dX7_plan_521 (Nat.le_of_ble_eq_true rfl) (Nat.le_of_ble_eq_true rfl)
      · skip
        refine lv_aload_n hx hb dX7_plan_453 rfl (lv_at hl 0 rfl) ?_
        refine z_get hE fF_X7_16 hZ 0 rfl (.ref tB) rfl dX7_plan_454 ?_
        refine lv_aload_n hx hb dX7_plan_457 rfl (lv_at hl 0 rfl) ?_
        refine z_get hE fF_X7_19 hZ 0 rfl (.int (nI em1_441)) rfl dX7_plan_458 ?_
        refine z_iconst hx hb (nI 1) dX7_plan_461 (by decide) ?_
        refine z_isub hx hb dX7_plan_462 (z := nI (em1_441 - 1)) (pk_sub (by omega)) ?_
        refine z_bipush hx hb (nI 32) dX7_plan_463 (by decide) ?_
        refine z_imul hx hb dX7_plan_465 (z := nI ((em1_441 - 1) * 32)) (pk_mul _ _) ?_
        refine lv_iload_n hx hb dX7_plan_466 rfl (lv_at hl 3 rfl) ?_
        refine z_iadd hx hb dX7_plan_467 (z := nI (((em1_441 - 1) * 32) + i8)) (nI_add _ _) ?_
        refine lv_aload_n hx hb dX7_plan_468 rfl (lv_at hl 0 rfl) ?_
        refine z_get hE fF_X7_1 hZ 0 rfl (.ref t1) rfl dX7_plan_469 ?_
        refine lv_iload_n hx hb dX7_plan_472 rfl (lv_at hl 3 rfl) ?_
        refine z_iald hE hZ 1 0 rfl rfl (by decide) (by omega) dX7_plan_473 ?_
        refine z_top (show nI (eP i8) = nI (po B 0 i8) from by rw [← hP 0 i8 (by omega) (by omega), Nat.zero_mul, Nat.zero_add]) ?_
        refine z_iast nI dh (po B 0 i8) hE hZ 11 0 rfl rfl (by decide) (by omega) dX7_plan_474 (WQ cI cJ cZ cII cZZ [(q11, .inl (cI, 14, .inl (fun x9 => zI (wp x9)))), (q312, .inl (cI, 2, .inl (fun x9 => zI (bv x9))))] t0 t1 t2 t3 t4 t5 t6 t7 t8 t9 tA tB tC tD tR tS e0 eP eb er ek es ed ec ew lk lf lo lv le eW et1_441 (va_up dh (((em1_441 - 1) * 32) + i8) (po B 0 i8)) wi bu em1_441) rfl (fun H locs hZ => ?_)
        refine lv_iinc (v := nI (i8 + 1)) (lv' := [(3, .int (nI (i8 + 1))), (0, .ref t0), (1, .ref q11), (2, .ref q312)]) hx hb dX7_plan_475 hl (k := 3) rfl (nI_add _ _) (by decide) rfl (fun ls hl => ?_)
        refine lv_goto (tgt := 447) hx hb dX7_plan_478 (by decide) ?_
        exact ih447 (i8 + 1, va_up dh (((em1_441 - 1) * 32) + i8) (po B 0 i8)) _ _ _ ⟨by omega, PLN_up hLd (by have := hYY.2.1; omega), by
                rw [show em1_441 - 1 = bm by omega]
                refine RW_n (RW_up hrd (by omega)) (fun k hk => ?_)
                unfold va_up
                by_cases y : k = i8
                · rw [if_pos y, if_pos (by omega), y]
                · rw [if_neg y]
                  dsimp only
                  by_cases z : k < i8
                  · rw [if_pos z, if_pos (by omega)]
                  · rw [if_neg z, if_neg (by omega)], hZ, lv_sub hl [1, 2, 3, 0] (by first | rfl | (simp only [lv_pick]; rfl))⟩ (by (try dsimp only); omega)
    · skip
      refine z_iconst hx hb (nI 0) dX7_plan_322 (by decide) ?_
      refine z_top (show nI 0 = zB false from rfl) ?_
      refine lv_istore (lv' := [(4, .int (zB false)), (0, .ref t0), (1, .ref q11), (2, .ref q312), (3, .int (nI h))]) hx hb dX7_plan_323 hl (by decide) rfl (fun ls hl => ?_)
      refine z_bipush hx hb (nI 16) dX7_plan_325 (by decide) ?_
      refine lv_iload_n hx hb dX7_plan_327 rfl (lv_at hl 4 rfl) ?_
      refine z_imul hx hb dX7_plan_328 (z := nI (16 * h)) (pk_mul _ _) ?_
      refine lv_istore (lv' := [(5, .int (nI (16 * h))), (4, .int (zB false)), (0, .ref t0), (1, .ref q11), (2, .ref q312), (3, .int (nI h))]) hx hb dX7_plan_329 hl (by decide) rfl (fun ls hl => ?_)
      refine z_loop (σ := Nat × Bool) (fun (i6, an) H locs ls => (16 * h ≤ i6 ∧ i6 ≤ 16 * h + 16) ∧ (an = (List.range (i6 - 16 * h)).any (fun j => a.2.2.2 (h * 16 + j))) ∧ zS D A s.heap H locs (WQ cI cJ cZ cII cZZ [(q11, .inl (cI, 14, .inl (fun x9 => zI (wp x9)))), (q312, .inl (cI, 2, .inl (fun x9 => zI (bv x9))))] t0 t1 t2 t3 t4 t5 t6 t7 t8 t9 tA tB tC tD tR tS e0 eP eb er ek es ed ec ew lk lf lo lv le eW bt bh wi bu bm) ∧ lv_has ls 6 [(0, .ref t0), (1, .ref q11), (2, .ref q312), (3, .int (nI h)), (4, .int (zB an)), (5, .int (nI i6))]) (fun (i6, an) => 16 * h + 16 - i6) [] (16 * h, false) ⟨by omega, by rw [Nat.sub_self]; rfl, hZ, lv_sub hl [2, 3, 4, 5, 1, 0] (by first | rfl | (simp only [lv_pick]; rfl))⟩ ?_
      intro x H locs ls hI ih331
      obtain ⟨i6, an⟩ := x
      obtain ⟨hi6, han, hZ, hl⟩ := hI
      refine lv_iload hx hb dX7_plan_331 (lv_at hl 5 rfl) ?_
      refine z_bipush hx hb (nI 16) dX7_plan_333 (by decide) ?_
      refine lv_iload_n hx hb dX7_plan_335 rfl (lv_at hl 3 rfl) ?_
      refine z_imul hx hb dX7_plan_336 (z := nI (16 * h)) (pk_mul _ _) ?_
      refine z_bipush hx hb (nI 16) dX7_plan_337 (by decide) ?_
      refine z_iadd hx hb dX7_plan_339 (z := nI ((16 * h) + 16)) (nI_add _ _) ?_
      refine z_icmp_ge hx hb 361 dX7_plan_340 (by decide) (C := (16 * h) + 16 ≤ i6) (nIle (by omega) (by omega)) (fun h340 => ?_) (fun h340 => ?_)
      · skip
        have hch1 : an = chH a h := by rw [han, show i6 - 16 * h = 16 by omega]; rfl
        refine lv_aload_n hx hb dX7_plan_361 rfl (lv_at hl 2 rfl) ?_
        refine lv_iload_n hx hb dX7_plan_362 rfl (lv_at hl 3 rfl) ?_
        refine lv_aload_n hx hb dX7_plan_363 rfl (lv_at hl 0 rfl) ?_
        refine z_iconst hx hb (zI (-1)) dX7_plan_364 (by decide) ?_
        refine lv_iload_n hx hb dX7_plan_365 rfl (lv_at hl 3 rfl) ?_
        refine z_kVp (As := [.int (zI (-1)), .int (nI h)]) (rest := [.int (nI h), .ref q312]) hE hZ (c_X7_half l D cI cJ cZ cII cZZ t0 t1 t2 t3 t4 t5 t6 t7 t8 t9 tA tB tC tD tR tS e0 eP eb er ek es ed ec ew lk lf lo lv le eW bt bh wi bu bm B ih iN (-1 : Int) h (zI (-1)) (by first | assumption | omega) (hA.2.2) (by omega) (by omega) (rfl)) lL_X7_half lC_X7_86 rfl [(q11, .inl (cI, 14, .inl (fun x9 => zI (wp x9)))), (q312, .inl (cI, 2, .inl (fun x9 => zI (bv x9))))] (WQ_pm) (fun u => (WQ cI cJ cZ cII cZZ [(q11, .inl (cI, 14, .inl (fun x9 => zI (wp x9)))), (q312, .inl (cI, 2, .inl (fun x9 => zI (bv x9))))] t0 t1 t2 t3 t4 t5 t6 t7 t8 t9 tA tB tC tD tR tS e0 eP eb er ek es ed ec ew lk lf lo lv le eW bt bh wi bu bm)) (fun u => WQ_pm.symm) 0 rfl ⟨by decide, by decide⟩ 2 16 rfl rfl ⟨by decide, by decide⟩ rfl hl.1 rfl (Nat.le_of_ble_eq_true rfl) dX7_plan_366 (fun u H locs hq9 hZ => ?_)
        have hZ : zS D A s.heap H locs (WQ cI cJ cZ cII cZZ [(q11, .inl (cI, 14, .inl (fun x9 => zI (wp x9)))), (q312, .inl (cI, 2, .inl (fun x9 => zI (bv x9))))] t0 t1 t2 t3 t4 t5 t6 t7 t8 t9 tA tB tC tD tR tS e0 eP eb er ek es ed ec ew lk lf lo lv le eW bt bh wi bu bm) := hZ
        refine W.eq (g2 := F0 mth 369 ls [.int (nI (ih (((-1 : Int) + 1).toNat * 2 + h))), .int (nI h), .ref q312]) rfl ?_
        refine z_top (show nI (ih (((-1 : Int) + 1).toNat * 2 + h)) = nI (ih h) from by rw [show ((-1 : Int) + 1).toNat * 2 + h = h by omega]) ?_
        refine z_top (show nI (ih h) = zI ((ih h : Nat) : Int) from zI_n _) ?_
        refine z_iast zI bv ((ih h : Nat) : Int) hE hZ 15 0 rfl rfl (by decide) (by omega) dX7_plan_369 (WQ cI cJ cZ cII cZZ [(q11, .inl (cI, 14, .inl (fun x9 => zI (wp x9)))), (q312, .inl (cI, 2, .inl (fun x9 => zI ((va_up bv h ((ih h : Nat) : Int)) x9))))] t0 t1 t2 t3 t4 t5 t6 t7 t8 t9 tA tB tC tD tR tS e0 eP eb er ek es ed ec ew lk lf lo lv le eW bt bh wi bu bm) rfl (fun H locs hZ => ?_)
        refine lv_iload hx hb dX7_plan_370 (lv_at hl 4 rfl) ?_
        refine z_if_ne hx hb 378 dX7_plan_372 (by decide) (C := an = false) (zB_0 _) (fun h372 => ?_) (fun h372 => ?_)
        · skip
          have hch : chH a h = true := by rw [← hch1]; simpa using h372
          have hye : (pH (fR uv) a (plX B ih uv a).2.2 ((plX B ih uv a).1, ih) (h + 1)) = ((pH (fR uv) a (plX B ih uv a).2.2 ((plX B ih uv a).1, ih) h).1 ++ [(fR uv (pH (fR uv) a (plX B ih uv a).2.2 ((plX B ih uv a).1, ih) h).1.length, mkW (numO (fun j => (plX B ih uv a).2.2 (h * 16 + j))), 1)], va_up (pH (fR uv) a (plX B ih uv a).2.2 ((plX B ih uv a).1, ih) h).2 h (fR uv (pH (fR uv) a (plX B ih uv a).2.2 ((plX B ih uv a).1, ih) h).1.length)) := by rw [pH, if_pos hch]
          refine lv_aload_n hx hb dX7_plan_378 rfl (lv_at hl 2 rfl) ?_
          refine lv_iload_n hx hb dX7_plan_379 rfl (lv_at hl 3 rfl) ?_
          refine lv_aload_n hx hb dX7_plan_380 rfl (lv_at hl 0 rfl) ?_
          refine z_kVp (As := []) (rest := [.int (nI h), .ref q312]) hE hZ (c_X7_fresh l D cI cJ cZ cII cZZ t0 t1 t2 t3 t4 t5 t6 t7 t8 t9 tA tB tC tD tR tS e0 eP eb er ek es ed ec ew lk lf lo lv le eW bt bh wi bu bm uv (fR uv) (fc uv 600) bm (hY.2.2.1) (hFR) (fun p h1 h2 => fR_all h1 h2)) lL_X7_fresh lC_X7_135 rfl [(q11, .inl (cI, 14, .inl (fun x9 => zI (wp x9)))), (q312, .inl (cI, 2, .inl (fun x9 => zI ((va_up bv h ((ih h : Nat) : Int)) x9))))] (WQ_pm) (fun u => (WQ cI cJ cZ cII cZZ [(q11, .inl (cI, 14, .inl (fun x9 => zI (wp x9)))), (q312, .inl (cI, 2, .inl (fun x9 => zI ((va_up bv h ((ih h : Nat) : Int)) x9))))] t0 t1 t2 t3 t4 t5 t6 t7 t8 t9 tA tB tC tD tR tS e0 eP eb er ek es ed ec ew lk lf lo lv le eW bt bh wi u bm)) (fun u => WQ_pm.symm) 0 rfl ⟨by decide, by decide⟩ 2 16 rfl rfl ⟨by decide, by decide⟩ rfl hl.1 rfl (Nat.le_of_ble_eq_true rfl) dX7_plan_381 (fun u H locs hq9 hZ => ?_)
          obtain ⟨eu1_381, hu9⟩ : ∃ z, z = u := ⟨u, rfl⟩
          subst hu9
          have hq_381 := hq9
          have hq_381 : bm < (fc uv 600) → FU eu1_381 uv (fR uv) (bm + 1) := hq_381
          have hZ : zS D A s.heap H locs (WQ cI cJ cZ cII cZZ [(q11, .inl (cI, 14, .inl (fun x9 => zI (wp x9)))), (q312, .inl (cI, 2, .inl (fun x9 => zI ((va_up bv h ((ih h : Nat) : Int)) x9))))] t0 t1 t2 t3 t4 t5 t6 t7 t8 t9 tA tB tC tD tR tS e0 eP eb er ek es ed ec ew lk lf lo lv le eW bt bh wi eu1_381 bm) := hZ
          refine W.eq (g2 := F0 mth 384 ls [.int (zI (if bm < (fc uv 600) then ((fR uv) bm : Int) else -1)), .int (nI h), .ref q312]) rfl ?_
          have hfk381 : bm < fc uv 600 → fR uv bm < 600 := fun z => (hFR bm z).1.2
          refine z_iast zI (va_up bv h ((ih h : Nat) : Int)) (if bm < (fc uv 600) then ((fR uv) bm : Int) else -1) hE hZ 15 0 rfl rfl (by decide) (by omega) dX7_plan_384 (WQ cI cJ cZ cII cZZ [(q11, .inl (cI, 14, .inl (fun x9 => zI (wp x9)))), (q312, .inl (cI, 2, .inl (fun x9 => zI ((va_up (va_up bv h ((ih h : Nat) : Int)) h (if bm < (fc uv 600) then ((fR uv) bm : Int) else -1)) x9))))] t0 t1 t2 t3 t4 t5 t6 t7 t8 t9 tA tB tC tD tR tS e0 eP eb er ek es ed ec ew lk lf lo lv le eW bt bh wi eu1_381 bm) rfl (fun H locs hZ => ?_)
          refine lv_aload_n hx hb dX7_plan_385 rfl (lv_at hl 0 rfl) ?_
          refine lv_aload_n hx hb dX7_plan_386 rfl (lv_at hl 2 rfl) ?_
          refine lv_iload_n hx hb dX7_plan_387 rfl (lv_at hl 3 rfl) ?_
          refine z_iald hE hZ 15 0 rfl rfl (by decide) (by omega) dX7_plan_388 ?_
          refine z_top (show zI ((va_up (va_up bv h ((ih h : Nat) : Int)) h (if bm < (fc uv 600) then ((fR uv) bm : Int) else -1)) h) = zI (if bm < fc uv 600 then (fR uv bm : Int) else -1) from by rw [vs]) ?_
          refine z_kVp (As := [.int (zI (if bm < fc uv 600 then (fR uv bm : Int) else -1))]) (rest := []) hE hZ (c_X7_next l D cI cJ cZ cII cZZ t0 t1 t2 t3 t4 t5 t6 t7 t8 t9 tA tB tC tD tR tS e0 eP eb er ek es ed ec ew lk lf lo lv le eW bt bh wi eu1_381 bm ((pH (fR uv) a (plX B ih uv a).2.2 ((plX B ih uv a).1, ih) h).1) (if bm < fc uv 600 then (fR uv bm : Int) else -1) (zI (if bm < fc uv 600 then (fR uv bm : Int) else -1)) (by
                  by_cases z : bm < fc uv 600
                  · have := hfk381 z
                    rw [if_pos z]; omega
                  · rw [if_neg z]; omega) (hY.1) (⟨hY.2.1, by have := hY.2.2.2; omega⟩) (rfl)) lL_X7_next lC_X7_139 rfl [(q11, .inl (cI, 14, .inl (fun x9 => zI (wp x9)))), (q312, .inl (cI, 2, .inl (fun x9 => zI ((va_up (va_up bv h ((ih h : Nat) : Int)) h (if bm < (fc uv 600) then ((fR uv) bm : Int) else -1)) x9))))] (WQ_pm) (fun u => (WQ cI cJ cZ cII cZZ [(q11, .inl (cI, 14, .inl (fun x9 => zI (wp x9)))), (q312, .inl (cI, 2, .inl (fun x9 => zI ((va_up (va_up bv h ((ih h : Nat) : Int)) h (if bm < (fc uv 600) then ((fR uv) bm : Int) else -1)) x9))))] t0 t1 t2 t3 t4 t5 t6 t7 t8 t9 tA tB tC tD tR tS e0 eP eb er ek es ed ec ew lk lf lo lv le eW u.1 u.2.1 wi eu1_381 u.2.2)) (fun u => WQ_pm.symm) 0 rfl ⟨by decide, by decide⟩ 2 16 rfl rfl ⟨by decide, by decide⟩ rfl hl.1 rfl (Nat.le_of_ble_eq_true rfl) dX7_plan_389 (fun u H locs hq9 hZ => ?_)
          obtain ⟨et1_389, eh1_389, em1_389⟩ := u
          have hq_389 := hq9
          have hq_389 : 0 ≤ (if bm < fc uv 600 then (fR uv bm : Int) else -1) → em1_389 = bm + 1 ∧ PLN ((pH (fR uv) a (plX B ih uv a).2.2 ((plX B ih uv a).1, ih) h).1) et1_389 eh1_389 ∧ et1_389 bm = (if bm < fc uv 600 then (fR uv bm : Int) else -1).toNat ∧ RW eh1_389 bm (fun _ => 0) := hq_389
          have hZ : zS D A s.heap H locs (WQ cI cJ cZ cII cZZ [(q11, .inl (cI, 14, .inl (fun x9 => zI (wp x9)))), (q312, .inl (cI, 2, .inl (fun x9 => zI ((va_up (va_up bv h ((ih h : Nat) : Int)) h (if bm < (fc uv 600) then ((fR uv) bm : Int) else -1)) x9))))] t0 t1 t2 t3 t4 t5 t6 t7 t8 t9 tA tB tC tD tR tS e0 eP eb er ek es ed ec ew lk lf lo lv le eW et1_389 eh1_389 wi eu1_381 em1_389) := hZ
          refine W.eq (g2 := F0 mth 392 ls [.int (zB (decide (0 ≤ (if bm < fc uv 600 then (fR uv bm : Int) else -1))))]) rfl ?_
          refine z_if_ne hx hb 397 dX7_plan_392 (by decide) (C := (decide (0 ≤ (if bm < fc uv 600 then (fR uv bm : Int) else -1))) = false) (zB_0 _) (fun h392 => ?_) (fun h392 => ?_)
          · skip
            have hkm392 : bm < fc uv 600 := by
                    by_cases z : bm < fc uv 600
                    · exact z
                    · rw [if_neg z] at h392; exact absurd rfl h392
            obtain ⟨he392, hL392, ht392, hr392⟩ := hq_389 (by rw [if_pos hkm392]; omega)
            rw [if_pos hkm392] at ht392
            have hu392 := hq_381 hkm392
            have hfz392 := hfk381 hkm392
            refine z_iconst hx hb (nI 0) dX7_plan_397 (by decide) ?_
            refine lv_istore (lv' := [(5, .int (nI 0)), (0, .ref t0), (1, .ref q11), (2, .ref q312), (3, .int (nI h)), (4, .int (zB an))]) hx hb dX7_plan_398 hl (by decide) rfl (fun ls hl => ?_)
            refine z_loop (σ := Nat × (Nat → Nat)) (fun (i7, ch) H locs ls => (i7 ≤ 16) ∧ (PLN (pH (fR uv) a (plX B ih uv a).2.2 ((plX B ih uv a).1, ih) h).1 et1_389 ch) ∧ (RW ch (pH (fR uv) a (plX B ih uv a).2.2 ((plX B ih uv a).1, ih) h).1.length (numO (fun j => if j < i7 then (plX B ih uv a).2.2 (h * 16 + j) else 0))) ∧ zS D A s.heap H locs (WQ cI cJ cZ cII cZZ [(q11, .inl (cI, 14, .inl (fun x9 => zI (wp x9)))), (q312, .inl (cI, 2, .inl (fun x9 => zI ((va_up (va_up bv h ((ih h : Nat) : Int)) h (if bm < (fc uv 600) then ((fR uv) bm : Int) else -1)) x9))))] t0 t1 t2 t3 t4 t5 t6 t7 t8 t9 tA tB tC tD tR tS e0 eP eb er ek es ed ec ew lk lf lo lv le eW et1_389 ch wi eu1_381 em1_389) ∧ lv_has ls 6 [(0, .ref t0), (1, .ref q11), (2, .ref q312), (3, .int (nI h)), (4, .int (zB an)), (5, .int (nI i7))]) (fun (i7, ch) => 16 - i7) [] (0, eh1_389) ⟨by omega, hL392, by
                    have z := hY.2.1
                    rw [z] at hr392
                    exact RW_n hr392 (fun k hk => by unfold numO; simp), hZ, lv_sub hl [1, 2, 3, 4, 5, 0] (by first | rfl | (simp only [lv_pick]; rfl))⟩ ?_
            intro x H locs ls hI ih400
            obtain ⟨i7, ch⟩ := x
            obtain ⟨hi7, hL7, hr7, hZ, hl⟩ := hI
            refine lv_iload hx hb dX7_plan_400 (lv_at hl 5 rfl) ?_
            refine z_bipush hx hb (nI 16) dX7_plan_402 (by decide) ?_
            refine z_icmp_ge hx hb 433 dX7_plan_404 (by decide) (C := 16 ≤ i7) (nIle (by omega) (by omega)) (fun h404 => ?_) (fun h404 => ?_)
            · skip
              have hY1 : PLS uv (pH (fR uv) a (plX B ih uv a).2.2 ((plX B ih uv a).1, ih) (h + 1)).1 et1_389 ch eu1_381 em1_389 := by
                      rw [hye]
                      have z := hY.2.1
                      refine PLS_snoc z hkm392 he392 hL7 (by rw [ht392]; omega) (RW_n (by rw [z]; exact hr7) (numO_n (n1 := fun j => (plX B ih uv a).2.2 (h * 16 + j)) (fun j hj => ?_))) (numO_lt (fun j hj => ?_)) hu392
                      · show (if j < i7 then _ else _) = _
                        rw [if_pos (by omega)]
                      · have := hxl (h * 16 + j) (by omega)
                        show (plX B ih uv a).2.2 (h * 16 + j) < 65536
                        omega
              have hv1 : ∀ r, r < h + 1 → va_up (va_up bv h ((ih h : Nat) : Int)) h (if bm < fc uv 600 then (fR uv bm : Int) else -1) r = ((pH (fR uv) a (plX B ih uv a).2.2 ((plX B ih uv a).1, ih) (h + 1)).2 r : Int) := fun r hr => by
                      rw [hye]
                      show _ = ((va_up (pH (fR uv) a (plX B ih uv a).2.2 ((plX B ih uv a).1, ih) h).2 h (fR uv (pH (fR uv) a (plX B ih uv a).2.2 ((plX B ih uv a).1, ih) h).1.length) r : Nat) : Int)
                      by_cases y : r = h
                      · rw [y, vs, vs, if_pos hkm392, ← hY.2.1]
                      · rw [vn y, vn y, vn y]; exact hv r (by omega)
              refine lv_iinc (v := nI (h + 1)) (lv' := [(3, .int (nI (h + 1))), (0, .ref t0), (1, .ref q11), (2, .ref q312), (4, .int (zB an)), (5, .int (nI i7))]) hx hb dX7_plan_433 hl (k := 3) rfl (nI_add _ _) (by decide) rfl (fun ls hl => ?_)
              refine lv_goto (tgt := 317) hx hb dX7_plan_436 (by decide) ?_
              exact ih317 (h + 1, et1_389, ch, eu1_381, em1_389, va_up (va_up bv h ((ih h : Nat) : Int)) h (if bm < (fc uv 600) then ((fR uv) bm : Int) else -1)) _ _ _ ⟨by omega, hY1, hv1, hZ, lv_sub hl [1, 2, 3, 0] (by first | rfl | (simp only [lv_pick]; rfl))⟩ (by (try dsimp only); omega)
            · skip
              refine lv_aload_n hx hb dX7_plan_407 rfl (lv_at hl 0 rfl) ?_
              refine z_iconst hx hb (nI 2) dX7_plan_408 (by decide) ?_
              refine lv_iload hx hb dX7_plan_409 (lv_at hl 5 rfl) ?_
              refine z_imul hx hb dX7_plan_411 (z := nI (2 * i7)) (pk_mul _ _) ?_
              refine lv_aload_n hx hb dX7_plan_412 rfl (lv_at hl 0 rfl) ?_
              refine z_get hE fF_X7_17 hZ 0 rfl (.ref tC) rfl dX7_plan_413 ?_
              refine z_bipush hx hb (nI 16) dX7_plan_416 (by decide) ?_
              refine lv_iload_n hx hb dX7_plan_418 rfl (lv_at hl 3 rfl) ?_
              refine z_imul hx hb dX7_plan_419 (z := nI (16 * h)) (pk_mul _ _) ?_
              refine lv_iload hx hb dX7_plan_420 (lv_at hl 5 rfl) ?_
              refine z_iadd hx hb dX7_plan_422 (z := nI ((16 * h) + i7)) (nI_add _ _) ?_
              refine z_iald hE hZ 12 0 rfl rfl (by decide) (by omega) dX7_plan_423 ?_
              refine z_top (show zI (wi ((16 * h) + i7)) = nI ((plX B ih uv a).2.2 (h * 16 + i7)) from by rw [show 16 * h + i7 = h * 16 + i7 by omega, hii _ (by omega), zI_n]) ?_
              refine z_kVp (As := [.int (nI (2 * i7)), .int (nI ((plX B ih uv a).2.2 (h * 16 + i7)))]) (rest := []) hE hZ (c_X7_put l D cI cJ cZ cII cZZ t0 t1 t2 t3 t4 t5 t6 t7 t8 t9 tA tB tC tD tR tS e0 eP eb er ek es ed ec ew lk lf lo lv le eW et1_389 ch wi eu1_381 em1_389 ((pH (fR uv) a (plX B ih uv a).2.2 ((plX B ih uv a).1, ih) h).1) (fun j => if j < i7 then (plX B ih uv a).2.2 (h * 16 + j) else 0) i7 (2 * i7) ((plX B ih uv a).2.2 (h * 16 + i7)) (rfl) (by omega) (by have := hxl (h * 16 + i7) (by omega); omega) (hL7) (⟨by have := hY.2.1; omega, by omega⟩) (hr7)) lL_X7_put lC_X7_142 rfl [(q11, .inl (cI, 14, .inl (fun x9 => zI (wp x9)))), (q312, .inl (cI, 2, .inl (fun x9 => zI ((va_up (va_up bv h ((ih h : Nat) : Int)) h (if bm < (fc uv 600) then ((fR uv) bm : Int) else -1)) x9))))] (WQ_pm) (fun u => (WQ cI cJ cZ cII cZZ [(q11, .inl (cI, 14, .inl (fun x9 => zI (wp x9)))), (q312, .inl (cI, 2, .inl (fun x9 => zI ((va_up (va_up bv h ((ih h : Nat) : Int)) h (if bm < (fc uv 600) then ((fR uv) bm : Int) else -1)) x9))))] t0 t1 t2 t3 t4 t5 t6 t7 t8 t9 tA tB tC tD tR tS e0 eP eb er ek es ed ec ew lk lf lo lv le eW et1_389 u wi eu1_381 em1_389)) (fun u => WQ_pm.symm) 0 rfl ⟨by decide, by decide⟩ 2 16 rfl rfl ⟨by decide, by decide⟩ rfl hl.1 rfl (Nat.le_of_ble_eq_true rfl) dX7_plan_424 (fun u H locs hq9 hZ => ?_)
              obtain ⟨eh1_424, hu9⟩ : ∃ z, z = u := ⟨u, rfl⟩
              subst hu9
              obtain ⟨hq_424, hq2_424⟩ := hq9
              have hq_424 : PLN ((pH (fR uv) a (plX B ih uv a).2.2 ((plX B ih uv a).1, ih) h).1) et1_389 eh1_424 := hq_424
              have hq2_424 : RW eh1_424 ((pH (fR uv) a (plX B ih uv a).2.2 ((plX B ih uv a).1, ih) h).1).length (numO (va_up (fun j => if j < i7 then (plX B ih uv a).2.2 (h * 16 + j) else 0) i7 (((plX B ih uv a).2.2 (h * 16 + i7)) % 65536))) := hq2_424
              have hZ : zS D A s.heap H locs (WQ cI cJ cZ cII cZZ [(q11, .inl (cI, 14, .inl (fun x9 => zI (wp x9)))), (q312, .inl (cI, 2, .inl (fun x9 => zI ((va_up (va_up bv h ((ih h : Nat) : Int)) h (if bm < (fc uv 600) then ((fR uv) bm : Int) else -1)) x9))))] t0 t1 t2 t3 t4 t5 t6 t7 t8 t9 tA tB tC tD tR tS e0 eP eb er ek es ed ec ew lk lf lo lv le eW et1_389 eh1_424 wi eu1_381 em1_389) := hZ
              refine W.eq (g2 := F0 mth 427 ls []) rfl ?_
              refine lv_iinc (v := nI (i7 + 1)) (lv' := [(5, .int (nI (i7 + 1))), (0, .ref t0), (1, .ref q11), (2, .ref q312), (3, .int (nI h)), (4, .int (zB an))]) hx hb dX7_plan_427 hl (k := 5) rfl (nI_add _ _) (by decide) rfl (fun ls hl => ?_)
              refine lv_goto (tgt := 400) hx hb dX7_plan_430 (by decide) ?_
              exact ih400 (i7 + 1, eh1_424) _ _ _ ⟨by omega, hq_424, RW_n hq2_424 (numO_n (fun j hj => by
                      unfold va_up
                      by_cases y : j = i7
                      · rw [if_pos y, if_pos (by omega), y]; have := hxl (h * 16 + i7) (by omega); omega
                      · rw [if_neg y]
                        dsimp only
                        by_cases z : j < i7
                        · rw [if_pos z, if_pos (by omega)]
                        · rw [if_neg z, if_neg (by omega)])), hZ, lv_sub hl [1, 2, 3, 4, 5, 0] (by first | rfl | (simp only [lv_pick]; rfl))⟩ (by (try dsimp only); omega)
          · skip
            have hkm392 : ¬ bm < fc uv 600 := fun z => by
                    rw [if_pos z, decide_eq_false_iff_not] at h392
                    exact h392 (by omega)
            have hno : ¬ (plY B ih uv a).1.length ≤ fc uv 600 := by
                    have z1 := pH_Y B ih uv a (show h < 2 by omega) hch
                    have z2 := hY.2.1
                    omega
            refine z_iconst hx hb (nI 0) dX7_plan_395 (by decide) ?_
            have hZ := WQ_drop hZ
            refine z_top (show nI 0 = zB (decide ((plY B ih uv a).1.length ≤ fc uv 600)) from by first | (have z : ¬ (plY B ih uv a).1.length ≤ fc uv 600 := hno; rw [show decide ((plY B ih uv a).1.length ≤ fc uv 600) = false by rw [decide_eq_false_iff_not]; exact z]; rfl) | (rw [show decide ((plY B ih uv a).1.length ≤ fc uv 600) = true by rw [decide_eq_true_eq]; have z1 := hYY.2.1; have z2 := hYY.2.2.2; omega]; rfl)) ?_
            exact z_zret (decide ((plY B ih uv a).1.length ≤ fc uv 600)) rfl hE hrt9 hlocks hZ (et1_389, eh1_389, wi, eu1_381, em1_389) rfl (show ((plY B ih uv a).1.length ≤ fc uv 600 → PLN (plL B ih iN uv a) et1_389 eh1_389 ∧ em1_389 = (plL B ih iN uv a).length) from fun z => absurd z hno) rfl dX7_plan_396 (Nat.le_of_ble_eq_true rfl) (Nat.le_of_ble_eq_true rfl)
        · skip
          have hch : chH a h = false := by rw [← hch1]; simpa using h372
          have hye : (pH (fR uv) a (plX B ih uv a).2.2 ((plX B ih uv a).1, ih) (h + 1)) = (pH (fR uv) a (plX B ih uv a).2.2 ((plX B ih uv a).1, ih) h) := by rw [pH, if_neg (by rw [hch]; simp)]
          have hY1 : PLS uv (pH (fR uv) a (plX B ih uv a).2.2 ((plX B ih uv a).1, ih) (h + 1)).1 bt bh bu bm := by rw [hye]; exact hY
          have hv1 : ∀ r, r < h + 1 → va_up bv h ((ih h : Nat) : Int) r = ((pH (fR uv) a (plX B ih uv a).2.2 ((plX B ih uv a).1, ih) (h + 1)).2 r : Int) := fun r hr => by
                  rw [hye]
                  by_cases y : r = h
                  · rw [y, vs, (pH_all (fR uv) a (plX B ih uv a).2.2 ((plX B ih uv a).1, ih) h).2.2.2.1 h (Or.inl (Nat.le_refl _))]
                  · rw [vn y]; exact hv r (by omega)
          refine lv_goto (tgt := 433) hx hb dX7_plan_375 (by decide) ?_
          refine lv_iinc (v := nI (h + 1)) (lv' := [(3, .int (nI (h + 1))), (0, .ref t0), (1, .ref q11), (2, .ref q312), (4, .int (zB an)), (5, .int (nI i6))]) hx hb dX7_plan_433 hl (k := 3) rfl (nI_add _ _) (by decide) rfl (fun ls hl => ?_)
          refine lv_goto (tgt := 317) hx hb dX7_plan_436 (by decide) ?_
          exact ih317 (h + 1, bt, bh, bu, bm, va_up bv h ((ih h : Nat) : Int)) _ _ _ ⟨by omega, hY1, hv1, hZ, lv_sub hl [1, 2, 3, 0] (by first | rfl | (simp only [lv_pick]; rfl))⟩ (by (try dsimp only); omega)
      · skip
        refine lv_iload hx hb dX7_plan_343 (lv_at hl 4 rfl) ?_
        refine lv_aload_n hx hb dX7_plan_345 rfl (lv_at hl 0 rfl) ?_
        refine z_get hE fF_X7_7 hZ 0 rfl (.ref t4) rfl dX7_plan_346 ?_
        refine lv_iload hx hb dX7_plan_349 (lv_at hl 5 rfl) ?_
        refine z_zald hE hZ 4 2 rfl rfl (by decide) (by omega) dX7_plan_351 ?_
        refine lv_ior hx hb dX7_plan_352 ?_
        refine z_top (show (zB an) ||| (zB (ec i6)) = zB (an || ec i6) from zB_or _ _) ?_
        refine lv_istore (lv' := [(4, .int (zB (an || ec i6))), (0, .ref t0), (1, .ref q11), (2, .ref q312), (3, .int (nI h)), (5, .int (nI i6))]) hx hb dX7_plan_353 hl (by decide) rfl (fun ls hl => ?_)
        refine lv_iinc (v := nI (i6 + 1)) (lv' := [(5, .int (nI (i6 + 1))), (4, .int (zB (an || ec i6))), (0, .ref t0), (1, .ref q11), (2, .ref q312), (3, .int (nI h))]) hx hb dX7_plan_355 hl (k := 5) rfl (nI_add _ _) (by decide) rfl (fun ls hl => ?_)
        refine lv_goto (tgt := 331) hx hb dX7_plan_358 (by decide) ?_
        exact ih331 (i6 + 1, (an || ec i6)) _ _ _ ⟨by omega, by
                rw [show i6 + 1 - 16 * h = i6 - 16 * h + 1 by omega, List.range_succ, List.any_append, ← han, hM.2.2.2 i6 (by omega)]
                simp only [List.any_cons, List.any_nil, Bool.or_false]
                rw [show h * 16 + (i6 - 16 * h) = i6 by omega], hZ, lv_sub hl [2, 3, 4, 5, 1, 0] (by first | rfl | (simp only [lv_pick]; rfl))⟩ (by (try dsimp only); omega)
  · skip
    have hef := hM.1 f (by omega)
    have hbf := hMB.1 f (by omega)
    have hinf := inoO_ok hA.1 hA.2.1 (show 0 < 6 by omega) (show f < 32 by omega)
    obtain ⟨xl1, xl2, xl3, xl4, xl5, xl6, xl7⟩ := pL_all (fr := fR uv) (a := a) (pp := pp0 B ih) (ii := ii0 B ih) (fun f hf => (hMB.1 f hf).2) f hf
    refine lv_aload_n hx hb dX7_plan_22 rfl (lv_at hl 0 rfl) ?_
    refine z_get hE fF_X7_17 hZ 0 rfl (.ref tC) rfl dX7_plan_23 ?_
    refine lv_iload_n hx hb dX7_plan_26 rfl (lv_at hl 2 rfl) ?_
    refine lv_aload_n hx hb dX7_plan_27 rfl (lv_at hl 0 rfl) ?_
    refine z_iconst hx hb (zI (-1)) dX7_plan_28 (by decide) ?_
    refine lv_iload_n hx hb dX7_plan_29 rfl (lv_at hl 2 rfl) ?_
    refine z_kVp (As := [.int (zI (-1)), .int (nI f)]) (rest := [.int (nI f), .ref tC]) hE hZ (c_X7_inodeOf l D cI cJ cZ cII cZZ t0 t1 t2 t3 t4 t5 t6 t7 t8 t9 tA tB tC tD tR tS e0 eP eb er ek es ed ec ew lk lf lo lv le eW wt wh wi wu wm B ro ih iN (-1 : Int) f (zI (-1)) (by first | assumption | omega) (hA.2.2) (hA.2.1) (by omega) (by omega) (rfl)) lL_X7_inodeOf lC_X7_89 rfl [(q11, .inl (cI, 14, .inl (fun x9 => zI (wp x9))))] (WQ_pm) (fun u => (WQ cI cJ cZ cII cZZ [(q11, .inl (cI, 14, .inl (fun x9 => zI (wp x9))))] t0 t1 t2 t3 t4 t5 t6 t7 t8 t9 tA tB tC tD tR tS e0 eP eb er ek es ed ec ew lk lf lo lv le eW wt wh wi wu wm)) (fun u => WQ_pm.symm) 0 rfl ⟨by decide, by decide⟩ 1 14 rfl rfl ⟨by decide, by decide⟩ rfl hl.1 rfl (Nat.le_of_ble_eq_true rfl) dX7_plan_30 (fun u H locs hq9 hZ => ?_)
    have hZ : zS D A s.heap H locs (WQ cI cJ cZ cII cZZ [(q11, .inl (cI, 14, .inl (fun x9 => zI (wp x9))))] t0 t1 t2 t3 t4 t5 t6 t7 t8 t9 tA tB tC tD tR tS e0 eP eb er ek es ed ec ew lk lf lo lv le eW wt wh wi wu wm) := hZ
    refine W.eq (g2 := F0 mth 33 ls [.int (nI (inoO B ih ((-1 : Int) + 1).toNat f)), .int (nI f), .ref tC]) rfl ?_
    refine z_top (show nI (inoO B ih ((-1 : Int) + 1).toNat f) = nI (inoO B ih 0 f) from rfl) ?_
    refine z_top (show nI (inoO B ih 0 f) = zI ((inoO B ih 0 f : Nat) : Int) from zI_n _) ?_
    refine z_iast zI wi ((inoO B ih 0 f : Nat) : Int) hE hZ 12 0 rfl rfl (by decide) (by omega) dX7_plan_33 (WQ cI cJ cZ cII cZZ [(q11, .inl (cI, 14, .inl (fun x9 => zI (wp x9))))] t0 t1 t2 t3 t4 t5 t6 t7 t8 t9 tA tB tC tD tR tS e0 eP eb er ek es ed ec ew lk lf lo lv le eW wt wh (va_up wi f ((inoO B ih 0 f : Nat) : Int)) wu wm) rfl (fun H locs hZ => ?_)
    refine lv_aload_n hx hb dX7_plan_34 rfl (lv_at hl 0 rfl) ?_
    refine z_get hE fF_X7_7 hZ 0 rfl (.ref t4) rfl dX7_plan_35 ?_
    refine lv_iload_n hx hb dX7_plan_38 rfl (lv_at hl 2 rfl) ?_
    refine z_zald hE hZ 4 2 rfl rfl (by decide) (by omega) dX7_plan_39 ?_
    refine z_if_ne hx hb 46 dX7_plan_40 (by decide) (C := (ec f) = false) (zB_0 _) (fun h40 => ?_) (fun h40 => ?_)
    · skip
      have hcf : a.2.2.2 f = true := by rw [← hM.2.2.2 f (by omega)]; simpa using h40
      have hxe : (pL (fR uv) a (pp0 B ih) (ii0 B ih) (f + 1)) = pI (fR uv) a f (pL (fR uv) a (pp0 B ih) (ii0 B ih) f) := by rw [pL, if_pos hcf]
      refine lv_aload_n hx hb dX7_plan_46 rfl (lv_at hl 0 rfl) ?_
      refine z_get hE fF_X7_5 hZ 0 rfl (.ref t2) rfl dX7_plan_47 ?_
      refine lv_iload_n hx hb dX7_plan_50 rfl (lv_at hl 2 rfl) ?_
      refine z_iald hE hZ 2 0 rfl rfl (by decide) (by omega) dX7_plan_51 ?_
      refine z_top (show zI (es f) = zI (a.1 f) from by rw [hef]) ?_
      refine z_iconst hx hb (nI 0) dX7_plan_52 (by decide) ?_
      refine z_mmax (rest := []) hE hl.1 lC_X7_92 (Nat.le_of_ble_eq_true rfl) (Nat.le_of_ble_eq_true rfl) (Nat.le_of_ble_eq_true rfl) (Nat.le_of_ble_eq_true rfl) (a.1 f) 0 rfl (zI_n _) ⟨by omega, by omega⟩ ⟨by omega, by omega⟩ dX7_plan_53 ?_
      refine z_bipush hx hb (nI 32) dX7_plan_56 (by decide) ?_
      refine z_iadd hx hb dX7_plan_58 (z := zI ((if a.1 f < 0 then 0 else a.1 f) + 32)) (by (try simp only [zI_n]); exact zI_add _ _) ?_
      refine z_iconst hx hb (nI 1) dX7_plan_59 (by decide) ?_
      refine z_isub hx hb dX7_plan_60 (z := zI (((if a.1 f < 0 then 0 else a.1 f) + 32) - 1)) (by (try simp only [zI_n]); exact zI_sub _ _) ?_
      refine z_top (show zI (((if a.1 f < 0 then 0 else a.1 f) + 32) - 1) = nI ((a.1 f).toNat + 31) from by rw [zI_n]; congr 1; split <;> omega) ?_
      refine z_bipush hx hb (nI 32) dX7_plan_61 (by decide) ?_
      refine z_idiv hx hb dX7_plan_63 (by omega) (by omega) (by omega) ?_
      refine lv_istore_n (lv' := [(3, .int (nI (((a.1 f).toNat + 31) / 32))), (0, .ref t0), (1, .ref q11), (2, .int (nI f))]) hx hb dX7_plan_64 rfl hl (by decide) rfl (fun ls hl => ?_)
      refine z_iconst hx hb (nI 0) dX7_plan_65 (by decide) ?_
      refine lv_istore (lv' := [(4, .int (nI 0)), (3, .int (nI (((a.1 f).toNat + 31) / 32))), (0, .ref t0), (1, .ref q11), (2, .int (nI f))]) hx hb dX7_plan_66 hl (by decide) rfl (fun ls hl => ?_)
      refine z_loop (σ := Nat × (Nat → Nat) × (Nat → Nat) × (Nat → Bool) × Nat × (Nat → Int)) (fun (q, xt, xh, xu, xm, xp) H locs ls => (q ≤ ((a.1 f).toNat + 31) / 32) ∧ (PLS uv (pF (fR uv) a f q ((pL (fR uv) a (pp0 B ih) (ii0 B ih) f).1, (pL (fR uv) a (pp0 B ih) (ii0 B ih) f).2.1)).1 xt xh xu xm) ∧ (∀ r, r < q → xp r = ((pF (fR uv) a f q ((pL (fR uv) a (pp0 B ih) (ii0 B ih) f).1, (pL (fR uv) a (pp0 B ih) (ii0 B ih) f).2.1)).2 (f * 14 + r) : Int)) ∧ (∀ r, r < q → 0 ≤ xp r ∧ xp r < 600) ∧ zS D A s.heap H locs (WQ cI cJ cZ cII cZZ [(q11, .inl (cI, 14, .inl (fun x9 => zI (xp x9))))] t0 t1 t2 t3 t4 t5 t6 t7 t8 t9 tA tB tC tD tR tS e0 eP eb er ek es ed ec ew lk lf lo lv le eW xt xh (va_up wi f ((inoO B ih 0 f : Nat) : Int)) xu xm) ∧ lv_has ls 6 [(0, .ref t0), (1, .ref q11), (2, .int (nI f)), (3, .int (nI (((a.1 f).toNat + 31) / 32))), (4, .int (nI q))]) (fun (q, xt, xh, xu, xm, xp) => ((a.1 f).toNat + 31) / 32 - q) [] (0, wt, wh, wu, wm, wp) ⟨by omega, hX, fun r h => absurd h (Nat.not_lt_zero r), fun r h => absurd h (Nat.not_lt_zero r), hZ, lv_sub hl [2, 3, 4, 1, 0] (by first | rfl | (simp only [lv_pick]; rfl))⟩ ?_
      intro x H locs ls hI ih68
      obtain ⟨q, xt, xh, xu, xm, xp⟩ := x
      obtain ⟨hq, hX2, hp2, hb2, hZ, hl⟩ := hI
      refine lv_iload hx hb dX7_plan_68 (lv_at hl 4 rfl) ?_
      refine lv_iload_n hx hb dX7_plan_70 rfl (lv_at hl 3 rfl) ?_
      refine z_icmp_ge hx hb 221 dX7_plan_71 (by decide) (C := ((a.1 f).toNat + 31) / 32 ≤ q) (nIle (by omega) (by omega)) (fun h71 => ?_) (fun h71 => ?_)
      · skip
        have hqN : q = ((a.1 f).toNat + 31) / 32 := by omega
        have hpe : (pF (fR uv) a f 14 ((pL (fR uv) a (pp0 B ih) (ii0 B ih) f).1, (pL (fR uv) a (pp0 B ih) (ii0 B ih) f).2.1)) = (pF (fR uv) a f q ((pL (fR uv) a (pp0 B ih) (ii0 B ih) f).1, (pL (fR uv) a (pp0 B ih) (ii0 B ih) f).2.1)) := by
                have z := pF_stop (fr := fR uv) (x := ((pL (fR uv) a (pp0 B ih) (ii0 B ih) f).1, (pL (fR uv) a (pp0 B ih) (ii0 B ih) f).2.1)) hMB (show f < 32 by omega) q (14 - q) (by omega) (by omega)
                rw [show q + (14 - q) = 14 by omega] at z
                exact z
        have hX4 : PLS uv (pF (fR uv) a f 14 ((pL (fR uv) a (pp0 B ih) (ii0 B ih) f).1, (pL (fR uv) a (pp0 B ih) (ii0 B ih) f).2.1)).1 xt xh xu xm := by rw [hpe]; exact hX2
        refine lv_aload_n hx hb dX7_plan_221 rfl (lv_at hl 0 rfl) ?_
        refine z_get hE fF_X7_5 hZ 0 rfl (.ref t2) rfl dX7_plan_222 ?_
        refine lv_iload_n hx hb dX7_plan_225 rfl (lv_at hl 2 rfl) ?_
        refine z_iald hE hZ 2 0 rfl rfl (by decide) (by omega) dX7_plan_226 ?_
        refine z_top (show zI (es f) = zI (a.1 f) from by rw [hef]) ?_
        refine z_if_ge hx hb 240 dX7_plan_227 (by decide) (C := 0 ≤ a.1 f) (zI_ge0 ⟨by omega, by omega⟩) (fun h227 => ?_) (fun h227 => ?_)
        · skip
          have hs1 : ¬ a.1 f = -1 := by omega
          refine lv_aload_n hx hb dX7_plan_240 rfl (lv_at hl 0 rfl) ?_
          refine z_get hE fF_X7_17 hZ 0 rfl (.ref tC) rfl dX7_plan_241 ?_
          refine lv_iload_n hx hb dX7_plan_244 rfl (lv_at hl 2 rfl) ?_
          refine lv_aload_n hx hb dX7_plan_245 rfl (lv_at hl 0 rfl) ?_
          refine z_kVp (As := []) (rest := [.int (nI f), .ref tC]) hE hZ (c_X7_fresh l D cI cJ cZ cII cZZ t0 t1 t2 t3 t4 t5 t6 t7 t8 t9 tA tB tC tD tR tS e0 eP eb er ek es ed ec ew lk lf lo lv le eW xt xh (va_up wi f ((inoO B ih 0 f : Nat) : Int)) xu xm uv (fR uv) (fc uv 600) xm (hX4.2.2.1) (hFR) (fun p h1 h2 => fR_all h1 h2)) lL_X7_fresh lC_X7_135 rfl [(q11, .inl (cI, 14, .inl (fun x9 => zI (xp x9))))] (WQ_pm) (fun u => (WQ cI cJ cZ cII cZZ [(q11, .inl (cI, 14, .inl (fun x9 => zI (xp x9))))] t0 t1 t2 t3 t4 t5 t6 t7 t8 t9 tA tB tC tD tR tS e0 eP eb er ek es ed ec ew lk lf lo lv le eW xt xh (va_up wi f ((inoO B ih 0 f : Nat) : Int)) u xm)) (fun u => WQ_pm.symm) 0 rfl ⟨by decide, by decide⟩ 1 14 rfl rfl ⟨by decide, by decide⟩ rfl hl.1 rfl (Nat.le_of_ble_eq_true rfl) dX7_plan_246 (fun u H locs hq9 hZ => ?_)
          obtain ⟨eu1_246, hu9⟩ : ∃ z, z = u := ⟨u, rfl⟩
          subst hu9
          have hq_246 := hq9
          have hq_246 : xm < (fc uv 600) → FU eu1_246 uv (fR uv) (xm + 1) := hq_246
          have hZ : zS D A s.heap H locs (WQ cI cJ cZ cII cZZ [(q11, .inl (cI, 14, .inl (fun x9 => zI (xp x9))))] t0 t1 t2 t3 t4 t5 t6 t7 t8 t9 tA tB tC tD tR tS e0 eP eb er ek es ed ec ew lk lf lo lv le eW xt xh (va_up wi f ((inoO B ih 0 f : Nat) : Int)) eu1_246 xm) := hZ
          refine W.eq (g2 := F0 mth 249 ls [.int (zI (if xm < (fc uv 600) then ((fR uv) xm : Int) else -1)), .int (nI f), .ref tC]) rfl ?_
          have hfk246 : xm < fc uv 600 → fR uv xm < 600 := fun z => (hFR xm z).1.2
          refine z_iast zI (va_up wi f ((inoO B ih 0 f : Nat) : Int)) (if xm < (fc uv 600) then ((fR uv) xm : Int) else -1) hE hZ 12 0 rfl rfl (by decide) (by omega) dX7_plan_249 (WQ cI cJ cZ cII cZZ [(q11, .inl (cI, 14, .inl (fun x9 => zI (xp x9))))] t0 t1 t2 t3 t4 t5 t6 t7 t8 t9 tA tB tC tD tR tS e0 eP eb er ek es ed ec ew lk lf lo lv le eW xt xh (va_up (va_up wi f ((inoO B ih 0 f : Nat) : Int)) f (if xm < (fc uv 600) then ((fR uv) xm : Int) else -1)) eu1_246 xm) rfl (fun H locs hZ => ?_)
          refine lv_aload_n hx hb dX7_plan_250 rfl (lv_at hl 0 rfl) ?_
          refine lv_aload_n hx hb dX7_plan_251 rfl (lv_at hl 0 rfl) ?_
          refine z_get hE fF_X7_17 hZ 0 rfl (.ref tC) rfl dX7_plan_252 ?_
          refine lv_iload_n hx hb dX7_plan_255 rfl (lv_at hl 2 rfl) ?_
          refine z_iald hE hZ 12 0 rfl rfl (by decide) (by omega) dX7_plan_256 ?_
          refine z_top (show zI ((va_up (va_up wi f ((inoO B ih 0 f : Nat) : Int)) f (if xm < (fc uv 600) then ((fR uv) xm : Int) else -1)) f) = zI (if xm < fc uv 600 then (fR uv xm : Int) else -1) from by rw [vs]) ?_
          refine z_kVp (As := [.int (zI (if xm < fc uv 600 then (fR uv xm : Int) else -1))]) (rest := []) hE hZ (c_X7_next l D cI cJ cZ cII cZZ t0 t1 t2 t3 t4 t5 t6 t7 t8 t9 tA tB tC tD tR tS e0 eP eb er ek es ed ec ew lk lf lo lv le eW xt xh (va_up (va_up wi f ((inoO B ih 0 f : Nat) : Int)) f (if xm < (fc uv 600) then ((fR uv) xm : Int) else -1)) eu1_246 xm ((pF (fR uv) a f 14 ((pL (fR uv) a (pp0 B ih) (ii0 B ih) f).1, (pL (fR uv) a (pp0 B ih) (ii0 B ih) f).2.1)).1) (if xm < fc uv 600 then (fR uv xm : Int) else -1) (zI (if xm < fc uv 600 then (fR uv xm : Int) else -1)) (by
                  by_cases z : xm < fc uv 600
                  · have := hfk246 z
                    rw [if_pos z]; omega
                  · rw [if_neg z]; omega) (hX4.1) (⟨hX4.2.1, by have := hX4.2.2.2; omega⟩) (rfl)) lL_X7_next lC_X7_139 rfl [(q11, .inl (cI, 14, .inl (fun x9 => zI (xp x9))))] (WQ_pm) (fun u => (WQ cI cJ cZ cII cZZ [(q11, .inl (cI, 14, .inl (fun x9 => zI (xp x9))))] t0 t1 t2 t3 t4 t5 t6 t7 t8 t9 tA tB tC tD tR tS e0 eP eb er ek es ed ec ew lk lf lo lv le eW u.1 u.2.1 (va_up (va_up wi f ((inoO B ih 0 f : Nat) : Int)) f (if xm < (fc uv 600) then ((fR uv) xm : Int) else -1)) eu1_246 u.2.2)) (fun u => WQ_pm.symm) 0 rfl ⟨by decide, by decide⟩ 1 14 rfl rfl ⟨by decide, by decide⟩ rfl hl.1 rfl (Nat.le_of_ble_eq_true rfl) dX7_plan_257 (fun u H locs hq9 hZ => ?_)
          obtain ⟨et1_257, eh1_257, em1_257⟩ := u
          have hq_257 := hq9
          have hq_257 : 0 ≤ (if xm < fc uv 600 then (fR uv xm : Int) else -1) → em1_257 = xm + 1 ∧ PLN ((pF (fR uv) a f 14 ((pL (fR uv) a (pp0 B ih) (ii0 B ih) f).1, (pL (fR uv) a (pp0 B ih) (ii0 B ih) f).2.1)).1) et1_257 eh1_257 ∧ et1_257 xm = (if xm < fc uv 600 then (fR uv xm : Int) else -1).toNat ∧ RW eh1_257 xm (fun _ => 0) := hq_257
          have hZ : zS D A s.heap H locs (WQ cI cJ cZ cII cZZ [(q11, .inl (cI, 14, .inl (fun x9 => zI (xp x9))))] t0 t1 t2 t3 t4 t5 t6 t7 t8 t9 tA tB tC tD tR tS e0 eP eb er ek es ed ec ew lk lf lo lv le eW et1_257 eh1_257 (va_up (va_up wi f ((inoO B ih 0 f : Nat) : Int)) f (if xm < (fc uv 600) then ((fR uv) xm : Int) else -1)) eu1_246 em1_257) := hZ
          refine W.eq (g2 := F0 mth 260 ls [.int (zB (decide (0 ≤ (if xm < fc uv 600 then (fR uv xm : Int) else -1))))]) rfl ?_
          refine z_if_ne hx hb 265 dX7_plan_260 (by decide) (C := (decide (0 ≤ (if xm < fc uv 600 then (fR uv xm : Int) else -1))) = false) (zB_0 _) (fun h260 => ?_) (fun h260 => ?_)
          · skip
            have hkm260 : xm < fc uv 600 := by
                    by_cases z : xm < fc uv 600
                    · exact z
                    · rw [if_neg z] at h260; exact absurd rfl h260
            obtain ⟨he260, hL260, ht260, hr260⟩ := hq_257 (by rw [if_pos hkm260]; omega)
            rw [if_pos hkm260] at ht260
            have hu260 := hq_246 hkm260
            have hfz260 := hfk246 hkm260
            refine lv_aload_n hx hb dX7_plan_265 rfl (lv_at hl 0 rfl) ?_
            refine z_iconst hx hb (nI 0) dX7_plan_266 (by decide) ?_
            refine lv_aload_n hx hb dX7_plan_267 rfl (lv_at hl 0 rfl) ?_
            refine z_get hE fF_X7_5 hZ 0 rfl (.ref t2) rfl dX7_plan_268 ?_
            refine lv_iload_n hx hb dX7_plan_271 rfl (lv_at hl 2 rfl) ?_
            refine z_iald hE hZ 2 0 rfl rfl (by decide) (by omega) dX7_plan_272 ?_
            refine z_top (show zI (es f) = nI ((a.1 f).toNat) from by rw [hef]; exact zI_inN (by omega) (by omega)) ?_
            refine z_kVp (As := [.int (nI 0), .int (nI ((a.1 f).toNat))]) (rest := []) hE hZ (c_X7_put l D cI cJ cZ cII cZZ t0 t1 t2 t3 t4 t5 t6 t7 t8 t9 tA tB tC tD tR tS e0 eP eb er ek es ed ec ew lk lf lo lv le eW et1_257 eh1_257 (va_up (va_up wi f ((inoO B ih 0 f : Nat) : Int)) f (if xm < (fc uv 600) then ((fR uv) xm : Int) else -1)) eu1_246 em1_257 ((pF (fR uv) a f 14 ((pL (fR uv) a (pp0 B ih) (ii0 B ih) f).1, (pL (fR uv) a (pp0 B ih) (ii0 B ih) f).2.1)).1) (fun _ => 0) 0 0 ((a.1 f).toNat) (rfl) (by omega) (by omega) (hL260) (⟨by have := hX4.2.1; omega, by omega⟩) (by
                    have z := hX4.2.1
                    rw [z] at hr260
                    exact RW_n hr260 (fun k hk => by unfold numO; simp))) lL_X7_put lC_X7_142 rfl [(q11, .inl (cI, 14, .inl (fun x9 => zI (xp x9))))] (WQ_pm) (fun u => (WQ cI cJ cZ cII cZZ [(q11, .inl (cI, 14, .inl (fun x9 => zI (xp x9))))] t0 t1 t2 t3 t4 t5 t6 t7 t8 t9 tA tB tC tD tR tS e0 eP eb er ek es ed ec ew lk lf lo lv le eW et1_257 u (va_up (va_up wi f ((inoO B ih 0 f : Nat) : Int)) f (if xm < (fc uv 600) then ((fR uv) xm : Int) else -1)) eu1_246 em1_257)) (fun u => WQ_pm.symm) 0 rfl ⟨by decide, by decide⟩ 1 14 rfl rfl ⟨by decide, by decide⟩ rfl hl.1 rfl (Nat.le_of_ble_eq_true rfl) dX7_plan_273 (fun u H locs hq9 hZ => ?_)
            obtain ⟨eh1_273, hu9⟩ : ∃ z, z = u := ⟨u, rfl⟩
            subst hu9
            obtain ⟨hq_273, hq2_273⟩ := hq9
            have hq_273 : PLN ((pF (fR uv) a f 14 ((pL (fR uv) a (pp0 B ih) (ii0 B ih) f).1, (pL (fR uv) a (pp0 B ih) (ii0 B ih) f).2.1)).1) et1_257 eh1_273 := hq_273
            have hq2_273 : RW eh1_273 ((pF (fR uv) a f 14 ((pL (fR uv) a (pp0 B ih) (ii0 B ih) f).1, (pL (fR uv) a (pp0 B ih) (ii0 B ih) f).2.1)).1).length (numO (va_up (fun _ => 0) 0 (((a.1 f).toNat) % 65536))) := hq2_273
            have hZ : zS D A s.heap H locs (WQ cI cJ cZ cII cZZ [(q11, .inl (cI, 14, .inl (fun x9 => zI (xp x9))))] t0 t1 t2 t3 t4 t5 t6 t7 t8 t9 tA tB tC tD tR tS e0 eP eb er ek es ed ec ew lk lf lo lv le eW et1_257 eh1_273 (va_up (va_up wi f ((inoO B ih 0 f : Nat) : Int)) f (if xm < (fc uv 600) then ((fR uv) xm : Int) else -1)) eu1_246 em1_257) := hZ
            refine W.eq (g2 := F0 mth 276 ls []) rfl ?_
            refine z_iconst hx hb (nI 0) dX7_plan_276 (by decide) ?_
            refine lv_istore (lv' := [(4, .int (nI 0)), (0, .ref t0), (1, .ref q11), (2, .int (nI f)), (3, .int (nI (((a.1 f).toNat + 31) / 32)))]) hx hb dX7_plan_277 hl (by decide) rfl (fun ls hl => ?_)
            refine z_loop (σ := Nat × (Nat → Nat)) (fun (r, zh) H locs ls => (r ≤ ((a.1 f).toNat + 31) / 32) ∧ (PLN (pF (fR uv) a f 14 ((pL (fR uv) a (pp0 B ih) (ii0 B ih) f).1, (pL (fR uv) a (pp0 B ih) (ii0 B ih) f).2.1)).1 et1_257 zh) ∧ (RW zh (pF (fR uv) a f 14 ((pL (fR uv) a (pp0 B ih) (ii0 B ih) f).1, (pL (fR uv) a (pp0 B ih) (ii0 B ih) f).2.1)).1.length (numO (inR a xp f r))) ∧ zS D A s.heap H locs (WQ cI cJ cZ cII cZZ [(q11, .inl (cI, 14, .inl (fun x9 => zI (xp x9))))] t0 t1 t2 t3 t4 t5 t6 t7 t8 t9 tA tB tC tD tR tS e0 eP eb er ek es ed ec ew lk lf lo lv le eW et1_257 zh (va_up (va_up wi f ((inoO B ih 0 f : Nat) : Int)) f (if xm < (fc uv 600) then ((fR uv) xm : Int) else -1)) eu1_246 em1_257) ∧ lv_has ls 6 [(0, .ref t0), (1, .ref q11), (2, .int (nI f)), (3, .int (nI (((a.1 f).toNat + 31) / 32))), (4, .int (nI r))]) (fun (r, zh) => ((a.1 f).toNat + 31) / 32 - r) [] (0, eh1_273) ⟨by omega, hq_273, RW_n hq2_273 (numO_n (fun j hj => by
                    unfold inR va_up
                    by_cases y : j = 0
                    · rw [if_pos y, if_pos y]; omega
                    · rw [if_neg y, if_neg y, if_neg (by omega)])), hZ, lv_sub hl [1, 2, 3, 4, 0] (by first | rfl | (simp only [lv_pick]; rfl))⟩ ?_
            intro x H locs ls hI ih279
            obtain ⟨r, zh⟩ := x
            obtain ⟨hr8, hL8, hr9, hZ, hl⟩ := hI
            refine lv_iload hx hb dX7_plan_279 (lv_at hl 4 rfl) ?_
            refine lv_iload_n hx hb dX7_plan_281 rfl (lv_at hl 3 rfl) ?_
            refine z_icmp_ge hx hb 305 dX7_plan_282 (by decide) (C := ((a.1 f).toNat + 31) / 32 ≤ r) (nIle (by omega) (by omega)) (fun h282 => ?_) (fun h282 => ?_)
            · skip
              have hX1 : PLS uv (pL (fR uv) a (pp0 B ih) (ii0 B ih) (f + 1)).1 et1_257 zh eu1_246 em1_257 := by
                      rw [hxe, pI_p hs1]
                      have z := hX4.2.1
                      refine PLS_snoc z hkm260 he260 hL8 (by rw [ht260]; omega) (RW_n (by rw [z]; exact hr9) (numO_n (n1 := inN a (pF (fR uv) a f 14 ((pL (fR uv) a (pp0 B ih) (ii0 B ih) f).1, (pL (fR uv) a (pp0 B ih) (ii0 B ih) f).2.1)).2 f) (fun j hj => ?_))) (numO_lt (fun j hj => ?_)) hu260
                      · unfold inR inN
                        by_cases y : j = 0
                        · rw [if_pos y, if_pos y]
                        · rw [if_neg y, if_neg y, show r = ((a.1 f).toNat + 31) / 32 by omega]
                          by_cases w : j < 1 + ((a.1 f).toNat + 31) / 32
                          · rw [if_pos w, if_pos w, hp2 (j - 1) (by omega), hpe]; rfl
                          · rw [if_neg w, if_neg w]
                      · unfold inN
                        split
                        · omega
                        · split
                          · rw [hpe]
                            have y1 := hp2 (j - 1) (by omega)
                            have y2 := hb2 (j - 1) (by omega)
                            omega
                          · omega
              have hi1 : ∀ g, g < f + 1 → va_up (va_up wi f ((inoO B ih 0 f : Nat) : Int)) f (if xm < fc uv 600 then (fR uv xm : Int) else -1) g = ((pL (fR uv) a (pp0 B ih) (ii0 B ih) (f + 1)).2.2 g : Int) := fun g hg => by
                      rw [hxe, pI_p hs1]
                      show _ = ((va_up (pL (fR uv) a (pp0 B ih) (ii0 B ih) f).2.2 f (fR uv (pF (fR uv) a f 14 ((pL (fR uv) a (pp0 B ih) (ii0 B ih) f).1, (pL (fR uv) a (pp0 B ih) (ii0 B ih) f).2.1)).1.length) g : Nat) : Int)
                      by_cases y : g = f
                      · rw [y, vs, vs, if_pos hkm260, ← hX4.2.1]
                      · rw [vn y, vn y, vn y]; exact hi g (by omega)
              refine lv_iinc (v := nI (f + 1)) (lv' := [(2, .int (nI (f + 1))), (0, .ref t0), (1, .ref q11), (3, .int (nI (((a.1 f).toNat + 31) / 32))), (4, .int (nI r))]) hx hb dX7_plan_305 hl (k := 2) rfl (nI_add _ _) (by decide) rfl (fun ls hl => ?_)
              refine lv_goto (tgt := 16) hx hb dX7_plan_308 (by decide) ?_
              exact ih16 (f + 1, va_up (va_up wi f ((inoO B ih 0 f : Nat) : Int)) f (if xm < (fc uv 600) then ((fR uv) xm : Int) else -1), et1_257, zh, eu1_246, em1_257, xp) _ _ _ ⟨by omega, hX1, hi1, hZ, lv_sub hl [1, 2, 0] (by first | rfl | (simp only [lv_pick]; rfl))⟩ (by (try dsimp only); omega)
            · skip
              have hbr := hb2 r (by omega)
              refine lv_aload_n hx hb dX7_plan_285 rfl (lv_at hl 0 rfl) ?_
              refine z_iconst hx hb (nI 2) dX7_plan_286 (by decide) ?_
              refine z_iconst hx hb (nI 2) dX7_plan_287 (by decide) ?_
              refine lv_iload hx hb dX7_plan_288 (lv_at hl 4 rfl) ?_
              refine z_imul hx hb dX7_plan_290 (z := nI (2 * r)) (pk_mul _ _) ?_
              refine z_iadd hx hb dX7_plan_291 (z := nI (2 + (2 * r))) (nI_add _ _) ?_
              refine lv_aload_n hx hb dX7_plan_292 rfl (lv_at hl 1 rfl) ?_
              refine lv_iload hx hb dX7_plan_293 (lv_at hl 4 rfl) ?_
              refine z_iald hE hZ 14 0 rfl rfl (by decide) (by omega) dX7_plan_295 ?_
              refine z_top (show zI (xp r) = nI ((xp r).toNat) from zI_inN (by omega) (by omega)) ?_
              refine z_kVp (As := [.int (nI (2 + (2 * r))), .int (nI ((xp r).toNat))]) (rest := []) hE hZ (c_X7_put l D cI cJ cZ cII cZZ t0 t1 t2 t3 t4 t5 t6 t7 t8 t9 tA tB tC tD tR tS e0 eP eb er ek es ed ec ew lk lf lo lv le eW et1_257 zh (va_up (va_up wi f ((inoO B ih 0 f : Nat) : Int)) f (if xm < (fc uv 600) then ((fR uv) xm : Int) else -1)) eu1_246 em1_257 ((pF (fR uv) a f 14 ((pL (fR uv) a (pp0 B ih) (ii0 B ih) f).1, (pL (fR uv) a (pp0 B ih) (ii0 B ih) f).2.1)).1) (inR a xp f r) (1 + r) (2 + (2 * r)) ((xp r).toNat) (by omega) (by omega) (by omega) (hL8) (⟨by have := hX4.2.1; omega, by omega⟩) (hr9)) lL_X7_put lC_X7_142 rfl [(q11, .inl (cI, 14, .inl (fun x9 => zI (xp x9))))] (WQ_pm) (fun u => (WQ cI cJ cZ cII cZZ [(q11, .inl (cI, 14, .inl (fun x9 => zI (xp x9))))] t0 t1 t2 t3 t4 t5 t6 t7 t8 t9 tA tB tC tD tR tS e0 eP eb er ek es ed ec ew lk lf lo lv le eW et1_257 u (va_up (va_up wi f ((inoO B ih 0 f : Nat) : Int)) f (if xm < (fc uv 600) then ((fR uv) xm : Int) else -1)) eu1_246 em1_257)) (fun u => WQ_pm.symm) 0 rfl ⟨by decide, by decide⟩ 1 14 rfl rfl ⟨by decide, by decide⟩ rfl hl.1 rfl (Nat.le_of_ble_eq_true rfl) dX7_plan_296 (fun u H locs hq9 hZ => ?_)
              obtain ⟨eh1_296, hu9⟩ : ∃ z, z = u := ⟨u, rfl⟩
              subst hu9
              obtain ⟨hq_296, hq2_296⟩ := hq9
              have hq_296 : PLN ((pF (fR uv) a f 14 ((pL (fR uv) a (pp0 B ih) (ii0 B ih) f).1, (pL (fR uv) a (pp0 B ih) (ii0 B ih) f).2.1)).1) et1_257 eh1_296 := hq_296
              have hq2_296 : RW eh1_296 ((pF (fR uv) a f 14 ((pL (fR uv) a (pp0 B ih) (ii0 B ih) f).1, (pL (fR uv) a (pp0 B ih) (ii0 B ih) f).2.1)).1).length (numO (va_up (inR a xp f r) (1 + r) (((xp r).toNat) % 65536))) := hq2_296
              have hZ : zS D A s.heap H locs (WQ cI cJ cZ cII cZZ [(q11, .inl (cI, 14, .inl (fun x9 => zI (xp x9))))] t0 t1 t2 t3 t4 t5 t6 t7 t8 t9 tA tB tC tD tR tS e0 eP eb er ek es ed ec ew lk lf lo lv le eW et1_257 eh1_296 (va_up (va_up wi f ((inoO B ih 0 f : Nat) : Int)) f (if xm < (fc uv 600) then ((fR uv) xm : Int) else -1)) eu1_246 em1_257) := hZ
              refine W.eq (g2 := F0 mth 299 ls []) rfl ?_
              refine lv_iinc (v := nI (r + 1)) (lv' := [(4, .int (nI (r + 1))), (0, .ref t0), (1, .ref q11), (2, .int (nI f)), (3, .int (nI (((a.1 f).toNat + 31) / 32)))]) hx hb dX7_plan_299 hl (k := 4) rfl (nI_add _ _) (by decide) rfl (fun ls hl => ?_)
              refine lv_goto (tgt := 279) hx hb dX7_plan_302 (by decide) ?_
              exact ih279 (r + 1, eh1_296) _ _ _ ⟨by omega, hq_296, RW_n hq2_296 (numO_n (fun j hj => by
                      unfold va_up
                      by_cases y : j = 1 + r
                      · rw [if_pos y, y]; unfold inR; rw [if_neg (by omega), if_pos (by omega), show 1 + r - 1 = r by omega]; omega
                      · rw [if_neg y]; unfold inR; by_cases z : j = 0
                        · rw [if_pos z, if_pos z]
                        · rw [if_neg z, if_neg z]
                          by_cases w : j < 1 + r
                          · rw [if_pos w, if_pos (by omega)]
                          · rw [if_neg w, if_neg (by omega)])), hZ, lv_sub hl [1, 2, 3, 4, 0] (by first | rfl | (simp only [lv_pick]; rfl))⟩ (by (try dsimp only); omega)
          · skip
            have hkm260 : ¬ xm < fc uv 600 := fun z => by
                    rw [if_pos z, decide_eq_false_iff_not] at h260
                    exact h260 (by omega)
            have hno : ¬ (plY B ih uv a).1.length ≤ fc uv 600 := by
                    have z1 := plI_Y B ih uv a (show f < 32 by omega) hcf (by omega)
                    have z2 := hX4.2.1
                    omega
            refine z_iconst hx hb (nI 0) dX7_plan_263 (by decide) ?_
            have hZ := WQ_drop hZ
            refine z_top (show nI 0 = zB (decide ((plY B ih uv a).1.length ≤ fc uv 600)) from by first | (have z : ¬ (plY B ih uv a).1.length ≤ fc uv 600 := hno; rw [show decide ((plY B ih uv a).1.length ≤ fc uv 600) = false by rw [decide_eq_false_iff_not]; exact z]; rfl) | (rw [show decide ((plY B ih uv a).1.length ≤ fc uv 600) = true by rw [decide_eq_true_eq]; have z1 := hYY.2.1; have z2 := hYY.2.2.2; omega]; rfl)) ?_
            exact z_zret (decide ((plY B ih uv a).1.length ≤ fc uv 600)) rfl hE hrt9 hlocks hZ (et1_257, eh1_257, va_up (va_up wi f ((inoO B ih 0 f : Nat) : Int)) f (if xm < (fc uv 600) then ((fR uv) xm : Int) else -1), eu1_246, em1_257) rfl (show ((plY B ih uv a).1.length ≤ fc uv 600 → PLN (plL B ih iN uv a) et1_257 eh1_257 ∧ em1_257 = (plL B ih iN uv a).length) from fun z => absurd z hno) rfl dX7_plan_264 (Nat.le_of_ble_eq_true rfl) (Nat.le_of_ble_eq_true rfl)
        · skip
          have hs1 : a.1 f = -1 := by omega
          have hX1 : PLS uv (pL (fR uv) a (pp0 B ih) (ii0 B ih) (f + 1)).1 xt xh xu xm := by rw [hxe, pI_m hs1]; exact hX4
          have hi1 : ∀ g, g < f + 1 → va_up (va_up wi f ((inoO B ih 0 f : Nat) : Int)) f 0 g = ((pL (fR uv) a (pp0 B ih) (ii0 B ih) (f + 1)).2.2 g : Int) := fun g hg => by
                  rw [hxe, pI_m hs1]
                  show _ = ((va_up (pL (fR uv) a (pp0 B ih) (ii0 B ih) f).2.2 f 0 g : Nat) : Int)
                  by_cases y : g = f
                  · rw [y, vs, vs]; rfl
                  · rw [vn y, vn y, vn y]; exact hi g (by omega)
          refine lv_aload_n hx hb dX7_plan_230 rfl (lv_at hl 0 rfl) ?_
          refine z_get hE fF_X7_17 hZ 0 rfl (.ref tC) rfl dX7_plan_231 ?_
          refine lv_iload_n hx hb dX7_plan_234 rfl (lv_at hl 2 rfl) ?_
          refine z_iconst hx hb (nI 0) dX7_plan_235 (by decide) ?_
          refine z_top (show nI 0 = zI 0 from zI_n _) ?_
          refine z_iast zI (va_up wi f ((inoO B ih 0 f : Nat) : Int)) 0 hE hZ 12 0 rfl rfl (by decide) (by omega) dX7_plan_236 (WQ cI cJ cZ cII cZZ [(q11, .inl (cI, 14, .inl (fun x9 => zI (xp x9))))] t0 t1 t2 t3 t4 t5 t6 t7 t8 t9 tA tB tC tD tR tS e0 eP eb er ek es ed ec ew lk lf lo lv le eW xt xh (va_up (va_up wi f ((inoO B ih 0 f : Nat) : Int)) f 0) xu xm) rfl (fun H locs hZ => ?_)
          refine lv_goto (tgt := 305) hx hb dX7_plan_237 (by decide) ?_
          refine lv_iinc (v := nI (f + 1)) (lv' := [(2, .int (nI (f + 1))), (0, .ref t0), (1, .ref q11), (3, .int (nI (((a.1 f).toNat + 31) / 32))), (4, .int (nI q))]) hx hb dX7_plan_305 hl (k := 2) rfl (nI_add _ _) (by decide) rfl (fun ls hl => ?_)
          refine lv_goto (tgt := 16) hx hb dX7_plan_308 (by decide) ?_
          exact ih16 (f + 1, va_up (va_up wi f ((inoO B ih 0 f : Nat) : Int)) f 0, xt, xh, xu, xm, xp) _ _ _ ⟨by omega, hX1, hi1, hZ, lv_sub hl [1, 2, 0] (by first | rfl | (simp only [lv_pick]; rfl))⟩ (by (try dsimp only); omega)
      · skip
        have hpf := (pF_all (fR uv) a f ((pL (fR uv) a (pp0 B ih) (ii0 B ih) f).1, (pL (fR uv) a (pp0 B ih) (ii0 B ih) f).2.1) q).2.2.2.1
        refine lv_aload_n hx hb dX7_plan_74 rfl (lv_at hl 1 rfl) ?_
        refine lv_iload hx hb dX7_plan_75 (lv_at hl 4 rfl) ?_
        refine lv_aload_n hx hb dX7_plan_77 rfl (lv_at hl 0 rfl) ?_
        refine z_get hE fF_X7_8 hZ 0 rfl (.ref t5) rfl dX7_plan_78 ?_
        refine lv_iload_n hx hb dX7_plan_81 rfl (lv_at hl 2 rfl) ?_
        refine z_aald hE hZ 5 4 rfl rfl (by decide) (by omega) (tS f) (if_pos (by omega)) dX7_plan_82 ?_
        refine lv_iload hx hb dX7_plan_83 (lv_at hl 4 rfl) ?_
        refine z_rzald hE hZ 2 rfl (by decide) (i := f) (j := q) (by omega) (by omega) dX7_plan_85 ?_
        refine z_if_ne hx hb 98 dX7_plan_86 (by decide) (C := (ew f q) = false) (zB_0 _) (fun h86 => ?_) (fun h86 => ?_)
        · skip
          have hwq : a.2.2.1 f q = true := by rw [← hM.2.2.1 f q (by omega) (by omega)]; simpa using h86
          have hvq : va_up xp q (-1) q = -1 := vs
          refine z_iconst hx hb (zI (-1)) dX7_plan_98 (by decide) ?_
          refine lv_goto (tgt := 118) hx hb dX7_plan_99 (by decide) ?_
          refine z_iast zI xp (-1) hE hZ 14 0 rfl rfl (by decide) (by omega) dX7_plan_118 (WQ cI cJ cZ cII cZZ [(q11, .inl (cI, 14, .inl (fun x9 => zI ((va_up xp q (-1)) x9))))] t0 t1 t2 t3 t4 t5 t6 t7 t8 t9 tA tB tC tD tR tS e0 eP eb er ek es ed ec ew lk lf lo lv le eW xt xh (va_up wi f ((inoO B ih 0 f : Nat) : Int)) xu xm) rfl (fun H locs hZ => ?_)
          refine lv_aload_n hx hb dX7_plan_119 rfl (lv_at hl 1 rfl) ?_
          refine lv_iload hx hb dX7_plan_120 (lv_at hl 4 rfl) ?_
          refine z_iald hE hZ 14 0 rfl rfl (by decide) (by omega) dX7_plan_122 ?_
          refine z_if_le hx hb 129 dX7_plan_123 (by decide) (C := (va_up xp q (-1)) q ≤ 0) (zI_le0 ⟨by omega, by omega⟩) (fun h123 => ?_) (fun h123 => ?_)
          · skip
            refine lv_aload_n hx hb dX7_plan_129 rfl (lv_at hl 1 rfl) ?_
            refine lv_iload hx hb dX7_plan_130 (lv_at hl 4 rfl) ?_
            refine lv_aload_n hx hb dX7_plan_132 rfl (lv_at hl 0 rfl) ?_
            refine z_kVp (As := []) (rest := [.int (nI q), .ref q11]) hE hZ (c_X7_fresh l D cI cJ cZ cII cZZ t0 t1 t2 t3 t4 t5 t6 t7 t8 t9 tA tB tC tD tR tS e0 eP eb er ek es ed ec ew lk lf lo lv le eW xt xh (va_up wi f ((inoO B ih 0 f : Nat) : Int)) xu xm uv (fR uv) (fc uv 600) xm (hX2.2.2.1) (hFR) (fun p h1 h2 => fR_all h1 h2)) lL_X7_fresh lC_X7_135 rfl [(q11, .inl (cI, 14, .inl (fun x9 => zI ((va_up xp q (-1)) x9))))] (WQ_pm) (fun u => (WQ cI cJ cZ cII cZZ [(q11, .inl (cI, 14, .inl (fun x9 => zI ((va_up xp q (-1)) x9))))] t0 t1 t2 t3 t4 t5 t6 t7 t8 t9 tA tB tC tD tR tS e0 eP eb er ek es ed ec ew lk lf lo lv le eW xt xh (va_up wi f ((inoO B ih 0 f : Nat) : Int)) u xm)) (fun u => WQ_pm.symm) 0 rfl ⟨by decide, by decide⟩ 1 14 rfl rfl ⟨by decide, by decide⟩ rfl hl.1 rfl (Nat.le_of_ble_eq_true rfl) dX7_plan_133 (fun u H locs hq9 hZ => ?_)
            obtain ⟨eu1_133, hu9⟩ : ∃ z, z = u := ⟨u, rfl⟩
            subst hu9
            have hq_133 := hq9
            have hq_133 : xm < (fc uv 600) → FU eu1_133 uv (fR uv) (xm + 1) := hq_133
            have hZ : zS D A s.heap H locs (WQ cI cJ cZ cII cZZ [(q11, .inl (cI, 14, .inl (fun x9 => zI ((va_up xp q (-1)) x9))))] t0 t1 t2 t3 t4 t5 t6 t7 t8 t9 tA tB tC tD tR tS e0 eP eb er ek es ed ec ew lk lf lo lv le eW xt xh (va_up wi f ((inoO B ih 0 f : Nat) : Int)) eu1_133 xm) := hZ
            refine W.eq (g2 := F0 mth 136 ls [.int (zI (if xm < (fc uv 600) then ((fR uv) xm : Int) else -1)), .int (nI q), .ref q11]) rfl ?_
            have hfk133 : xm < fc uv 600 → fR uv xm < 600 := fun z => (hFR xm z).1.2
            refine z_iast zI (va_up xp q (-1)) (if xm < (fc uv 600) then ((fR uv) xm : Int) else -1) hE hZ 14 0 rfl rfl (by decide) (by omega) dX7_plan_136 (WQ cI cJ cZ cII cZZ [(q11, .inl (cI, 14, .inl (fun x9 => zI ((va_up (va_up xp q (-1)) q (if xm < (fc uv 600) then ((fR uv) xm : Int) else -1)) x9))))] t0 t1 t2 t3 t4 t5 t6 t7 t8 t9 tA tB tC tD tR tS e0 eP eb er ek es ed ec ew lk lf lo lv le eW xt xh (va_up wi f ((inoO B ih 0 f : Nat) : Int)) eu1_133 xm) rfl (fun H locs hZ => ?_)
            refine lv_aload_n hx hb dX7_plan_137 rfl (lv_at hl 0 rfl) ?_
            refine lv_aload_n hx hb dX7_plan_138 rfl (lv_at hl 1 rfl) ?_
            refine lv_iload hx hb dX7_plan_139 (lv_at hl 4 rfl) ?_
            refine z_iald hE hZ 14 0 rfl rfl (by decide) (by omega) dX7_plan_141 ?_
            refine z_top (show zI ((va_up (va_up xp q (-1)) q (if xm < (fc uv 600) then ((fR uv) xm : Int) else -1)) q) = zI (if xm < fc uv 600 then (fR uv xm : Int) else -1) from by rw [vs]) ?_
            refine z_kVp (As := [.int (zI (if xm < fc uv 600 then (fR uv xm : Int) else -1))]) (rest := []) hE hZ (c_X7_next l D cI cJ cZ cII cZZ t0 t1 t2 t3 t4 t5 t6 t7 t8 t9 tA tB tC tD tR tS e0 eP eb er ek es ed ec ew lk lf lo lv le eW xt xh (va_up wi f ((inoO B ih 0 f : Nat) : Int)) eu1_133 xm ((pF (fR uv) a f q ((pL (fR uv) a (pp0 B ih) (ii0 B ih) f).1, (pL (fR uv) a (pp0 B ih) (ii0 B ih) f).2.1)).1) (if xm < fc uv 600 then (fR uv xm : Int) else -1) (zI (if xm < fc uv 600 then (fR uv xm : Int) else -1)) (by
                    by_cases z : xm < fc uv 600
                    · have := hfk133 z
                      rw [if_pos z]; omega
                    · rw [if_neg z]; omega) (hX2.1) (⟨hX2.2.1, by have := hX2.2.2.2; omega⟩) (rfl)) lL_X7_next lC_X7_139 rfl [(q11, .inl (cI, 14, .inl (fun x9 => zI ((va_up (va_up xp q (-1)) q (if xm < (fc uv 600) then ((fR uv) xm : Int) else -1)) x9))))] (WQ_pm) (fun u => (WQ cI cJ cZ cII cZZ [(q11, .inl (cI, 14, .inl (fun x9 => zI ((va_up (va_up xp q (-1)) q (if xm < (fc uv 600) then ((fR uv) xm : Int) else -1)) x9))))] t0 t1 t2 t3 t4 t5 t6 t7 t8 t9 tA tB tC tD tR tS e0 eP eb er ek es ed ec ew lk lf lo lv le eW u.1 u.2.1 (va_up wi f ((inoO B ih 0 f : Nat) : Int)) eu1_133 u.2.2)) (fun u => WQ_pm.symm) 0 rfl ⟨by decide, by decide⟩ 1 14 rfl rfl ⟨by decide, by decide⟩ rfl hl.1 rfl (Nat.le_of_ble_eq_true rfl) dX7_plan_142 (fun u H locs hq9 hZ => ?_)
            obtain ⟨et1_142, eh1_142, em1_142⟩ := u
            have hq_142 := hq9
            have hq_142 : 0 ≤ (if xm < fc uv 600 then (fR uv xm : Int) else -1) → em1_142 = xm + 1 ∧ PLN ((pF (fR uv) a f q ((pL (fR uv) a (pp0 B ih) (ii0 B ih) f).1, (pL (fR uv) a (pp0 B ih) (ii0 B ih) f).2.1)).1) et1_142 eh1_142 ∧ et1_142 xm = (if xm < fc uv 600 then (fR uv xm : Int) else -1).toNat ∧ RW eh1_142 xm (fun _ => 0) := hq_142
            have hZ : zS D A s.heap H locs (WQ cI cJ cZ cII cZZ [(q11, .inl (cI, 14, .inl (fun x9 => zI ((va_up (va_up xp q (-1)) q (if xm < (fc uv 600) then ((fR uv) xm : Int) else -1)) x9))))] t0 t1 t2 t3 t4 t5 t6 t7 t8 t9 tA tB tC tD tR tS e0 eP eb er ek es ed ec ew lk lf lo lv le eW et1_142 eh1_142 (va_up wi f ((inoO B ih 0 f : Nat) : Int)) eu1_133 em1_142) := hZ
            refine W.eq (g2 := F0 mth 145 ls [.int (zB (decide (0 ≤ (if xm < fc uv 600 then (fR uv xm : Int) else -1))))]) rfl ?_
            refine z_if_ne hx hb 150 dX7_plan_145 (by decide) (C := (decide (0 ≤ (if xm < fc uv 600 then (fR uv xm : Int) else -1))) = false) (zB_0 _) (fun h145 => ?_) (fun h145 => ?_)
            · skip
              have hkm145 : xm < fc uv 600 := by
                      by_cases z : xm < fc uv 600
                      · exact z
                      · rw [if_neg z] at h145; exact absurd rfl h145
              obtain ⟨he145, hL145, ht145, hr145⟩ := hq_142 (by rw [if_pos hkm145]; omega)
              rw [if_pos hkm145] at ht145
              have hu145 := hq_133 hkm145
              have hfz145 := hfk133 hkm145
              refine z_iconst hx hb (nI 0) dX7_plan_150 (by decide) ?_
              refine lv_istore (lv' := [(5, .int (nI 0)), (0, .ref t0), (1, .ref q11), (2, .int (nI f)), (3, .int (nI (((a.1 f).toNat + 31) / 32))), (4, .int (nI q))]) hx hb dX7_plan_151 hl (by decide) rfl (fun ls hl => ?_)
              refine z_loop (σ := Nat × (Nat → Nat)) (fun (i, yh) H locs ls => (i ≤ 32) ∧ (PLN (pF (fR uv) a f q ((pL (fR uv) a (pp0 B ih) (ii0 B ih) f).1, (pL (fR uv) a (pp0 B ih) (ii0 B ih) f).2.1)).1 et1_142 yh) ∧ (RW yh xm (fun k => if k < i then pcO a f q k else 0)) ∧ zS D A s.heap H locs (WQ cI cJ cZ cII cZZ [(q11, .inl (cI, 14, .inl (fun x9 => zI ((va_up (va_up xp q (-1)) q (if xm < (fc uv 600) then ((fR uv) xm : Int) else -1)) x9))))] t0 t1 t2 t3 t4 t5 t6 t7 t8 t9 tA tB tC tD tR tS e0 eP eb er ek es ed ec ew lk lf lo lv le eW et1_142 yh (va_up wi f ((inoO B ih 0 f : Nat) : Int)) eu1_133 em1_142) ∧ lv_has ls 6 [(0, .ref t0), (1, .ref q11), (2, .int (nI f)), (3, .int (nI (((a.1 f).toNat + 31) / 32))), (4, .int (nI q)), (5, .int (nI i))]) (fun (i, yh) => 32 - i) [] (0, eh1_142) ⟨by omega, hL145, hr145, hZ, lv_sub hl [1, 2, 3, 4, 5, 0] (by first | rfl | (simp only [lv_pick]; rfl))⟩ ?_
              intro x H locs ls hI ih153
              obtain ⟨i, yh⟩ := x
              obtain ⟨hi5, hL5, hr5, hZ, hl⟩ := hI
              refine lv_iload hx hb dX7_plan_153 (lv_at hl 5 rfl) ?_
              refine z_bipush hx hb (nI 32) dX7_plan_155 (by decide) ?_
              refine z_icmp_ge hx hb 215 dX7_plan_157 (by decide) (C := 32 ≤ i) (nIle (by omega) (by omega)) (fun h157 => ?_) (fun h157 => ?_)
              · skip
                have hrw : RW yh xm (pcO a f q) := RW_n hr5 (fun k hk => by
                        by_cases y : k < i
                        · rw [if_pos y]
                        · rw [if_neg y]; omega)
                have hpe : (pF (fR uv) a f (q + 1) ((pL (fR uv) a (pp0 B ih) (ii0 B ih) f).1, (pL (fR uv) a (pp0 B ih) (ii0 B ih) f).2.1)) = ((pF (fR uv) a f q ((pL (fR uv) a (pp0 B ih) (ii0 B ih) f).1, (pL (fR uv) a (pp0 B ih) (ii0 B ih) f).2.1)).1 ++ [(fR uv (pF (fR uv) a f q ((pL (fR uv) a (pp0 B ih) (ii0 B ih) f).1, (pL (fR uv) a (pp0 B ih) (ii0 B ih) f).2.1)).1.length, mkW (pcO a f q), 3)], va_up (pF (fR uv) a f q ((pL (fR uv) a (pp0 B ih) (ii0 B ih) f).1, (pL (fR uv) a (pp0 B ih) (ii0 B ih) f).2.1)).2 (f * 14 + q) (fR uv (pF (fR uv) a f q ((pL (fR uv) a (pp0 B ih) (ii0 B ih) f).1, (pL (fR uv) a (pp0 B ih) (ii0 B ih) f).2.1)).1.length)) := pF_t hwq
                have hX3 : PLS uv (pF (fR uv) a f (q + 1) ((pL (fR uv) a (pp0 B ih) (ii0 B ih) f).1, (pL (fR uv) a (pp0 B ih) (ii0 B ih) f).2.1)).1 et1_142 yh eu1_133 em1_142 := by
                        rw [hpe]
                        refine PLS_snoc hX2.2.1 hkm145 he145 hL5 (by rw [ht145]; omega) hrw (fun k hk => ?_) hu145
                        unfold pcO
                        split
                        · exact hMO f _ (by omega) (by assumption)
                        · omega
                have hp3 : ∀ r, r < q + 1 → va_up (va_up xp q (-1)) q (if xm < fc uv 600 then (fR uv xm : Int) else -1) r = ((pF (fR uv) a f (q + 1) ((pL (fR uv) a (pp0 B ih) (ii0 B ih) f).1, (pL (fR uv) a (pp0 B ih) (ii0 B ih) f).2.1)).2 (f * 14 + r) : Int) := fun r hr => by
                        rw [hpe]
                        show _ = ((va_up (pF (fR uv) a f q ((pL (fR uv) a (pp0 B ih) (ii0 B ih) f).1, (pL (fR uv) a (pp0 B ih) (ii0 B ih) f).2.1)).2 (f * 14 + q) (fR uv (pF (fR uv) a f q ((pL (fR uv) a (pp0 B ih) (ii0 B ih) f).1, (pL (fR uv) a (pp0 B ih) (ii0 B ih) f).2.1)).1.length) (f * 14 + r) : Nat) : Int)
                        by_cases y : r = q
                        · rw [y, vs, vs, if_pos hkm145, ← hX2.2.1]
                        · rw [vn y, vn y, vn (by omega)]; exact hp2 r (by omega)
                have hb3 : ∀ r, r < q + 1 → 0 ≤ va_up (va_up xp q (-1)) q (if xm < fc uv 600 then (fR uv xm : Int) else -1) r ∧ va_up (va_up xp q (-1)) q (if xm < fc uv 600 then (fR uv xm : Int) else -1) r < 600 := fun r hr => by
                        by_cases y : r = q
                        · rw [y, vs, if_pos hkm145]; omega
                        · rw [vn y, vn y]; exact hb2 r (by omega)
                refine lv_iinc (v := nI (q + 1)) (lv' := [(4, .int (nI (q + 1))), (0, .ref t0), (1, .ref q11), (2, .int (nI f)), (3, .int (nI (((a.1 f).toNat + 31) / 32))), (5, .int (nI i))]) hx hb dX7_plan_215 hl (k := 4) rfl (nI_add _ _) (by decide) rfl (fun ls hl => ?_)
                refine lv_goto (tgt := 68) hx hb dX7_plan_218 (by decide) ?_
                exact ih68 (q + 1, et1_142, yh, eu1_133, em1_142, va_up (va_up xp q (-1)) q (if xm < (fc uv 600) then ((fR uv) xm : Int) else -1)) _ _ _ ⟨by omega, hX3, hp3, hb3, hZ, lv_sub hl [1, 2, 3, 4, 0] (by first | rfl | (simp only [lv_pick]; rfl))⟩ (by (try dsimp only); omega)
              · skip
                refine lv_iload hx hb dX7_plan_160 (lv_at hl 4 rfl) ?_
                refine z_bipush hx hb (nI 32) dX7_plan_162 (by decide) ?_
                refine z_imul hx hb dX7_plan_164 (z := nI (q * 32)) (pk_mul _ _) ?_
                refine lv_iload hx hb dX7_plan_165 (lv_at hl 5 rfl) ?_
                refine z_iadd hx hb dX7_plan_167 (z := nI ((q * 32) + i)) (nI_add _ _) ?_
                refine lv_aload_n hx hb dX7_plan_168 rfl (lv_at hl 0 rfl) ?_
                refine z_get hE fF_X7_5 hZ 0 rfl (.ref t2) rfl dX7_plan_169 ?_
                refine lv_iload_n hx hb dX7_plan_172 rfl (lv_at hl 2 rfl) ?_
                refine z_iald hE hZ 2 0 rfl rfl (by decide) (by omega) dX7_plan_173 ?_
                refine z_top (show zI (es f) = zI (a.1 f) from by rw [hef]) ?_
                refine z_icmp_ge hx hb 215 dX7_plan_174 (by decide) (C := (a.1 f : Int) ≤ (((q * 32) + i : Nat) : Int)) (by (try simp only [zI_n]); exact zI_le ⟨by omega, by omega⟩ ⟨by omega, by omega⟩) (fun h174 => ?_) (fun h174 => ?_)
                · skip
                  have hrw : RW yh xm (pcO a f q) := RW_n hr5 (fun k hk => by
                          by_cases y : k < i
                          · rw [if_pos y]
                          · rw [if_neg y]; unfold pcO; rw [if_neg (by omega)])
                  have hpe : (pF (fR uv) a f (q + 1) ((pL (fR uv) a (pp0 B ih) (ii0 B ih) f).1, (pL (fR uv) a (pp0 B ih) (ii0 B ih) f).2.1)) = ((pF (fR uv) a f q ((pL (fR uv) a (pp0 B ih) (ii0 B ih) f).1, (pL (fR uv) a (pp0 B ih) (ii0 B ih) f).2.1)).1 ++ [(fR uv (pF (fR uv) a f q ((pL (fR uv) a (pp0 B ih) (ii0 B ih) f).1, (pL (fR uv) a (pp0 B ih) (ii0 B ih) f).2.1)).1.length, mkW (pcO a f q), 3)], va_up (pF (fR uv) a f q ((pL (fR uv) a (pp0 B ih) (ii0 B ih) f).1, (pL (fR uv) a (pp0 B ih) (ii0 B ih) f).2.1)).2 (f * 14 + q) (fR uv (pF (fR uv) a f q ((pL (fR uv) a (pp0 B ih) (ii0 B ih) f).1, (pL (fR uv) a (pp0 B ih) (ii0 B ih) f).2.1)).1.length)) := pF_t hwq
                  have hX3 : PLS uv (pF (fR uv) a f (q + 1) ((pL (fR uv) a (pp0 B ih) (ii0 B ih) f).1, (pL (fR uv) a (pp0 B ih) (ii0 B ih) f).2.1)).1 et1_142 yh eu1_133 em1_142 := by
                          rw [hpe]
                          refine PLS_snoc hX2.2.1 hkm145 he145 hL5 (by rw [ht145]; omega) hrw (fun k hk => ?_) hu145
                          unfold pcO
                          split
                          · exact hMO f _ (by omega) (by assumption)
                          · omega
                  have hp3 : ∀ r, r < q + 1 → va_up (va_up xp q (-1)) q (if xm < fc uv 600 then (fR uv xm : Int) else -1) r = ((pF (fR uv) a f (q + 1) ((pL (fR uv) a (pp0 B ih) (ii0 B ih) f).1, (pL (fR uv) a (pp0 B ih) (ii0 B ih) f).2.1)).2 (f * 14 + r) : Int) := fun r hr => by
                          rw [hpe]
                          show _ = ((va_up (pF (fR uv) a f q ((pL (fR uv) a (pp0 B ih) (ii0 B ih) f).1, (pL (fR uv) a (pp0 B ih) (ii0 B ih) f).2.1)).2 (f * 14 + q) (fR uv (pF (fR uv) a f q ((pL (fR uv) a (pp0 B ih) (ii0 B ih) f).1, (pL (fR uv) a (pp0 B ih) (ii0 B ih) f).2.1)).1.length) (f * 14 + r) : Nat) : Int)
                          by_cases y : r = q
                          · rw [y, vs, vs, if_pos hkm145, ← hX2.2.1]
                          · rw [vn y, vn y, vn (by omega)]; exact hp2 r (by omega)
                  have hb3 : ∀ r, r < q + 1 → 0 ≤ va_up (va_up xp q (-1)) q (if xm < fc uv 600 then (fR uv xm : Int) else -1) r ∧ va_up (va_up xp q (-1)) q (if xm < fc uv 600 then (fR uv xm : Int) else -1) r < 600 := fun r hr => by
                          by_cases y : r = q
                          · rw [y, vs, if_pos hkm145]; omega
                          · rw [vn y, vn y]; exact hb2 r (by omega)
                  refine lv_iinc (v := nI (q + 1)) (lv' := [(4, .int (nI (q + 1))), (0, .ref t0), (1, .ref q11), (2, .int (nI f)), (3, .int (nI (((a.1 f).toNat + 31) / 32))), (5, .int (nI i))]) hx hb dX7_plan_215 hl (k := 4) rfl (nI_add _ _) (by decide) rfl (fun ls hl => ?_)
                  refine lv_goto (tgt := 68) hx hb dX7_plan_218 (by decide) ?_
                  exact ih68 (q + 1, et1_142, yh, eu1_133, em1_142, va_up (va_up xp q (-1)) q (if xm < (fc uv 600) then ((fR uv) xm : Int) else -1)) _ _ _ ⟨by omega, hX3, hp3, hb3, hZ, lv_sub hl [1, 2, 3, 4, 0] (by first | rfl | (simp only [lv_pick]; rfl))⟩ (by (try dsimp only); omega)
                · skip
                  refine lv_aload_n hx hb dX7_plan_177 rfl (lv_at hl 0 rfl) ?_
                  refine z_get hE fF_X7_16 hZ 0 rfl (.ref tB) rfl dX7_plan_178 ?_
                  refine lv_aload_n hx hb dX7_plan_181 rfl (lv_at hl 0 rfl) ?_
                  refine z_get hE fF_X7_19 hZ 0 rfl (.int (nI em1_142)) rfl dX7_plan_182 ?_
                  refine z_iconst hx hb (nI 1) dX7_plan_185 (by decide) ?_
                  refine z_isub hx hb dX7_plan_186 (z := nI (em1_142 - 1)) (pk_sub (by omega)) ?_
                  refine z_bipush hx hb (nI 32) dX7_plan_187 (by decide) ?_
                  refine z_imul hx hb dX7_plan_189 (z := nI ((em1_142 - 1) * 32)) (pk_mul _ _) ?_
                  refine lv_iload hx hb dX7_plan_190 (lv_at hl 5 rfl) ?_
                  refine z_iadd hx hb dX7_plan_192 (z := nI (((em1_142 - 1) * 32) + i)) (nI_add _ _) ?_
                  refine lv_aload_n hx hb dX7_plan_193 rfl (lv_at hl 0 rfl) ?_
                  refine z_get hE fF_X7_6 hZ 0 rfl (.ref t3) rfl dX7_plan_194 ?_
                  refine lv_iload_n hx hb dX7_plan_197 rfl (lv_at hl 2 rfl) ?_
                  refine z_aald hE hZ 3 3 rfl rfl (by decide) (by omega) (tR f) (if_pos (by omega)) dX7_plan_198 ?_
                  refine lv_iload hx hb dX7_plan_199 (lv_at hl 4 rfl) ?_
                  refine z_bipush hx hb (nI 32) dX7_plan_201 (by decide) ?_
                  refine z_imul hx hb dX7_plan_203 (z := nI (q * 32)) (pk_mul _ _) ?_
                  refine lv_iload hx hb dX7_plan_204 (lv_at hl 5 rfl) ?_
                  refine z_iadd hx hb dX7_plan_206 (z := nI ((q * 32) + i)) (nI_add _ _) ?_
                  refine z_riald hE hZ 0 rfl (by decide) (i := f) (j := (q * 32) + i) (by omega) (by omega) dX7_plan_207 ?_
                  refine z_iast nI yh (ed f ((q * 32) + i)) hE hZ 11 0 rfl rfl (by decide) (by omega) dX7_plan_208 (WQ cI cJ cZ cII cZZ [(q11, .inl (cI, 14, .inl (fun x9 => zI ((va_up (va_up xp q (-1)) q (if xm < (fc uv 600) then ((fR uv) xm : Int) else -1)) x9))))] t0 t1 t2 t3 t4 t5 t6 t7 t8 t9 tA tB tC tD tR tS e0 eP eb er ek es ed ec ew lk lf lo lv le eW et1_142 (va_up yh (((em1_142 - 1) * 32) + i) (ed f ((q * 32) + i))) (va_up wi f ((inoO B ih 0 f : Nat) : Int)) eu1_133 em1_142) rfl (fun H locs hZ => ?_)
                  refine lv_iinc (v := nI (i + 1)) (lv' := [(5, .int (nI (i + 1))), (0, .ref t0), (1, .ref q11), (2, .int (nI f)), (3, .int (nI (((a.1 f).toNat + 31) / 32))), (4, .int (nI q))]) hx hb dX7_plan_209 hl (k := 5) rfl (nI_add _ _) (by decide) rfl (fun ls hl => ?_)
                  refine lv_goto (tgt := 153) hx hb dX7_plan_212 (by decide) ?_
                  exact ih153 (i + 1, va_up yh (((em1_142 - 1) * 32) + i) (ed f ((q * 32) + i))) _ _ _ ⟨by omega, PLN_up hL5 (by have := hX2.2.1; omega), by
                          rw [show em1_142 - 1 = xm by omega]
                          refine RW_n (RW_up hr5 (by omega)) (fun k hk => ?_)
                          unfold va_up
                          by_cases y : k = i
                          · rw [if_pos y, if_pos (by omega), y]
                            unfold pcO
                            rw [if_pos (by omega)]; exact hM.2.1 f _ (by omega) (by omega)
                          · rw [if_neg y]
                            dsimp only
                            by_cases z : k < i
                            · rw [if_pos z, if_pos (by omega)]
                            · rw [if_neg z, if_neg (by omega)], hZ, lv_sub hl [1, 2, 3, 4, 5, 0] (by first | rfl | (simp only [lv_pick]; rfl))⟩ (by (try dsimp only); omega)
            · skip
              have hkm145 : ¬ xm < fc uv 600 := fun z => by
                      rw [if_pos z, decide_eq_false_iff_not] at h145
                      exact h145 (by omega)
              have hno : ¬ (plY B ih uv a).1.length ≤ fc uv 600 := by
                      have z1 := plF_Y B ih uv a (show f < 32 by omega) hcf (show q + 1 ≤ 14 by omega)
                      rw [pF_t hwq] at z1
                      simp only [List.length_append, List.length_cons, List.length_nil] at z1
                      have z2 := hX2.2.1
                      omega
              refine z_iconst hx hb (nI 0) dX7_plan_148 (by decide) ?_
              have hZ := WQ_drop hZ
              refine z_top (show nI 0 = zB (decide ((plY B ih uv a).1.length ≤ fc uv 600)) from by first | (have z : ¬ (plY B ih uv a).1.length ≤ fc uv 600 := hno; rw [show decide ((plY B ih uv a).1.length ≤ fc uv 600) = false by rw [decide_eq_false_iff_not]; exact z]; rfl) | (rw [show decide ((plY B ih uv a).1.length ≤ fc uv 600) = true by rw [decide_eq_true_eq]; have z1 := hYY.2.1; have z2 := hYY.2.2.2; omega]; rfl)) ?_
              exact z_zret (decide ((plY B ih uv a).1.length ≤ fc uv 600)) rfl hE hrt9 hlocks hZ (et1_142, eh1_142, va_up wi f ((inoO B ih 0 f : Nat) : Int), eu1_133, em1_142) rfl (show ((plY B ih uv a).1.length ≤ fc uv 600 → PLN (plL B ih iN uv a) et1_142 eh1_142 ∧ em1_142 = (plL B ih iN uv a).length) from fun z => absurd z hno) rfl dX7_plan_149 (Nat.le_of_ble_eq_true rfl) (Nat.le_of_ble_eq_true rfl)
          · skip
            exfalso
            omega
        · skip
          refine lv_aload_n hx hb dX7_plan_89 rfl (lv_at hl 0 rfl) ?_
          refine z_get hE fF_X7_17 hZ 0 rfl (.ref tC) rfl dX7_plan_90 ?_
          refine lv_iload_n hx hb dX7_plan_93 rfl (lv_at hl 2 rfl) ?_
          refine z_iald hE hZ 12 0 rfl rfl (by decide) (by omega) dX7_plan_94 ?_
          refine z_top (show zI ((va_up wi f ((inoO B ih 0 f : Nat) : Int)) f) = nI (inoO B ih 0 f) from by rw [vs, zI_n]) ?_
          refine z_if_ne hx hb 102 dX7_plan_95 (by decide) (C := inoO B ih 0 f = 0) (nI_eq0 (by rcases hinf with z | z <;> omega)) (fun h95 => ?_) (fun h95 => ?_)
          · skip
            have hwq : a.2.2.1 f q = false := by rw [← hM.2.2.1 f q (by omega) (by omega)]; simpa using h86
            have hvq : va_up xp q ((num B (inoO B ih 0 f) (1 + q) : Nat) : Int) q = ((num B (inoO B ih 0 f) (1 + q) : Nat) : Int) := vs
            have hin3 := hinf.resolve_left h95
            have hszl := (hWI f q (by omega) (by omega) (by omega) hwq).2 (q * 32) (by omega) (by omega)
            have hpq : num B (inoO B ih 0 f) (1 + q) < 600 ∧ num B (inoO B ih 0 f) (1 + q) ≠ 0 := by
                    have z := hszl.1
                    unfold szL at z
                    rw [if_neg h95] at z
                    have y := (hA.1.2.2 _ hin3.1 hin3.2).2.1 q (by omega)
                    exact ⟨y.1, y.2.1⟩
            refine lv_aload_n hx hb dX7_plan_102 rfl (lv_at hl 0 rfl) ?_
            refine lv_aload_n hx hb dX7_plan_103 rfl (lv_at hl 0 rfl) ?_
            refine z_get hE fF_X7_17 hZ 0 rfl (.ref tC) rfl dX7_plan_104 ?_
            refine lv_iload_n hx hb dX7_plan_107 rfl (lv_at hl 2 rfl) ?_
            refine z_iald hE hZ 12 0 rfl rfl (by decide) (by omega) dX7_plan_108 ?_
            refine z_top (show zI ((va_up wi f ((inoO B ih 0 f : Nat) : Int)) f) = nI (inoO B ih 0 f) from by rw [vs, zI_n]) ?_
            refine z_iconst hx hb (nI 2) dX7_plan_109 (by decide) ?_
            refine z_iconst hx hb (nI 2) dX7_plan_110 (by decide) ?_
            refine lv_iload hx hb dX7_plan_111 (lv_at hl 4 rfl) ?_
            refine z_imul hx hb dX7_plan_113 (z := nI (2 * q)) (pk_mul _ _) ?_
            refine z_iadd hx hb dX7_plan_114 (z := nI (2 + (2 * q))) (nI_add _ _) ?_
            refine z_kVp (As := [.int (nI (inoO B ih 0 f)), .int (nI (2 + (2 * q)))]) (rest := [.int (nI q), .ref q11]) hE hZ (c_X7_two l D cI cJ cZ cII cZZ t0 t1 t2 t3 t4 t5 t6 t7 t8 t9 tA tB tC tD tR tS e0 eP eb er ek es ed ec ew lk lf lo lv le eW xt xh (va_up wi f ((inoO B ih 0 f : Nat) : Int)) xu xm B (inoO B ih 0 f) (2 + (2 * q)) (1 + q) (by first | assumption | omega) (by rcases hinf with z | z <;> omega) (by omega) (by omega)) lL_X7_two lC_X7_82 rfl [(q11, .inl (cI, 14, .inl (fun x9 => zI (xp x9))))] (WQ_pm) (fun u => (WQ cI cJ cZ cII cZZ [(q11, .inl (cI, 14, .inl (fun x9 => zI (xp x9))))] t0 t1 t2 t3 t4 t5 t6 t7 t8 t9 tA tB tC tD tR tS e0 eP eb er ek es ed ec ew lk lf lo lv le eW xt xh (va_up wi f ((inoO B ih 0 f : Nat) : Int)) xu xm)) (fun u => WQ_pm.symm) 0 rfl ⟨by decide, by decide⟩ 1 14 rfl rfl ⟨by decide, by decide⟩ rfl hl.1 rfl (Nat.le_of_ble_eq_true rfl) dX7_plan_115 (fun u H locs hq9 hZ => ?_)
            have hZ : zS D A s.heap H locs (WQ cI cJ cZ cII cZZ [(q11, .inl (cI, 14, .inl (fun x9 => zI (xp x9))))] t0 t1 t2 t3 t4 t5 t6 t7 t8 t9 tA tB tC tD tR tS e0 eP eb er ek es ed ec ew lk lf lo lv le eW xt xh (va_up wi f ((inoO B ih 0 f : Nat) : Int)) xu xm) := hZ
            refine W.eq (g2 := F0 mth 118 ls [.int (nI (num B (inoO B ih 0 f) (1 + q))), .int (nI q), .ref q11]) rfl ?_
            refine z_top (show nI (num B (inoO B ih 0 f) (1 + q)) = zI ((num B (inoO B ih 0 f) (1 + q) : Nat) : Int) from zI_n _) ?_
            refine z_iast zI xp ((num B (inoO B ih 0 f) (1 + q) : Nat) : Int) hE hZ 14 0 rfl rfl (by decide) (by omega) dX7_plan_118 (WQ cI cJ cZ cII cZZ [(q11, .inl (cI, 14, .inl (fun x9 => zI ((va_up xp q ((num B (inoO B ih 0 f) (1 + q) : Nat) : Int)) x9))))] t0 t1 t2 t3 t4 t5 t6 t7 t8 t9 tA tB tC tD tR tS e0 eP eb er ek es ed ec ew lk lf lo lv le eW xt xh (va_up wi f ((inoO B ih 0 f : Nat) : Int)) xu xm) rfl (fun H locs hZ => ?_)
            refine lv_aload_n hx hb dX7_plan_119 rfl (lv_at hl 1 rfl) ?_
            refine lv_iload hx hb dX7_plan_120 (lv_at hl 4 rfl) ?_
            refine z_iald hE hZ 14 0 rfl rfl (by decide) (by omega) dX7_plan_122 ?_
            refine z_if_le hx hb 129 dX7_plan_123 (by decide) (C := (va_up xp q ((num B (inoO B ih 0 f) (1 + q) : Nat) : Int)) q ≤ 0) (zI_le0 ⟨by omega, by omega⟩) (fun h123 => ?_) (fun h123 => ?_)
            · skip
              exfalso
              omega
            · skip
              have hpe : (pF (fR uv) a f (q + 1) ((pL (fR uv) a (pp0 B ih) (ii0 B ih) f).1, (pL (fR uv) a (pp0 B ih) (ii0 B ih) f).2.1)) = (pF (fR uv) a f q ((pL (fR uv) a (pp0 B ih) (ii0 B ih) f).1, (pL (fR uv) a (pp0 B ih) (ii0 B ih) f).2.1)) := pF_f hwq
              have hX3 : PLS uv (pF (fR uv) a f (q + 1) ((pL (fR uv) a (pp0 B ih) (ii0 B ih) f).1, (pL (fR uv) a (pp0 B ih) (ii0 B ih) f).2.1)).1 xt xh xu xm := by rw [hpe]; exact hX2
              have hp3 : ∀ r, r < q + 1 → va_up xp q ((num B (inoO B ih 0 f) (1 + q) : Nat) : Int) r = ((pF (fR uv) a f (q + 1) ((pL (fR uv) a (pp0 B ih) (ii0 B ih) f).1, (pL (fR uv) a (pp0 B ih) (ii0 B ih) f).2.1)).2 (f * 14 + r) : Int) := fun r hr => by
                      rw [hpe]
                      by_cases y : r = q
                      · rw [y, vs, hpf q (Or.inl (Nat.le_refl _))]
                        show _ = (((pL (fR uv) a (pp0 B ih) (ii0 B ih) f).2.1 (f * 14 + q) : Nat) : Int)
                        rw [xl3 f q (by omega) (by omega) (Or.inl (Nat.le_refl _))]
                        unfold pp0
                        rw [show (f * 14 + q) / 14 = f by omega, show (f * 14 + q) % 14 = q by omega]
                      · rw [vn y]; exact hp2 r (by omega)
              have hb3 : ∀ r, r < q + 1 → 0 ≤ va_up xp q ((num B (inoO B ih 0 f) (1 + q) : Nat) : Int) r ∧ va_up xp q ((num B (inoO B ih 0 f) (1 + q) : Nat) : Int) r < 600 := fun r hr => by
                      by_cases y : r = q
                      · rw [y, vs]; omega
                      · rw [vn y]; exact hb2 r (by omega)
              refine lv_goto (tgt := 215) hx hb dX7_plan_126 (by decide) ?_
              refine lv_iinc (v := nI (q + 1)) (lv' := [(4, .int (nI (q + 1))), (0, .ref t0), (1, .ref q11), (2, .int (nI f)), (3, .int (nI (((a.1 f).toNat + 31) / 32)))]) hx hb dX7_plan_215 hl (k := 4) rfl (nI_add _ _) (by decide) rfl (fun ls hl => ?_)
              refine lv_goto (tgt := 68) hx hb dX7_plan_218 (by decide) ?_
              exact ih68 (q + 1, xt, xh, xu, xm, va_up xp q ((num B (inoO B ih 0 f) (1 + q) : Nat) : Int)) _ _ _ ⟨by omega, hX3, hp3, hb3, hZ, lv_sub hl [1, 2, 3, 4, 0] (by first | rfl | (simp only [lv_pick]; rfl))⟩ (by (try dsimp only); omega)
          · skip
            exfalso
            exact (hWI f q (by omega) (by omega) (by omega) (by rw [← hM.2.2.1 f q (by omega) (by omega)]; simpa using h86)).1 h95
    · skip
      have hcf : a.2.2.2 f = false := by rw [← hM.2.2.2 f (by omega)]; simpa using h40
      have hxe : (pL (fR uv) a (pp0 B ih) (ii0 B ih) (f + 1)) = (pL (fR uv) a (pp0 B ih) (ii0 B ih) f) := by rw [pL, if_neg (by rw [hcf]; simp)]
      have hX1 : PLS uv (pL (fR uv) a (pp0 B ih) (ii0 B ih) (f + 1)).1 wt wh wu wm := by rw [hxe]; exact hX
      have hi1 : ∀ g, g < f + 1 → va_up wi f ((inoO B ih 0 f : Nat) : Int) g = ((pL (fR uv) a (pp0 B ih) (ii0 B ih) (f + 1)).2.2 g : Int) := fun g hg => by
              rw [hxe]
              by_cases y : g = f
              · rw [y, vs, xl6 f (Or.inl (Nat.le_refl _))]; rfl
              · rw [vn y]; exact hi g (by omega)
      refine lv_goto (tgt := 305) hx hb dX7_plan_43 (by decide) ?_
      refine lv_iinc (v := nI (f + 1)) (lv' := [(2, .int (nI (f + 1))), (0, .ref t0), (1, .ref q11)]) hx hb dX7_plan_305 hl (k := 2) rfl (nI_add _ _) (by decide) rfl (fun ls hl => ?_)
      refine lv_goto (tgt := 16) hx hb dX7_plan_308 (by decide) ?_
      exact ih16 (f + 1, va_up wi f ((inoO B ih 0 f : Nat) : Int), wt, wh, wu, wm, wp) _ _ _ ⟨by omega, hX1, hi1, hZ, lv_sub hl [1, 2, 0] (by first | rfl | (simp only [lv_pick]; rfl))⟩ (by (try dsimp only); omega)
