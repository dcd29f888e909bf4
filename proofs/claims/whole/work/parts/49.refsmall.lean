set_option maxHeartbeats 1000000 in
set_option maxRecDepth 100000 in
theorem c_X7_thrown (l : Launch) (D : va_G) (cI cJ cZ cII cZZ : ClassId) (t0 : Nat) (t1 : Nat) (t2 : Nat) (t3 : Nat) (t4 : Nat) (t5 : Nat) (t6 : Nat) (t7 : Nat) (t8 : Nat) (t9 : Nat) (tA : Nat) (tB : Nat) (tC : Nat) (tD : Nat) (tR : Nat → Nat) (tS : Nat → Nat) (e0 : Nat) (eP : Nat → Nat) (eb : Int) (er : Int) (ek : Bool) (es : Nat → Int) (ed : Nat → Nat → Nat) (ec : Nat → Bool) (ew : Nat → Nat → Bool) (lk : Nat → Nat) (lf : Nat → Nat) (lo : Nat → Nat) (lv : Nat → Int64) (le : Nat) (eW : Int) (et : Nat → Nat) (eh : Nat → Nat) (ei : Nat → Int) (eu : Nat → Bool) (em : Nat)   :
    zC l yX7_thrown cX7_thrown 1 (some .int) { frames := 0, cells := 0, slots := 0, locals := 0 } D (zT cI cJ cZ cII cZZ) [.ref t0] (WQ cI cJ cZ cII cZZ [] t0 t1 t2 t3 t4 t5 t6 t7 t8 t9 tA tB tC tD tR tS e0 eP eb er ek es ed ec ew lk lf lo lv le eW et eh ei eu em) (S := Unit) (fun u => some (.int (nI e0))) (fun u => True) (fun u => (WQ cI cJ cZ cII cZZ [] t0 t1 t2 t3 t4 t5 t6 t7 t8 t9 tA tB tC tD tR tS e0 eP eb er ek es ed ec ew lk lf lo lv le eW et eh ei eu em)) := by
  refine zC_of (by decide) (Nat.le_of_ble_eq_true rfl) ?_
  intro prg env s mth below meth cde A ls hE hrt9 hlocks hnm hZ hl
  have hx := hE.1
  have hb := hE.2.1
  have hl : lv_has ls 1 [(0, .ref t0)] := hl
  refine lv_aload_n hx hb dX7_thrown_0 rfl (lv_at hl 0 rfl) ?_
  refine z_get hE fF_X7_0 hZ 0 rfl (.int (nI e0)) rfl dX7_thrown_1 ?_
  exact z_iret hE hrt9 hlocks hZ () rfl trivial rfl dX7_thrown_4 (Nat.le_of_ble_eq_true rfl) (Nat.le_of_ble_eq_true rfl)
set_option maxHeartbeats 1000000 in
set_option maxRecDepth 100000 in
theorem c_X7_fails (l : Launch) (D : va_G) (cI cJ cZ cII cZZ : ClassId) (t0 : Nat) (t1 : Nat) (t2 : Nat) (t3 : Nat) (t4 : Nat) (t5 : Nat) (t6 : Nat) (t7 : Nat) (t8 : Nat) (t9 : Nat) (tA : Nat) (tB : Nat) (tC : Nat) (tD : Nat) (tR : Nat → Nat) (tS : Nat → Nat) (e0 : Nat) (eP : Nat → Nat) (eb : Int) (er : Int) (ek : Bool) (es : Nat → Int) (ed : Nat → Nat → Nat) (ec : Nat → Bool) (ew : Nat → Nat → Bool) (lk : Nat → Nat) (lf : Nat → Nat) (lo : Nat → Nat) (lv : Nat → Int64) (le : Nat) (eW : Int) (et : Nat → Nat) (eh : Nat → Nat) (ei : Nat → Int) (eu : Nat → Bool) (em : Nat) (fa : Bool) (wy : Nat)  :
    zC l yX7_fails cX7_fails 3 (some .boolean) { frames := 0, cells := 0, slots := 0, locals := 0 } D (zT cI cJ cZ cII cZZ) [.ref t0, .int (zB fa), .int (nI wy)] (WQ cI cJ cZ cII cZZ [] t0 t1 t2 t3 t4 t5 t6 t7 t8 t9 tA tB tC tD tR tS e0 eP eb er ek es ed ec ew lk lf lo lv le eW et eh ei eu em) (S := Unit) (fun u => some (.int (zB fa))) (fun u => True) (fun u => (WQ cI cJ cZ cII cZZ [] t0 t1 t2 t3 t4 t5 t6 t7 t8 t9 tA tB tC tD tR tS (if fa = true then wy else 0) eP eb er ek es ed ec ew lk lf lo lv le eW et eh ei eu em)) := by
  refine zC_of (by decide) (Nat.le_of_ble_eq_true rfl) ?_
  intro prg env s mth below meth cde A ls hE hrt9 hlocks hnm hZ hl
  have hx := hE.1
  have hb := hE.2.1
  have hl : lv_has ls 3 [(0, .ref t0), (1, .int (zB fa)), (2, .int (nI wy))] := hl
  refine lv_aload_n hx hb dX7_fails_0 rfl (lv_at hl 0 rfl) ?_
  refine lv_iload_n hx hb dX7_fails_1 rfl (lv_at hl 1 rfl) ?_
  refine z_if_eq hx hb 9 dX7_fails_2 (by decide) (C := fa = false) (zB_0 _) (fun h2 => ?_) (fun h2 => ?_)
  · skip
    refine z_iconst hx hb (nI 0) dX7_fails_9 (by decide) ?_
    refine z_top (show nI 0 = nI (if fa = true then wy else 0) from by rw [if_neg (show ¬ fa = true by rw [h2]; simp)]) ?_
    refine z_put hE fF_X7_0 fP_X7 rfl hZ 0 rfl rfl rfl (Nat.le_of_ble_eq_true rfl) dX7_fails_10 (WQ cI cJ cZ cII cZZ [] t0 t1 t2 t3 t4 t5 t6 t7 t8 t9 tA tB tC tD tR tS (if fa = true then wy else 0) eP eb er ek es ed ec ew lk lf lo lv le eW et eh ei eu em) rfl (fun H locs hZ => ?_)
    refine lv_iload_n hx hb dX7_fails_13 rfl (lv_at hl 1 rfl) ?_
    exact z_zret fa rfl hE hrt9 hlocks hZ () rfl trivial rfl dX7_fails_14 (Nat.le_of_ble_eq_true rfl) (Nat.le_of_ble_eq_true rfl)
  · skip
    refine lv_iload_n hx hb dX7_fails_5 rfl (lv_at hl 2 rfl) ?_
    refine lv_goto (tgt := 10) hx hb dX7_fails_6 (by decide) ?_
    refine z_top (show nI wy = nI (if fa = true then wy else 0) from by rw [if_pos (show fa = true by simpa using h2)]) ?_
    refine z_put hE fF_X7_0 fP_X7 rfl hZ 0 rfl rfl rfl (Nat.le_of_ble_eq_true rfl) dX7_fails_10 (WQ cI cJ cZ cII cZZ [] t0 t1 t2 t3 t4 t5 t6 t7 t8 t9 tA tB tC tD tR tS (if fa = true then wy else 0) eP eb er ek es ed ec ew lk lf lo lv le eW et eh ei eu em) rfl (fun H locs hZ => ?_)
    refine lv_iload_n hx hb dX7_fails_13 rfl (lv_at hl 1 rfl) ?_
    exact z_zret fa rfl hE hrt9 hlocks hZ () rfl trivial rfl dX7_fails_14 (Nat.le_of_ble_eq_true rfl) (Nat.le_of_ble_eq_true rfl)
set_option maxHeartbeats 1000000 in
set_option maxRecDepth 100000 in
theorem c_X7_forget (l : Launch) (D : va_G) (cI cJ cZ cII cZZ : ClassId) (t0 : Nat) (t1 : Nat) (t2 : Nat) (t3 : Nat) (t4 : Nat) (t5 : Nat) (t6 : Nat) (t7 : Nat) (t8 : Nat) (t9 : Nat) (tA : Nat) (tB : Nat) (tC : Nat) (tD : Nat) (tR : Nat → Nat) (tS : Nat → Nat) (e0 : Nat) (eP : Nat → Nat) (eb : Int) (er : Int) (ek : Bool) (es : Nat → Int) (ed : Nat → Nat → Nat) (ec : Nat → Bool) (ew : Nat → Nat → Bool) (lk : Nat → Nat) (lf : Nat → Nat) (lo : Nat → Nat) (lv : Nat → Int64) (le : Nat) (eW : Int) (et : Nat → Nat) (eh : Nat → Nat) (ei : Nat → Int) (eu : Nat → Bool) (em : Nat) (f : Nat) (n : Int) (hf : f < 32) :
    zC l yX7_forget cX7_forget 4 none { frames := 0, cells := 0, slots := 0, locals := 0 } D (zT cI cJ cZ cII cZZ) [.ref t0, .int (nI f), .int (zI n)] (WQ cI cJ cZ cII cZZ [] t0 t1 t2 t3 t4 t5 t6 t7 t8 t9 tA tB tC tD tR tS e0 eP eb er ek es ed ec ew lk lf lo lv le eW et eh ei eu em) (S := (Nat → Nat → Bool)) (fun u => none) (fun u => (∀ g q, q < 14 → u g q = if g = f then false else ew g q)) (fun u => (WQ cI cJ cZ cII cZZ [] t0 t1 t2 t3 t4 t5 t6 t7 t8 t9 tA tB tC tD tR tS e0 eP eb er ek (va_up es f n) ed (va_up ec f false) u lk lf lo lv le eW et eh ei eu em)) := by
  refine zC_of (by decide) (Nat.le_of_ble_eq_true rfl) ?_
  intro prg env s mth below meth cde A ls hE hrt9 hlocks hnm hZ hl
  have hx := hE.1
  have hb := hE.2.1
  have hl : lv_has ls 4 [(0, .ref t0), (1, .int (nI f)), (2, .int (zI n))] := hl
  refine lv_aload_n hx hb dX7_forget_0 rfl (lv_at hl 0 rfl) ?_
  refine z_get hE fF_X7_5 hZ 0 rfl (.ref t2) rfl dX7_forget_1 ?_
  refine lv_iload_n hx hb dX7_forget_4 rfl (lv_at hl 1 rfl) ?_
  refine lv_iload_n hx hb dX7_forget_5 rfl (lv_at hl 2 rfl) ?_
  refine z_iast zI es n hE hZ 2 0 rfl rfl (by decide) (by omega) dX7_forget_6 (WQ cI cJ cZ cII cZZ [] t0 t1 t2 t3 t4 t5 t6 t7 t8 t9 tA tB tC tD tR tS e0 eP eb er ek (va_up es f n) ed ec ew lk lf lo lv le eW et eh ei eu em) rfl (fun H locs hZ => ?_)
  refine lv_aload_n hx hb dX7_forget_7 rfl (lv_at hl 0 rfl) ?_
  refine z_get hE fF_X7_7 hZ 0 rfl (.ref t4) rfl dX7_forget_8 ?_
  refine lv_iload_n hx hb dX7_forget_11 rfl (lv_at hl 1 rfl) ?_
  refine z_iconst hx hb (nI 0) dX7_forget_12 (by decide) ?_
  refine z_top (show nI 0 = zB false from rfl) ?_
  refine z_zast ec false hE hZ 4 2 rfl rfl (by decide) (by omega) dX7_forget_13 (WQ cI cJ cZ cII cZZ [] t0 t1 t2 t3 t4 t5 t6 t7 t8 t9 tA tB tC tD tR tS e0 eP eb er ek (va_up es f n) ed (va_up ec f false) ew lk lf lo lv le eW et eh ei eu em) rfl (fun H locs hZ => ?_)
  refine z_iconst hx hb (nI 0) dX7_forget_14 (by decide) ?_
  refine lv_istore_n (lv' := [(3, .int (nI 0)), (0, .ref t0), (1, .int (nI f)), (2, .int (zI n))]) hx hb dX7_forget_15 rfl hl (by decide) rfl (fun ls hl => ?_)
  refine z_loop (σ := Nat × (Nat → Nat → Bool)) (fun (i, w) H locs ls => (i ≤ 14) ∧ (∀ g q, w g q = if g = f ∧ q < i then false else ew g q) ∧ zS D A s.heap H locs (WQ cI cJ cZ cII cZZ [] t0 t1 t2 t3 t4 t5 t6 t7 t8 t9 tA tB tC tD tR tS e0 eP eb er ek (va_up es f n) ed (va_up ec f false) w lk lf lo lv le eW et eh ei eu em) ∧ lv_has ls 4 [(0, .ref t0), (1, .int (nI f)), (2, .int (zI n)), (3, .int (nI i))]) (fun (i, w) => 14 - i) [] (0, ew) ⟨by omega, fun g q => by rw [if_neg (by omega)], hZ, lv_sub hl [1, 2, 3, 0] (by first | rfl | (simp only [lv_pick]; rfl))⟩ ?_
  intro x H locs ls hI ih16
  obtain ⟨i, w⟩ := x
  obtain ⟨hi, hw, hZ, hl⟩ := hI
  refine lv_iload_n hx hb dX7_forget_16 rfl (lv_at hl 3 rfl) ?_
  refine z_bipush hx hb (nI 14) dX7_forget_17 (by decide) ?_
  refine z_icmp_ge hx hb 37 dX7_forget_19 (by decide) (C := 14 ≤ i) (nIle (by omega) (by omega)) (fun h19 => ?_) (fun h19 => ?_)
  · skip
    exact z_vret hE hrt9 hlocks hZ w rfl (show (∀ g q, q < 14 → w g q = if g = f then false else ew g q) from fun g q hq => by rw [hw]; by_cases y : g = f; rw [if_pos y, if_pos (by omega)]; rw [if_neg y, if_neg (by omega)]) rfl dX7_forget_37 (Nat.le_of_ble_eq_true rfl) (Nat.le_of_ble_eq_true rfl)
  · skip
    refine lv_aload_n hx hb dX7_forget_22 rfl (lv_at hl 0 rfl) ?_
    refine z_get hE fF_X7_8 hZ 0 rfl (.ref t5) rfl dX7_forget_23 ?_
    refine lv_iload_n hx hb dX7_forget_26 rfl (lv_at hl 1 rfl) ?_
    refine z_aald hE hZ 5 4 rfl rfl (by decide) (by omega) (tS f) (if_pos (by omega)) dX7_forget_27 ?_
    refine lv_iload_n hx hb dX7_forget_28 rfl (lv_at hl 3 rfl) ?_
    refine z_iconst hx hb (nI 0) dX7_forget_29 (by decide) ?_
    refine z_top (show nI 0 = zB false from rfl) ?_
    refine z_rzast w false hE hZ 2 rfl (by decide) (i := f) (j := i) (by omega) (by omega) dX7_forget_30 (fun H locs hZ => ?_)
    have hZ : zS D A s.heap H locs (WQ cI cJ cZ cII cZZ [] t0 t1 t2 t3 t4 t5 t6 t7 t8 t9 tA tB tC tD tR tS e0 eP eb er ek (va_up es f n) ed (va_up ec f false) (va_up2 w f i false) lk lf lo lv le eW et eh ei eu em) := hZ
    refine lv_iinc (v := nI (i + 1)) (lv' := [(3, .int (nI (i + 1))), (0, .ref t0), (1, .int (nI f)), (2, .int (zI n))]) hx hb dX7_forget_31 hl (k := 3) rfl (nI_add _ _) (by decide) rfl (fun ls hl => ?_)
    refine lv_goto (tgt := 16) hx hb dX7_forget_34 (by decide) ?_
    exact ih16 (i + 1, va_up2 w f i false) _ _ _ ⟨by omega, fun g q => by rw [v2, hw]; by_cases y : g = f ∧ q = i; rw [if_pos y, if_pos (by omega)]; rw [if_neg y]; by_cases x : g = f ∧ q < i; rw [if_pos x, if_pos (by omega)]; rw [if_neg x, if_neg (by omega)], hZ, lv_sub hl [1, 2, 3, 0] (by first | rfl | (simp only [lv_pick]; rfl))⟩ (by (try dsimp only); omega)
set_option maxHeartbeats 1000000 in
set_option maxRecDepth 100000 in
theorem c_X7_two (l : Launch) (D : va_G) (cI cJ cZ cII cZZ : ClassId) (t0 : Nat) (t1 : Nat) (t2 : Nat) (t3 : Nat) (t4 : Nat) (t5 : Nat) (t6 : Nat) (t7 : Nat) (t8 : Nat) (t9 : Nat) (tA : Nat) (tB : Nat) (tC : Nat) (tD : Nat) (tR : Nat → Nat) (tS : Nat → Nat) (e0 : Nat) (eP : Nat → Nat) (eb : Int) (er : Int) (ek : Bool) (es : Nat → Int) (ed : Nat → Nat → Nat) (ec : Nat → Bool) (ew : Nat → Nat → Bool) (lk : Nat → Nat) (lf : Nat → Nat) (lo : Nat → Nat) (lv : Nat → Int64) (le : Nat) (eW : Int) (et : Nat → Nat) (eh : Nat → Nat) (ei : Nat → Int) (eu : Nat → Bool) (em : Nat) (B : Nat → Int64) (p : Nat) (t : Nat) (j : Nat) (hP : RP B eP) (hp : p < 600) (hj : j < 16) (ht : t = 2 * j) :
    zC l yX7_two cX7_two 3 (some .int) { frames := 0, cells := 0, slots := 0, locals := 0 } D (zT cI cJ cZ cII cZZ) [.ref t0, .int (nI p), .int (nI t)] (WQ cI cJ cZ cII cZZ [] t0 t1 t2 t3 t4 t5 t6 t7 t8 t9 tA tB tC tD tR tS e0 eP eb er ek es ed ec ew lk lf lo lv le eW et eh ei eu em) (S := Unit) (fun u => some (.int (nI (num B p j)))) (fun u => True) (fun u => (WQ cI cJ cZ cII cZZ [] t0 t1 t2 t3 t4 t5 t6 t7 t8 t9 tA tB tC tD tR tS e0 eP eb er ek es ed ec ew lk lf lo lv le eW et eh ei eu em)) := by
  refine zC_of (by decide) (Nat.le_of_ble_eq_true rfl) ?_
  intro prg env s mth below meth cde A ls hE hrt9 hlocks hnm hZ hl
  have hx := hE.1
  have hb := hE.2.1
  have hl : lv_has ls 3 [(0, .ref t0), (1, .int (nI p)), (2, .int (nI t))] := hl
  have hb1 := po_lt B p t
  have hb2 := po_lt B p (t + 1)
  refine lv_aload_n hx hb dX7_two_0 rfl (lv_at hl 0 rfl) ?_
  refine z_get hE fF_X7_1 hZ 0 rfl (.ref t1) rfl dX7_two_1 ?_
  refine lv_iload_n hx hb dX7_two_4 rfl (lv_at hl 1 rfl) ?_
  refine z_bipush hx hb (nI 32) dX7_two_5 (by decide) ?_
  refine z_imul hx hb dX7_two_7 (z := nI (p * 32)) (pk_mul _ _) ?_
  refine lv_iload_n hx hb dX7_two_8 rfl (lv_at hl 2 rfl) ?_
  refine z_iadd hx hb dX7_two_9 (z := nI ((p * 32) + t)) (nI_add _ _) ?_
  refine z_iald hE hZ 1 0 rfl rfl (by decide) (by omega) dX7_two_10 ?_
  refine z_top (show nI (eP ((p * 32) + t)) = nI (po B p t) from by rw [hP p t hp (by omega)]) ?_
  refine z_bipush hx hb (nI 8) dX7_two_11 (by decide) ?_
  refine lv_ishl hx hb dX7_two_13 ?_
  refine z_top (show (nI (po B p t)) <<< ((nI 8) &&& 31) = nI (po B p t * 256) from pk_shlN _ 8 (by decide) (by omega)) ?_
  refine lv_aload_n hx hb dX7_two_14 rfl (lv_at hl 0 rfl) ?_
  refine z_get hE fF_X7_1 hZ 0 rfl (.ref t1) rfl dX7_two_15 ?_
  refine lv_iload_n hx hb dX7_two_18 rfl (lv_at hl 1 rfl) ?_
  refine z_bipush hx hb (nI 32) dX7_two_19 (by decide) ?_
  refine z_imul hx hb dX7_two_21 (z := nI (p * 32)) (pk_mul _ _) ?_
  refine lv_iload_n hx hb dX7_two_22 rfl (lv_at hl 2 rfl) ?_
  refine z_iadd hx hb dX7_two_23 (z := nI ((p * 32) + t)) (nI_add _ _) ?_
  refine z_iconst hx hb (nI 1) dX7_two_24 (by decide) ?_
  refine z_iadd hx hb dX7_two_25 (z := nI (((p * 32) + t) + 1)) (nI_add _ _) ?_
  refine z_iald hE hZ 1 0 rfl rfl (by decide) (by omega) dX7_two_26 ?_
  refine z_top (show nI (eP (((p * 32) + t) + 1)) = nI (po B p (t + 1)) from by rw [Nat.add_assoc, hP p (t + 1) hp (by omega)]) ?_
  refine lv_ior hx hb dX7_two_27 ?_
  refine z_top (show (nI (po B p t * 256)) ||| (nI (po B p (t + 1))) = nI (num B p j) from by rw [or8 hb2, num_po B p hj, ht]) ?_
  exact z_iret hE hrt9 hlocks hZ () rfl trivial rfl dX7_two_28 (Nat.le_of_ble_eq_true rfl) (Nat.le_of_ble_eq_true rfl)
set_option maxHeartbeats 1000000 in
set_option maxRecDepth 100000 in
theorem c_X7_half (l : Launch) (D : va_G) (cI cJ cZ cII cZZ : ClassId) (t0 : Nat) (t1 : Nat) (t2 : Nat) (t3 : Nat) (t4 : Nat) (t5 : Nat) (t6 : Nat) (t7 : Nat) (t8 : Nat) (t9 : Nat) (tA : Nat) (tB : Nat) (tC : Nat) (tD : Nat) (tR : Nat → Nat) (tS : Nat → Nat) (e0 : Nat) (eP : Nat → Nat) (eb : Int) (er : Int) (ek : Bool) (es : Nat → Int) (ed : Nat → Nat → Nat) (ec : Nat → Bool) (ew : Nat → Nat → Bool) (lk : Nat → Nat) (lf : Nat → Nat) (lo : Nat → Nat) (lv : Nat → Int64) (le : Nat) (eW : Int) (et : Nat → Nat) (eh : Nat → Nat) (ei : Nat → Int) (eu : Nat → Bool) (em : Nat) (B : Nat → Int64) (ih : Nat → Nat) (iN : Nat) (k : Int) (h : Nat) (k_q : Int32) (hP : RP B eP) (hI : ∀ j, j < 16 → num B 0 j = infoN iN ih j) (hk : -1 ≤ k ∧ k < 5) (hh : h < 2) (k_h : k_q = zI k) :
    zC l yX7_half cX7_half 3 (some .int) { frames := 1, cells := 0, slots := 0, locals := 22 } D (zT cI cJ cZ cII cZZ) [.ref t0, .int (k_q), .int (nI h)] (WQ cI cJ cZ cII cZZ [] t0 t1 t2 t3 t4 t5 t6 t7 t8 t9 tA tB tC tD tR tS e0 eP eb er ek es ed ec ew lk lf lo lv le eW et eh ei eu em) (S := Unit) (fun u => some (.int (nI (ih ((k + 1).toNat * 2 + h))))) (fun u => True) (fun u => (WQ cI cJ cZ cII cZZ [] t0 t1 t2 t3 t4 t5 t6 t7 t8 t9 tA tB tC tD tR tS e0 eP eb er ek es ed ec ew lk lf lo lv le eW et eh ei eu em)) := by
  refine zC_of (by decide) (Nat.le_of_ble_eq_true rfl) ?_
  intro prg env s mth below meth cde A ls hE hrt9 hlocks hnm hZ hl
  have hx := hE.1
  have hb := hE.2.1
  subst k_h
  have hl : lv_has ls 3 [(0, .ref t0), (1, .int (zI k)), (2, .int (nI h))] := hl
  refine lv_aload_n hx hb dX7_half_0 rfl (lv_at hl 0 rfl) ?_
  refine z_iconst hx hb (nI 0) dX7_half_1 (by decide) ?_
  refine z_bipush hx hb (nI 8) dX7_half_2 (by decide) ?_
  refine z_iconst hx hb (nI 4) dX7_half_4 (by decide) ?_
  refine lv_iload_n hx hb dX7_half_5 rfl (lv_at hl 1 rfl) ?_
  refine z_imul hx hb dX7_half_6 (z := zI (4 * k)) (by (try simp only [zI_n]); exact zI_mul _ _) ?_
  refine z_iadd hx hb dX7_half_7 (z := zI (8 + (4 * k))) (by (try simp only [zI_n]); exact zI_add _ _) ?_
  refine z_iconst hx hb (nI 2) dX7_half_8 (by decide) ?_
  refine lv_iload_n hx hb dX7_half_9 rfl (lv_at hl 2 rfl) ?_
  refine z_imul hx hb dX7_half_10 (z := nI (2 * h)) (pk_mul _ _) ?_
  refine z_iadd hx hb dX7_half_11 (z := zI ((8 + (4 * k)) + ((2 * h : Nat) : Int))) (by (try simp only [zI_n]); exact zI_add _ _) ?_
  refine z_top (show zI ((8 + (4 * k)) + ((2 * h : Nat) : Int)) = nI (2 * (2 + ((k + 1).toNat * 2 + h))) from by rw [zI_n]; congr 1; omega) ?_
  refine z_kVp (As := [.int (nI 0), .int (nI (2 * (2 + ((k + 1).toNat * 2 + h))))]) (rest := []) hE hZ (c_X7_two l D cI cJ cZ cII cZZ t0 t1 t2 t3 t4 t5 t6 t7 t8 t9 tA tB tC tD tR tS e0 eP eb er ek es ed ec ew lk lf lo lv le eW et eh ei eu em B 0 (2 * (2 + ((k + 1).toNat * 2 + h))) (2 + ((k + 1).toNat * 2 + h)) (by first | assumption | omega) (by omega) (by omega) (rfl)) lL_X7_two lC_X7_82 rfl [] (List.Perm.refl _) (fun u => (WQ cI cJ cZ cII cZZ [] t0 t1 t2 t3 t4 t5 t6 t7 t8 t9 tA tB tC tD tR tS e0 eP eb er ek es ed ec ew lk lf lo lv le eW et eh ei eu em)) (fun _ => List.Perm.refl _) 0 rfl ⟨by decide, by decide⟩ 0 0 rfl rfl ⟨by decide, by decide⟩ rfl hl.1 rfl (Nat.le_of_ble_eq_true rfl) dX7_half_12 (fun u H locs hq9 hZ => ?_)
  have hZ : zS D A s.heap H locs (WQ cI cJ cZ cII cZZ [] t0 t1 t2 t3 t4 t5 t6 t7 t8 t9 tA tB tC tD tR tS e0 eP eb er ek es ed ec ew lk lf lo lv le eW et eh ei eu em) := hZ
  refine W.eq (g2 := F0 mth 15 ls [.int (nI (num B 0 (2 + ((k + 1).toNat * 2 + h))))]) rfl ?_
  refine z_top (show nI (num B 0 (2 + ((k + 1).toNat * 2 + h))) = nI (ih ((k + 1).toNat * 2 + h)) from by rw [info_ih hI (by omega)]) ?_
  exact z_iret hE hrt9 hlocks hZ () rfl trivial rfl dX7_half_15 (Nat.le_of_ble_eq_true rfl) (Nat.le_of_ble_eq_true rfl)
set_option maxHeartbeats 1000000 in
set_option maxRecDepth 100000 in
theorem c_X7_inodeOf (l : Launch) (D : va_G) (cI cJ cZ cII cZZ : ClassId) (t0 : Nat) (t1 : Nat) (t2 : Nat) (t3 : Nat) (t4 : Nat) (t5 : Nat) (t6 : Nat) (t7 : Nat) (t8 : Nat) (t9 : Nat) (tA : Nat) (tB : Nat) (tC : Nat) (tD : Nat) (tR : Nat → Nat) (tS : Nat → Nat) (e0 : Nat) (eP : Nat → Nat) (eb : Int) (er : Int) (ek : Bool) (es : Nat → Int) (ed : Nat → Nat → Nat) (ec : Nat → Bool) (ew : Nat → Nat → Bool) (lk : Nat → Nat) (lf : Nat → Nat) (lo : Nat → Nat) (lv : Nat → Int64) (le : Nat) (eW : Int) (et : Nat → Nat) (eh : Nat → Nat) (ei : Nat → Int) (eu : Nat → Bool) (em : Nat) (B : Nat → Int64) (ro : Nat → Nat) (ih : Nat → Nat) (iN : Nat) (k : Int) (f : Nat) (k_q : Int32) (hP : RP B eP) (hI : ∀ j, j < 16 → num B 0 j = infoN iN ih j) (hTi : ∀ k, k < 12 → ih k = 0 ∨ (ih k < 600 ∧ ro (ih k) = 1)) (hk : -1 ≤ k ∧ k < 5) (hf : f < 32) (k_h : k_q = zI k) :
    zC l yX7_inodeOf cX7_inodeOf 4 (some .int) { frames := 2, cells := 0, slots := 0, locals := 44 } D (zT cI cJ cZ cII cZZ) [.ref t0, .int (k_q), .int (nI f)] (WQ cI cJ cZ cII cZZ [] t0 t1 t2 t3 t4 t5 t6 t7 t8 t9 tA tB tC tD tR tS e0 eP eb er ek es ed ec ew lk lf lo lv le eW et eh ei eu em) (S := Unit) (fun u => some (.int (nI (inoO B ih (k + 1).toNat f)))) (fun u => True) (fun u => (WQ cI cJ cZ cII cZZ [] t0 t1 t2 t3 t4 t5 t6 t7 t8 t9 tA tB tC tD tR tS e0 eP eb er ek es ed ec ew lk lf lo lv le eW et eh ei eu em)) := by
  refine zC_of (by decide) (Nat.le_of_ble_eq_true rfl) ?_
  intro prg env s mth below meth cde A ls hE hrt9 hlocks hnm hZ hl
  have hx := hE.1
  have hb := hE.2.1
  subst k_h
  have hl : lv_has ls 4 [(0, .ref t0), (1, .int (zI k)), (2, .int (nI f))] := hl
  refine lv_aload_n hx hb dX7_inodeOf_0 rfl (lv_at hl 0 rfl) ?_
  refine lv_iload_n hx hb dX7_inodeOf_1 rfl (lv_at hl 1 rfl) ?_
  refine lv_iload_n hx hb dX7_inodeOf_2 rfl (lv_at hl 2 rfl) ?_
  refine z_bipush hx hb (nI 16) dX7_inodeOf_3 (by decide) ?_
  refine z_idiv hx hb dX7_inodeOf_5 (by omega) (by omega) (by omega) ?_
  refine z_kVp (As := [.int (zI k), .int (nI (f / 16))]) (rest := []) hE hZ (c_X7_half l D cI cJ cZ cII cZZ t0 t1 t2 t3 t4 t5 t6 t7 t8 t9 tA tB tC tD tR tS e0 eP eb er ek es ed ec ew lk lf lo lv le eW et eh ei eu em B ih iN k (f / 16) (zI k) (by first | assumption | omega) (by first | assumption | omega) (hk) (by omega) (rfl)) lL_X7_half lC_X7_86 rfl [] (List.Perm.refl _) (fun u => (WQ cI cJ cZ cII cZZ [] t0 t1 t2 t3 t4 t5 t6 t7 t8 t9 tA tB tC tD tR tS e0 eP eb er ek es ed ec ew lk lf lo lv le eW et eh ei eu em)) (fun _ => List.Perm.refl _) 0 rfl ⟨by decide, by decide⟩ 0 0 rfl rfl ⟨by decide, by decide⟩ rfl hl.1 rfl (Nat.le_of_ble_eq_true rfl) dX7_inodeOf_6 (fun u H locs hq9 hZ => ?_)
  have hZ : zS D A s.heap H locs (WQ cI cJ cZ cII cZZ [] t0 t1 t2 t3 t4 t5 t6 t7 t8 t9 tA tB tC tD tR tS e0 eP eb er ek es ed ec ew lk lf lo lv le eW et eh ei eu em) := hZ
  refine W.eq (g2 := F0 mth 9 ls [.int (nI (ih ((k + 1).toNat * 2 + (f / 16))))]) rfl ?_
  have hti := hTi ((k + 1).toNat * 2 + f / 16) (by omega)
  refine lv_istore_n (lv' := [(3, .int (nI (ih ((k + 1).toNat * 2 + (f / 16))))), (0, .ref t0), (1, .int (zI k)), (2, .int (nI f))]) hx hb dX7_inodeOf_9 rfl hl (by decide) rfl (fun ls hl => ?_)
  refine lv_iload_n hx hb dX7_inodeOf_10 rfl (lv_at hl 0 rfl) ?_
  refine z_if_ne hx hb 18 dX7_inodeOf_11 (by decide) (C := ih ((k + 1).toNat * 2 + f / 16) = 0) (nI_eq0 (by rcases hti with z | z <;> omega)) (fun h11 => ?_) (fun h11 => ?_)
  · skip
    refine lv_aload_n hx hb dX7_inodeOf_18 rfl (lv_at hl 1 rfl) ?_
    refine lv_iload_n hx hb dX7_inodeOf_19 rfl (lv_at hl 0 rfl) ?_
    refine z_iconst hx hb (nI 2) dX7_inodeOf_20 (by decide) ?_
    refine lv_iload_n hx hb dX7_inodeOf_21 rfl (lv_at hl 3 rfl) ?_
    refine z_bipush hx hb (nI 16) dX7_inodeOf_22 (by decide) ?_
    refine z_irem hx hb dX7_inodeOf_24 (by omega) (by omega) (by omega) ?_
    refine z_imul hx hb dX7_inodeOf_25 (z := nI (2 * (f % 16))) (pk_mul _ _) ?_
    refine z_kVp (As := [.int (nI (ih ((k + 1).toNat * 2 + (f / 16)))), .int (nI (2 * (f % 16)))]) (rest := []) hE hZ (c_X7_two l D cI cJ cZ cII cZZ t0 t1 t2 t3 t4 t5 t6 t7 t8 t9 tA tB tC tD tR tS e0 eP eb er ek es ed ec ew lk lf lo lv le eW et eh ei eu em B (ih ((k + 1).toNat * 2 + (f / 16))) (2 * (f % 16)) (f % 16) (by first | assumption | omega) (by rcases hti with z | z <;> omega) (by omega) (rfl)) lL_X7_two lC_X7_82 rfl [] (List.Perm.refl _) (fun u => (WQ cI cJ cZ cII cZZ [] t0 t1 t2 t3 t4 t5 t6 t7 t8 t9 tA tB tC tD tR tS e0 eP eb er ek es ed ec ew lk lf lo lv le eW et eh ei eu em)) (fun _ => List.Perm.refl _) 0 rfl ⟨by decide, by decide⟩ 0 0 rfl rfl ⟨by decide, by decide⟩ rfl hl.1 rfl (Nat.le_of_ble_eq_true rfl) dX7_inodeOf_26 (fun u H locs hq9 hZ => ?_)
    have hZ : zS D A s.heap H locs (WQ cI cJ cZ cII cZZ [] t0 t1 t2 t3 t4 t5 t6 t7 t8 t9 tA tB tC tD tR tS e0 eP eb er ek es ed ec ew lk lf lo lv le eW et eh ei eu em) := hZ
    refine W.eq (g2 := F0 mth 29 ls [.int (nI (num B (ih ((k + 1).toNat * 2 + (f / 16))) (f % 16)))]) rfl ?_
    refine z_top (show nI (num B (ih ((k + 1).toNat * 2 + (f / 16))) (f % 16)) = nI (inoO B ih (k + 1).toNat f) from by first | (unfold inoO; rw [if_pos h11]) | (unfold inoO; rw [if_neg h11])) ?_
    exact z_iret hE hrt9 hlocks hZ () rfl trivial rfl dX7_inodeOf_29 (Nat.le_of_ble_eq_true rfl) (Nat.le_of_ble_eq_true rfl)
  · skip
    refine z_iconst hx hb (nI 0) dX7_inodeOf_14 (by decide) ?_
    refine lv_goto (tgt := 29) hx hb dX7_inodeOf_15 (by decide) ?_
    refine z_top (show nI 0 = nI (inoO B ih (k + 1).toNat f) from by first | (unfold inoO; rw [if_pos h11]) | (unfold inoO; rw [if_neg h11])) ?_
    exact z_iret hE hrt9 hlocks hZ () rfl trivial rfl dX7_inodeOf_29 (Nat.le_of_ble_eq_true rfl) (Nat.le_of_ble_eq_true rfl)
set_option maxHeartbeats 1000000 in
set_option maxRecDepth 100000 in
theorem c_X7_number (l : Launch) (D : va_G) (cI cJ cZ cII cZZ : ClassId) (t0 : Nat) (t1 : Nat) (t2 : Nat) (t3 : Nat) (t4 : Nat) (t5 : Nat) (t6 : Nat) (t7 : Nat) (t8 : Nat) (t9 : Nat) (tA : Nat) (tB : Nat) (tC : Nat) (tD : Nat) (tR : Nat → Nat) (tS : Nat → Nat) (e0 : Nat) (eP : Nat → Nat) (eb : Int) (er : Int) (ek : Bool) (es : Nat → Int) (ed : Nat → Nat → Nat) (ec : Nat → Bool) (ew : Nat → Nat → Bool) (lk : Nat → Nat) (lf : Nat → Nat) (lo : Nat → Nat) (lv : Nat → Int64) (le : Nat) (eW : Int) (et : Nat → Nat) (eh : Nat → Nat) (ei : Nat → Int) (eu : Nat → Bool) (em : Nat) (B : Nat → Int64) (ro : Nat → Nat) (ih : Nat → Nat) (iN : Nat) (hP : RP B eP) (hA : AI B ro ih iN) (hN : iN < 2 ^ 31) :
    zC l yX7_number cX7_number 1 (some .int) { frames := 1, cells := 0, slots := 0, locals := 22 } D (zT cI cJ cZ cII cZZ) [.ref t0] (WQ cI cJ cZ cII cZZ [] t0 t1 t2 t3 t4 t5 t6 t7 t8 t9 tA tB tC tD tR tS e0 eP eb er ek es ed ec ew lk lf lo lv le eW et eh ei eu em) (S := Unit) (fun u => some (.int (nI iN))) (fun u => True) (fun u => (WQ cI cJ cZ cII cZZ [] t0 t1 t2 t3 t4 t5 t6 t7 t8 t9 tA tB tC tD tR tS e0 eP eb er ek es ed ec ew lk lf lo lv le eW et eh ei eu em)) := by
  refine zC_of (by decide) (Nat.le_of_ble_eq_true rfl) ?_
  intro prg env s mth below meth cde A ls hE hrt9 hlocks hnm hZ hl
  have hx := hE.1
  have hb := hE.2.1
  have hl : lv_has ls 1 [(0, .ref t0)] := hl
  have hb1 := iNB_lt hA hN
  refine lv_aload_n hx hb dX7_number_0 rfl (lv_at hl 0 rfl) ?_
  refine z_iconst hx hb (nI 0) dX7_number_1 (by decide) ?_
  refine z_iconst hx hb (nI 0) dX7_number_2 (by decide) ?_
  refine z_kVp (As := [.int (nI 0), .int (nI 0)]) (rest := []) hE hZ (c_X7_two l D cI cJ cZ cII cZZ t0 t1 t2 t3 t4 t5 t6 t7 t8 t9 tA tB tC tD tR tS e0 eP eb er ek es ed ec ew lk lf lo lv le eW et eh ei eu em B 0 0 0 (by first | assumption | omega) (by omega) (by omega) (rfl)) lL_X7_two lC_X7_82 rfl [] (List.Perm.refl _) (fun u => (WQ cI cJ cZ cII cZZ [] t0 t1 t2 t3 t4 t5 t6 t7 t8 t9 tA tB tC tD tR tS e0 eP eb er ek es ed ec ew lk lf lo lv le eW et eh ei eu em)) (fun _ => List.Perm.refl _) 0 rfl ⟨by decide, by decide⟩ 0 0 rfl rfl ⟨by decide, by decide⟩ rfl hl.1 rfl (Nat.le_of_ble_eq_true rfl) dX7_number_3 (fun u H locs hq9 hZ => ?_)
  have hZ : zS D A s.heap H locs (WQ cI cJ cZ cII cZZ [] t0 t1 t2 t3 t4 t5 t6 t7 t8 t9 tA tB tC tD tR tS e0 eP eb er ek es ed ec ew lk lf lo lv le eW et eh ei eu em) := hZ
  refine W.eq (g2 := F0 mth 6 ls [.int (nI (num B 0 0))]) rfl ?_
  refine z_bipush hx hb (nI 16) dX7_number_6 (by decide) ?_
  refine lv_ishl hx hb dX7_number_8 ?_
  refine z_top (show (nI (num B 0 0)) <<< ((nI 16) &&& 31) = nI (num B 0 0 * 65536) from pk_shlN _ 16 (by decide) (by omega)) ?_
  refine lv_aload_n hx hb dX7_number_9 rfl (lv_at hl 0 rfl) ?_
  refine z_iconst hx hb (nI 0) dX7_number_10 (by decide) ?_
  refine z_iconst hx hb (nI 2) dX7_number_11 (by decide) ?_
  refine z_kVp (As := [.int (nI 0), .int (nI 2)]) (rest := [.int (nI (num B 0 0 * 65536))]) hE hZ (c_X7_two l D cI cJ cZ cII cZZ t0 t1 t2 t3 t4 t5 t6 t7 t8 t9 tA tB tC tD tR tS e0 eP eb er ek es ed ec ew lk lf lo lv le eW et eh ei eu em B 0 2 1 (by first | assumption | omega) (by omega) (by omega) (rfl)) lL_X7_two lC_X7_82 rfl [] (List.Perm.refl _) (fun u => (WQ cI cJ cZ cII cZZ [] t0 t1 t2 t3 t4 t5 t6 t7 t8 t9 tA tB tC tD tR tS e0 eP eb er ek es ed ec ew lk lf lo lv le eW et eh ei eu em)) (fun _ => List.Perm.refl _) 0 rfl ⟨by decide, by decide⟩ 0 0 rfl rfl ⟨by decide, by decide⟩ rfl hl.1 rfl (Nat.le_of_ble_eq_true rfl) dX7_number_12 (fun u H locs hq9 hZ => ?_)
  have hZ : zS D A s.heap H locs (WQ cI cJ cZ cII cZZ [] t0 t1 t2 t3 t4 t5 t6 t7 t8 t9 tA tB tC tD tR tS e0 eP eb er ek es ed ec ew lk lf lo lv le eW et eh ei eu em) := hZ
  refine W.eq (g2 := F0 mth 15 ls [.int (nI (num B 0 1)), .int (nI (num B 0 0 * 65536))]) rfl ?_
  refine lv_ior hx hb dX7_number_15 ?_
  refine z_top (show (nI (num B 0 0 * 65536)) ||| (nI (num B 0 1)) = nI (num B 0 0 * 65536 + num B 0 1) from or_hi (nm_lt _ _)) ?_
  refine z_top (show nI (num B 0 0 * 65536 + num B 0 1) = nI iN from by rw [iNB_eq hA]) ?_
  exact z_iret hE hrt9 hlocks hZ () rfl trivial rfl dX7_number_16 (Nat.le_of_ble_eq_true rfl) (Nat.le_of_ble_eq_true rfl)
set_option maxHeartbeats 1000000 in
set_option maxRecDepth 100000 in
theorem c_X7_there (l : Launch) (D : va_G) (cI cJ cZ cII cZZ : ClassId) (t0 : Nat) (t1 : Nat) (t2 : Nat) (t3 : Nat) (t4 : Nat) (t5 : Nat) (t6 : Nat) (t7 : Nat) (t8 : Nat) (t9 : Nat) (tA : Nat) (tB : Nat) (tC : Nat) (tD : Nat) (tR : Nat → Nat) (tS : Nat → Nat) (e0 : Nat) (eP : Nat → Nat) (eb : Int) (er : Int) (ek : Bool) (es : Nat → Int) (ed : Nat → Nat → Nat) (ec : Nat → Bool) (ew : Nat → Nat → Bool) (lk : Nat → Nat) (lf : Nat → Nat) (lo : Nat → Nat) (lv : Nat → Int64) (le : Nat) (eW : Int) (et : Nat → Nat) (eh : Nat → Nat) (ei : Nat → Int) (eu : Nat → Bool) (em : Nat) (B : Nat → Int64) (ih : Nat → Nat) (iN : Nat) (k : Int) (k_q : Int32) (hP : RP B eP) (hI : ∀ j, j < 16 → num B 0 j = infoN iN ih j) (hk : 0 ≤ k ∧ k < 5) (hih : ∀ j, ih j < 65536) (k_h : k_q = zI k) :
    zC l yX7_there cX7_there 2 (some .boolean) { frames := 2, cells := 0, slots := 0, locals := 44 } D (zT cI cJ cZ cII cZZ) [.ref t0, .int (k_q)] (WQ cI cJ cZ cII cZZ [] t0 t1 t2 t3 t4 t5 t6 t7 t8 t9 tA tB tC tD tR tS e0 eP eb er ek es ed ec ew lk lf lo lv le eW et eh ei eu em) (S := Unit) (fun u => some (.int (zB (hasS ih k)))) (fun u => True) (fun u => (WQ cI cJ cZ cII cZZ [] t0 t1 t2 t3 t4 t5 t6 t7 t8 t9 tA tB tC tD tR tS e0 eP eb er ek es ed ec ew lk lf lo lv le eW et eh ei eu em)) := by
  refine zC_of (by decide) (Nat.le_of_ble_eq_true rfl) ?_
  intro prg env s mth below meth cde A ls hE hrt9 hlocks hnm hZ hl
  have hx := hE.1
  have hb := hE.2.1
  subst k_h
  have hl : lv_has ls 2 [(0, .ref t0), (1, .int (zI k))] := hl
  refine lv_aload_n hx hb dX7_there_0 rfl (lv_at hl 0 rfl) ?_
  refine lv_iload_n hx hb dX7_there_1 rfl (lv_at hl 1 rfl) ?_
  refine z_iconst hx hb (nI 0) dX7_there_2 (by decide) ?_
  refine z_kVp (As := [.int (zI k), .int (nI 0)]) (rest := []) hE hZ (c_X7_half l D cI cJ cZ cII cZZ t0 t1 t2 t3 t4 t5 t6 t7 t8 t9 tA tB tC tD tR tS e0 eP eb er ek es ed ec ew lk lf lo lv le eW et eh ei eu em B ih iN k 0 (zI k) (by first | assumption | omega) (by first | assumption | omega) (by omega) (by omega) (rfl)) lL_X7_half lC_X7_86 rfl [] (List.Perm.refl _) (fun u => (WQ cI cJ cZ cII cZZ [] t0 t1 t2 t3 t4 t5 t6 t7 t8 t9 tA tB tC tD tR tS e0 eP eb er ek es ed ec ew lk lf lo lv le eW et eh ei eu em)) (fun _ => List.Perm.refl _) 0 rfl ⟨by decide, by decide⟩ 0 0 rfl rfl ⟨by decide, by decide⟩ rfl hl.1 rfl (Nat.le_of_ble_eq_true rfl) dX7_there_3 (fun u H locs hq9 hZ => ?_)
  have hZ : zS D A s.heap H locs (WQ cI cJ cZ cII cZZ [] t0 t1 t2 t3 t4 t5 t6 t7 t8 t9 tA tB tC tD tR tS e0 eP eb er ek es ed ec ew lk lf lo lv le eW et eh ei eu em) := hZ
  refine W.eq (g2 := F0 mth 6 ls [.int (nI (ih ((k + 1).toNat * 2 + 0)))]) rfl ?_
  have hb3 := hih ((k + 1).toNat * 2 + 0)
  refine z_if_ne hx hb 18 dX7_there_6 (by decide) (C := ih ((k + 1).toNat * 2 + 0) = 0) (nI_eq0 (by omega)) (fun h6 => ?_) (fun h6 => ?_)
  · skip
    refine z_iconst hx hb (nI 1) dX7_there_18 (by decide) ?_
    refine lv_goto (tgt := 23) hx hb dX7_there_19 (by decide) ?_
    refine z_top (show nI 1 = zB (hasS ih k) from by first | (rw [show hasS ih k = true by unfold hasS; simp only [decide_eq_true_eq]; omega]; rfl) | (rw [show hasS ih k = false by unfold hasS; simp only [decide_eq_false_iff_not]; omega]; rfl)) ?_
    exact z_zret (hasS ih k) rfl hE hrt9 hlocks hZ () rfl trivial rfl dX7_there_23 (Nat.le_of_ble_eq_true rfl) (Nat.le_of_ble_eq_true rfl)
  · skip
    refine lv_aload_n hx hb dX7_there_9 rfl (lv_at hl 0 rfl) ?_
    refine lv_iload_n hx hb dX7_there_10 rfl (lv_at hl 1 rfl) ?_
    refine z_iconst hx hb (nI 1) dX7_there_11 (by decide) ?_
    refine z_kVp (As := [.int (zI k), .int (nI 1)]) (rest := []) hE hZ (c_X7_half l D cI cJ cZ cII cZZ t0 t1 t2 t3 t4 t5 t6 t7 t8 t9 tA tB tC tD tR tS e0 eP eb er ek es ed ec ew lk lf lo lv le eW et eh ei eu em B ih iN k 1 (zI k) (by first | assumption | omega) (by first | assumption | omega) (by omega) (by omega) (rfl)) lL_X7_half lC_X7_86 rfl [] (List.Perm.refl _) (fun u => (WQ cI cJ cZ cII cZZ [] t0 t1 t2 t3 t4 t5 t6 t7 t8 t9 tA tB tC tD tR tS e0 eP eb er ek es ed ec ew lk lf lo lv le eW et eh ei eu em)) (fun _ => List.Perm.refl _) 0 rfl ⟨by decide, by decide⟩ 0 0 rfl rfl ⟨by decide, by decide⟩ rfl hl.1 rfl (Nat.le_of_ble_eq_true rfl) dX7_there_12 (fun u H locs hq9 hZ => ?_)
    have hZ : zS D A s.heap H locs (WQ cI cJ cZ cII cZZ [] t0 t1 t2 t3 t4 t5 t6 t7 t8 t9 tA tB tC tD tR tS e0 eP eb er ek es ed ec ew lk lf lo lv le eW et eh ei eu em) := hZ
    refine W.eq (g2 := F0 mth 15 ls [.int (nI (ih ((k + 1).toNat * 2 + 1)))]) rfl ?_
    have hb12 := hih ((k + 1).toNat * 2 + 1)
    refine z_if_eq hx hb 22 dX7_there_15 (by decide) (C := ih ((k + 1).toNat * 2 + 1) = 0) (nI_eq0 (by omega)) (fun h15 => ?_) (fun h15 => ?_)
    · skip
      refine z_iconst hx hb (nI 0) dX7_there_22 (by decide) ?_
      refine z_top (show nI 0 = zB (hasS ih k) from by first | (rw [show hasS ih k = true by unfold hasS; simp only [decide_eq_true_eq]; omega]; rfl) | (rw [show hasS ih k = false by unfold hasS; simp only [decide_eq_false_iff_not]; omega]; rfl)) ?_
      exact z_zret (hasS ih k) rfl hE hrt9 hlocks hZ () rfl trivial rfl dX7_there_23 (Nat.le_of_ble_eq_true rfl) (Nat.le_of_ble_eq_true rfl)
    · skip
      refine z_iconst hx hb (nI 1) dX7_there_18 (by decide) ?_
      refine lv_goto (tgt := 23) hx hb dX7_there_19 (by decide) ?_
      refine z_top (show nI 1 = zB (hasS ih k) from by first | (rw [show hasS ih k = true by unfold hasS; simp only [decide_eq_true_eq]; omega]; rfl) | (rw [show hasS ih k = false by unfold hasS; simp only [decide_eq_false_iff_not]; omega]; rfl)) ?_
      exact z_zret (hasS ih k) rfl hE hrt9 hlocks hZ () rfl trivial rfl dX7_there_23 (Nat.le_of_ble_eq_true rfl) (Nat.le_of_ble_eq_true rfl)
set_option maxHeartbeats 1000000 in
set_option maxRecDepth 100000 in
theorem c_X7_noFile (l : Launch) (D : va_G) (cI cJ cZ cII cZZ : ClassId) (t0 : Nat) (t1 : Nat) (t2 : Nat) (t3 : Nat) (t4 : Nat) (t5 : Nat) (t6 : Nat) (t7 : Nat) (t8 : Nat) (t9 : Nat) (tA : Nat) (tB : Nat) (tC : Nat) (tD : Nat) (tR : Nat → Nat) (tS : Nat → Nat) (e0 : Nat) (eP : Nat → Nat) (eb : Int) (er : Int) (ek : Bool) (es : Nat → Int) (ed : Nat → Nat → Nat) (ec : Nat → Bool) (ew : Nat → Nat → Bool) (lk : Nat → Nat) (lf : Nat → Nat) (lo : Nat → Nat) (lv : Nat → Int64) (le : Nat) (eW : Int) (et : Nat → Nat) (eh : Nat → Nat) (ei : Nat → Int) (eu : Nat → Bool) (em : Nat) (f : Int) (f_q : Int32) (hf : -2147483648 ≤ f ∧ f < 2147483648) (f_h : f_q = zI f) :
    zC l yX7_noFile cX7_noFile 2 (some .boolean) { frames := 0, cells := 0, slots := 0, locals := 0 } D (zT cI cJ cZ cII cZZ) [.ref t0, .int (f_q)] (WQ cI cJ cZ cII cZZ [] t0 t1 t2 t3 t4 t5 t6 t7 t8 t9 tA tB tC tD tR tS e0 eP eb er ek es ed ec ew lk lf lo lv le eW et eh ei eu em) (S := Unit) (fun u => some (.int (zB (decide (¬ (0 ≤ f ∧ f < 32)))))) (fun u => True) (fun u => (WQ cI cJ cZ cII cZZ [] t0 t1 t2 t3 t4 t5 t6 t7 t8 t9 tA tB tC tD tR tS e0 eP eb er ek es ed ec ew lk lf lo lv le eW et eh ei eu em)) := by
  refine zC_of (by decide) (Nat.le_of_ble_eq_true rfl) ?_
  intro prg env s mth below meth cde A ls hE hrt9 hlocks hnm hZ hl
  have hx := hE.1
  have hb := hE.2.1
  subst f_h
  have hl : lv_has ls 2 [(0, .ref t0), (1, .int (zI f))] := hl
  refine lv_iload_n hx hb dX7_noFile_0 rfl (lv_at hl 1 rfl) ?_
  refine z_if_lt hx hb 10 dX7_noFile_1 (by decide) (C := f < 0) (zI_lt0 ⟨by omega, by omega⟩) (fun h1 => ?_) (fun h1 => ?_)
  · skip
    refine z_iconst hx hb (nI 1) dX7_noFile_10 (by decide) ?_
    refine lv_goto (tgt := 15) hx hb dX7_noFile_11 (by decide) ?_
    refine z_top (show nI 1 = zB (decide (¬ (0 ≤ f ∧ f < 32))) from by first | (rw [show decide (¬ (0 ≤ f ∧ f < 32)) = true by simp only [decide_eq_true_eq]; omega]; rfl) | (rw [show decide (¬ (0 ≤ f ∧ f < 32)) = false by simp only [decide_eq_false_iff_not]; omega]; rfl)) ?_
    exact z_zret (decide (¬ (0 ≤ f ∧ f < 32))) rfl hE hrt9 hlocks hZ () rfl trivial rfl dX7_noFile_15 (Nat.le_of_ble_eq_true rfl) (Nat.le_of_ble_eq_true rfl)
  · skip
    refine lv_iload_n hx hb dX7_noFile_4 rfl (lv_at hl 1 rfl) ?_
    refine z_bipush hx hb (nI 32) dX7_noFile_5 (by decide) ?_
    refine z_icmp_lt hx hb 14 dX7_noFile_7 (by decide) (C := (f : Int) < 32) (by (try simp only [zI_n]); exact zI_lt ⟨by omega, by omega⟩ ⟨by omega, by omega⟩) (fun h7 => ?_) (fun h7 => ?_)
    · skip
      refine z_iconst hx hb (nI 0) dX7_noFile_14 (by decide) ?_
      refine z_top (show nI 0 = zB (decide (¬ (0 ≤ f ∧ f < 32))) from by first | (rw [show decide (¬ (0 ≤ f ∧ f < 32)) = true by simp only [decide_eq_true_eq]; omega]; rfl) | (rw [show decide (¬ (0 ≤ f ∧ f < 32)) = false by simp only [decide_eq_false_iff_not]; omega]; rfl)) ?_
      exact z_zret (decide (¬ (0 ≤ f ∧ f < 32))) rfl hE hrt9 hlocks hZ () rfl trivial rfl dX7_noFile_15 (Nat.le_of_ble_eq_true rfl) (Nat.le_of_ble_eq_true rfl)
    · skip
      refine z_iconst hx hb (nI 1) dX7_noFile_10 (by decide) ?_
      refine lv_goto (tgt := 15) hx hb dX7_noFile_11 (by decide) ?_
      refine z_top (show nI 1 = zB (decide (¬ (0 ≤ f ∧ f < 32))) from by first | (rw [show decide (¬ (0 ≤ f ∧ f < 32)) = true by simp only [decide_eq_true_eq]; omega]; rfl) | (rw [show decide (¬ (0 ≤ f ∧ f < 32)) = false by simp only [decide_eq_false_iff_not]; omega]; rfl)) ?_
      exact z_zret (decide (¬ (0 ≤ f ∧ f < 32))) rfl hE hrt9 hlocks hZ () rfl trivial rfl dX7_noFile_15 (Nat.le_of_ble_eq_true rfl) (Nat.le_of_ble_eq_true rfl)
set_option maxHeartbeats 1000000 in
set_option maxRecDepth 100000 in
theorem c_X7_free (l : Launch) (D : va_G) (cI cJ cZ cII cZZ : ClassId) (t0 : Nat) (t1 : Nat) (t2 : Nat) (t3 : Nat) (t4 : Nat) (t5 : Nat) (t6 : Nat) (t7 : Nat) (t8 : Nat) (t9 : Nat) (tA : Nat) (tB : Nat) (tC : Nat) (tD : Nat) (tR : Nat → Nat) (tS : Nat → Nat) (e0 : Nat) (eP : Nat → Nat) (eb : Int) (er : Int) (ek : Bool) (es : Nat → Int) (ed : Nat → Nat → Nat) (ec : Nat → Bool) (ew : Nat → Nat → Bool) (lk : Nat → Nat) (lf : Nat → Nat) (lo : Nat → Nat) (lv : Nat → Int64) (le : Nat) (eW : Int) (et : Nat → Nat) (eh : Nat → Nat) (ei : Nat → Int) (eu : Nat → Bool) (em : Nat) (B : Nat → Int64) (ro : Nat → Nat) (ih : Nat → Nat) (iN : Nat) (hP : RP B eP) (hA : AI B ro ih iN) :
    zC l yX7_free cX7_free 5 none { frames := 3, cells := 0, slots := 0, locals := 67 } D (zT cI cJ cZ cII cZZ) [.ref t0] (WQ cI cJ cZ cII cZZ [] t0 t1 t2 t3 t4 t5 t6 t7 t8 t9 tA tB tC tD tR tS e0 eP eb er ek es ed ec ew lk lf lo lv le eW et eh ei eu em) (S := (Nat → Bool)) (fun u => none) (fun u => (∀ p, p < 600 → (u p = true ↔ UA B ih 12 p))) (fun u => (WQ cI cJ cZ cII cZZ [] t0 t1 t2 t3 t4 t5 t6 t7 t8 t9 tA tB tC tD tR tS e0 eP eb er ek es ed ec ew lk lf lo lv le eW et eh ei u em)) := by
  refine zC_of (by decide) (Nat.le_of_ble_eq_true rfl) ?_
  intro prg env s mth below meth cde A ls hE hrt9 hlocks hnm hZ hl
  have hx := hE.1
  have hb := hE.2.1
  have hl : lv_has ls 5 [(0, .ref t0)] := hl
  refine z_iconst hx hb (nI 0) dX7_free_0 (by decide) ?_
  refine lv_istore_n (lv' := [(1, .int (nI 0)), (0, .ref t0)]) hx hb dX7_free_1 rfl hl (by decide) rfl (fun ls hl => ?_)
  refine z_loop (σ := Nat × (Nat → Bool)) (fun (i, w) H locs ls => (i ≤ 600) ∧ (∀ p, p < i → (w p = true ↔ p = 0)) ∧ zS D A s.heap H locs (WQ cI cJ cZ cII cZZ [] t0 t1 t2 t3 t4 t5 t6 t7 t8 t9 tA tB tC tD tR tS e0 eP eb er ek es ed ec ew lk lf lo lv le eW et eh ei w em) ∧ lv_has ls 5 [(0, .ref t0), (1, .int (nI i))]) (fun (i, w) => 600 - i) [] (0, eu) ⟨by omega, fun p h => absurd h (Nat.not_lt_zero p), hZ, lv_sub hl [1, 0] (by first | rfl | (simp only [lv_pick]; rfl))⟩ ?_
  intro x H locs ls hI ih2
  obtain ⟨i, w⟩ := x
  obtain ⟨hi, hw, hZ, hl⟩ := hI
  refine lv_iload_n hx hb dX7_free_2 rfl (lv_at hl 1 rfl) ?_
  refine z_sipush hx hb (nI 600) dX7_free_3 (by decide) ?_
  refine z_icmp_ge hx hb 30 dX7_free_6 (by decide) (C := 600 ≤ i) (nIle (by omega) (by omega)) (fun h6 => ?_) (fun h6 => ?_)
  · skip
    refine z_iconst hx hb (zI (-1)) dX7_free_30 (by decide) ?_
    refine lv_istore_n (lv' := [(1, .int (zI (-1))), (0, .ref t0)]) hx hb dX7_free_31 rfl hl (by decide) rfl (fun ls hl => ?_)
    refine z_loop (σ := Int × (Nat → Bool)) (fun (k, w1) H locs ls => (-1 ≤ k ∧ k ≤ 5) ∧ (∀ p, p < 600 → (w1 p = true ↔ UM B ih (k + 1).toNat p)) ∧ zS D A s.heap H locs (WQ cI cJ cZ cII cZZ [] t0 t1 t2 t3 t4 t5 t6 t7 t8 t9 tA tB tC tD tR tS e0 eP eb er ek es ed ec ew lk lf lo lv le eW et eh ei w1 em) ∧ lv_has ls 5 [(0, .ref t0), (1, .int (zI k))]) (fun (k, w1) => (5 - k).toNat) [] ((-1), w) ⟨by omega, fun p hp => by rw [hw p (by omega)]; unfold UM; simp, hZ, lv_sub hl [1, 0] (by first | rfl | (simp only [lv_pick]; rfl))⟩ ?_
    intro x H locs ls hI ih32
    obtain ⟨k, w1⟩ := x
    obtain ⟨hk, hw1, hZ, hl⟩ := hI
    refine lv_iload_n hx hb dX7_free_32 rfl (lv_at hl 1 rfl) ?_
    refine z_iconst hx hb (nI 5) dX7_free_33 (by decide) ?_
    refine z_icmp_ge hx hb 136 dX7_free_34 (by decide) (C := (5 : Int) ≤ k) (by (try simp only [zI_n]); exact zI_le ⟨by omega, by omega⟩ ⟨by omega, by omega⟩) (fun h34 => ?_) (fun h34 => ?_)
    · skip
      exact z_vret hE hrt9 hlocks hZ w1 rfl (show (∀ p, p < 600 → (w1 p = true ↔ UA B ih 12 p)) from fun p hp => by rw [hw1 p hp, show (k + 1).toNat = 6 by omega]; exact UM_UA) rfl dX7_free_136 (Nat.le_of_ble_eq_true rfl) (Nat.le_of_ble_eq_true rfl)
    · skip
      refine z_iconst hx hb (nI 0) dX7_free_37 (by decide) ?_
      refine lv_istore_n (lv' := [(2, .int (nI 0)), (0, .ref t0), (1, .int (zI k))]) hx hb dX7_free_38 rfl hl (by decide) rfl (fun ls hl => ?_)
      refine z_loop (σ := Nat × (Nat → Bool)) (fun (h, w2) H locs ls => (h ≤ 2) ∧ (∀ p, p < 600 → (w2 p = true ↔ (w1 p = true ∨ ∃ r, r < h ∧ p = ih ((k + 1).toNat * 2 + r)))) ∧ zS D A s.heap H locs (WQ cI cJ cZ cII cZZ [] t0 t1 t2 t3 t4 t5 t6 t7 t8 t9 tA tB tC tD tR tS e0 eP eb er ek es ed ec ew lk lf lo lv le eW et eh ei w2 em) ∧ lv_has ls 5 [(0, .ref t0), (1, .int (zI k)), (2, .int (nI h))]) (fun (h, w2) => 2 - h) [] (0, w1) ⟨by omega, fun p hp => by simp, hZ, lv_sub hl [1, 2, 0] (by first | rfl | (simp only [lv_pick]; rfl))⟩ ?_
      intro x H locs ls hI ih39
      obtain ⟨h, w2⟩ := x
      obtain ⟨hh, hw2, hZ, hl⟩ := hI
      refine lv_iload_n hx hb dX7_free_39 rfl (lv_at hl 2 rfl) ?_
      refine z_iconst hx hb (nI 2) dX7_free_40 (by decide) ?_
      refine z_icmp_ge hx hb 62 dX7_free_41 (by decide) (C := 2 ≤ h) (nIle (by omega) (by omega)) (fun h41 => ?_) (fun h41 => ?_)
      · skip
        have hwA : ∀ p, p < 600 → (w2 p = true ↔ (w1 p = true ∨ ∃ r, r < 2 ∧ p = ih ((k + 1).toNat * 2 + r))) := fun p hp => by rw [hw2 p hp, show h = 2 by omega]
        refine z_iconst hx hb (nI 0) dX7_free_62 (by decide) ?_
        refine lv_istore_n (lv' := [(2, .int (nI 0)), (0, .ref t0), (1, .int (zI k))]) hx hb dX7_free_63 rfl hl (by decide) rfl (fun ls hl => ?_)
        refine z_loop (σ := Nat × (Nat → Bool)) (fun (f, w3) H locs ls => (f ≤ 32) ∧ (∀ p, p < 600 → (w3 p = true ↔ (w2 p = true ∨ ∃ r, r < f ∧ inoO B ih (k + 1).toNat r ≠ 0 ∧ cInd B (inoO B ih (k + 1).toNat r) p))) ∧ zS D A s.heap H locs (WQ cI cJ cZ cII cZZ [] t0 t1 t2 t3 t4 t5 t6 t7 t8 t9 tA tB tC tD tR tS e0 eP eb er ek es ed ec ew lk lf lo lv le eW et eh ei w3 em) ∧ lv_has ls 5 [(0, .ref t0), (1, .int (zI k)), (2, .int (nI f))]) (fun (f, w3) => 32 - f) [] (0, w2) ⟨by omega, fun p hp => by simp, hZ, lv_sub hl [1, 2, 0] (by first | rfl | (simp only [lv_pick]; rfl))⟩ ?_
        intro x H locs ls hI ih64
        obtain ⟨f, w3⟩ := x
        obtain ⟨hf, hw3, hZ, hl⟩ := hI
        refine lv_iload_n hx hb dX7_free_64 rfl (lv_at hl 2 rfl) ?_
        refine z_bipush hx hb (nI 32) dX7_free_65 (by decide) ?_
        refine z_icmp_ge hx hb 130 dX7_free_67 (by decide) (C := 32 ≤ f) (nIle (by omega) (by omega)) (fun h67 => ?_) (fun h67 => ?_)
        · skip
          have hf32 : f = 32 := by omega
          rw [hf32] at hw3
          refine lv_iinc (v := zI (k + 1)) (lv' := [(1, .int (zI (k + 1))), (0, .ref t0), (2, .int (nI f))]) hx hb dX7_free_130 hl (k := 1) rfl (by (try simp only [zI_n]); exact zI_add _ _) (by decide) rfl (fun ls hl => ?_)
          refine lv_goto (tgt := 32) hx hb dX7_free_133 (by decide) ?_
          exact ih32 (k + 1, w3) _ _ _ ⟨by omega, fun p hp => by rw [show (k + 1 + 1).toNat = (k + 1).toNat + 1 by omega, ← UM_s, hw3 p hp, hwA p hp, hw1 p hp], hZ, lv_sub hl [1, 0] (by first | rfl | (simp only [lv_pick]; rfl))⟩ (by (try dsimp only); omega)
        · skip
          refine lv_aload_n hx hb dX7_free_70 rfl (lv_at hl 0 rfl) ?_
          refine lv_iload_n hx hb dX7_free_71 rfl (lv_at hl 1 rfl) ?_
          refine lv_iload_n hx hb dX7_free_72 rfl (lv_at hl 2 rfl) ?_
          refine z_kVp (As := [.int (zI k), .int (nI f)]) (rest := []) hE hZ (c_X7_inodeOf l D cI cJ cZ cII cZZ t0 t1 t2 t3 t4 t5 t6 t7 t8 t9 tA tB tC tD tR tS e0 eP eb er ek es ed ec ew lk lf lo lv le eW et eh ei w3 em B ro ih iN k f (zI k) (by first | assumption | omega) (hA.2.2) (hA.2.1) (by omega) (by omega) (rfl)) lL_X7_inodeOf lC_X7_89 rfl [] (List.Perm.refl _) (fun u => (WQ cI cJ cZ cII cZZ [] t0 t1 t2 t3 t4 t5 t6 t7 t8 t9 tA tB tC tD tR tS e0 eP eb er ek es ed ec ew lk lf lo lv le eW et eh ei w3 em)) (fun _ => List.Perm.refl _) 0 rfl ⟨by decide, by decide⟩ 0 0 rfl rfl ⟨by decide, by decide⟩ rfl hl.1 rfl (Nat.le_of_ble_eq_true rfl) dX7_free_73 (fun u H locs hq9 hZ => ?_)
          have hZ : zS D A s.heap H locs (WQ cI cJ cZ cII cZZ [] t0 t1 t2 t3 t4 t5 t6 t7 t8 t9 tA tB tC tD tR tS e0 eP eb er ek es ed ec ew lk lf lo lv le eW et eh ei w3 em) := hZ
          refine W.eq (g2 := F0 mth 76 ls [.int (nI (inoO B ih (k + 1).toNat f))]) rfl ?_
          have hin := inoO_ok hA.1 hA.2.1 (show (k + 1).toNat < 6 by omega) (show f < 32 by omega)
          refine lv_istore_n (lv' := [(3, .int (nI (inoO B ih (k + 1).toNat f))), (0, .ref t0), (1, .int (zI k)), (2, .int (nI f))]) hx hb dX7_free_76 rfl hl (by decide) rfl (fun ls hl => ?_)
          refine lv_iload_n hx hb dX7_free_77 rfl (lv_at hl 0 rfl) ?_
          refine z_if_ne hx hb 84 dX7_free_78 (by decide) (C := inoO B ih (k + 1).toNat f = 0) (nI_eq0 (by rcases hin with z | z <;> omega)) (fun h78 => ?_) (fun h78 => ?_)
          · skip
            refine lv_aload_n hx hb dX7_free_84 rfl (lv_at hl 1 rfl) ?_
            refine z_get hE fF_X7_18 hZ 0 rfl (.ref tD) rfl dX7_free_85 ?_
            refine lv_iload_n hx hb dX7_free_88 rfl (lv_at hl 0 rfl) ?_
            refine z_iconst hx hb (nI 1) dX7_free_89 (by decide) ?_
            refine z_top (show nI 1 = zB true from rfl) ?_
            refine z_zast w3 true hE hZ 13 2 rfl rfl (by decide) (by rcases hin with z | z <;> omega) dX7_free_90 (WQ cI cJ cZ cII cZZ [] t0 t1 t2 t3 t4 t5 t6 t7 t8 t9 tA tB tC tD tR tS e0 eP eb er ek es ed ec ew lk lf lo lv le eW et eh ei (va_up w3 (inoO B ih (k + 1).toNat f) true) em) rfl (fun H locs hZ => ?_)
            refine z_iconst hx hb (nI 0) dX7_free_91 (by decide) ?_
            refine lv_istore (lv' := [(4, .int (nI 0)), (3, .int (nI (inoO B ih (k + 1).toNat f))), (0, .ref t0), (1, .int (zI k)), (2, .int (nI f))]) hx hb dX7_free_92 hl (by decide) rfl (fun ls hl => ?_)
            refine z_loop (σ := Nat × (Nat → Bool)) (fun (q, w4) H locs ls => (q ≤ 14) ∧ (∀ p, p < 600 → (w4 p = true ↔ ((w3 p = true ∨ p = inoO B ih (k + 1).toNat f) ∨ ∃ r, r < q ∧ p = num B (inoO B ih (k + 1).toNat f) (1 + r)))) ∧ zS D A s.heap H locs (WQ cI cJ cZ cII cZZ [] t0 t1 t2 t3 t4 t5 t6 t7 t8 t9 tA tB tC tD tR tS e0 eP eb er ek es ed ec ew lk lf lo lv le eW et eh ei w4 em) ∧ lv_has ls 5 [(0, .ref t0), (1, .int (zI k)), (2, .int (nI f)), (3, .int (nI (inoO B ih (k + 1).toNat f))), (4, .int (nI q))]) (fun (q, w4) => 14 - q) [] (0, va_up w3 (inoO B ih (k + 1).toNat f) true) ⟨by omega, fun p hp => by rw [vt]; simp, hZ, lv_sub hl [2, 3, 4, 1, 0] (by first | rfl | (simp only [lv_pick]; rfl))⟩ ?_
            intro x H locs ls hI ih94
            obtain ⟨q, w4⟩ := x
            obtain ⟨hq, hw4, hZ, hl⟩ := hI
            refine lv_iload hx hb dX7_free_94 (lv_at hl 4 rfl) ?_
            refine z_bipush hx hb (nI 14) dX7_free_96 (by decide) ?_
            refine z_icmp_ge hx hb 124 dX7_free_98 (by decide) (C := 14 ≤ q) (nIle (by omega) (by omega)) (fun h98 => ?_) (fun h98 => ?_)
            · skip
              have hwq : ∀ p, p < 600 → (w4 p = true ↔ (w3 p = true ∨ cInd B (inoO B ih (k + 1).toNat f) p)) := fun p hp => by
                      rw [hw4 p hp, show q = 14 by omega]
                      unfold cInd
                      rw [or_assoc]
              refine lv_iinc (v := nI (f + 1)) (lv' := [(2, .int (nI (f + 1))), (0, .ref t0), (1, .int (zI k)), (3, .int (nI (inoO B ih (k + 1).toNat f))), (4, .int (nI q))]) hx hb dX7_free_124 hl (k := 2) rfl (nI_add _ _) (by decide) rfl (fun ls hl => ?_)
              refine lv_goto (tgt := 64) hx hb dX7_free_127 (by decide) ?_
              exact ih64 (f + 1, w4) _ _ _ ⟨by omega, fun p hp => by first | (have z : inoO B ih (k + 1).toNat f = 0 := h78; rw [hw3 p hp]; exact ex_n (P := fun r => inoO B ih (k + 1).toNat r ≠ 0 ∧ cInd B (inoO B ih (k + 1).toNat r) p) (fun y => y.1 z)) | (have z : ¬ inoO B ih (k + 1).toNat f = 0 := h78; rw [hwq p hp, hw3 p hp, ← ex_s (P := fun r => inoO B ih (k + 1).toNat r ≠ 0 ∧ cInd B (inoO B ih (k + 1).toNat r) p)]; constructor; (rintro (y | y); exact Or.inl y; exact Or.inr ⟨z, y⟩); (rintro (y | y); exact Or.inl y; exact Or.inr y.2)), hZ, lv_sub hl [1, 2, 0] (by first | rfl | (simp only [lv_pick]; rfl))⟩ (by (try dsimp only); omega)
            · skip
              refine lv_aload_n hx hb dX7_free_101 rfl (lv_at hl 0 rfl) ?_
              refine z_get hE fF_X7_18 hZ 0 rfl (.ref tD) rfl dX7_free_102 ?_
              refine lv_aload_n hx hb dX7_free_105 rfl (lv_at hl 0 rfl) ?_
              refine lv_iload_n hx hb dX7_free_106 rfl (lv_at hl 3 rfl) ?_
              refine z_iconst hx hb (nI 2) dX7_free_107 (by decide) ?_
              refine z_iconst hx hb (nI 2) dX7_free_108 (by decide) ?_
              refine lv_iload hx hb dX7_free_109 (lv_at hl 4 rfl) ?_
              refine z_imul hx hb dX7_free_111 (z := nI (2 * q)) (pk_mul _ _) ?_
              refine z_iadd hx hb dX7_free_112 (z := nI (2 + (2 * q))) (nI_add _ _) ?_
              refine z_kVp (As := [.int (nI (inoO B ih (k + 1).toNat f)), .int (nI (2 + (2 * q)))]) (rest := [.ref tD]) hE hZ (c_X7_two l D cI cJ cZ cII cZZ t0 t1 t2 t3 t4 t5 t6 t7 t8 t9 tA tB tC tD tR tS e0 eP eb er ek es ed ec ew lk lf lo lv le eW et eh ei w4 em B (inoO B ih (k + 1).toNat f) (2 + (2 * q)) (1 + q) (by first | assumption | omega) (by rcases hin with z | z <;> omega) (by omega) (by omega)) lL_X7_two lC_X7_82 rfl [] (List.Perm.refl _) (fun u => (WQ cI cJ cZ cII cZZ [] t0 t1 t2 t3 t4 t5 t6 t7 t8 t9 tA tB tC tD tR tS e0 eP eb er ek es ed ec ew lk lf lo lv le eW et eh ei w4 em)) (fun _ => List.Perm.refl _) 0 rfl ⟨by decide, by decide⟩ 0 0 rfl rfl ⟨by decide, by decide⟩ rfl hl.1 rfl (Nat.le_of_ble_eq_true rfl) dX7_free_113 (fun u H locs hq9 hZ => ?_)
              have hZ : zS D A s.heap H locs (WQ cI cJ cZ cII cZZ [] t0 t1 t2 t3 t4 t5 t6 t7 t8 t9 tA tB tC tD tR tS e0 eP eb er ek es ed ec ew lk lf lo lv le eW et eh ei w4 em) := hZ
              refine W.eq (g2 := F0 mth 116 ls [.int (nI (num B (inoO B ih (k + 1).toNat f) (1 + q))), .ref tD]) rfl ?_
              have hpc := pc_lt hA.1 hin h78 (show q < 14 by omega)
              refine z_iconst hx hb (nI 1) dX7_free_116 (by decide) ?_
              refine z_top (show nI 1 = zB true from rfl) ?_
              refine z_zast w4 true hE hZ 13 2 rfl rfl (by decide) (hpc) dX7_free_117 (WQ cI cJ cZ cII cZZ [] t0 t1 t2 t3 t4 t5 t6 t7 t8 t9 tA tB tC tD tR tS e0 eP eb er ek es ed ec ew lk lf lo lv le eW et eh ei (va_up w4 (num B (inoO B ih (k + 1).toNat f) (1 + q)) true) em) rfl (fun H locs hZ => ?_)
              refine lv_iinc (v := nI (q + 1)) (lv' := [(4, .int (nI (q + 1))), (0, .ref t0), (1, .int (zI k)), (2, .int (nI f)), (3, .int (nI (inoO B ih (k + 1).toNat f)))]) hx hb dX7_free_118 hl (k := 4) rfl (nI_add _ _) (by decide) rfl (fun ls hl => ?_)
              refine lv_goto (tgt := 94) hx hb dX7_free_121 (by decide) ?_
              exact ih94 (q + 1, va_up w4 (num B (inoO B ih (k + 1).toNat f) (1 + q)) true) _ _ _ ⟨by omega, fun p hp => by rw [vt, hw4 p hp]; exact ex_s (P := fun r => p = num B (inoO B ih (k + 1).toNat f) (1 + r)), hZ, lv_sub hl [1, 2, 3, 4, 0] (by first | rfl | (simp only [lv_pick]; rfl))⟩ (by (try dsimp only); omega)
          · skip
            refine lv_goto (tgt := 124) hx hb dX7_free_81 (by decide) ?_
            refine lv_iinc (v := nI (f + 1)) (lv' := [(2, .int (nI (f + 1))), (3, .int (nI (inoO B ih (k + 1).toNat f))), (0, .ref t0), (1, .int (zI k))]) hx hb dX7_free_124 hl (k := 3) rfl (nI_add _ _) (by decide) rfl (fun ls hl => ?_)
            refine lv_goto (tgt := 64) hx hb dX7_free_127 (by decide) ?_
            exact ih64 (f + 1, w3) _ _ _ ⟨by omega, fun p hp => by first | (have z : inoO B ih (k + 1).toNat f = 0 := h78; rw [hw3 p hp]; exact ex_n (P := fun r => inoO B ih (k + 1).toNat r ≠ 0 ∧ cInd B (inoO B ih (k + 1).toNat r) p) (fun y => y.1 z)) | (have z : ¬ inoO B ih (k + 1).toNat f = 0 := h78; rw [hwq p hp, hw3 p hp, ← ex_s (P := fun r => inoO B ih (k + 1).toNat r ≠ 0 ∧ cInd B (inoO B ih (k + 1).toNat r) p)]; constructor; (rintro (y | y); exact Or.inl y; exact Or.inr ⟨z, y⟩); (rintro (y | y); exact Or.inl y; exact Or.inr y.2)), hZ, lv_sub hl [2, 3, 0] (by first | rfl | (simp only [lv_pick]; rfl))⟩ (by (try dsimp only); omega)
      · skip
        refine lv_aload_n hx hb dX7_free_44 rfl (lv_at hl 0 rfl) ?_
        refine z_get hE fF_X7_18 hZ 0 rfl (.ref tD) rfl dX7_free_45 ?_
        refine lv_aload_n hx hb dX7_free_48 rfl (lv_at hl 0 rfl) ?_
        refine lv_iload_n hx hb dX7_free_49 rfl (lv_at hl 1 rfl) ?_
        refine lv_iload_n hx hb dX7_free_50 rfl (lv_at hl 2 rfl) ?_
        refine z_kVp (As := [.int (zI k), .int (nI h)]) (rest := [.ref tD]) hE hZ (c_X7_half l D cI cJ cZ cII cZZ t0 t1 t2 t3 t4 t5 t6 t7 t8 t9 tA tB tC tD tR tS e0 eP eb er ek es ed ec ew lk lf lo lv le eW et eh ei w2 em B ih iN k h (zI k) (by first | assumption | omega) (hA.2.2) (by omega) (by omega) (rfl)) lL_X7_half lC_X7_86 rfl [] (List.Perm.refl _) (fun u => (WQ cI cJ cZ cII cZZ [] t0 t1 t2 t3 t4 t5 t6 t7 t8 t9 tA tB tC tD tR tS e0 eP eb er ek es ed ec ew lk lf lo lv le eW et eh ei w2 em)) (fun _ => List.Perm.refl _) 0 rfl ⟨by decide, by decide⟩ 0 0 rfl rfl ⟨by decide, by decide⟩ rfl hl.1 rfl (Nat.le_of_ble_eq_true rfl) dX7_free_51 (fun u H locs hq9 hZ => ?_)
        have hZ : zS D A s.heap H locs (WQ cI cJ cZ cII cZZ [] t0 t1 t2 t3 t4 t5 t6 t7 t8 t9 tA tB tC tD tR tS e0 eP eb er ek es ed ec ew lk lf lo lv le eW et eh ei w2 em) := hZ
        refine W.eq (g2 := F0 mth 54 ls [.int (nI (ih ((k + 1).toNat * 2 + h))), .ref tD]) rfl ?_
        have hti := hA.2.1 ((k + 1).toNat * 2 + h) (by omega)
        refine z_iconst hx hb (nI 1) dX7_free_54 (by decide) ?_
        refine z_top (show nI 1 = zB true from rfl) ?_
        refine z_zast w2 true hE hZ 13 2 rfl rfl (by decide) (by rcases hti with z | z <;> omega) dX7_free_55 (WQ cI cJ cZ cII cZZ [] t0 t1 t2 t3 t4 t5 t6 t7 t8 t9 tA tB tC tD tR tS e0 eP eb er ek es ed ec ew lk lf lo lv le eW et eh ei (va_up w2 (ih ((k + 1).toNat * 2 + h)) true) em) rfl (fun H locs hZ => ?_)
        refine lv_iinc (v := nI (h + 1)) (lv' := [(2, .int (nI (h + 1))), (0, .ref t0), (1, .int (zI k))]) hx hb dX7_free_56 hl (k := 2) rfl (nI_add _ _) (by decide) rfl (fun ls hl => ?_)
        refine lv_goto (tgt := 39) hx hb dX7_free_59 (by decide) ?_
        exact ih39 (h + 1, va_up w2 (ih ((k + 1).toNat * 2 + h)) true) _ _ _ ⟨by omega, fun p hp => by rw [vt, hw2 p hp]; exact ex_s (P := fun r => p = ih ((k + 1).toNat * 2 + r)), hZ, lv_sub hl [1, 2, 0] (by first | rfl | (simp only [lv_pick]; rfl))⟩ (by (try dsimp only); omega)
  · skip
    refine lv_aload_n hx hb dX7_free_9 rfl (lv_at hl 0 rfl) ?_
    refine z_get hE fF_X7_18 hZ 0 rfl (.ref tD) rfl dX7_free_10 ?_
    refine lv_iload_n hx hb dX7_free_13 rfl (lv_at hl 1 rfl) ?_
    refine lv_iload_n hx hb dX7_free_14 rfl (lv_at hl 1 rfl) ?_
    refine z_if_ne hx hb 22 dX7_free_15 (by decide) (C := i = 0) (nI_eq0 (by omega)) (fun h15 => ?_) (fun h15 => ?_)
    · skip
      refine z_iconst hx hb (nI 0) dX7_free_22 (by decide) ?_
      refine z_top (show nI 0 = zB false from rfl) ?_
      refine z_zast w false hE hZ 13 2 rfl rfl (by decide) (by omega) dX7_free_23 (WQ cI cJ cZ cII cZZ [] t0 t1 t2 t3 t4 t5 t6 t7 t8 t9 tA tB tC tD tR tS e0 eP eb er ek es ed ec ew lk lf lo lv le eW et eh ei (va_up w i false) em) rfl (fun H locs hZ => ?_)
      refine lv_iinc (v := nI (i + 1)) (lv' := [(1, .int (nI (i + 1))), (0, .ref t0)]) hx hb dX7_free_24 hl (k := 1) rfl (nI_add _ _) (by decide) rfl (fun ls hl => ?_)
      refine lv_goto (tgt := 2) hx hb dX7_free_27 (by decide) ?_
      exact ih2 (i + 1, va_up w i false) _ _ _ ⟨by omega, fun p h => by unfold va_up; by_cases y : p = i; rw [if_pos y]; simp; omega; rw [if_neg y]; exact hw p (by omega), hZ, lv_sub hl [1, 0] (by first | rfl | (simp only [lv_pick]; rfl))⟩ (by (try dsimp only); omega)
    · skip
      refine z_iconst hx hb (nI 1) dX7_free_18 (by decide) ?_
      refine lv_goto (tgt := 23) hx hb dX7_free_19 (by decide) ?_
      refine z_top (show nI 1 = zB true from rfl) ?_
      refine z_zast w true hE hZ 13 2 rfl rfl (by decide) (by omega) dX7_free_23 (WQ cI cJ cZ cII cZZ [] t0 t1 t2 t3 t4 t5 t6 t7 t8 t9 tA tB tC tD tR tS e0 eP eb er ek es ed ec ew lk lf lo lv le eW et eh ei (va_up w i true) em) rfl (fun H locs hZ => ?_)
      refine lv_iinc (v := nI (i + 1)) (lv' := [(1, .int (nI (i + 1))), (0, .ref t0)]) hx hb dX7_free_24 hl (k := 1) rfl (nI_add _ _) (by decide) rfl (fun ls hl => ?_)
      refine lv_goto (tgt := 2) hx hb dX7_free_27 (by decide) ?_
      exact ih2 (i + 1, va_up w i true) _ _ _ ⟨by omega, fun p h => by unfold va_up; by_cases y : p = i; rw [if_pos y]; simp; omega; rw [if_neg y]; exact hw p (by omega), hZ, lv_sub hl [1, 0] (by first | rfl | (simp only [lv_pick]; rfl))⟩ (by (try dsimp only); omega)
