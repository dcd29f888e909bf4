set_option maxHeartbeats 1000000 in
set_option maxRecDepth 100000 in
theorem c_X7_fresh (l : Launch) (D : va_G) (cI cJ cZ cII cZZ : ClassId) (t0 : Nat) (t1 : Nat) (t2 : Nat) (t3 : Nat) (t4 : Nat) (t5 : Nat) (t6 : Nat) (t7 : Nat) (t8 : Nat) (t9 : Nat) (tA : Nat) (tB : Nat) (tC : Nat) (tD : Nat) (tR : Nat → Nat) (tS : Nat → Nat) (e0 : Nat) (eP : Nat → Nat) (eb : Int) (er : Int) (ek : Bool) (es : Nat → Int) (ed : Nat → Nat → Nat) (ec : Nat → Bool) (ew : Nat → Nat → Bool) (lk : Nat → Nat) (lf : Nat → Nat) (lo : Nat → Nat) (lv : Nat → Int64) (le : Nat) (eW : Int) (et : Nat → Nat) (eh : Nat → Nat) (ei : Nat → Int) (eu : Nat → Bool) (em : Nat) (uv : Nat → Bool) (fr : Nat → Nat) (m : Nat) (k : Nat) (hU : FU eu uv fr k) (hF : FR uv fr m) (hc : ∀ p, p < 600 → uv p = false → ∃ i, i < m ∧ p = fr i) :
    zC l yX7_fresh cX7_fresh 2 (some .int) { frames := 0, cells := 0, slots := 0, locals := 0 } D (zT cI cJ cZ cII cZZ) [.ref t0] (WQ cI cJ cZ cII cZZ [] t0 t1 t2 t3 t4 t5 t6 t7 t8 t9 tA tB tC tD tR tS e0 eP eb er ek es ed ec ew lk lf lo lv le eW et eh ei eu em) (S := (Nat → Bool)) (fun u => some (.int (zI (if k < m then (fr k : Int) else -1)))) (fun u => (k < m → FU u uv fr (k + 1))) (fun u => (WQ cI cJ cZ cII cZZ [] t0 t1 t2 t3 t4 t5 t6 t7 t8 t9 tA tB tC tD tR tS e0 eP eb er ek es ed ec ew lk lf lo lv le eW et eh ei u em)) := by
  refine zC_of (by decide) (Nat.le_of_ble_eq_true rfl) ?_
  intro prg env s mth below meth cde A ls hE hrt9 hlocks hnm hZ hl
  have hx := hE.1
  have hb := hE.2.1
  have hl : lv_has ls 2 [(0, .ref t0)] := hl
  refine z_iconst hx hb (nI 1) dX7_fresh_0 (by decide) ?_
  refine lv_istore_n (lv' := [(1, .int (nI 1)), (0, .ref t0)]) hx hb dX7_fresh_1 rfl hl (by decide) rfl (fun ls hl => ?_)
  refine z_loop (σ := Nat) (fun p H locs ls => (1 ≤ p ∧ p ≤ 600) ∧ (∀ j, 0 < j → j < p → eu j = true) ∧ zS D A s.heap H locs (WQ cI cJ cZ cII cZZ [] t0 t1 t2 t3 t4 t5 t6 t7 t8 t9 tA tB tC tD tR tS e0 eP eb er ek es ed ec ew lk lf lo lv le eW et eh ei eu em) ∧ lv_has ls 2 [(0, .ref t0), (1, .int (nI p))]) (fun p => 600 - p) [] 1 ⟨by omega, fun j h1 h2 => by omega, hZ, lv_sub hl [1, 0] (by first | rfl | (simp only [lv_pick]; rfl))⟩ ?_
  intro x H locs ls hI ih2
  obtain ⟨p, hx9⟩ : ∃ z, z = x := ⟨x, rfl⟩
  subst hx9
  obtain ⟨hp, hw, hZ, hl⟩ := hI
  refine lv_iload_n hx hb dX7_fresh_2 rfl (lv_at hl 1 rfl) ?_
  refine z_sipush hx hb (nI 600) dX7_fresh_3 (by decide) ?_
  refine z_icmp_ge hx hb 33 dX7_fresh_6 (by decide) (C := 600 ≤ p) (nIle (by omega) (by omega)) (fun h6 => ?_) (fun h6 => ?_)
  · skip
    have hno := fresh_no hU hF (fun j h1 h2 => hw j h1 (by omega))
    refine z_iconst hx hb (zI (-1)) dX7_fresh_33 (by decide) ?_
    refine z_top (show zI (-1) = zI (if k < m then (fr k : Int) else -1) from by rw [if_neg hno]) ?_
    exact z_iret hE hrt9 hlocks hZ eu rfl (show (k < m → FU eu uv fr (k + 1)) from fun z => absurd z hno) rfl dX7_fresh_34 (Nat.le_of_ble_eq_true rfl) (Nat.le_of_ble_eq_true rfl)
  · skip
    refine lv_aload_n hx hb dX7_fresh_9 rfl (lv_at hl 0 rfl) ?_
    refine z_get hE fF_X7_18 hZ 0 rfl (.ref tD) rfl dX7_fresh_10 ?_
    refine lv_iload_n hx hb dX7_fresh_13 rfl (lv_at hl 1 rfl) ?_
    refine z_zald hE hZ 13 2 rfl rfl (by decide) (by omega) dX7_fresh_14 ?_
    refine z_if_ne hx hb 27 dX7_fresh_15 (by decide) (C := (eu p) = false) (zB_0 _) (fun h15 => ?_) (fun h15 => ?_)
    · skip
      refine lv_iinc (v := nI (p + 1)) (lv' := [(1, .int (nI (p + 1))), (0, .ref t0)]) hx hb dX7_fresh_27 hl (k := 1) rfl (nI_add _ _) (by decide) rfl (fun ls hl => ?_)
      refine lv_goto (tgt := 2) hx hb dX7_fresh_30 (by decide) ?_
      exact ih2 (p + 1) _ _ _ ⟨by omega, fun j h1 h2 => by
              rcases Nat.eq_or_lt_of_le (Nat.le_of_lt_succ h2) with z | z
              · rw [z]; simpa using h15
              · exact hw j h1 z, hZ, lv_sub hl [1, 0] (by first | rfl | (simp only [lv_pick]; rfl))⟩ (by (try dsimp only); omega)
    · skip
      obtain ⟨hkm, hpk⟩ := fresh_k hU hF hc (show p < 600 by omega) (show eu p = false by simpa using h15) hw
      refine lv_aload_n hx hb dX7_fresh_18 rfl (lv_at hl 0 rfl) ?_
      refine z_get hE fF_X7_18 hZ 0 rfl (.ref tD) rfl dX7_fresh_19 ?_
      refine lv_iload_n hx hb dX7_fresh_22 rfl (lv_at hl 1 rfl) ?_
      refine z_iconst hx hb (nI 1) dX7_fresh_23 (by decide) ?_
      refine z_top (show nI 1 = zB true from rfl) ?_
      refine z_zast eu true hE hZ 13 2 rfl rfl (by decide) (by omega) dX7_fresh_24 (WQ cI cJ cZ cII cZZ [] t0 t1 t2 t3 t4 t5 t6 t7 t8 t9 tA tB tC tD tR tS e0 eP eb er ek es ed ec ew lk lf lo lv le eW et eh ei (va_up eu p true) em) rfl (fun H locs hZ => ?_)
      refine lv_iload_n hx hb dX7_fresh_25 rfl (lv_at hl 1 rfl) ?_
      refine z_top (show nI p = zI (if k < m then (fr k : Int) else -1) from by rw [if_pos hkm, ← hpk, zI_n]) ?_
      exact z_iret hE hrt9 hlocks hZ (va_up eu p true) rfl (show (k < m → FU (va_up eu p true) uv fr (k + 1)) from fun _ => FU_s hU hpk) rfl dX7_fresh_26 (Nat.le_of_ble_eq_true rfl) (Nat.le_of_ble_eq_true rfl)
set_option maxHeartbeats 1000000 in
set_option maxRecDepth 100000 in
theorem c_X7_next (l : Launch) (D : va_G) (cI cJ cZ cII cZZ : ClassId) (t0 : Nat) (t1 : Nat) (t2 : Nat) (t3 : Nat) (t4 : Nat) (t5 : Nat) (t6 : Nat) (t7 : Nat) (t8 : Nat) (t9 : Nat) (tA : Nat) (tB : Nat) (tC : Nat) (tD : Nat) (tR : Nat → Nat) (tS : Nat → Nat) (e0 : Nat) (eP : Nat → Nat) (eb : Int) (er : Int) (ek : Bool) (es : Nat → Int) (ed : Nat → Nat → Nat) (ec : Nat → Bool) (ew : Nat → Nat → Bool) (lk : Nat → Nat) (lf : Nat → Nat) (lo : Nat → Nat) (lv : Nat → Int64) (le : Nat) (eW : Int) (et : Nat → Nat) (eh : Nat → Nat) (ei : Nat → Int) (eu : Nat → Bool) (em : Nat) (L : List Wt) (p : Int) (p_q : Int32) (hp : -1 ≤ p ∧ p < 600) (hL : PLN L et eh) (hm : em = L.length ∧ em < 600) (p_h : p_q = zI p) :
    zC l yX7_next cX7_next 3 (some .boolean) { frames := 0, cells := 0, slots := 0, locals := 0 } D (zT cI cJ cZ cII cZZ) [.ref t0, .int (p_q)] (WQ cI cJ cZ cII cZZ [] t0 t1 t2 t3 t4 t5 t6 t7 t8 t9 tA tB tC tD tR tS e0 eP eb er ek es ed ec ew lk lf lo lv le eW et eh ei eu em) (S := (Nat → Nat) × (Nat → Nat) × Nat) (fun u => some (.int (zB (decide (0 ≤ p))))) (fun u => (0 ≤ p → u.2.2 = em + 1 ∧ PLN L u.1 u.2.1 ∧ u.1 em = p.toNat ∧ RW u.2.1 em (fun _ => 0))) (fun u => (WQ cI cJ cZ cII cZZ [] t0 t1 t2 t3 t4 t5 t6 t7 t8 t9 tA tB tC tD tR tS e0 eP eb er ek es ed ec ew lk lf lo lv le eW u.1 u.2.1 ei eu u.2.2)) := by
  refine zC_of (by decide) (Nat.le_of_ble_eq_true rfl) ?_
  intro prg env s mth below meth cde A ls hE hrt9 hlocks hnm hZ hl
  have hx := hE.1
  have hb := hE.2.1
  subst p_h
  have hl : lv_has ls 3 [(0, .ref t0), (1, .int (zI p))] := hl
  refine lv_iload_n hx hb dX7_next_0 rfl (lv_at hl 1 rfl) ?_
  refine z_if_ge hx hb 6 dX7_next_1 (by decide) (C := 0 ≤ p) (zI_ge0 ⟨by omega, by omega⟩) (fun h1 => ?_) (fun h1 => ?_)
  · skip
    refine lv_aload_n hx hb dX7_next_6 rfl (lv_at hl 0 rfl) ?_
    refine z_get hE fF_X7_15 hZ 0 rfl (.ref tA) rfl dX7_next_7 ?_
    refine lv_aload_n hx hb dX7_next_10 rfl (lv_at hl 0 rfl) ?_
    refine z_get hE fF_X7_19 hZ 0 rfl (.int (nI em)) rfl dX7_next_11 ?_
    refine lv_iload_n hx hb dX7_next_14 rfl (lv_at hl 1 rfl) ?_
    refine z_top (show zI p = nI p.toNat from zI_inN (by omega) (by omega)) ?_
    refine z_iast nI et p.toNat hE hZ 10 0 rfl rfl (by decide) (by omega) dX7_next_15 (WQ cI cJ cZ cII cZZ [] t0 t1 t2 t3 t4 t5 t6 t7 t8 t9 tA tB tC tD tR tS e0 eP eb er ek es ed ec ew lk lf lo lv le eW (va_up et em p.toNat) eh ei eu em) rfl (fun H locs hZ => ?_)
    refine z_iconst hx hb (nI 0) dX7_next_16 (by decide) ?_
    refine lv_istore_n (lv' := [(2, .int (nI 0)), (0, .ref t0), (1, .int (zI p))]) hx hb dX7_next_17 rfl hl (by decide) rfl (fun ls hl => ?_)
    refine z_loop (σ := Nat × (Nat → Nat)) (fun (i, w) H locs ls => (i ≤ 32) ∧ (PLN L (va_up et em p.toNat) w) ∧ (∀ k, k < i → w (em * 32 + k) = 0) ∧ zS D A s.heap H locs (WQ cI cJ cZ cII cZZ [] t0 t1 t2 t3 t4 t5 t6 t7 t8 t9 tA tB tC tD tR tS e0 eP eb er ek es ed ec ew lk lf lo lv le eW (va_up et em p.toNat) w ei eu em) ∧ lv_has ls 3 [(0, .ref t0), (1, .int (zI p)), (2, .int (nI i))]) (fun (i, w) => 32 - i) [] (0, eh) ⟨by omega, PLN_to hL (by omega), fun k h => absurd h (Nat.not_lt_zero k), hZ, lv_sub hl [1, 2, 0] (by first | rfl | (simp only [lv_pick]; rfl))⟩ ?_
    intro x H locs ls hI ih18
    obtain ⟨i, w⟩ := x
    obtain ⟨hi, hw, hv, hZ, hl⟩ := hI
    refine lv_iload_n hx hb dX7_next_18 rfl (lv_at hl 2 rfl) ?_
    refine z_bipush hx hb (nI 32) dX7_next_19 (by decide) ?_
    refine z_icmp_ge hx hb 45 dX7_next_21 (by decide) (C := 32 ≤ i) (nIle (by omega) (by omega)) (fun h21 => ?_) (fun h21 => ?_)
    · skip
      refine lv_aload_n hx hb dX7_next_45 rfl (lv_at hl 0 rfl) ?_
      refine lv_dup hx hb dX7_next_46 rfl ?_
      refine z_get hE fF_X7_19 hZ 0 rfl (.int (nI em)) rfl dX7_next_47 ?_
      refine z_iconst hx hb (nI 1) dX7_next_50 (by decide) ?_
      refine z_iadd hx hb dX7_next_51 (z := nI (em + 1)) (nI_add _ _) ?_
      refine z_put hE fF_X7_19 fP_X7 rfl hZ 0 rfl rfl rfl (Nat.le_of_ble_eq_true rfl) dX7_next_52 (WQ cI cJ cZ cII cZZ [] t0 t1 t2 t3 t4 t5 t6 t7 t8 t9 tA tB tC tD tR tS e0 eP eb er ek es ed ec ew lk lf lo lv le eW (va_up et em p.toNat) w ei eu (em + 1)) rfl (fun H locs hZ => ?_)
      refine z_iconst hx hb (nI 1) dX7_next_55 (by decide) ?_
      refine z_top (show nI 1 = zB (decide (0 ≤ p)) from by rw [show decide (0 ≤ p) = true by rw [decide_eq_true_eq]; omega]; rfl) ?_
      exact z_zret (decide (0 ≤ p)) rfl hE hrt9 hlocks hZ (va_up et em p.toNat, w, em + 1) rfl (show (0 ≤ p → (em + 1) = em + 1 ∧ PLN L (va_up et em p.toNat) w ∧ (va_up et em p.toNat) em = p.toNat ∧ RW w em (fun _ => 0)) from fun _ => ⟨rfl, hw, vs, fun k hk => hv k (by omega)⟩) rfl dX7_next_56 (Nat.le_of_ble_eq_true rfl) (Nat.le_of_ble_eq_true rfl)
    · skip
      refine lv_aload_n hx hb dX7_next_24 rfl (lv_at hl 0 rfl) ?_
      refine z_get hE fF_X7_16 hZ 0 rfl (.ref tB) rfl dX7_next_25 ?_
      refine lv_aload_n hx hb dX7_next_28 rfl (lv_at hl 0 rfl) ?_
      refine z_get hE fF_X7_19 hZ 0 rfl (.int (nI em)) rfl dX7_next_29 ?_
      refine z_bipush hx hb (nI 32) dX7_next_32 (by decide) ?_
      refine z_imul hx hb dX7_next_34 (z := nI (em * 32)) (pk_mul _ _) ?_
      refine lv_iload_n hx hb dX7_next_35 rfl (lv_at hl 2 rfl) ?_
      refine z_iadd hx hb dX7_next_36 (z := nI ((em * 32) + i)) (nI_add _ _) ?_
      refine z_iconst hx hb (nI 0) dX7_next_37 (by decide) ?_
      refine z_iast nI w 0 hE hZ 11 0 rfl rfl (by decide) (by omega) dX7_next_38 (WQ cI cJ cZ cII cZZ [] t0 t1 t2 t3 t4 t5 t6 t7 t8 t9 tA tB tC tD tR tS e0 eP eb er ek es ed ec ew lk lf lo lv le eW (va_up et em p.toNat) (va_up w ((em * 32) + i) 0) ei eu em) rfl (fun H locs hZ => ?_)
      refine lv_iinc (v := nI (i + 1)) (lv' := [(2, .int (nI (i + 1))), (0, .ref t0), (1, .int (zI p))]) hx hb dX7_next_39 hl (k := 2) rfl (nI_add _ _) (by decide) rfl (fun ls hl => ?_)
      refine lv_goto (tgt := 18) hx hb dX7_next_42 (by decide) ?_
      exact ih18 (i + 1, va_up w ((em * 32) + i) 0) _ _ _ ⟨by omega, PLN_up hw (by omega), fun k h => by
              unfold va_up
              by_cases y : k = i
              · rw [if_pos (by omega)]
              · rw [if_neg (by omega)]; exact hv k (by omega), hZ, lv_sub hl [1, 2, 0] (by first | rfl | (simp only [lv_pick]; rfl))⟩ (by (try dsimp only); omega)
  · skip
    refine z_iconst hx hb (nI 0) dX7_next_4 (by decide) ?_
    refine z_top (show nI 0 = zB (decide (0 ≤ p)) from by rw [show decide (0 ≤ p) = false by rw [decide_eq_false_iff_not]; omega]; rfl) ?_
    exact z_zret (decide (0 ≤ p)) rfl hE hrt9 hlocks hZ (et, eh, em) rfl (show (0 ≤ p → em = em + 1 ∧ PLN L et eh ∧ et em = p.toNat ∧ RW eh em (fun _ => 0)) from fun z => absurd z (by omega)) rfl dX7_next_5 (Nat.le_of_ble_eq_true rfl) (Nat.le_of_ble_eq_true rfl)
set_option maxHeartbeats 1000000 in
set_option maxRecDepth 100000 in
theorem c_X7_put (l : Launch) (D : va_G) (cI cJ cZ cII cZZ : ClassId) (t0 : Nat) (t1 : Nat) (t2 : Nat) (t3 : Nat) (t4 : Nat) (t5 : Nat) (t6 : Nat) (t7 : Nat) (t8 : Nat) (t9 : Nat) (tA : Nat) (tB : Nat) (tC : Nat) (tD : Nat) (tR : Nat → Nat) (tS : Nat → Nat) (e0 : Nat) (eP : Nat → Nat) (eb : Int) (er : Int) (ek : Bool) (es : Nat → Int) (ed : Nat → Nat → Nat) (ec : Nat → Bool) (ew : Nat → Nat → Bool) (lk : Nat → Nat) (lf : Nat → Nat) (lo : Nat → Nat) (lv : Nat → Int64) (le : Nat) (eW : Int) (et : Nat → Nat) (eh : Nat → Nat) (ei : Nat → Int) (eu : Nat → Bool) (em : Nat) (L : List Wt) (n : Nat → Nat) (j : Nat) (t : Nat) (v : Nat) (ht : t = 2 * j) (hj : j < 16) (hv : v < 2 ^ 31) (hL : PLN L et eh) (hm : em = L.length + 1 ∧ em ≤ 600) (hr : RW eh L.length (numO n)) :
    zC l yX7_put cX7_put 3 none { frames := 0, cells := 0, slots := 0, locals := 0 } D (zT cI cJ cZ cII cZZ) [.ref t0, .int (nI t), .int (nI v)] (WQ cI cJ cZ cII cZZ [] t0 t1 t2 t3 t4 t5 t6 t7 t8 t9 tA tB tC tD tR tS e0 eP eb er ek es ed ec ew lk lf lo lv le eW et eh ei eu em) (S := (Nat → Nat)) (fun u => none) (fun u => (PLN L et u) ∧ (RW u L.length (numO (va_up n j (v % 65536))))) (fun u => (WQ cI cJ cZ cII cZZ [] t0 t1 t2 t3 t4 t5 t6 t7 t8 t9 tA tB tC tD tR tS e0 eP eb er ek es ed ec ew lk lf lo lv le eW et u ei eu em)) := by
  refine zC_of (by decide) (Nat.le_of_ble_eq_true rfl) ?_
  intro prg env s mth below meth cde A ls hE hrt9 hlocks hnm hZ hl
  have hx := hE.1
  have hb := hE.2.1
  have hl : lv_has ls 3 [(0, .ref t0), (1, .int (nI t)), (2, .int (nI v))] := hl
  refine lv_aload_n hx hb dX7_put_0 rfl (lv_at hl 0 rfl) ?_
  refine z_get hE fF_X7_16 hZ 0 rfl (.ref tB) rfl dX7_put_1 ?_
  refine lv_aload_n hx hb dX7_put_4 rfl (lv_at hl 0 rfl) ?_
  refine z_get hE fF_X7_19 hZ 0 rfl (.int (nI em)) rfl dX7_put_5 ?_
  refine z_iconst hx hb (nI 1) dX7_put_8 (by decide) ?_
  refine z_isub hx hb dX7_put_9 (z := nI (em - 1)) (pk_sub (by omega)) ?_
  refine z_bipush hx hb (nI 32) dX7_put_10 (by decide) ?_
  refine z_imul hx hb dX7_put_12 (z := nI ((em - 1) * 32)) (pk_mul _ _) ?_
  refine lv_iload_n hx hb dX7_put_13 rfl (lv_at hl 1 rfl) ?_
  refine z_iadd hx hb dX7_put_14 (z := nI (((em - 1) * 32) + t)) (nI_add _ _) ?_
  refine lv_iload_n hx hb dX7_put_15 rfl (lv_at hl 2 rfl) ?_
  refine z_bipush hx hb (nI 8) dX7_put_16 (by decide) ?_
  refine lv_ishr hx hb dX7_put_18 ?_
  refine z_sipush hx hb (nI 255) dX7_put_19 (by decide) ?_
  refine lv_iand hx hb dX7_put_22 ?_
  refine z_top (show ((nI v) >>> ((nI 8) &&& 31)) &&& (nI 255) = nI (v / 256 % 256) from by rw [pk_shrN hv _ 8 (by decide)]; exact pk_andN (by omega) 8 (by decide)) ?_
  refine z_iast nI eh (v / 256 % 256) hE hZ 11 0 rfl rfl (by decide) (by omega) dX7_put_23 (WQ cI cJ cZ cII cZZ [] t0 t1 t2 t3 t4 t5 t6 t7 t8 t9 tA tB tC tD tR tS e0 eP eb er ek es ed ec ew lk lf lo lv le eW et (va_up eh (((em - 1) * 32) + t) (v / 256 % 256)) ei eu em) rfl (fun H locs hZ => ?_)
  refine lv_aload_n hx hb dX7_put_24 rfl (lv_at hl 0 rfl) ?_
  refine z_get hE fF_X7_16 hZ 0 rfl (.ref tB) rfl dX7_put_25 ?_
  refine lv_aload_n hx hb dX7_put_28 rfl (lv_at hl 0 rfl) ?_
  refine z_get hE fF_X7_19 hZ 0 rfl (.int (nI em)) rfl dX7_put_29 ?_
  refine z_iconst hx hb (nI 1) dX7_put_32 (by decide) ?_
  refine z_isub hx hb dX7_put_33 (z := nI (em - 1)) (pk_sub (by omega)) ?_
  refine z_bipush hx hb (nI 32) dX7_put_34 (by decide) ?_
  refine z_imul hx hb dX7_put_36 (z := nI ((em - 1) * 32)) (pk_mul _ _) ?_
  refine lv_iload_n hx hb dX7_put_37 rfl (lv_at hl 1 rfl) ?_
  refine z_iadd hx hb dX7_put_38 (z := nI (((em - 1) * 32) + t)) (nI_add _ _) ?_
  refine z_iconst hx hb (nI 1) dX7_put_39 (by decide) ?_
  refine z_iadd hx hb dX7_put_40 (z := nI ((((em - 1) * 32) + t) + 1)) (nI_add _ _) ?_
  refine lv_iload_n hx hb dX7_put_41 rfl (lv_at hl 2 rfl) ?_
  refine z_sipush hx hb (nI 255) dX7_put_42 (by decide) ?_
  refine lv_iand hx hb dX7_put_45 ?_
  refine z_top (show (nI v) &&& (nI 255) = nI (v % 256) from pk_andN (by omega) 8 (by decide)) ?_
  refine z_iast nI (va_up eh (((em - 1) * 32) + t) (v / 256 % 256)) (v % 256) hE hZ 11 0 rfl rfl (by decide) (by omega) dX7_put_46 (WQ cI cJ cZ cII cZZ [] t0 t1 t2 t3 t4 t5 t6 t7 t8 t9 tA tB tC tD tR tS e0 eP eb er ek es ed ec ew lk lf lo lv le eW et (va_up (va_up eh (((em - 1) * 32) + t) (v / 256 % 256)) ((((em - 1) * 32) + t) + 1) (v % 256)) ei eu em) rfl (fun H locs hZ => ?_)
  have he : em - 1 = L.length := by omega
  exact z_vret hE hrt9 hlocks hZ (va_up (va_up eh (((em - 1) * 32) + t) (v / 256 % 256)) ((((em - 1) * 32) + t) + 1) (v % 256)) rfl (show (PLN L et (va_up (va_up eh (((em - 1) * 32) + t) (v / 256 % 256)) ((((em - 1) * 32) + t) + 1) (v % 256))) ∧ (RW (va_up (va_up eh (((em - 1) * 32) + t) (v / 256 % 256)) ((((em - 1) * 32) + t) + 1) (v % 256)) L.length (numO (va_up n j (v % 65536)))) from ⟨by rw [he, ht, Nat.add_assoc]; exact PLN_up (PLN_up hL (Nat.le_refl _)) (Nat.le_refl _), by rw [he, ht]; exact RW_put hr hj⟩) rfl dX7_put_47 (Nat.le_of_ble_eq_true rfl) (Nat.le_of_ble_eq_true rfl)
