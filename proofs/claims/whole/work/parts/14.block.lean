set_option maxHeartbeats 1000000 in
set_option maxRecDepth 100000 in
theorem c_X6_octetOf (l : Launch) (D : va_G) (cI cJ cZ cII cZZ : ClassId)  (w : Int64) (i : Nat) (hi : i < 8) :
    zC l yX6_octetOf cX6_octetOf 3 (some .int) { frames := 0, cells := 0, slots := 0, locals := 0 } D (zT cI cJ cZ cII cZZ) [.long w, .int (nI i)] [] (S := Unit) (fun u => some (.int (nI (oc w i)))) (fun u => True) (fun u => []) := by
  refine zC_of (by decide) (Nat.le_of_ble_eq_true rfl) ?_
  intro prg env s mth below meth cde A ls hE hrt9 hlocks hnm hZ hl
  have hx := hE.1
  have hb := hE.2.1
  have hl : lv_has ls 3 [(0, .long w), (2, .int (nI i))] := hl
  refine lv_lload_n hx hb dX6_octetOf_0 rfl (lv_at hl 0 rfl) ?_
  refine z_bipush hx hb (nI 56) dX6_octetOf_1 (by decide) ?_
  refine z_bipush hx hb (nI 8) dX6_octetOf_3 (by decide) ?_
  refine lv_iload_n hx hb dX6_octetOf_5 rfl (lv_at hl 1 rfl) ?_
  refine z_imul hx hb dX6_octetOf_6 (z := nI (8 * i)) (pk_mul _ _) ?_
  refine z_isub hx hb dX6_octetOf_7 (z := nI (56 - (8 * i))) (pk_sub (by omega)) ?_
  refine lv_lushr (v := (w.toUInt64 >>> ((nI (56 - (8 * i))).toInt64.toUInt64 &&& Int64.toUInt64 63)).toInt64) hx hb dX6_octetOf_8 rfl ?_
  refine lv_l2i (v := ((w.toUInt64 >>> ((nI (56 - (8 * i))).toInt64.toUInt64 &&& Int64.toUInt64 63)).toInt64).toInt32) hx hb dX6_octetOf_9 rfl ?_
  refine z_sipush hx hb (nI 255) dX6_octetOf_10 (by decide) ?_
  refine lv_iand hx hb dX6_octetOf_13 ?_
  refine z_top (show (((w.toUInt64 >>> ((nI (56 - (8 * i))).toInt64.toUInt64 &&& Int64.toUInt64 63)).toInt64).toInt32) &&& (nI 255) = nI (oc w i) from oct_raw w hi) ?_
  exact z_iret hE hrt9 hlocks hZ () rfl trivial rfl dX6_octetOf_14 (Nat.le_of_ble_eq_true rfl) (Nat.le_of_ble_eq_true rfl)
set_option maxHeartbeats 1000000 in
set_option maxRecDepth 100000 in
theorem c_X0_wipe (l : Launch) (D : va_G) (cI cJ cZ cII cZZ : ClassId) (k0 : Nat) (k1 : Nat) (kw : Nat → Int64)   :
    zC l yX0_wipe cX0_wipe 1 none { frames := 1, cells := 0, slots := 0, locals := 24 } D (zT cI cJ cZ cII cZZ) [.ref k0] [(k0, .inr (0, [.ref k1])), (k1, .inl (cJ, 4, .inr (.inl kw)))] (S := Unit) (fun u => none) (fun u => True) (fun u => [(k0, .inr (0, [.ref k1])), (k1, .inl (cJ, 4, .inr (.inl (fun _ => 0))))]) := by
  refine zC_of (by decide) (Nat.le_of_ble_eq_true rfl) ?_
  intro prg env s mth below meth cde A ls hE hrt9 hlocks hnm hZ hl
  have hx := hE.1
  have hb := hE.2.1
  have hl : lv_has ls 1 [(0, .ref k0)] := hl
  refine lv_aload_n hx hb dX0_wipe_0 rfl (lv_at hl 0 rfl) ?_
  refine z_get hE fF_X0_0 hZ 0 rfl (.ref k1) rfl dX0_wipe_1 ?_
  refine lv_lconst (v := 0) hx hb dX0_wipe_4 (by decide) ?_
  refine z_kS (As := [.ref k1, .long 0]) (rest := []) hE hZ (c_J7_fill_d0a16 l D cI cJ cZ cII cZZ k1 4 kw 0 (by decide)) lL_J7_fill_d0a16 lC_X0_15 [1] [0] [0, 1] [(k0, .inr (0, [.ref k1]))] (fun u => [(k0, .inr (0, [.ref k1])), (k1, .inl (cJ, 4, .inr (.inl (fun _ => 0))))]) rfl rfl (fun _ => rfl) (by decide) ⟨by decide, by decide⟩ 0 0 rfl rfl ⟨by decide, by decide⟩ rfl hl.1 rfl (Nat.le_of_ble_eq_true rfl) dX0_wipe_5 (fun u H locs hq9 hZ => ?_)
  have hZ : zS D A s.heap H locs [(k0, .inr (0, [.ref k1])), (k1, .inl (cJ, 4, .inr (.inl (fun _ => 0))))] := hZ
  refine W.eq (g2 := F0 mth 8 ls []) rfl ?_
  exact z_vret hE hrt9 hlocks hZ () rfl trivial rfl dX0_wipe_8 (Nat.le_of_ble_eq_true rfl) (Nat.le_of_ble_eq_true rfl)
set_option maxHeartbeats 1000000 in
set_option maxRecDepth 100000 in
theorem c_X0_word (l : Launch) (D : va_G) (cI cJ cZ cII cZZ : ClassId) (k0 : Nat) (k1 : Nat) (kw : Nat → Int64) (i : Nat) (hi : i < 4) :
    zC l yX0_word cX0_word 2 (some .long) { frames := 0, cells := 0, slots := 0, locals := 0 } D (zT cI cJ cZ cII cZZ) [.ref k0, .int (nI i)] [(k0, .inr (0, [.ref k1])), (k1, .inl (cJ, 4, .inr (.inl kw)))] (S := Unit) (fun u => some (.long (kw i))) (fun u => True) (fun u => [(k0, .inr (0, [.ref k1])), (k1, .inl (cJ, 4, .inr (.inl kw)))]) := by
  refine zC_of (by decide) (Nat.le_of_ble_eq_true rfl) ?_
  intro prg env s mth below meth cde A ls hE hrt9 hlocks hnm hZ hl
  have hx := hE.1
  have hb := hE.2.1
  have hl : lv_has ls 2 [(0, .ref k0), (1, .int (nI i))] := hl
  refine lv_iload_n hx hb dX0_word_0 rfl (lv_at hl 1 rfl) ?_
  refine z_if_lt hx hb 18 dX0_word_1 (by decide) (C := False) (nI_lt0 (by omega)) (fun h1 => ?_) (fun h1 => ?_)
  · skip
    exact h1.elim
  · skip
    refine lv_iload_n hx hb dX0_word_4 rfl (lv_at hl 1 rfl) ?_
    refine z_iconst hx hb (nI 4) dX0_word_5 (by decide) ?_
    refine z_icmp_ge hx hb 18 dX0_word_6 (by decide) (C := 4 ≤ i) (nIle (by omega) (by omega)) (fun h6 => ?_) (fun h6 => ?_)
    · skip
      exfalso
      omega
    · skip
      refine lv_aload_n hx hb dX0_word_9 rfl (lv_at hl 0 rfl) ?_
      refine z_get hE fF_X0_0 hZ 0 rfl (.ref k1) rfl dX0_word_10 ?_
      refine lv_iload_n hx hb dX0_word_13 rfl (lv_at hl 1 rfl) ?_
      refine z_lald hE hZ 1 1 rfl rfl (by decide) (by omega) dX0_word_14 ?_
      refine lv_goto (tgt := 19) hx hb dX0_word_15 (by decide) ?_
      exact z_lret hE hrt9 hlocks hZ () rfl trivial rfl dX0_word_19 (Nat.le_of_ble_eq_true rfl) (Nat.le_of_ble_eq_true rfl)
set_option maxHeartbeats 1000000 in
set_option maxRecDepth 100000 in
theorem c_X0_setWord (l : Launch) (D : va_G) (cI cJ cZ cII cZZ : ClassId) (k0 : Nat) (k1 : Nat) (kw : Nat → Int64) (i : Nat) (v : Int64) (hi : i < 4) :
    zC l yX0_setWord cX0_setWord 4 none { frames := 0, cells := 0, slots := 0, locals := 0 } D (zT cI cJ cZ cII cZZ) [.ref k0, .int (nI i), .long v] [(k0, .inr (0, [.ref k1])), (k1, .inl (cJ, 4, .inr (.inl kw)))] (S := Unit) (fun u => none) (fun u => True) (fun u => [(k0, .inr (0, [.ref k1])), (k1, .inl (cJ, 4, .inr (.inl (va_up kw i v))))]) := by
  refine zC_of (by decide) (Nat.le_of_ble_eq_true rfl) ?_
  intro prg env s mth below meth cde A ls hE hrt9 hlocks hnm hZ hl
  have hx := hE.1
  have hb := hE.2.1
  have hl : lv_has ls 4 [(0, .ref k0), (1, .int (nI i)), (2, .long v)] := hl
  refine lv_iload_n hx hb dX0_setWord_0 rfl (lv_at hl 1 rfl) ?_
  refine z_if_lt hx hb 16 dX0_setWord_1 (by decide) (C := False) (nI_lt0 (by omega)) (fun h1 => ?_) (fun h1 => ?_)
  · skip
    exact h1.elim
  · skip
    refine lv_iload_n hx hb dX0_setWord_4 rfl (lv_at hl 1 rfl) ?_
    refine z_iconst hx hb (nI 4) dX0_setWord_5 (by decide) ?_
    refine z_icmp_ge hx hb 16 dX0_setWord_6 (by decide) (C := 4 ≤ i) (nIle (by omega) (by omega)) (fun h6 => ?_) (fun h6 => ?_)
    · skip
      exfalso
      omega
    · skip
      refine lv_aload_n hx hb dX0_setWord_9 rfl (lv_at hl 0 rfl) ?_
      refine z_get hE fF_X0_0 hZ 0 rfl (.ref k1) rfl dX0_setWord_10 ?_
      refine lv_iload_n hx hb dX0_setWord_13 rfl (lv_at hl 1 rfl) ?_
      refine lv_lload_n hx hb dX0_setWord_14 rfl (lv_at hl 2 rfl) ?_
      refine z_last kw v hE hZ 1 1 rfl rfl (by decide) (by omega) dX0_setWord_15 [(k0, .inr (0, [.ref k1])), (k1, .inl (cJ, 4, .inr (.inl (va_up kw i v))))] rfl (fun H locs hZ => ?_)
      exact z_vret hE hrt9 hlocks hZ () rfl trivial rfl dX0_setWord_16 (Nat.le_of_ble_eq_true rfl) (Nat.le_of_ble_eq_true rfl)
set_option maxHeartbeats 1000000 in
set_option maxRecDepth 100000 in
theorem c_X0_setNumber (l : Launch) (D : va_G) (cI cJ cZ cII cZZ : ClassId) (k0 : Nat) (k1 : Nat) (kw : Nat → Int64) (i : Nat) (x : Int32) (hi : i < 16) :
    zC l yX0_setNumber cX0_setNumber 3 none { frames := 1, cells := 0, slots := 0, locals := 20 } D (zT cI cJ cZ cII cZZ) [.ref k0, .int (nI i), .int (x)] [(k0, .inr (0, [.ref k1])), (k1, .inl (cJ, 4, .inr (.inl kw)))] (S := Unit) (fun u => none) (fun u => True) (fun u => [(k0, .inr (0, [.ref k1])), (k1, .inl (cJ, 4, .inr (.inl (va_up kw (i / 4) (stN (kw (i / 4)) (i % 4) x)))))]) := by
  refine zC_of (by decide) (Nat.le_of_ble_eq_true rfl) ?_
  intro prg env s mth below meth cde A ls hE hrt9 hlocks hnm hZ hl
  have hx := hE.1
  have hb := hE.2.1
  have hl : lv_has ls 3 [(0, .ref k0), (1, .int (nI i)), (2, .int (x))] := hl
  refine lv_iload_n hx hb dX0_setNumber_0 rfl (lv_at hl 1 rfl) ?_
  refine z_if_lt hx hb 32 dX0_setNumber_1 (by decide) (C := False) (nI_lt0 (by omega)) (fun h1 => ?_) (fun h1 => ?_)
  · skip
    exact h1.elim
  · skip
    refine lv_iload_n hx hb dX0_setNumber_4 rfl (lv_at hl 1 rfl) ?_
    refine z_bipush hx hb (nI 16) dX0_setNumber_5 (by decide) ?_
    refine z_icmp_ge hx hb 32 dX0_setNumber_7 (by decide) (C := 16 ≤ i) (nIle (by omega) (by omega)) (fun h7 => ?_) (fun h7 => ?_)
    · skip
      exfalso
      omega
    · skip
      refine lv_aload_n hx hb dX0_setNumber_10 rfl (lv_at hl 0 rfl) ?_
      refine z_get hE fF_X0_0 hZ 0 rfl (.ref k1) rfl dX0_setNumber_11 ?_
      refine lv_iload_n hx hb dX0_setNumber_14 rfl (lv_at hl 1 rfl) ?_
      refine z_iconst hx hb (nI 4) dX0_setNumber_15 (by decide) ?_
      refine z_idiv hx hb dX0_setNumber_16 (by omega) (by omega) (by omega) ?_
      refine lv_dup2_11 hx hb dX0_setNumber_17 rfl rfl ?_
      refine z_lald hE hZ 1 1 rfl rfl (by decide) (by omega) dX0_setNumber_18 ?_
      refine lv_iload_n hx hb dX0_setNumber_19 rfl (lv_at hl 2 rfl) ?_
      refine lv_i2l (v := (x).toInt64) hx hb dX0_setNumber_20 rfl ?_
      refine lv_ldc2 (v := 65535) hx hb hE.2.2.2.1 (hE.2.2.2.2.1 _ mg818) dX0_setNumber_21 ?_
      refine lv_land hx hb dX0_setNumber_24 ?_
      refine lv_iload_n hx hb dX0_setNumber_25 rfl (lv_at hl 1 rfl) ?_
      refine z_kN (As := [.int (nI i)]) (rest := [.long (((x).toInt64) &&& (65535 : Int64)), .long (kw (i / 4)), .int (nI (i / 4)), .ref k1]) hE hZ (c_X6_shiftOfNumber l D cI cJ cZ cII cZZ  i (by first | assumption | omega)) lL_X6_shiftOfNumber lC_X0_23 [] [0, 1] [0, 1] [(k0, .inr (0, [.ref k1])), (k1, .inl (cJ, 4, .inr (.inl kw)))] (fun u => [(k0, .inr (0, [.ref k1])), (k1, .inl (cJ, 4, .inr (.inl kw)))]) rfl rfl (fun _ => rfl) (by decide) ⟨by decide, by decide⟩ 0 0 rfl rfl ⟨by decide, by decide⟩ rfl hl.1 rfl (Nat.le_of_ble_eq_true rfl) dX0_setNumber_26 (fun u H locs hq9 hZ => ?_)
      have hZ : zS D A s.heap H locs [(k0, .inr (0, [.ref k1])), (k1, .inl (cJ, 4, .inr (.inl kw)))] := hZ
      refine W.eq (g2 := F0 mth 29 ls [.int (nI (48 - 16 * (i % 4))), .long (((x).toInt64) &&& (65535 : Int64)), .long (kw (i / 4)), .int (nI (i / 4)), .ref k1]) rfl ?_
      refine lv_lshl (v := (((x).toInt64) &&& (65535 : Int64)) <<< ((nI (48 - 16 * (i % 4))).toInt64 &&& 63)) hx hb dX0_setNumber_29 rfl ?_
      refine lv_lor hx hb dX0_setNumber_30 ?_
      refine z_topl (show (kw (i / 4)) ||| ((((x).toInt64) &&& (65535 : Int64)) <<< ((nI (48 - 16 * (i % 4))).toInt64 &&& 63)) = stN (kw (i / 4)) (i % 4) x from rfl) ?_
      refine z_last kw (stN (kw (i / 4)) (i % 4) x) hE hZ 1 1 rfl rfl (by decide) (by omega) dX0_setNumber_31 [(k0, .inr (0, [.ref k1])), (k1, .inl (cJ, 4, .inr (.inl (va_up kw (i / 4) (stN (kw (i / 4)) (i % 4) x)))))] rfl (fun H locs hZ => ?_)
      exact z_vret hE hrt9 hlocks hZ () rfl trivial rfl dX0_setNumber_32 (Nat.le_of_ble_eq_true rfl) (Nat.le_of_ble_eq_true rfl)
