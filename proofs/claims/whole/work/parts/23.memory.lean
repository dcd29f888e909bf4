set_option maxHeartbeats 1000000 in
set_option maxRecDepth 100000 in
theorem c_J6_bitCount_0f7a4 (l : Launch) (D : va_G) (cI cJ cZ cII cZZ : ClassId)  (x : Int32) (m : BitVec 32) (hxm : x = zW m) (hm : m.toNat < 16384) :
    zC l yJ6_bitCount_0f7a4 cJ6_bitCount_0f7a4 1 (some .int) { frames := 0, cells := 0, slots := 0, locals := 0 } D (zT cI cJ cZ cII cZZ) [.int (x)] [] (S := Unit) (fun u => some (.int (nI (popc m 14)))) (fun u => True) (fun u => []) := by
  refine zC_of (by decide) (Nat.le_of_ble_eq_true rfl) ?_
  intro prg env s mth below meth cde A ls hE hrt9 hlocks hnm hZ hl
  have hx := hE.1
  have hb := hE.2.1
  obtain ⟨n, hn⟩ : ∃ n, n = m.toNat := ⟨_, rfl⟩
  have e0 : x = nI n := by rw [hxm, zW_n, hn]
  rw [← hn] at hm
  subst e0
  have hl : lv_has ls 1 [(0, .int (nI n))] := hl
  refine lv_iload_n hx hb dJ6_bitCount_0f7a4_0 rfl (lv_at hl 0 rfl) ?_
  refine lv_iload_n hx hb dJ6_bitCount_0f7a4_1 rfl (lv_at hl 0 rfl) ?_
  refine z_iconst hx hb (nI 1) dJ6_bitCount_0f7a4_2 (by decide) ?_
  refine lv_iushr (v := ((nI n).toUInt32 >>> ((nI 1).toUInt32 &&& Int32.toUInt32 31)).toInt32) hx hb dJ6_bitCount_0f7a4_3 rfl ?_
  refine z_top (show ((nI n).toUInt32 >>> ((nI 1).toUInt32 &&& Int32.toUInt32 31)).toInt32 = nI (n / 2) from pk_ushrN (by omega) 1 1 (by decide)) ?_
  refine lv_ldcw (v := 1431655765) hx hb hE.2.2.2.1 (hE.2.2.2.2.1 _ mg812) dJ6_bitCount_0f7a4_4 ?_
  refine z_top (show (1431655765 : Int32) = nI 1431655765 from rfl) ?_
  refine lv_iand hx hb dJ6_bitCount_0f7a4_7 ?_
  refine z_top (show (nI (n / 2)) &&& (nI 1431655765) = nI (n / 2 &&& 1431655765) from n_and _ _) ?_
  refine z_isub hx hb dJ6_bitCount_0f7a4_8 (z := zI (((n : Nat) : Int) - ((n / 2 &&& 1431655765 : Nat) : Int))) (by (try simp only [zI_n]); exact zI_sub _ _) ?_
  refine z_top (show zI (((n : Nat) : Int) - ((n / 2 &&& 1431655765 : Nat) : Int)) = nI (bc1 n) from by rw [zI_n]; congr 1; have := and_le' (n / 2) 1431655765; unfold bc1; omega) ?_
  refine lv_istore_n (lv' := [(0, .int (nI (bc1 n)))]) hx hb dJ6_bitCount_0f7a4_9 rfl hl (by decide) rfl (fun ls hl => ?_)
  refine lv_iload_n hx hb dJ6_bitCount_0f7a4_10 rfl (lv_at hl 0 rfl) ?_
  refine lv_ldcw (v := 858993459) hx hb hE.2.2.2.1 (hE.2.2.2.2.1 _ mg813) dJ6_bitCount_0f7a4_11 ?_
  refine z_top (show (858993459 : Int32) = nI 858993459 from rfl) ?_
  refine lv_iand hx hb dJ6_bitCount_0f7a4_14 ?_
  refine z_top (show (nI (bc1 n)) &&& (nI 858993459) = nI (bc1 n &&& 858993459) from n_and _ _) ?_
  refine lv_iload_n hx hb dJ6_bitCount_0f7a4_15 rfl (lv_at hl 0 rfl) ?_
  refine z_iconst hx hb (nI 2) dJ6_bitCount_0f7a4_16 (by decide) ?_
  refine lv_iushr (v := ((nI (bc1 n)).toUInt32 >>> ((nI 2).toUInt32 &&& Int32.toUInt32 31)).toInt32) hx hb dJ6_bitCount_0f7a4_17 rfl ?_
  refine z_top (show ((nI (bc1 n)).toUInt32 >>> ((nI 2).toUInt32 &&& Int32.toUInt32 31)).toInt32 = nI (bc1 n / 4) from pk_ushrN (by have := Nat.sub_le n (n / 2 &&& 1431655765); unfold bc1; omega) 2 2 (by decide)) ?_
  refine lv_ldcw (v := 858993459) hx hb hE.2.2.2.1 (hE.2.2.2.2.1 _ mg813) dJ6_bitCount_0f7a4_18 ?_
  refine z_top (show (858993459 : Int32) = nI 858993459 from rfl) ?_
  refine lv_iand hx hb dJ6_bitCount_0f7a4_21 ?_
  refine z_top (show (nI (bc1 n / 4)) &&& (nI 858993459) = nI (bc1 n / 4 &&& 858993459) from n_and _ _) ?_
  refine z_iadd hx hb dJ6_bitCount_0f7a4_22 (z := nI ((bc1 n &&& 858993459) + (bc1 n / 4 &&& 858993459))) (nI_add _ _) ?_
  refine z_top (show nI ((bc1 n &&& 858993459) + (bc1 n / 4 &&& 858993459)) = nI (bc2 (bc1 n)) from rfl) ?_
  have hb1 : bc1 n ≤ n := Nat.sub_le _ _
  have hb2 : bc2 (bc1 n) < 2 ^ 32 := by have q1 := and_le' (bc1 n) 858993459; have q2 := and_le' (bc1 n / 4) 858993459; unfold bc2; omega
  have hb3 : bc3 (bc2 (bc1 n)) < 2 ^ 32 := by have q1 := @Nat.and_le_right (bc2 (bc1 n) + bc2 (bc1 n) / 16) 252645135; unfold bc3; omega
  have hb3x : bc3 (bc2 (bc1 n)) ≤ 252645135 := Nat.and_le_right
  have hb4 : bc4 (bc3 (bc2 (bc1 n))) < 2 ^ 32 := by unfold bc4; omega
  refine lv_istore_n (lv' := [(0, .int (nI (bc2 (bc1 n))))]) hx hb dJ6_bitCount_0f7a4_23 rfl hl (by decide) rfl (fun ls hl => ?_)
  refine lv_iload_n hx hb dJ6_bitCount_0f7a4_24 rfl (lv_at hl 0 rfl) ?_
  refine lv_iload_n hx hb dJ6_bitCount_0f7a4_25 rfl (lv_at hl 0 rfl) ?_
  refine z_iconst hx hb (nI 4) dJ6_bitCount_0f7a4_26 (by decide) ?_
  refine lv_iushr (v := ((nI (bc2 (bc1 n))).toUInt32 >>> ((nI 4).toUInt32 &&& Int32.toUInt32 31)).toInt32) hx hb dJ6_bitCount_0f7a4_27 rfl ?_
  refine z_top (show ((nI (bc2 (bc1 n))).toUInt32 >>> ((nI 4).toUInt32 &&& Int32.toUInt32 31)).toInt32 = nI (bc2 (bc1 n) / 16) from pk_ushrN hb2 4 4 (by decide)) ?_
  refine z_iadd hx hb dJ6_bitCount_0f7a4_28 (z := nI ((bc2 (bc1 n)) + (bc2 (bc1 n) / 16))) (nI_add _ _) ?_
  refine z_top (show nI ((bc2 (bc1 n)) + (bc2 (bc1 n) / 16)) = nI (bc2 (bc1 n) + bc2 (bc1 n) / 16) from rfl) ?_
  refine lv_ldcw (v := 252645135) hx hb hE.2.2.2.1 (hE.2.2.2.2.1 _ mg814) dJ6_bitCount_0f7a4_29 ?_
  refine z_top (show (252645135 : Int32) = nI 252645135 from rfl) ?_
  refine lv_iand hx hb dJ6_bitCount_0f7a4_32 ?_
  refine z_top (show (nI (bc2 (bc1 n) + bc2 (bc1 n) / 16)) &&& (nI 252645135) = nI (bc3 (bc2 (bc1 n))) from n_and _ _) ?_
  refine lv_istore_n (lv' := [(0, .int (nI (bc3 (bc2 (bc1 n)))))]) hx hb dJ6_bitCount_0f7a4_33 rfl hl (by decide) rfl (fun ls hl => ?_)
  refine lv_iload_n hx hb dJ6_bitCount_0f7a4_34 rfl (lv_at hl 0 rfl) ?_
  refine lv_iload_n hx hb dJ6_bitCount_0f7a4_35 rfl (lv_at hl 0 rfl) ?_
  refine z_bipush hx hb (nI 8) dJ6_bitCount_0f7a4_36 (by decide) ?_
  refine lv_iushr (v := ((nI (bc3 (bc2 (bc1 n)))).toUInt32 >>> ((nI 8).toUInt32 &&& Int32.toUInt32 31)).toInt32) hx hb dJ6_bitCount_0f7a4_38 rfl ?_
  refine z_top (show ((nI (bc3 (bc2 (bc1 n)))).toUInt32 >>> ((nI 8).toUInt32 &&& Int32.toUInt32 31)).toInt32 = nI (bc3 (bc2 (bc1 n)) / 256) from pk_ushrN hb3 8 8 (by decide)) ?_
  refine z_iadd hx hb dJ6_bitCount_0f7a4_39 (z := nI ((bc3 (bc2 (bc1 n))) + (bc3 (bc2 (bc1 n)) / 256))) (nI_add _ _) ?_
  refine z_top (show nI ((bc3 (bc2 (bc1 n))) + (bc3 (bc2 (bc1 n)) / 256)) = nI (bc4 (bc3 (bc2 (bc1 n)))) from rfl) ?_
  refine lv_istore_n (lv' := [(0, .int (nI (bc4 (bc3 (bc2 (bc1 n))))))]) hx hb dJ6_bitCount_0f7a4_40 rfl hl (by decide) rfl (fun ls hl => ?_)
  refine lv_iload_n hx hb dJ6_bitCount_0f7a4_41 rfl (lv_at hl 0 rfl) ?_
  refine lv_iload_n hx hb dJ6_bitCount_0f7a4_42 rfl (lv_at hl 0 rfl) ?_
  refine z_bipush hx hb (nI 16) dJ6_bitCount_0f7a4_43 (by decide) ?_
  refine lv_iushr (v := ((nI (bc4 (bc3 (bc2 (bc1 n))))).toUInt32 >>> ((nI 16).toUInt32 &&& Int32.toUInt32 31)).toInt32) hx hb dJ6_bitCount_0f7a4_45 rfl ?_
  refine z_top (show ((nI (bc4 (bc3 (bc2 (bc1 n))))).toUInt32 >>> ((nI 16).toUInt32 &&& Int32.toUInt32 31)).toInt32 = nI (bc4 (bc3 (bc2 (bc1 n))) / 65536) from pk_ushrN hb4 16 16 (by decide)) ?_
  refine z_iadd hx hb dJ6_bitCount_0f7a4_46 (z := nI ((bc4 (bc3 (bc2 (bc1 n)))) + (bc4 (bc3 (bc2 (bc1 n))) / 65536))) (nI_add _ _) ?_
  refine z_top (show nI ((bc4 (bc3 (bc2 (bc1 n)))) + (bc4 (bc3 (bc2 (bc1 n))) / 65536)) = nI (bc4 (bc3 (bc2 (bc1 n))) + bc4 (bc3 (bc2 (bc1 n))) / 65536) from rfl) ?_
  refine lv_istore_n (lv' := [(0, .int (nI (bc4 (bc3 (bc2 (bc1 n))) + bc4 (bc3 (bc2 (bc1 n))) / 65536)))]) hx hb dJ6_bitCount_0f7a4_47 rfl hl (by decide) rfl (fun ls hl => ?_)
  refine lv_iload_n hx hb dJ6_bitCount_0f7a4_48 rfl (lv_at hl 0 rfl) ?_
  refine z_bipush hx hb (nI 63) dJ6_bitCount_0f7a4_49 (by decide) ?_
  refine lv_iand hx hb dJ6_bitCount_0f7a4_51 ?_
  refine z_top (show (nI (bc4 (bc3 (bc2 (bc1 n))) + bc4 (bc3 (bc2 (bc1 n))) / 65536)) &&& (nI 63) = nI (bc5 (bc4 (bc3 (bc2 (bc1 n))))) from n_and _ _) ?_
  refine z_top (show nI (bc5 (bc4 (bc3 (bc2 (bc1 n))))) = nI (popc m 14) from by rw [bc_all n hm, hn, popN_c]) ?_
  exact z_iret hE hrt9 hlocks hZ () rfl trivial rfl dJ6_bitCount_0f7a4_52 (Nat.le_of_ble_eq_true rfl) (Nat.le_of_ble_eq_true rfl)
set_option maxHeartbeats 1000000 in
set_option maxRecDepth 100000 in
theorem c_X4_settle (l : Launch) (D : va_G) (cI cJ cZ cII cZZ : ClassId) (m0 : Nat) (m1 : Nat) (m2 : Nat) (m3 : Nat) (m4 : Nat) (m5 : Nat) (ms : Nat → Int) (mw : Nat → Int64) (mi : Nat → Nat) (mp : Nat → Nat) (mb : Nat → BitVec 32) (mc : BitVec 32)   :
    zC l yX4_settle cX4_settle 1 none { frames := 1, cells := 0, slots := 0, locals := 23 } D (zT cI cJ cZ cII cZZ) [.ref m0] [(m0, .inr (4, [.ref m1, .ref m2, .ref m3, .ref m4, .ref m5, .int (zW mc)])), (m1, .inl (cI, 32, .inl (fun x9 => zI (ms x9)))), (m2, .inl (cJ, 1792, .inr (.inl mw))), (m3, .inl (cI, 32, .inl (fun x9 => nI (mi x9)))), (m4, .inl (cI, 448, .inl (fun x9 => nI (mp x9)))), (m5, .inl (cI, 32, .inl (fun x9 => zW (mb x9))))] (S := Unit) (fun u => none) (fun u => True) (fun u => [(m0, .inr (4, [.ref m1, .ref m2, .ref m3, .ref m4, .ref m5, .int (zW (0#32))])), (m1, .inl (cI, 32, .inl (fun x9 => zI (ms x9)))), (m2, .inl (cJ, 1792, .inr (.inl mw))), (m3, .inl (cI, 32, .inl (fun x9 => nI (mi x9)))), (m4, .inl (cI, 448, .inl (fun x9 => nI (mp x9)))), (m5, .inl (cI, 32, .inl (fun x9 => zW ((fun _ => 0#32) x9))))]) := by
  refine zC_of (by decide) (Nat.le_of_ble_eq_true rfl) ?_
  intro prg env s mth below meth cde A ls hE hrt9 hlocks hnm hZ hl
  have hx := hE.1
  have hb := hE.2.1
  have hl : lv_has ls 1 [(0, .ref m0)] := hl
  refine lv_aload_n hx hb dX4_settle_0 rfl (lv_at hl 0 rfl) ?_
  refine z_get hE fF_X4_4 hZ 0 rfl (.ref m5) rfl dX4_settle_1 ?_
  refine z_iconst hx hb (nI 0) dX4_settle_4 (by decide) ?_
  refine z_kS (As := [.ref m5, .int (nI 0)]) (rest := []) hE hZ (c_J7_fill_53178 l D cI cJ cZ cII cZZ m5 32 (fun x => zW (mb x)) (nI 0) (by decide)) lL_J7_fill_53178 lC_X4_28 [5] [0, 1, 2, 3, 4] [0, 1, 2, 3, 4, 5] [(m0, .inr (4, [.ref m1, .ref m2, .ref m3, .ref m4, .ref m5, .int (zW mc)])), (m1, .inl (cI, 32, .inl (fun x9 => zI (ms x9)))), (m2, .inl (cJ, 1792, .inr (.inl mw))), (m3, .inl (cI, 32, .inl (fun x9 => nI (mi x9)))), (m4, .inl (cI, 448, .inl (fun x9 => nI (mp x9))))] (fun u => [(m0, .inr (4, [.ref m1, .ref m2, .ref m3, .ref m4, .ref m5, .int (zW mc)])), (m1, .inl (cI, 32, .inl (fun x9 => zI (ms x9)))), (m2, .inl (cJ, 1792, .inr (.inl mw))), (m3, .inl (cI, 32, .inl (fun x9 => nI (mi x9)))), (m4, .inl (cI, 448, .inl (fun x9 => nI (mp x9)))), (m5, .inl (cI, 32, .inl (fun x9 => zW ((fun _ => 0#32) x9))))]) rfl rfl (fun _ => rfl) (by decide) ⟨by decide, by decide⟩ 0 0 rfl rfl ⟨by decide, by decide⟩ rfl hl.1 rfl (Nat.le_of_ble_eq_true rfl) dX4_settle_5 (fun u H locs hq9 hZ => ?_)
  have hZ : zS D A s.heap H locs [(m0, .inr (4, [.ref m1, .ref m2, .ref m3, .ref m4, .ref m5, .int (zW mc)])), (m1, .inl (cI, 32, .inl (fun x9 => zI (ms x9)))), (m2, .inl (cJ, 1792, .inr (.inl mw))), (m3, .inl (cI, 32, .inl (fun x9 => nI (mi x9)))), (m4, .inl (cI, 448, .inl (fun x9 => nI (mp x9)))), (m5, .inl (cI, 32, .inl (fun x9 => zW ((fun _ => 0#32) x9))))] := hZ
  refine W.eq (g2 := F0 mth 8 ls []) rfl ?_
  refine lv_aload_n hx hb dX4_settle_8 rfl (lv_at hl 0 rfl) ?_
  refine z_iconst hx hb (nI 0) dX4_settle_9 (by decide) ?_
  refine z_top (show nI 0 = zW (0#32) from rfl) ?_
  refine z_put hE fF_X4_5 fP_X4 rfl hZ 0 rfl rfl rfl (Nat.le_of_ble_eq_true rfl) dX4_settle_10 [(m0, .inr (4, [.ref m1, .ref m2, .ref m3, .ref m4, .ref m5, .int (zW (0#32))])), (m1, .inl (cI, 32, .inl (fun x9 => zI (ms x9)))), (m2, .inl (cJ, 1792, .inr (.inl mw))), (m3, .inl (cI, 32, .inl (fun x9 => nI (mi x9)))), (m4, .inl (cI, 448, .inl (fun x9 => nI (mp x9)))), (m5, .inl (cI, 32, .inl (fun x9 => zW ((fun _ => 0#32) x9))))] rfl (fun H locs hZ => ?_)
  exact z_vret hE hrt9 hlocks hZ () rfl trivial rfl dX4_settle_13 (Nat.le_of_ble_eq_true rfl) (Nat.le_of_ble_eq_true rfl)
set_option maxHeartbeats 1000000 in
set_option maxRecDepth 100000 in
theorem c_X4_wipe (l : Launch) (D : va_G) (cI cJ cZ cII cZZ : ClassId) (m0 : Nat) (m1 : Nat) (m2 : Nat) (m3 : Nat) (m4 : Nat) (m5 : Nat) (ms : Nat → Int) (mw : Nat → Int64) (mi : Nat → Nat) (mp : Nat → Nat) (mb : Nat → BitVec 32) (mc : BitVec 32)   :
    zC l yX4_wipe cX4_wipe 1 none { frames := 2, cells := 0, slots := 0, locals := 43 } D (zT cI cJ cZ cII cZZ) [.ref m0] [(m0, .inr (4, [.ref m1, .ref m2, .ref m3, .ref m4, .ref m5, .int (zW mc)])), (m1, .inl (cI, 32, .inl (fun x9 => zI (ms x9)))), (m2, .inl (cJ, 1792, .inr (.inl mw))), (m3, .inl (cI, 32, .inl (fun x9 => nI (mi x9)))), (m4, .inl (cI, 448, .inl (fun x9 => nI (mp x9)))), (m5, .inl (cI, 32, .inl (fun x9 => zW (mb x9))))] (S := Unit) (fun u => none) (fun u => True) (fun u => [(m0, .inr (4, [.ref m1, .ref m2, .ref m3, .ref m4, .ref m5, .int (zW (0#32))])), (m1, .inl (cI, 32, .inl (fun x9 => zI ((fun _ => (-1)) x9)))), (m2, .inl (cJ, 1792, .inr (.inl mw))), (m3, .inl (cI, 32, .inl (fun x9 => nI ((fun _ => 0) x9)))), (m4, .inl (cI, 448, .inl (fun x9 => nI (mp x9)))), (m5, .inl (cI, 32, .inl (fun x9 => zW ((fun _ => 0#32) x9))))]) := by
  refine zC_of (by decide) (Nat.le_of_ble_eq_true rfl) ?_
  intro prg env s mth below meth cde A ls hE hrt9 hlocks hnm hZ hl
  have hx := hE.1
  have hb := hE.2.1
  have hl : lv_has ls 1 [(0, .ref m0)] := hl
  refine lv_aload_n hx hb dX4_wipe_0 rfl (lv_at hl 0 rfl) ?_
  refine z_get hE fF_X4_0 hZ 0 rfl (.ref m1) rfl dX4_wipe_1 ?_
  refine z_iconst hx hb (zI (-1)) dX4_wipe_4 (by decide) ?_
  refine z_kS (As := [.ref m1, .int (zI (-1))]) (rest := []) hE hZ (c_J7_fill_53178 l D cI cJ cZ cII cZZ m1 32 (fun x => zI (ms x)) (zI (-1)) (by decide)) lL_J7_fill_53178 lC_X4_28 [1] [0, 2, 3, 4, 5] [0, 5, 1, 2, 3, 4] [(m0, .inr (4, [.ref m1, .ref m2, .ref m3, .ref m4, .ref m5, .int (zW mc)])), (m2, .inl (cJ, 1792, .inr (.inl mw))), (m3, .inl (cI, 32, .inl (fun x9 => nI (mi x9)))), (m4, .inl (cI, 448, .inl (fun x9 => nI (mp x9)))), (m5, .inl (cI, 32, .inl (fun x9 => zW (mb x9))))] (fun u => [(m0, .inr (4, [.ref m1, .ref m2, .ref m3, .ref m4, .ref m5, .int (zW mc)])), (m1, .inl (cI, 32, .inl (fun x9 => zI ((fun _ => (-1)) x9)))), (m2, .inl (cJ, 1792, .inr (.inl mw))), (m3, .inl (cI, 32, .inl (fun x9 => nI (mi x9)))), (m4, .inl (cI, 448, .inl (fun x9 => nI (mp x9)))), (m5, .inl (cI, 32, .inl (fun x9 => zW (mb x9))))]) rfl rfl (fun _ => rfl) (by decide) ⟨by decide, by decide⟩ 0 0 rfl rfl ⟨by decide, by decide⟩ rfl hl.1 rfl (Nat.le_of_ble_eq_true rfl) dX4_wipe_5 (fun u H locs hq9 hZ => ?_)
  have hZ : zS D A s.heap H locs [(m0, .inr (4, [.ref m1, .ref m2, .ref m3, .ref m4, .ref m5, .int (zW mc)])), (m1, .inl (cI, 32, .inl (fun x9 => zI ((fun _ => (-1)) x9)))), (m2, .inl (cJ, 1792, .inr (.inl mw))), (m3, .inl (cI, 32, .inl (fun x9 => nI (mi x9)))), (m4, .inl (cI, 448, .inl (fun x9 => nI (mp x9)))), (m5, .inl (cI, 32, .inl (fun x9 => zW (mb x9))))] := hZ
  refine W.eq (g2 := F0 mth 8 ls []) rfl ?_
  refine lv_aload_n hx hb dX4_wipe_8 rfl (lv_at hl 0 rfl) ?_
  refine z_get hE fF_X4_2 hZ 0 rfl (.ref m3) rfl dX4_wipe_9 ?_
  refine z_iconst hx hb (nI 0) dX4_wipe_12 (by decide) ?_
  refine z_kS (As := [.ref m3, .int (nI 0)]) (rest := []) hE hZ (c_J7_fill_53178 l D cI cJ cZ cII cZZ m3 32 (fun x => nI (mi x)) (nI 0) (by decide)) lL_J7_fill_53178 lC_X4_28 [3] [0, 1, 2, 4, 5] [0, 1, 2, 5, 3, 4] [(m0, .inr (4, [.ref m1, .ref m2, .ref m3, .ref m4, .ref m5, .int (zW mc)])), (m1, .inl (cI, 32, .inl (fun x9 => zI ((fun _ => (-1)) x9)))), (m2, .inl (cJ, 1792, .inr (.inl mw))), (m4, .inl (cI, 448, .inl (fun x9 => nI (mp x9)))), (m5, .inl (cI, 32, .inl (fun x9 => zW (mb x9))))] (fun u => [(m0, .inr (4, [.ref m1, .ref m2, .ref m3, .ref m4, .ref m5, .int (zW mc)])), (m1, .inl (cI, 32, .inl (fun x9 => zI ((fun _ => (-1)) x9)))), (m2, .inl (cJ, 1792, .inr (.inl mw))), (m3, .inl (cI, 32, .inl (fun x9 => nI ((fun _ => 0) x9)))), (m4, .inl (cI, 448, .inl (fun x9 => nI (mp x9)))), (m5, .inl (cI, 32, .inl (fun x9 => zW (mb x9))))]) rfl rfl (fun _ => rfl) (by decide) ⟨by decide, by decide⟩ 0 0 rfl rfl ⟨by decide, by decide⟩ rfl hl.1 rfl (Nat.le_of_ble_eq_true rfl) dX4_wipe_13 (fun u H locs hq9 hZ => ?_)
  have hZ : zS D A s.heap H locs [(m0, .inr (4, [.ref m1, .ref m2, .ref m3, .ref m4, .ref m5, .int (zW mc)])), (m1, .inl (cI, 32, .inl (fun x9 => zI ((fun _ => (-1)) x9)))), (m2, .inl (cJ, 1792, .inr (.inl mw))), (m3, .inl (cI, 32, .inl (fun x9 => nI ((fun _ => 0) x9)))), (m4, .inl (cI, 448, .inl (fun x9 => nI (mp x9)))), (m5, .inl (cI, 32, .inl (fun x9 => zW (mb x9))))] := hZ
  refine W.eq (g2 := F0 mth 16 ls []) rfl ?_
  refine lv_aload_n hx hb dX4_wipe_16 rfl (lv_at hl 0 rfl) ?_
  refine z_kV (As := []) (rest := []) hE hZ (c_X4_settle l D cI cJ cZ cII cZZ m0 m1 m2 m3 m4 m5 (fun _ => (-1)) mw (fun _ => 0) mp mb mc  ) lL_X4_settle lC_X4_34 rfl [0, 1, 2, 3, 4, 5] [] [0, 1, 2, 3, 4, 5] [] (fun u => [(m0, .inr (4, [.ref m1, .ref m2, .ref m3, .ref m4, .ref m5, .int (zW (0#32))])), (m1, .inl (cI, 32, .inl (fun x9 => zI ((fun _ => (-1)) x9)))), (m2, .inl (cJ, 1792, .inr (.inl mw))), (m3, .inl (cI, 32, .inl (fun x9 => nI ((fun _ => 0) x9)))), (m4, .inl (cI, 448, .inl (fun x9 => nI (mp x9)))), (m5, .inl (cI, 32, .inl (fun x9 => zW ((fun _ => 0#32) x9))))]) 0 rfl rfl rfl (fun _ => rfl) (by decide) ⟨by decide, by decide⟩ 0 0 rfl rfl ⟨by decide, by decide⟩ rfl hl.1 rfl (Nat.le_of_ble_eq_true rfl) dX4_wipe_17 (fun u H locs hq9 hZ => ?_)
  have hZ : zS D A s.heap H locs [(m0, .inr (4, [.ref m1, .ref m2, .ref m3, .ref m4, .ref m5, .int (zW (0#32))])), (m1, .inl (cI, 32, .inl (fun x9 => zI ((fun _ => (-1)) x9)))), (m2, .inl (cJ, 1792, .inr (.inl mw))), (m3, .inl (cI, 32, .inl (fun x9 => nI ((fun _ => 0) x9)))), (m4, .inl (cI, 448, .inl (fun x9 => nI (mp x9)))), (m5, .inl (cI, 32, .inl (fun x9 => zW ((fun _ => 0#32) x9))))] := hZ
  refine W.eq (g2 := F0 mth 20 ls []) rfl ?_
  exact z_vret hE hrt9 hlocks hZ () rfl trivial rfl dX4_wipe_20 (Nat.le_of_ble_eq_true rfl) (Nat.le_of_ble_eq_true rfl)
set_option maxHeartbeats 1000000 in
set_option maxRecDepth 100000 in
theorem c_X4_octetsOf (l : Launch) (D : va_G) (cI cJ cZ cII cZZ : ClassId) (m0 : Nat) (m1 : Nat) (m2 : Nat) (m3 : Nat) (m4 : Nat) (m5 : Nat) (ms : Nat → Int) (mw : Nat → Int64) (mi : Nat → Nat) (mp : Nat → Nat) (mb : Nat → BitVec 32) (mc : BitVec 32) (f : Nat) (hf : f < 32) :
    zC l yX4_octetsOf cX4_octetsOf 2 (some .int) { frames := 1, cells := 0, slots := 0, locals := 20 } D (zT cI cJ cZ cII cZZ) [.ref m0, .int (nI f)] [(m0, .inr (4, [.ref m1, .ref m2, .ref m3, .ref m4, .ref m5, .int (zW mc)])), (m1, .inl (cI, 32, .inl (fun x9 => zI (ms x9)))), (m2, .inl (cJ, 1792, .inr (.inl mw))), (m3, .inl (cI, 32, .inl (fun x9 => nI (mi x9)))), (m4, .inl (cI, 448, .inl (fun x9 => nI (mp x9)))), (m5, .inl (cI, 32, .inl (fun x9 => zW (mb x9))))] (S := Unit) (fun u => some (.int (zI (ms f)))) (fun u => True) (fun u => [(m0, .inr (4, [.ref m1, .ref m2, .ref m3, .ref m4, .ref m5, .int (zW mc)])), (m1, .inl (cI, 32, .inl (fun x9 => zI (ms x9)))), (m2, .inl (cJ, 1792, .inr (.inl mw))), (m3, .inl (cI, 32, .inl (fun x9 => nI (mi x9)))), (m4, .inl (cI, 448, .inl (fun x9 => nI (mp x9)))), (m5, .inl (cI, 32, .inl (fun x9 => zW (mb x9))))]) := by
  refine zC_of (by decide) (Nat.le_of_ble_eq_true rfl) ?_
  intro prg env s mth below meth cde A ls hE hrt9 hlocks hnm hZ hl
  have hx := hE.1
  have hb := hE.2.1
  have hl : lv_has ls 2 [(0, .ref m0), (1, .int (nI f))] := hl
  refine lv_iload_n hx hb dX4_octetsOf_0 rfl (lv_at hl 1 rfl) ?_
  refine z_kN (As := [.int (nI f)]) (rest := []) hE hZ (c_X6_isFile l D cI cJ cZ cII cZZ  ((f : Nat) : Int) (nI f) (by first | assumption | omega) (zI_n _)) lL_X6_isFile lC_X4_41 [] [0, 1, 2, 3, 4, 5] [0, 1, 2, 3, 4, 5] [(m0, .inr (4, [.ref m1, .ref m2, .ref m3, .ref m4, .ref m5, .int (zW mc)])), (m1, .inl (cI, 32, .inl (fun x9 => zI (ms x9)))), (m2, .inl (cJ, 1792, .inr (.inl mw))), (m3, .inl (cI, 32, .inl (fun x9 => nI (mi x9)))), (m4, .inl (cI, 448, .inl (fun x9 => nI (mp x9)))), (m5, .inl (cI, 32, .inl (fun x9 => zW (mb x9))))] (fun u => [(m0, .inr (4, [.ref m1, .ref m2, .ref m3, .ref m4, .ref m5, .int (zW mc)])), (m1, .inl (cI, 32, .inl (fun x9 => zI (ms x9)))), (m2, .inl (cJ, 1792, .inr (.inl mw))), (m3, .inl (cI, 32, .inl (fun x9 => nI (mi x9)))), (m4, .inl (cI, 448, .inl (fun x9 => nI (mp x9)))), (m5, .inl (cI, 32, .inl (fun x9 => zW (mb x9))))]) rfl rfl (fun _ => rfl) (by decide) ⟨by decide, by decide⟩ 0 0 rfl rfl ⟨by decide, by decide⟩ rfl hl.1 rfl (Nat.le_of_ble_eq_true rfl) dX4_octetsOf_1 (fun u H locs hq9 hZ => ?_)
  have hZ : zS D A s.heap H locs [(m0, .inr (4, [.ref m1, .ref m2, .ref m3, .ref m4, .ref m5, .int (zW mc)])), (m1, .inl (cI, 32, .inl (fun x9 => zI (ms x9)))), (m2, .inl (cJ, 1792, .inr (.inl mw))), (m3, .inl (cI, 32, .inl (fun x9 => nI (mi x9)))), (m4, .inl (cI, 448, .inl (fun x9 => nI (mp x9)))), (m5, .inl (cI, 32, .inl (fun x9 => zW (mb x9))))] := hZ
  refine W.eq (g2 := F0 mth 4 ls [.int (zB (decide (0 ≤ ((f : Nat) : Int)) && decide (((f : Nat) : Int) < 32)))]) rfl ?_
  refine z_if_eq hx hb 16 dX4_octetsOf_4 (by decide) (C := (decide (0 ≤ ((f : Nat) : Int)) && decide (((f : Nat) : Int) < 32)) = false) (zB_0 _) (fun h4 => ?_) (fun h4 => ?_)
  · skip
    exfalso
    simp at h4; omega
  · skip
    refine lv_aload_n hx hb dX4_octetsOf_7 rfl (lv_at hl 0 rfl) ?_
    refine z_get hE fF_X4_0 hZ 0 rfl (.ref m1) rfl dX4_octetsOf_8 ?_
    refine lv_iload_n hx hb dX4_octetsOf_11 rfl (lv_at hl 1 rfl) ?_
    refine z_iald hE hZ 1 0 rfl rfl (by decide) (by omega) dX4_octetsOf_12 ?_
    refine lv_goto (tgt := 17) hx hb dX4_octetsOf_13 (by decide) ?_
    exact z_iret hE hrt9 hlocks hZ () rfl trivial rfl dX4_octetsOf_17 (Nat.le_of_ble_eq_true rfl) (Nat.le_of_ble_eq_true rfl)
set_option maxHeartbeats 1000000 in
set_option maxRecDepth 100000 in
theorem c_X4_octetAt (l : Launch) (D : va_G) (cI cJ cZ cII cZZ : ClassId) (m0 : Nat) (m1 : Nat) (m2 : Nat) (m3 : Nat) (m4 : Nat) (m5 : Nat) (ms : Nat → Int) (mw : Nat → Int64) (mi : Nat → Nat) (mp : Nat → Nat) (mb : Nat → BitVec 32) (mc : BitVec 32) (f : Nat) (a : Nat) (hf : f < 32) (hms : ∀ f, f < 32 → -1 ≤ ms f ∧ ms f ≤ 448) (ha : (a : Int) < ms f) :
    zC l yX4_octetAt cX4_octetAt 3 (some .int) { frames := 2, cells := 0, slots := 0, locals := 41 } D (zT cI cJ cZ cII cZZ) [.ref m0, .int (nI f), .int (nI a)] [(m0, .inr (4, [.ref m1, .ref m2, .ref m3, .ref m4, .ref m5, .int (zW mc)])), (m1, .inl (cI, 32, .inl (fun x9 => zI (ms x9)))), (m2, .inl (cJ, 1792, .inr (.inl mw))), (m3, .inl (cI, 32, .inl (fun x9 => nI (mi x9)))), (m4, .inl (cI, 448, .inl (fun x9 => nI (mp x9)))), (m5, .inl (cI, 32, .inl (fun x9 => zW (mb x9))))] (S := Unit) (fun u => some (.int (nI (mo mw f a)))) (fun u => True) (fun u => [(m0, .inr (4, [.ref m1, .ref m2, .ref m3, .ref m4, .ref m5, .int (zW mc)])), (m1, .inl (cI, 32, .inl (fun x9 => zI (ms x9)))), (m2, .inl (cJ, 1792, .inr (.inl mw))), (m3, .inl (cI, 32, .inl (fun x9 => nI (mi x9)))), (m4, .inl (cI, 448, .inl (fun x9 => nI (mp x9)))), (m5, .inl (cI, 32, .inl (fun x9 => zW (mb x9))))]) := by
  refine zC_of (by decide) (Nat.le_of_ble_eq_true rfl) ?_
  intro prg env s mth below meth cde A ls hE hrt9 hlocks hnm hZ hl
  have hx := hE.1
  have hb := hE.2.1
  have hl : lv_has ls 3 [(0, .ref m0), (1, .int (nI f)), (2, .int (nI a))] := hl
  have hmf := hms f hf
  refine lv_iload_n hx hb dX4_octetAt_0 rfl (lv_at hl 2 rfl) ?_
  refine z_if_lt hx hb 13 dX4_octetAt_1 (by decide) (C := False) (nI_lt0 (by omega)) (fun h1 => ?_) (fun h1 => ?_)
  · skip
    exact h1.elim
  · skip
    refine lv_iload_n hx hb dX4_octetAt_4 rfl (lv_at hl 2 rfl) ?_
    refine lv_aload_n hx hb dX4_octetAt_5 rfl (lv_at hl 0 rfl) ?_
    refine lv_iload_n hx hb dX4_octetAt_6 rfl (lv_at hl 1 rfl) ?_
    refine z_kV (As := [.int (nI f)]) (rest := [.int (nI a)]) hE hZ (c_X4_octetsOf l D cI cJ cZ cII cZZ m0 m1 m2 m3 m4 m5 ms mw mi mp mb mc f (by first | assumption | omega)) lL_X4_octetsOf lC_X4_45 rfl [0, 1, 2, 3, 4, 5] [] [0, 1, 2, 3, 4, 5] [] (fun u => [(m0, .inr (4, [.ref m1, .ref m2, .ref m3, .ref m4, .ref m5, .int (zW mc)])), (m1, .inl (cI, 32, .inl (fun x9 => zI (ms x9)))), (m2, .inl (cJ, 1792, .inr (.inl mw))), (m3, .inl (cI, 32, .inl (fun x9 => nI (mi x9)))), (m4, .inl (cI, 448, .inl (fun x9 => nI (mp x9)))), (m5, .inl (cI, 32, .inl (fun x9 => zW (mb x9))))]) 0 rfl rfl rfl (fun _ => rfl) (by decide) ⟨by decide, by decide⟩ 0 0 rfl rfl ⟨by decide, by decide⟩ rfl hl.1 rfl (Nat.le_of_ble_eq_true rfl) dX4_octetAt_7 (fun u H locs hq9 hZ => ?_)
    have hZ : zS D A s.heap H locs [(m0, .inr (4, [.ref m1, .ref m2, .ref m3, .ref m4, .ref m5, .int (zW mc)])), (m1, .inl (cI, 32, .inl (fun x9 => zI (ms x9)))), (m2, .inl (cJ, 1792, .inr (.inl mw))), (m3, .inl (cI, 32, .inl (fun x9 => nI (mi x9)))), (m4, .inl (cI, 448, .inl (fun x9 => nI (mp x9)))), (m5, .inl (cI, 32, .inl (fun x9 => zW (mb x9))))] := hZ
    refine W.eq (g2 := F0 mth 10 ls [.int (zI (ms f)), .int (nI a)]) rfl ?_
    refine z_icmp_lt hx hb 15 dX4_octetAt_10 (by decide) (C := (((a : Nat) : Int) : Int) < ms f) (by (try simp only [zI_n]); exact zI_lt ⟨by omega, by omega⟩ ⟨by omega, by omega⟩) (fun h10 => ?_) (fun h10 => ?_)
    · skip
      refine lv_aload_n hx hb dX4_octetAt_15 rfl (lv_at hl 0 rfl) ?_
      refine z_get hE fF_X4_1 hZ 0 rfl (.ref m2) rfl dX4_octetAt_16 ?_
      refine lv_iload_n hx hb dX4_octetAt_19 rfl (lv_at hl 1 rfl) ?_
      refine z_bipush hx hb (nI 56) dX4_octetAt_20 (by decide) ?_
      refine z_imul hx hb dX4_octetAt_22 (z := nI (f * 56)) (pk_mul _ _) ?_
      refine lv_iload_n hx hb dX4_octetAt_23 rfl (lv_at hl 2 rfl) ?_
      refine z_bipush hx hb (nI 8) dX4_octetAt_24 (by decide) ?_
      refine z_idiv hx hb dX4_octetAt_26 (by omega) (by omega) (by omega) ?_
      refine z_iadd hx hb dX4_octetAt_27 (z := nI ((f * 56) + (a / 8))) (nI_add _ _) ?_
      refine z_lald hE hZ 2 1 rfl rfl (by decide) (by omega) dX4_octetAt_28 ?_
      refine lv_iload_n hx hb dX4_octetAt_29 rfl (lv_at hl 2 rfl) ?_
      refine z_bipush hx hb (nI 8) dX4_octetAt_30 (by decide) ?_
      refine z_irem hx hb dX4_octetAt_32 (by omega) (by omega) (by omega) ?_
      refine z_kN (As := [.long (mw ((f * 56) + (a / 8))), .int (nI (a % 8))]) (rest := []) hE hZ (c_X6_octetOf l D cI cJ cZ cII cZZ  (mw ((f * 56) + (a / 8))) (a % 8) (by omega)) lL_X6_octetOf lC_X4_49 [] [0, 1, 2, 3, 4, 5] [0, 1, 2, 3, 4, 5] [(m0, .inr (4, [.ref m1, .ref m2, .ref m3, .ref m4, .ref m5, .int (zW mc)])), (m1, .inl (cI, 32, .inl (fun x9 => zI (ms x9)))), (m2, .inl (cJ, 1792, .inr (.inl mw))), (m3, .inl (cI, 32, .inl (fun x9 => nI (mi x9)))), (m4, .inl (cI, 448, .inl (fun x9 => nI (mp x9)))), (m5, .inl (cI, 32, .inl (fun x9 => zW (mb x9))))] (fun u => [(m0, .inr (4, [.ref m1, .ref m2, .ref m3, .ref m4, .ref m5, .int (zW mc)])), (m1, .inl (cI, 32, .inl (fun x9 => zI (ms x9)))), (m2, .inl (cJ, 1792, .inr (.inl mw))), (m3, .inl (cI, 32, .inl (fun x9 => nI (mi x9)))), (m4, .inl (cI, 448, .inl (fun x9 => nI (mp x9)))), (m5, .inl (cI, 32, .inl (fun x9 => zW (mb x9))))]) rfl rfl (fun _ => rfl) (by decide) ⟨by decide, by decide⟩ 0 0 rfl rfl ⟨by decide, by decide⟩ rfl hl.1 rfl (Nat.le_of_ble_eq_true rfl) dX4_octetAt_33 (fun u H locs hq9 hZ => ?_)
      have hZ : zS D A s.heap H locs [(m0, .inr (4, [.ref m1, .ref m2, .ref m3, .ref m4, .ref m5, .int (zW mc)])), (m1, .inl (cI, 32, .inl (fun x9 => zI (ms x9)))), (m2, .inl (cJ, 1792, .inr (.inl mw))), (m3, .inl (cI, 32, .inl (fun x9 => nI (mi x9)))), (m4, .inl (cI, 448, .inl (fun x9 => nI (mp x9)))), (m5, .inl (cI, 32, .inl (fun x9 => zW (mb x9))))] := hZ
      refine W.eq (g2 := F0 mth 36 ls [.int (nI (oc (mw ((f * 56) + (a / 8))) (a % 8)))]) rfl ?_
      refine z_top (show nI (oc (mw ((f * 56) + (a / 8))) (a % 8)) = nI (mo mw f a) from rfl) ?_
      exact z_iret hE hrt9 hlocks hZ () rfl trivial rfl dX4_octetAt_36 (Nat.le_of_ble_eq_true rfl) (Nat.le_of_ble_eq_true rfl)
    · skip
      exfalso
      omega
set_option maxHeartbeats 1000000 in
set_option maxRecDepth 100000 in
theorem c_X4_filesThere (l : Launch) (D : va_G) (cI cJ cZ cII cZZ : ClassId) (m0 : Nat) (m1 : Nat) (m2 : Nat) (m3 : Nat) (m4 : Nat) (m5 : Nat) (ms : Nat → Int) (mw : Nat → Int64) (mi : Nat → Nat) (mp : Nat → Nat) (mb : Nat → BitVec 32) (mc : BitVec 32)  (hms : ∀ f, f < 32 → -1 ≤ ms f ∧ ms f ≤ 448) :
    zC l yX4_filesThere cX4_filesThere 3 (some .int) { frames := 0, cells := 0, slots := 0, locals := 0 } D (zT cI cJ cZ cII cZZ) [.ref m0] [(m0, .inr (4, [.ref m1, .ref m2, .ref m3, .ref m4, .ref m5, .int (zW mc)])), (m1, .inl (cI, 32, .inl (fun x9 => zI (ms x9)))), (m2, .inl (cJ, 1792, .inr (.inl mw))), (m3, .inl (cI, 32, .inl (fun x9 => nI (mi x9)))), (m4, .inl (cI, 448, .inl (fun x9 => nI (mp x9)))), (m5, .inl (cI, 32, .inl (fun x9 => zW (mb x9))))] (S := Unit) (fun u => some (.int (nI (cntF ms 32)))) (fun u => True) (fun u => [(m0, .inr (4, [.ref m1, .ref m2, .ref m3, .ref m4, .ref m5, .int (zW mc)])), (m1, .inl (cI, 32, .inl (fun x9 => zI (ms x9)))), (m2, .inl (cJ, 1792, .inr (.inl mw))), (m3, .inl (cI, 32, .inl (fun x9 => nI (mi x9)))), (m4, .inl (cI, 448, .inl (fun x9 => nI (mp x9)))), (m5, .inl (cI, 32, .inl (fun x9 => zW (mb x9))))]) := by
  refine zC_of (by decide) (Nat.le_of_ble_eq_true rfl) ?_
  intro prg env s mth below meth cde A ls hE hrt9 hlocks hnm hZ hl
  have hx := hE.1
  have hb := hE.2.1
  have hl : lv_has ls 3 [(0, .ref m0)] := hl
  refine z_iconst hx hb (nI 0) dX4_filesThere_0 (by decide) ?_
  refine lv_istore_n (lv' := [(1, .int (nI 0)), (0, .ref m0)]) hx hb dX4_filesThere_1 rfl hl (by decide) rfl (fun ls hl => ?_)
  refine z_iconst hx hb (nI 0) dX4_filesThere_2 (by decide) ?_
  refine lv_istore_n (lv' := [(2, .int (nI 0)), (1, .int (nI 0)), (0, .ref m0)]) hx hb dX4_filesThere_3 rfl hl (by decide) rfl (fun ls hl => ?_)
  refine z_loop (σ := Nat × Nat) (fun (i, n) H locs ls => (i ≤ 32) ∧ (n = cntF ms i) ∧ (n ≤ i) ∧ zS D A s.heap H locs [(m0, .inr (4, [.ref m1, .ref m2, .ref m3, .ref m4, .ref m5, .int (zW mc)])), (m1, .inl (cI, 32, .inl (fun x9 => zI (ms x9)))), (m2, .inl (cJ, 1792, .inr (.inl mw))), (m3, .inl (cI, 32, .inl (fun x9 => nI (mi x9)))), (m4, .inl (cI, 448, .inl (fun x9 => nI (mp x9)))), (m5, .inl (cI, 32, .inl (fun x9 => zW (mb x9))))] ∧ lv_has ls 3 [(0, .ref m0), (1, .int (nI n)), (2, .int (nI i))]) (fun (i, n) => 32 - i) [] (0, 0) ⟨by omega, rfl, by omega, hZ, lv_sub hl [2, 1, 0] (by first | rfl | (simp only [lv_pick]; rfl))⟩ ?_
  intro x H locs ls hI ih4
  obtain ⟨i, n⟩ := x
  obtain ⟨hi, hn, hn2, hZ, hl⟩ := hI
  refine lv_iload_n hx hb dX4_filesThere_4 rfl (lv_at hl 2 rfl) ?_
  refine z_bipush hx hb (nI 32) dX4_filesThere_5 (by decide) ?_
  refine z_icmp_ge hx hb 29 dX4_filesThere_7 (by decide) (C := 32 ≤ i) (nIle (by omega) (by omega)) (fun h7 => ?_) (fun h7 => ?_)
  · skip
    refine lv_iload_n hx hb dX4_filesThere_29 rfl (lv_at hl 1 rfl) ?_
    refine z_top (show nI n = nI (cntF ms 32) from by rw [hn, show i = 32 by omega]) ?_
    exact z_iret hE hrt9 hlocks hZ () rfl trivial rfl dX4_filesThere_30 (Nat.le_of_ble_eq_true rfl) (Nat.le_of_ble_eq_true rfl)
  · skip
    refine lv_aload_n hx hb dX4_filesThere_10 rfl (lv_at hl 0 rfl) ?_
    refine z_get hE fF_X4_0 hZ 0 rfl (.ref m1) rfl dX4_filesThere_11 ?_
    refine lv_iload_n hx hb dX4_filesThere_14 rfl (lv_at hl 2 rfl) ?_
    refine z_iald hE hZ 1 0 rfl rfl (by decide) (by omega) dX4_filesThere_15 ?_
    have hmi := hms i (by omega)
    refine z_iconst hx hb (zI (-1)) dX4_filesThere_16 (by decide) ?_
    refine z_icmp_eq hx hb 23 dX4_filesThere_17 (by decide) (C := (ms i : Int) = (-1)) (by (try simp only [zI_n]); exact zI_eq ⟨by omega, by omega⟩ ⟨by omega, by omega⟩) (fun h17 => ?_) (fun h17 => ?_)
    · skip
      refine lv_iinc (v := nI (i + 1)) (lv' := [(2, .int (nI (i + 1))), (0, .ref m0), (1, .int (nI n))]) hx hb dX4_filesThere_23 hl (k := 2) rfl (nI_add _ _) (by decide) rfl (fun ls hl => ?_)
      refine lv_goto (tgt := 4) hx hb dX4_filesThere_26 (by decide) ?_
      exact ih4 (i + 1, n) _ _ _ ⟨by omega, by unfold cntF; rw [← hn]; first | rw [if_pos h17] | rw [if_neg h17], by omega, hZ, lv_sub hl [1, 2, 0] (by first | rfl | (simp only [lv_pick]; rfl))⟩ (by (try dsimp only); omega)
    · skip
      refine lv_iinc (v := nI (n + 1)) (lv' := [(1, .int (nI (n + 1))), (0, .ref m0), (2, .int (nI i))]) hx hb dX4_filesThere_20 hl (k := 1) rfl (nI_add _ _) (by decide) rfl (fun ls hl => ?_)
      refine lv_iinc (v := nI (i + 1)) (lv' := [(2, .int (nI (i + 1))), (1, .int (nI (n + 1))), (0, .ref m0)]) hx hb dX4_filesThere_23 hl (k := 2) rfl (nI_add _ _) (by decide) rfl (fun ls hl => ?_)
      refine lv_goto (tgt := 4) hx hb dX4_filesThere_26 (by decide) ?_
      exact ih4 (i + 1, n + 1) _ _ _ ⟨by omega, by unfold cntF; rw [← hn]; first | rw [if_pos h17] | rw [if_neg h17], by omega, hZ, lv_sub hl [2, 1, 0] (by first | rfl | (simp only [lv_pick]; rfl))⟩ (by (try dsimp only); omega)
set_option maxHeartbeats 1000000 in
set_option maxRecDepth 100000 in
theorem c_X4_overwrite (l : Launch) (D : va_G) (cI cJ cZ cII cZZ : ClassId) (m0 : Nat) (m1 : Nat) (m2 : Nat) (m3 : Nat) (m4 : Nat) (m5 : Nat) (ms : Nat → Int) (mw : Nat → Int64) (mi : Nat → Nat) (mp : Nat → Nat) (mb : Nat → BitVec 32) (mc : BitVec 32) (f : Nat) (a : Nat) (v : Int64) (hf : f < 32) (ha : a ≤ 440) (hms : ∀ f, f < 32 → -1 ≤ ms f ∧ ms f ≤ 448) :
    zC l yX4_overwrite cX4_overwrite 9 none { frames := 1, cells := 0, slots := 0, locals := 23 } D (zT cI cJ cZ cII cZZ) [.ref m0, .int (nI f), .int (nI a), .long v] [(m0, .inr (4, [.ref m1, .ref m2, .ref m3, .ref m4, .ref m5, .int (zW mc)])), (m1, .inl (cI, 32, .inl (fun x9 => zI (ms x9)))), (m2, .inl (cJ, 1792, .inr (.inl mw))), (m3, .inl (cI, 32, .inl (fun x9 => nI (mi x9)))), (m4, .inl (cI, 448, .inl (fun x9 => nI (mp x9)))), (m5, .inl (cI, 32, .inl (fun x9 => zW (mb x9))))] (S := (Nat → Int64) × (Nat → BitVec 32) × BitVec 32) (fun u => none) (fun u => (∀ g k, g < 32 → k < 448 → mo u.1 g k = if g = f ∧ a ≤ k ∧ k < a + 8 then oc v (k - a) else mo mw g k) ∧ (∀ g q, (u.2.1 g).getLsbD q = ((mb g).getLsbD q || decide (g = f ∧ (q = a / 32 ∨ q = (a + 7) / 32)))) ∧ (∀ g, u.2.2.getLsbD g = (mc.getLsbD g || decide (g = f)))) (fun u => [(m0, .inr (4, [.ref m1, .ref m2, .ref m3, .ref m4, .ref m5, .int (zW u.2.2)])), (m1, .inl (cI, 32, .inl (fun x9 => zI ((va_up ms f (if ms f < (a : Int) + 8 then (a : Int) + 8 else ms f)) x9)))), (m2, .inl (cJ, 1792, .inr (.inl u.1))), (m3, .inl (cI, 32, .inl (fun x9 => nI (mi x9)))), (m4, .inl (cI, 448, .inl (fun x9 => nI (mp x9)))), (m5, .inl (cI, 32, .inl (fun x9 => zW (u.2.1 x9))))]) := by
  refine zC_of (by decide) (Nat.le_of_ble_eq_true rfl) ?_
  intro prg env s mth below meth cde A ls hE hrt9 hlocks hnm hZ hl
  have hx := hE.1
  have hb := hE.2.1
  have hl : lv_has ls 9 [(0, .ref m0), (1, .int (nI f)), (2, .int (nI a)), (3, .long v)] := hl
  have hmf := hms f hf
  refine lv_iload_n hx hb dX4_overwrite_0 rfl (lv_at hl 1 rfl) ?_
  refine z_kN (As := [.int (nI f)]) (rest := []) hE hZ (c_X6_isFile l D cI cJ cZ cII cZZ  ((f : Nat) : Int) (nI f) (by first | assumption | omega) (zI_n _)) lL_X6_isFile lC_X4_41 [] [0, 1, 2, 3, 4, 5] [0, 1, 2, 3, 4, 5] [(m0, .inr (4, [.ref m1, .ref m2, .ref m3, .ref m4, .ref m5, .int (zW mc)])), (m1, .inl (cI, 32, .inl (fun x9 => zI (ms x9)))), (m2, .inl (cJ, 1792, .inr (.inl mw))), (m3, .inl (cI, 32, .inl (fun x9 => nI (mi x9)))), (m4, .inl (cI, 448, .inl (fun x9 => nI (mp x9)))), (m5, .inl (cI, 32, .inl (fun x9 => zW (mb x9))))] (fun u => [(m0, .inr (4, [.ref m1, .ref m2, .ref m3, .ref m4, .ref m5, .int (zW mc)])), (m1, .inl (cI, 32, .inl (fun x9 => zI (ms x9)))), (m2, .inl (cJ, 1792, .inr (.inl mw))), (m3, .inl (cI, 32, .inl (fun x9 => nI (mi x9)))), (m4, .inl (cI, 448, .inl (fun x9 => nI (mp x9)))), (m5, .inl (cI, 32, .inl (fun x9 => zW (mb x9))))]) rfl rfl (fun _ => rfl) (by decide) ⟨by decide, by decide⟩ 0 0 rfl rfl ⟨by decide, by decide⟩ rfl hl.1 rfl (Nat.le_of_ble_eq_true rfl) dX4_overwrite_1 (fun u H locs hq9 hZ => ?_)
  have hZ : zS D A s.heap H locs [(m0, .inr (4, [.ref m1, .ref m2, .ref m3, .ref m4, .ref m5, .int (zW mc)])), (m1, .inl (cI, 32, .inl (fun x9 => zI (ms x9)))), (m2, .inl (cJ, 1792, .inr (.inl mw))), (m3, .inl (cI, 32, .inl (fun x9 => nI (mi x9)))), (m4, .inl (cI, 448, .inl (fun x9 => nI (mp x9)))), (m5, .inl (cI, 32, .inl (fun x9 => zW (mb x9))))] := hZ
  refine W.eq (g2 := F0 mth 4 ls [.int (zB (decide (0 ≤ ((f : Nat) : Int)) && decide (((f : Nat) : Int) < 32)))]) rfl ?_
  refine z_if_eq hx hb 18 dX4_overwrite_4 (by decide) (C := (decide (0 ≤ ((f : Nat) : Int)) && decide (((f : Nat) : Int) < 32)) = false) (zB_0 _) (fun h4 => ?_) (fun h4 => ?_)
  · skip
    exfalso
    simp at h4; omega
  · skip
    refine lv_iload_n hx hb dX4_overwrite_7 rfl (lv_at hl 2 rfl) ?_
    refine z_if_lt hx hb 18 dX4_overwrite_8 (by decide) (C := False) (nI_lt0 (by omega)) (fun h8 => ?_) (fun h8 => ?_)
    · skip
      exact h8.elim
    · skip
      refine lv_iload_n hx hb dX4_overwrite_11 rfl (lv_at hl 2 rfl) ?_
      refine z_sipush hx hb (nI 440) dX4_overwrite_12 (by decide) ?_
      refine z_icmp_le hx hb 19 dX4_overwrite_15 (by decide) (C := a ≤ 440) (nIle (by omega) (by omega)) (fun h15 => ?_) (fun h15 => ?_)
      · skip
        refine lv_aload_n hx hb dX4_overwrite_19 rfl (lv_at hl 0 rfl) ?_
        refine z_get hE fF_X4_0 hZ 0 rfl (.ref m1) rfl dX4_overwrite_20 ?_
        refine lv_iload_n hx hb dX4_overwrite_23 rfl (lv_at hl 1 rfl) ?_
        refine lv_aload_n hx hb dX4_overwrite_24 rfl (lv_at hl 0 rfl) ?_
        refine z_get hE fF_X4_0 hZ 0 rfl (.ref m1) rfl dX4_overwrite_25 ?_
        refine lv_iload_n hx hb dX4_overwrite_28 rfl (lv_at hl 1 rfl) ?_
        refine z_iald hE hZ 1 0 rfl rfl (by decide) (by omega) dX4_overwrite_29 ?_
        refine lv_iload_n hx hb dX4_overwrite_30 rfl (lv_at hl 2 rfl) ?_
        refine z_bipush hx hb (nI 8) dX4_overwrite_31 (by decide) ?_
        refine z_iadd hx hb dX4_overwrite_33 (z := nI (a + 8)) (nI_add _ _) ?_
        refine z_mmax (rest := [.int (nI f), .ref m1]) hE hl.1 lC_X4_53 (Nat.le_of_ble_eq_true rfl) (Nat.le_of_ble_eq_true rfl) (Nat.le_of_ble_eq_true rfl) (Nat.le_of_ble_eq_true rfl) (ms f) ((a + 8 : Nat) : Int) rfl (zI_n _) ⟨by omega, by omega⟩ ⟨by omega, by omega⟩ dX4_overwrite_34 ?_
        refine z_top (show zI (if ms f < ((a + 8 : Nat) : Int) then ((a + 8 : Nat) : Int) else ms f) = zI (if ms f < (a : Int) + 8 then (a : Int) + 8 else ms f) from by simp only [Int.natCast_add]; rfl) ?_
        refine z_iast zI ms (if ms f < (a : Int) + 8 then (a : Int) + 8 else ms f) hE hZ 1 0 rfl rfl (by decide) (by omega) dX4_overwrite_37 [(m0, .inr (4, [.ref m1, .ref m2, .ref m3, .ref m4, .ref m5, .int (zW mc)])), (m1, .inl (cI, 32, .inl (fun x9 => zI ((va_up ms f (if ms f < (a : Int) + 8 then (a : Int) + 8 else ms f)) x9)))), (m2, .inl (cJ, 1792, .inr (.inl mw))), (m3, .inl (cI, 32, .inl (fun x9 => nI (mi x9)))), (m4, .inl (cI, 448, .inl (fun x9 => nI (mp x9)))), (m5, .inl (cI, 32, .inl (fun x9 => zW (mb x9))))] rfl (fun H locs hZ => ?_)
        refine lv_iload_n hx hb dX4_overwrite_38 rfl (lv_at hl 1 rfl) ?_
        refine z_bipush hx hb (nI 56) dX4_overwrite_39 (by decide) ?_
        refine z_imul hx hb dX4_overwrite_41 (z := nI (f * 56)) (pk_mul _ _) ?_
        refine lv_iload_n hx hb dX4_overwrite_42 rfl (lv_at hl 2 rfl) ?_
        refine z_bipush hx hb (nI 8) dX4_overwrite_43 (by decide) ?_
        refine z_idiv hx hb dX4_overwrite_45 (by omega) (by omega) (by omega) ?_
        refine z_iadd hx hb dX4_overwrite_46 (z := nI ((f * 56) + (a / 8))) (nI_add _ _) ?_
        refine lv_istore (lv' := [(5, .int (nI ((f * 56) + (a / 8)))), (0, .ref m0), (1, .int (nI f)), (2, .int (nI a)), (3, .long v)]) hx hb dX4_overwrite_47 hl (by decide) rfl (fun ls hl => ?_)
        refine z_bipush hx hb (nI 8) dX4_overwrite_49 (by decide) ?_
        refine lv_iload_n hx hb dX4_overwrite_51 rfl (lv_at hl 3 rfl) ?_
        refine z_bipush hx hb (nI 8) dX4_overwrite_52 (by decide) ?_
        refine z_irem hx hb dX4_overwrite_54 (by omega) (by omega) (by omega) ?_
        refine z_imul hx hb dX4_overwrite_55 (z := nI (8 * (a % 8))) (pk_mul _ _) ?_
        refine lv_istore (lv' := [(6, .int (nI (8 * (a % 8)))), (5, .int (nI ((f * 56) + (a / 8)))), (0, .ref m0), (1, .int (nI f)), (2, .int (nI a)), (3, .long v)]) hx hb dX4_overwrite_56 hl (by decide) rfl (fun ls hl => ?_)
        refine lv_ldc2 (v := -1) hx hb hE.2.2.2.1 (hE.2.2.2.2.1 _ mg817) dX4_overwrite_58 ?_
        refine lv_iload hx hb dX4_overwrite_61 (lv_at hl 0 rfl) ?_
        refine lv_lushr (v := ((-1 : Int64).toUInt64 >>> ((nI (8 * (a % 8))).toInt64.toUInt64 &&& Int64.toUInt64 63)).toInt64) hx hb dX4_overwrite_63 rfl ?_
        refine lv_lstore (lv' := [(7, .long (((-1 : Int64).toUInt64 >>> ((nI (8 * (a % 8))).toInt64.toUInt64 &&& Int64.toUInt64 63)).toInt64)), (6, .int (nI (8 * (a % 8)))), (5, .int (nI ((f * 56) + (a / 8)))), (0, .ref m0), (1, .int (nI f)), (2, .int (nI a)), (3, .long v)]) hx hb dX4_overwrite_64 hl (by decide) rfl (fun ls hl => ?_)
        refine lv_aload_n hx hb dX4_overwrite_66 rfl (lv_at hl 3 rfl) ?_
        refine z_get hE fF_X4_1 hZ 0 rfl (.ref m2) rfl dX4_overwrite_67 ?_
        refine lv_iload hx hb dX4_overwrite_70 (lv_at hl 2 rfl) ?_
        refine lv_aload_n hx hb dX4_overwrite_72 rfl (lv_at hl 3 rfl) ?_
        refine z_get hE fF_X4_1 hZ 0 rfl (.ref m2) rfl dX4_overwrite_73 ?_
        refine lv_iload hx hb dX4_overwrite_76 (lv_at hl 2 rfl) ?_
        refine z_lald hE hZ 2 1 rfl rfl (by decide) (by omega) dX4_overwrite_78 ?_
        refine lv_lload hx hb dX4_overwrite_79 (lv_at hl 0 rfl) ?_
        refine lv_ldc2 (v := -1) hx hb hE.2.2.2.1 (hE.2.2.2.2.1 _ mg817) dX4_overwrite_81 ?_
        refine lv_lxor hx hb dX4_overwrite_84 ?_
        refine lv_land hx hb dX4_overwrite_85 ?_
        refine lv_lload_n hx hb dX4_overwrite_86 rfl (lv_at hl 6 rfl) ?_
        refine lv_iload hx hb dX4_overwrite_87 (lv_at hl 1 rfl) ?_
        refine lv_lushr (v := (v.toUInt64 >>> ((nI (8 * (a % 8))).toInt64.toUInt64 &&& Int64.toUInt64 63)).toInt64) hx hb dX4_overwrite_89 rfl ?_
        refine lv_lor hx hb dX4_overwrite_90 ?_
        refine z_topl (show ((mw ((f * 56) + (a / 8))) &&& ((((-1 : Int64).toUInt64 >>> ((nI (8 * (a % 8))).toInt64.toUInt64 &&& Int64.toUInt64 63)).toInt64) ^^^ (-1 : Int64))) ||| ((v.toUInt64 >>> ((nI (8 * (a % 8))).toInt64.toUInt64 &&& Int64.toUInt64 63)).toInt64) = wLo (mw (f * 56 + a / 8)) v (a % 8) from rfl) ?_
        refine z_last mw (wLo (mw (f * 56 + a / 8)) v (a % 8)) hE hZ 2 1 rfl rfl (by decide) (by omega) dX4_overwrite_91 [(m0, .inr (4, [.ref m1, .ref m2, .ref m3, .ref m4, .ref m5, .int (zW mc)])), (m1, .inl (cI, 32, .inl (fun x9 => zI ((va_up ms f (if ms f < (a : Int) + 8 then (a : Int) + 8 else ms f)) x9)))), (m2, .inl (cJ, 1792, .inr (.inl (va_up mw ((f * 56) + (a / 8)) (wLo (mw (f * 56 + a / 8)) v (a % 8)))))), (m3, .inl (cI, 32, .inl (fun x9 => nI (mi x9)))), (m4, .inl (cI, 448, .inl (fun x9 => nI (mp x9)))), (m5, .inl (cI, 32, .inl (fun x9 => zW (mb x9))))] rfl (fun H locs hZ => ?_)
        refine z_join (σ := (Nat → Int64)) (fun w H locs ls => (∀ g k, g < 32 → k < 448 → mo w g k = if g = f ∧ a ≤ k ∧ k < a + 8 then oc v (k - a) else mo mw g k) ∧ zS D A s.heap H locs [(m0, .inr (4, [.ref m1, .ref m2, .ref m3, .ref m4, .ref m5, .int (zW mc)])), (m1, .inl (cI, 32, .inl (fun x9 => zI ((va_up ms f (if ms f < (a : Int) + 8 then (a : Int) + 8 else ms f)) x9)))), (m2, .inl (cJ, 1792, .inr (.inl w))), (m3, .inl (cI, 32, .inl (fun x9 => nI (mi x9)))), (m4, .inl (cI, 448, .inl (fun x9 => nI (mp x9)))), (m5, .inl (cI, 32, .inl (fun x9 => zW (mb x9))))] ∧ lv_has ls 9 [(0, .ref m0), (1, .int (nI f)), (2, .int (nI a)), (3, .long v), (5, .int (nI ((f * 56) + (a / 8)))), (6, .int (nI (8 * (a % 8)))), (7, .long (((-1 : Int64).toUInt64 >>> ((nI (8 * (a % 8))).toInt64.toUInt64 &&& Int64.toUInt64 63)).toInt64))]) 126 [] _ ?_ (fun jn126 => ?_)
        · intro x H locs ls hI
          obtain ⟨w, hx9⟩ : ∃ z, z = x := ⟨x, rfl⟩
          subst hx9
          obtain ⟨hw, hZ, hl⟩ := hI
          refine lv_aload_n hx hb dX4_overwrite_126 rfl (lv_at hl 0 rfl) ?_
          refine z_get hE fF_X4_4 hZ 0 rfl (.ref m5) rfl dX4_overwrite_127 ?_
          refine lv_iload_n hx hb dX4_overwrite_130 rfl (lv_at hl 1 rfl) ?_
          refine lv_dup2_11 hx hb dX4_overwrite_131 rfl rfl ?_
          refine z_iald hE hZ 5 0 rfl rfl (by decide) (by omega) dX4_overwrite_132 ?_
          refine z_iconst hx hb (nI 1) dX4_overwrite_133 (by decide) ?_
          refine lv_iload_n hx hb dX4_overwrite_134 rfl (lv_at hl 2 rfl) ?_
          refine z_bipush hx hb (nI 32) dX4_overwrite_135 (by decide) ?_
          refine z_idiv hx hb dX4_overwrite_137 (by omega) (by omega) (by omega) ?_
          refine lv_ishl hx hb dX4_overwrite_138 ?_
          refine z_top (show (nI 1) <<< ((nI (a / 32)) &&& 31) = zW (BitVec.twoPow 32 (a / 32)) from sh1 _ (by omega)) ?_
          refine lv_ior hx hb dX4_overwrite_139 ?_
          refine z_top (show (zW (mb f)) ||| (zW (BitVec.twoPow 32 (a / 32))) = zW (mb f ||| BitVec.twoPow 32 (a / 32)) from rfl) ?_
          refine z_iast zW mb (mb f ||| BitVec.twoPow 32 (a / 32)) hE hZ 5 0 rfl rfl (by decide) (by omega) dX4_overwrite_140 [(m0, .inr (4, [.ref m1, .ref m2, .ref m3, .ref m4, .ref m5, .int (zW mc)])), (m1, .inl (cI, 32, .inl (fun x9 => zI ((va_up ms f (if ms f < (a : Int) + 8 then (a : Int) + 8 else ms f)) x9)))), (m2, .inl (cJ, 1792, .inr (.inl w))), (m3, .inl (cI, 32, .inl (fun x9 => nI (mi x9)))), (m4, .inl (cI, 448, .inl (fun x9 => nI (mp x9)))), (m5, .inl (cI, 32, .inl (fun x9 => zW ((va_up mb f (mb f ||| BitVec.twoPow 32 (a / 32))) x9))))] rfl (fun H locs hZ => ?_)
          refine lv_aload_n hx hb dX4_overwrite_141 rfl (lv_at hl 0 rfl) ?_
          refine z_get hE fF_X4_4 hZ 0 rfl (.ref m5) rfl dX4_overwrite_142 ?_
          refine lv_iload_n hx hb dX4_overwrite_145 rfl (lv_at hl 1 rfl) ?_
          refine lv_dup2_11 hx hb dX4_overwrite_146 rfl rfl ?_
          refine z_iald hE hZ 5 0 rfl rfl (by decide) (by omega) dX4_overwrite_147 ?_
          refine z_iconst hx hb (nI 1) dX4_overwrite_148 (by decide) ?_
          refine lv_iload_n hx hb dX4_overwrite_149 rfl (lv_at hl 2 rfl) ?_
          refine z_bipush hx hb (nI 8) dX4_overwrite_150 (by decide) ?_
          refine z_iadd hx hb dX4_overwrite_152 (z := nI (a + 8)) (nI_add _ _) ?_
          refine z_iconst hx hb (nI 1) dX4_overwrite_153 (by decide) ?_
          refine z_isub hx hb dX4_overwrite_154 (z := zI (((a + 8 : Nat) : Int) - 1)) (by (try simp only [zI_n]); exact zI_sub _ _) ?_
          refine z_top (show zI (((a + 8 : Nat) : Int) - 1) = nI (a + 7) from by rw [zI_n]; congr 1; omega) ?_
          refine z_bipush hx hb (nI 32) dX4_overwrite_155 (by decide) ?_
          refine z_idiv hx hb dX4_overwrite_157 (by omega) (by omega) (by omega) ?_
          refine lv_ishl hx hb dX4_overwrite_158 ?_
          refine z_top (show (nI 1) <<< ((nI ((a + 7) / 32)) &&& 31) = zW (BitVec.twoPow 32 ((a + 7) / 32)) from sh1 _ (by omega)) ?_
          refine lv_ior hx hb dX4_overwrite_159 ?_
          refine z_top (show (zW ((va_up mb f (mb f ||| BitVec.twoPow 32 (a / 32))) f)) ||| (zW (BitVec.twoPow 32 ((a + 7) / 32))) = zW (va_up mb f (mb f ||| BitVec.twoPow 32 (a / 32)) f ||| BitVec.twoPow 32 ((a + 7) / 32)) from rfl) ?_
          refine z_iast zW (va_up mb f (mb f ||| BitVec.twoPow 32 (a / 32))) (va_up mb f (mb f ||| BitVec.twoPow 32 (a / 32)) f ||| BitVec.twoPow 32 ((a + 7) / 32)) hE hZ 5 0 rfl rfl (by decide) (by omega) dX4_overwrite_160 [(m0, .inr (4, [.ref m1, .ref m2, .ref m3, .ref m4, .ref m5, .int (zW mc)])), (m1, .inl (cI, 32, .inl (fun x9 => zI ((va_up ms f (if ms f < (a : Int) + 8 then (a : Int) + 8 else ms f)) x9)))), (m2, .inl (cJ, 1792, .inr (.inl w))), (m3, .inl (cI, 32, .inl (fun x9 => nI (mi x9)))), (m4, .inl (cI, 448, .inl (fun x9 => nI (mp x9)))), (m5, .inl (cI, 32, .inl (fun x9 => zW ((va_up (va_up mb f (mb f ||| BitVec.twoPow 32 (a / 32))) f (va_up mb f (mb f ||| BitVec.twoPow 32 (a / 32)) f ||| BitVec.twoPow 32 ((a + 7) / 32))) x9))))] rfl (fun H locs hZ => ?_)
          refine lv_aload_n hx hb dX4_overwrite_161 rfl (lv_at hl 0 rfl) ?_
          refine lv_dup hx hb dX4_overwrite_162 rfl ?_
          refine z_get hE fF_X4_5 hZ 0 rfl (.int (zW mc)) rfl dX4_overwrite_163 ?_
          refine z_iconst hx hb (nI 1) dX4_overwrite_166 (by decide) ?_
          refine lv_iload_n hx hb dX4_overwrite_167 rfl (lv_at hl 1 rfl) ?_
          refine lv_ishl hx hb dX4_overwrite_168 ?_
          refine z_top (show (nI 1) <<< ((nI f) &&& 31) = zW (BitVec.twoPow 32 f) from sh1 _ hf) ?_
          refine lv_ior hx hb dX4_overwrite_169 ?_
          refine z_top (show (zW mc) ||| (zW (BitVec.twoPow 32 f)) = zW (mc ||| BitVec.twoPow 32 f) from rfl) ?_
          refine z_put hE fF_X4_5 fP_X4 rfl hZ 0 rfl rfl rfl (Nat.le_of_ble_eq_true rfl) dX4_overwrite_170 [(m0, .inr (4, [.ref m1, .ref m2, .ref m3, .ref m4, .ref m5, .int (zW (mc ||| BitVec.twoPow 32 f))])), (m1, .inl (cI, 32, .inl (fun x9 => zI ((va_up ms f (if ms f < (a : Int) + 8 then (a : Int) + 8 else ms f)) x9)))), (m2, .inl (cJ, 1792, .inr (.inl w))), (m3, .inl (cI, 32, .inl (fun x9 => nI (mi x9)))), (m4, .inl (cI, 448, .inl (fun x9 => nI (mp x9)))), (m5, .inl (cI, 32, .inl (fun x9 => zW ((va_up (va_up mb f (mb f ||| BitVec.twoPow 32 (a / 32))) f (va_up mb f (mb f ||| BitVec.twoPow 32 (a / 32)) f ||| BitVec.twoPow 32 ((a + 7) / 32))) x9))))] rfl (fun H locs hZ => ?_)
          exact z_vret hE hrt9 hlocks hZ (w, va_up (va_up mb f (mb f ||| BitVec.twoPow 32 (a / 32))) f (va_up mb f (mb f ||| BitVec.twoPow 32 (a / 32)) f ||| BitVec.twoPow 32 ((a + 7) / 32)), mc ||| BitVec.twoPow 32 f) rfl (show (∀ g k, g < 32 → k < 448 → mo w g k = if g = f ∧ a ≤ k ∧ k < a + 8 then oc v (k - a) else mo mw g k) ∧ (∀ g q, ((va_up (va_up mb f (mb f ||| BitVec.twoPow 32 (a / 32))) f (va_up mb f (mb f ||| BitVec.twoPow 32 (a / 32)) f ||| BitVec.twoPow 32 ((a + 7) / 32))) g).getLsbD q = ((mb g).getLsbD q || decide (g = f ∧ (q = a / 32 ∨ q = (a + 7) / 32)))) ∧ (∀ g, (mc ||| BitVec.twoPow 32 f).getLsbD g = (mc.getLsbD g || decide (g = f))) from ⟨hw, mb_two ha, mc_or mc hf⟩) rfl dX4_overwrite_173 (Nat.le_of_ble_eq_true rfl) (Nat.le_of_ble_eq_true rfl)
        · skip
          refine lv_iload hx hb dX4_overwrite_92 (lv_at hl 1 rfl) ?_
          refine z_if_eq hx hb 126 dX4_overwrite_94 (by decide) (C := 8 * (a % 8) = 0) (nI_eq0 (by omega)) (fun h94 => ?_) (fun h94 => ?_)
          · skip
            exact jn126 (va_up mw ((f * 56) + (a / 8)) (wLo (mw (f * 56 + a / 8)) v (a % 8))) _ _ _ ⟨by first | (have z : 8 * (a % 8) = 0 := h94; exact ow_one hf ha z) | (have z : ¬ 8 * (a % 8) = 0 := h94; exact ow_two hf ha z), hZ, lv_sub hl [3, 4, 5, 6, 2, 1, 0] (by first | rfl | (simp only [lv_pick]; rfl))⟩
          · skip
            refine lv_aload_n hx hb dX4_overwrite_97 rfl (lv_at hl 3 rfl) ?_
            refine z_get hE fF_X4_1 hZ 0 rfl (.ref m2) rfl dX4_overwrite_98 ?_
            refine lv_iload hx hb dX4_overwrite_101 (lv_at hl 2 rfl) ?_
            refine z_iconst hx hb (nI 1) dX4_overwrite_103 (by decide) ?_
            refine z_iadd hx hb dX4_overwrite_104 (z := nI (((f * 56) + (a / 8)) + 1)) (nI_add _ _) ?_
            refine lv_aload_n hx hb dX4_overwrite_105 rfl (lv_at hl 3 rfl) ?_
            refine z_get hE fF_X4_1 hZ 0 rfl (.ref m2) rfl dX4_overwrite_106 ?_
            refine lv_iload hx hb dX4_overwrite_109 (lv_at hl 2 rfl) ?_
            refine z_iconst hx hb (nI 1) dX4_overwrite_111 (by decide) ?_
            refine z_iadd hx hb dX4_overwrite_112 (z := nI (((f * 56) + (a / 8)) + 1)) (nI_add _ _) ?_
            refine z_lald hE hZ 2 1 rfl rfl (by decide) (by omega) dX4_overwrite_113 ?_
            refine lv_lload hx hb dX4_overwrite_114 (lv_at hl 0 rfl) ?_
            refine lv_land hx hb dX4_overwrite_116 ?_
            refine lv_lload_n hx hb dX4_overwrite_117 rfl (lv_at hl 6 rfl) ?_
            refine z_bipush hx hb (nI 64) dX4_overwrite_118 (by decide) ?_
            refine lv_iload hx hb dX4_overwrite_120 (lv_at hl 1 rfl) ?_
            refine z_isub hx hb dX4_overwrite_122 (z := nI (64 - (8 * (a % 8)))) (pk_sub (by omega)) ?_
            refine lv_lshl (v := v <<< ((nI (64 - (8 * (a % 8)))).toInt64 &&& 63)) hx hb dX4_overwrite_123 rfl ?_
            refine lv_lor hx hb dX4_overwrite_124 ?_
            refine z_topl (show (((va_up mw ((f * 56) + (a / 8)) (wLo (mw (f * 56 + a / 8)) v (a % 8))) (((f * 56) + (a / 8)) + 1)) &&& (((-1 : Int64).toUInt64 >>> ((nI (8 * (a % 8))).toInt64.toUInt64 &&& Int64.toUInt64 63)).toInt64)) ||| (v <<< ((nI (64 - (8 * (a % 8)))).toInt64 &&& 63)) = wHi (va_up mw (f * 56 + a / 8) (wLo (mw (f * 56 + a / 8)) v (a % 8)) (f * 56 + a / 8 + 1)) v (a % 8) from rfl) ?_
            refine z_last (va_up mw ((f * 56) + (a / 8)) (wLo (mw (f * 56 + a / 8)) v (a % 8))) (wHi (va_up mw (f * 56 + a / 8) (wLo (mw (f * 56 + a / 8)) v (a % 8)) (f * 56 + a / 8 + 1)) v (a % 8)) hE hZ 2 1 rfl rfl (by decide) (by omega) dX4_overwrite_125 [(m0, .inr (4, [.ref m1, .ref m2, .ref m3, .ref m4, .ref m5, .int (zW mc)])), (m1, .inl (cI, 32, .inl (fun x9 => zI ((va_up ms f (if ms f < (a : Int) + 8 then (a : Int) + 8 else ms f)) x9)))), (m2, .inl (cJ, 1792, .inr (.inl (va_up (va_up mw ((f * 56) + (a / 8)) (wLo (mw (f * 56 + a / 8)) v (a % 8))) (((f * 56) + (a / 8)) + 1) (wHi (va_up mw (f * 56 + a / 8) (wLo (mw (f * 56 + a / 8)) v (a % 8)) (f * 56 + a / 8 + 1)) v (a % 8)))))), (m3, .inl (cI, 32, .inl (fun x9 => nI (mi x9)))), (m4, .inl (cI, 448, .inl (fun x9 => nI (mp x9)))), (m5, .inl (cI, 32, .inl (fun x9 => zW (mb x9))))] rfl (fun H locs hZ => ?_)
            exact jn126 (va_up (va_up mw ((f * 56) + (a / 8)) (wLo (mw (f * 56 + a / 8)) v (a % 8))) (((f * 56) + (a / 8)) + 1) (wHi (va_up mw (f * 56 + a / 8) (wLo (mw (f * 56 + a / 8)) v (a % 8)) (f * 56 + a / 8 + 1)) v (a % 8))) _ _ _ ⟨by first | (have z : 8 * (a % 8) = 0 := h94; exact ow_one hf ha z) | (have z : ¬ 8 * (a % 8) = 0 := h94; exact ow_two hf ha z), hZ, lv_sub hl [3, 4, 5, 6, 2, 1, 0] (by first | rfl | (simp only [lv_pick]; rfl))⟩
      · skip
        exfalso
        omega
set_option maxHeartbeats 1000000 in
set_option maxRecDepth 100000 in
theorem c_X4_shorten (l : Launch) (D : va_G) (cI cJ cZ cII cZZ : ClassId) (m0 : Nat) (m1 : Nat) (m2 : Nat) (m3 : Nat) (m4 : Nat) (m5 : Nat) (ms : Nat → Int) (mw : Nat → Int64) (mi : Nat → Nat) (mp : Nat → Nat) (mb : Nat → BitVec 32) (mc : BitVec 32) (f : Nat) (n : Nat) (hf : f < 32) (hms : ∀ f, f < 32 → -1 ≤ ms f ∧ ms f ≤ 448) (hn : (n : Int) ≤ ms f) :
    zC l yX4_shorten cX4_shorten 3 none { frames := 2, cells := 0, slots := 0, locals := 41 } D (zT cI cJ cZ cII cZZ) [.ref m0, .int (nI f), .int (nI n)] [(m0, .inr (4, [.ref m1, .ref m2, .ref m3, .ref m4, .ref m5, .int (zW mc)])), (m1, .inl (cI, 32, .inl (fun x9 => zI (ms x9)))), (m2, .inl (cJ, 1792, .inr (.inl mw))), (m3, .inl (cI, 32, .inl (fun x9 => nI (mi x9)))), (m4, .inl (cI, 448, .inl (fun x9 => nI (mp x9)))), (m5, .inl (cI, 32, .inl (fun x9 => zW (mb x9))))] (S := (Nat → BitVec 32) × BitVec 32) (fun u => none) (fun u => (∀ g q, q < 32 → (u.1 g).getLsbD q = ((mb g).getLsbD q && (decide (g ≠ f) || decide (q < (n + 31) / 32)))) ∧ (∀ g, u.2.getLsbD g = (mc.getLsbD g || decide (g = f)))) (fun u => [(m0, .inr (4, [.ref m1, .ref m2, .ref m3, .ref m4, .ref m5, .int (zW u.2)])), (m1, .inl (cI, 32, .inl (fun x9 => zI ((va_up ms f (n : Int)) x9)))), (m2, .inl (cJ, 1792, .inr (.inl mw))), (m3, .inl (cI, 32, .inl (fun x9 => nI (mi x9)))), (m4, .inl (cI, 448, .inl (fun x9 => nI (mp x9)))), (m5, .inl (cI, 32, .inl (fun x9 => zW (u.1 x9))))]) := by
  refine zC_of (by decide) (Nat.le_of_ble_eq_true rfl) ?_
  intro prg env s mth below meth cde A ls hE hrt9 hlocks hnm hZ hl
  have hx := hE.1
  have hb := hE.2.1
  have hl : lv_has ls 3 [(0, .ref m0), (1, .int (nI f)), (2, .int (nI n))] := hl
  have hmf := hms f hf
  refine lv_iload_n hx hb dX4_shorten_0 rfl (lv_at hl 2 rfl) ?_
  refine z_if_lt hx hb 13 dX4_shorten_1 (by decide) (C := False) (nI_lt0 (by omega)) (fun h1 => ?_) (fun h1 => ?_)
  · skip
    exact h1.elim
  · skip
    refine lv_iload_n hx hb dX4_shorten_4 rfl (lv_at hl 2 rfl) ?_
    refine lv_aload_n hx hb dX4_shorten_5 rfl (lv_at hl 0 rfl) ?_
    refine lv_iload_n hx hb dX4_shorten_6 rfl (lv_at hl 1 rfl) ?_
    refine z_kV (As := [.int (nI f)]) (rest := [.int (nI n)]) hE hZ (c_X4_octetsOf l D cI cJ cZ cII cZZ m0 m1 m2 m3 m4 m5 ms mw mi mp mb mc f (by first | assumption | omega)) lL_X4_octetsOf lC_X4_45 rfl [0, 1, 2, 3, 4, 5] [] [0, 1, 2, 3, 4, 5] [] (fun u => [(m0, .inr (4, [.ref m1, .ref m2, .ref m3, .ref m4, .ref m5, .int (zW mc)])), (m1, .inl (cI, 32, .inl (fun x9 => zI (ms x9)))), (m2, .inl (cJ, 1792, .inr (.inl mw))), (m3, .inl (cI, 32, .inl (fun x9 => nI (mi x9)))), (m4, .inl (cI, 448, .inl (fun x9 => nI (mp x9)))), (m5, .inl (cI, 32, .inl (fun x9 => zW (mb x9))))]) 0 rfl rfl rfl (fun _ => rfl) (by decide) ⟨by decide, by decide⟩ 0 0 rfl rfl ⟨by decide, by decide⟩ rfl hl.1 rfl (Nat.le_of_ble_eq_true rfl) dX4_shorten_7 (fun u H locs hq9 hZ => ?_)
    have hZ : zS D A s.heap H locs [(m0, .inr (4, [.ref m1, .ref m2, .ref m3, .ref m4, .ref m5, .int (zW mc)])), (m1, .inl (cI, 32, .inl (fun x9 => zI (ms x9)))), (m2, .inl (cJ, 1792, .inr (.inl mw))), (m3, .inl (cI, 32, .inl (fun x9 => nI (mi x9)))), (m4, .inl (cI, 448, .inl (fun x9 => nI (mp x9)))), (m5, .inl (cI, 32, .inl (fun x9 => zW (mb x9))))] := hZ
    refine W.eq (g2 := F0 mth 10 ls [.int (zI (ms f)), .int (nI n)]) rfl ?_
    refine z_icmp_le hx hb 14 dX4_shorten_10 (by decide) (C := (((n : Nat) : Int) : Int) ≤ ms f) (by (try simp only [zI_n]); exact zI_le ⟨by omega, by omega⟩ ⟨by omega, by omega⟩) (fun h10 => ?_) (fun h10 => ?_)
    · skip
      refine lv_aload_n hx hb dX4_shorten_14 rfl (lv_at hl 0 rfl) ?_
      refine z_get hE fF_X4_0 hZ 0 rfl (.ref m1) rfl dX4_shorten_15 ?_
      refine lv_iload_n hx hb dX4_shorten_18 rfl (lv_at hl 1 rfl) ?_
      refine lv_iload_n hx hb dX4_shorten_19 rfl (lv_at hl 2 rfl) ?_
      refine z_top (show nI n = zI ((n : Nat) : Int) from zI_n _) ?_
      refine z_iast zI ms ((n : Nat) : Int) hE hZ 1 0 rfl rfl (by decide) (by omega) dX4_shorten_20 [(m0, .inr (4, [.ref m1, .ref m2, .ref m3, .ref m4, .ref m5, .int (zW mc)])), (m1, .inl (cI, 32, .inl (fun x9 => zI ((va_up ms f ((n : Nat) : Int)) x9)))), (m2, .inl (cJ, 1792, .inr (.inl mw))), (m3, .inl (cI, 32, .inl (fun x9 => nI (mi x9)))), (m4, .inl (cI, 448, .inl (fun x9 => nI (mp x9)))), (m5, .inl (cI, 32, .inl (fun x9 => zW (mb x9))))] rfl (fun H locs hZ => ?_)
      refine lv_aload_n hx hb dX4_shorten_21 rfl (lv_at hl 0 rfl) ?_
      refine z_get hE fF_X4_4 hZ 0 rfl (.ref m5) rfl dX4_shorten_22 ?_
      refine lv_iload_n hx hb dX4_shorten_25 rfl (lv_at hl 1 rfl) ?_
      refine lv_dup2_11 hx hb dX4_shorten_26 rfl rfl ?_
      refine z_iald hE hZ 5 0 rfl rfl (by decide) (by omega) dX4_shorten_27 ?_
      refine z_iconst hx hb (nI 1) dX4_shorten_28 (by decide) ?_
      refine lv_iload_n hx hb dX4_shorten_29 rfl (lv_at hl 2 rfl) ?_
      refine z_kN (As := [.int (nI n)]) (rest := [.int (nI 1), .int (zW (mb f)), .int (nI f), .ref m5]) hE hZ (c_X6_piecesOf l D cI cJ cZ cII cZZ  ((n : Nat) : Int) (nI n) (⟨by omega, by omega⟩) (zI_n _)) lL_X6_piecesOf lC_X4_61 [] [0, 1, 2, 3, 4, 5] [0, 1, 2, 3, 4, 5] [(m0, .inr (4, [.ref m1, .ref m2, .ref m3, .ref m4, .ref m5, .int (zW mc)])), (m1, .inl (cI, 32, .inl (fun x9 => zI ((va_up ms f ((n : Nat) : Int)) x9)))), (m2, .inl (cJ, 1792, .inr (.inl mw))), (m3, .inl (cI, 32, .inl (fun x9 => nI (mi x9)))), (m4, .inl (cI, 448, .inl (fun x9 => nI (mp x9)))), (m5, .inl (cI, 32, .inl (fun x9 => zW (mb x9))))] (fun u => [(m0, .inr (4, [.ref m1, .ref m2, .ref m3, .ref m4, .ref m5, .int (zW mc)])), (m1, .inl (cI, 32, .inl (fun x9 => zI ((va_up ms f ((n : Nat) : Int)) x9)))), (m2, .inl (cJ, 1792, .inr (.inl mw))), (m3, .inl (cI, 32, .inl (fun x9 => nI (mi x9)))), (m4, .inl (cI, 448, .inl (fun x9 => nI (mp x9)))), (m5, .inl (cI, 32, .inl (fun x9 => zW (mb x9))))]) rfl rfl (fun _ => rfl) (by decide) ⟨by decide, by decide⟩ 0 0 rfl rfl ⟨by decide, by decide⟩ rfl hl.1 rfl (Nat.le_of_ble_eq_true rfl) dX4_shorten_30 (fun u H locs hq9 hZ => ?_)
      have hZ : zS D A s.heap H locs [(m0, .inr (4, [.ref m1, .ref m2, .ref m3, .ref m4, .ref m5, .int (zW mc)])), (m1, .inl (cI, 32, .inl (fun x9 => zI ((va_up ms f ((n : Nat) : Int)) x9)))), (m2, .inl (cJ, 1792, .inr (.inl mw))), (m3, .inl (cI, 32, .inl (fun x9 => nI (mi x9)))), (m4, .inl (cI, 448, .inl (fun x9 => nI (mp x9)))), (m5, .inl (cI, 32, .inl (fun x9 => zW (mb x9))))] := hZ
      refine W.eq (g2 := F0 mth 33 ls [.int (nI ((((n : Nat) : Int) + 31).toNat / 32)), .int (nI 1), .int (zW (mb f)), .int (nI f), .ref m5]) rfl ?_
      refine z_top (show nI ((((n : Nat) : Int) + 31).toNat / 32) = nI ((n + 31) / 32) from rfl) ?_
      refine lv_ishl hx hb dX4_shorten_33 ?_
      refine z_top (show (nI 1) <<< ((nI ((n + 31) / 32)) &&& 31) = zW (BitVec.twoPow 32 ((n + 31) / 32)) from sh1 _ (by omega)) ?_
      refine z_iconst hx hb (nI 1) dX4_shorten_34 (by decide) ?_
      refine z_isub hx hb dX4_shorten_35 (z := (zW (BitVec.twoPow 32 ((n + 31) / 32))) - (nI 1)) (rfl) ?_
      refine z_top (show (zW (BitVec.twoPow 32 ((n + 31) / 32))) - (nI 1) = zW (BitVec.twoPow 32 ((n + 31) / 32) - 1#32) from rfl) ?_
      refine lv_iand hx hb dX4_shorten_36 ?_
      refine z_top (show (zW (mb f)) &&& (zW (BitVec.twoPow 32 ((n + 31) / 32) - 1#32)) = zW (mb f &&& (BitVec.twoPow 32 ((n + 31) / 32) - 1#32)) from rfl) ?_
      refine z_iast zW mb (mb f &&& (BitVec.twoPow 32 ((n + 31) / 32) - 1#32)) hE hZ 5 0 rfl rfl (by decide) (by omega) dX4_shorten_37 [(m0, .inr (4, [.ref m1, .ref m2, .ref m3, .ref m4, .ref m5, .int (zW mc)])), (m1, .inl (cI, 32, .inl (fun x9 => zI ((va_up ms f ((n : Nat) : Int)) x9)))), (m2, .inl (cJ, 1792, .inr (.inl mw))), (m3, .inl (cI, 32, .inl (fun x9 => nI (mi x9)))), (m4, .inl (cI, 448, .inl (fun x9 => nI (mp x9)))), (m5, .inl (cI, 32, .inl (fun x9 => zW ((va_up mb f (mb f &&& (BitVec.twoPow 32 ((n + 31) / 32) - 1#32))) x9))))] rfl (fun H locs hZ => ?_)
      refine lv_aload_n hx hb dX4_shorten_38 rfl (lv_at hl 0 rfl) ?_
      refine lv_dup hx hb dX4_shorten_39 rfl ?_
      refine z_get hE fF_X4_5 hZ 0 rfl (.int (zW mc)) rfl dX4_shorten_40 ?_
      refine z_iconst hx hb (nI 1) dX4_shorten_43 (by decide) ?_
      refine lv_iload_n hx hb dX4_shorten_44 rfl (lv_at hl 1 rfl) ?_
      refine lv_ishl hx hb dX4_shorten_45 ?_
      refine z_top (show (nI 1) <<< ((nI f) &&& 31) = zW (BitVec.twoPow 32 f) from sh1 _ hf) ?_
      refine lv_ior hx hb dX4_shorten_46 ?_
      refine z_top (show (zW mc) ||| (zW (BitVec.twoPow 32 f)) = zW (mc ||| BitVec.twoPow 32 f) from rfl) ?_
      refine z_put hE fF_X4_5 fP_X4 rfl hZ 0 rfl rfl rfl (Nat.le_of_ble_eq_true rfl) dX4_shorten_47 [(m0, .inr (4, [.ref m1, .ref m2, .ref m3, .ref m4, .ref m5, .int (zW (mc ||| BitVec.twoPow 32 f))])), (m1, .inl (cI, 32, .inl (fun x9 => zI ((va_up ms f ((n : Nat) : Int)) x9)))), (m2, .inl (cJ, 1792, .inr (.inl mw))), (m3, .inl (cI, 32, .inl (fun x9 => nI (mi x9)))), (m4, .inl (cI, 448, .inl (fun x9 => nI (mp x9)))), (m5, .inl (cI, 32, .inl (fun x9 => zW ((va_up mb f (mb f &&& (BitVec.twoPow 32 ((n + 31) / 32) - 1#32))) x9))))] rfl (fun H locs hZ => ?_)
      exact z_vret hE hrt9 hlocks hZ (va_up mb f (mb f &&& (BitVec.twoPow 32 ((n + 31) / 32) - 1#32)), mc ||| BitVec.twoPow 32 f) rfl (show (∀ g q, q < 32 → ((va_up mb f (mb f &&& (BitVec.twoPow 32 ((n + 31) / 32) - 1#32))) g).getLsbD q = ((mb g).getLsbD q && (decide (g ≠ f) || decide (q < (n + 31) / 32)))) ∧ (∀ g, (mc ||| BitVec.twoPow 32 f).getLsbD g = (mc.getLsbD g || decide (g = f))) from ⟨mb_cut (by omega), mc_or mc hf⟩) rfl dX4_shorten_50 (Nat.le_of_ble_eq_true rfl) (Nat.le_of_ble_eq_true rfl)
    · skip
      exfalso
      omega
set_option maxHeartbeats 1000000 in
set_option maxRecDepth 100000 in
theorem c_X4_erase (l : Launch) (D : va_G) (cI cJ cZ cII cZZ : ClassId) (m0 : Nat) (m1 : Nat) (m2 : Nat) (m3 : Nat) (m4 : Nat) (m5 : Nat) (ms : Nat → Int) (mw : Nat → Int64) (mi : Nat → Nat) (mp : Nat → Nat) (mb : Nat → BitVec 32) (mc : BitVec 32) (f : Nat) (hf : f < 32) :
    zC l yX4_erase cX4_erase 2 none { frames := 1, cells := 0, slots := 0, locals := 20 } D (zT cI cJ cZ cII cZZ) [.ref m0, .int (nI f)] [(m0, .inr (4, [.ref m1, .ref m2, .ref m3, .ref m4, .ref m5, .int (zW mc)])), (m1, .inl (cI, 32, .inl (fun x9 => zI (ms x9)))), (m2, .inl (cJ, 1792, .inr (.inl mw))), (m3, .inl (cI, 32, .inl (fun x9 => nI (mi x9)))), (m4, .inl (cI, 448, .inl (fun x9 => nI (mp x9)))), (m5, .inl (cI, 32, .inl (fun x9 => zW (mb x9))))] (S := BitVec 32) (fun u => none) (fun u => (∀ g, u.getLsbD g = (mc.getLsbD g || decide (g = f)))) (fun u => [(m0, .inr (4, [.ref m1, .ref m2, .ref m3, .ref m4, .ref m5, .int (zW u)])), (m1, .inl (cI, 32, .inl (fun x9 => zI ((va_up ms f (-1)) x9)))), (m2, .inl (cJ, 1792, .inr (.inl mw))), (m3, .inl (cI, 32, .inl (fun x9 => nI (mi x9)))), (m4, .inl (cI, 448, .inl (fun x9 => nI (mp x9)))), (m5, .inl (cI, 32, .inl (fun x9 => zW ((va_up mb f 0#32) x9))))]) := by
  refine zC_of (by decide) (Nat.le_of_ble_eq_true rfl) ?_
  intro prg env s mth below meth cde A ls hE hrt9 hlocks hnm hZ hl
  have hx := hE.1
  have hb := hE.2.1
  have hl : lv_has ls 2 [(0, .ref m0), (1, .int (nI f))] := hl
  refine lv_iload_n hx hb dX4_erase_0 rfl (lv_at hl 1 rfl) ?_
  refine z_kN (As := [.int (nI f)]) (rest := []) hE hZ (c_X6_isFile l D cI cJ cZ cII cZZ  ((f : Nat) : Int) (nI f) (by first | assumption | omega) (zI_n _)) lL_X6_isFile lC_X4_41 [] [0, 1, 2, 3, 4, 5] [0, 1, 2, 3, 4, 5] [(m0, .inr (4, [.ref m1, .ref m2, .ref m3, .ref m4, .ref m5, .int (zW mc)])), (m1, .inl (cI, 32, .inl (fun x9 => zI (ms x9)))), (m2, .inl (cJ, 1792, .inr (.inl mw))), (m3, .inl (cI, 32, .inl (fun x9 => nI (mi x9)))), (m4, .inl (cI, 448, .inl (fun x9 => nI (mp x9)))), (m5, .inl (cI, 32, .inl (fun x9 => zW (mb x9))))] (fun u => [(m0, .inr (4, [.ref m1, .ref m2, .ref m3, .ref m4, .ref m5, .int (zW mc)])), (m1, .inl (cI, 32, .inl (fun x9 => zI (ms x9)))), (m2, .inl (cJ, 1792, .inr (.inl mw))), (m3, .inl (cI, 32, .inl (fun x9 => nI (mi x9)))), (m4, .inl (cI, 448, .inl (fun x9 => nI (mp x9)))), (m5, .inl (cI, 32, .inl (fun x9 => zW (mb x9))))]) rfl rfl (fun _ => rfl) (by decide) ⟨by decide, by decide⟩ 0 0 rfl rfl ⟨by decide, by decide⟩ rfl hl.1 rfl (Nat.le_of_ble_eq_true rfl) dX4_erase_1 (fun u H locs hq9 hZ => ?_)
  have hZ : zS D A s.heap H locs [(m0, .inr (4, [.ref m1, .ref m2, .ref m3, .ref m4, .ref m5, .int (zW mc)])), (m1, .inl (cI, 32, .inl (fun x9 => zI (ms x9)))), (m2, .inl (cJ, 1792, .inr (.inl mw))), (m3, .inl (cI, 32, .inl (fun x9 => nI (mi x9)))), (m4, .inl (cI, 448, .inl (fun x9 => nI (mp x9)))), (m5, .inl (cI, 32, .inl (fun x9 => zW (mb x9))))] := hZ
  refine W.eq (g2 := F0 mth 4 ls [.int (zB (decide (0 ≤ ((f : Nat) : Int)) && decide (((f : Nat) : Int) < 32)))]) rfl ?_
  refine z_if_ne hx hb 8 dX4_erase_4 (by decide) (C := (decide (0 ≤ ((f : Nat) : Int)) && decide (((f : Nat) : Int) < 32)) = false) (zB_0 _) (fun h4 => ?_) (fun h4 => ?_)
  · skip
    refine lv_aload_n hx hb dX4_erase_8 rfl (lv_at hl 0 rfl) ?_
    refine z_get hE fF_X4_0 hZ 0 rfl (.ref m1) rfl dX4_erase_9 ?_
    refine lv_iload_n hx hb dX4_erase_12 rfl (lv_at hl 1 rfl) ?_
    refine z_iconst hx hb (zI (-1)) dX4_erase_13 (by decide) ?_
    refine z_iast zI ms (-1) hE hZ 1 0 rfl rfl (by decide) (by omega) dX4_erase_14 [(m0, .inr (4, [.ref m1, .ref m2, .ref m3, .ref m4, .ref m5, .int (zW mc)])), (m1, .inl (cI, 32, .inl (fun x9 => zI ((va_up ms f (-1)) x9)))), (m2, .inl (cJ, 1792, .inr (.inl mw))), (m3, .inl (cI, 32, .inl (fun x9 => nI (mi x9)))), (m4, .inl (cI, 448, .inl (fun x9 => nI (mp x9)))), (m5, .inl (cI, 32, .inl (fun x9 => zW (mb x9))))] rfl (fun H locs hZ => ?_)
    refine lv_aload_n hx hb dX4_erase_15 rfl (lv_at hl 0 rfl) ?_
    refine z_get hE fF_X4_4 hZ 0 rfl (.ref m5) rfl dX4_erase_16 ?_
    refine lv_iload_n hx hb dX4_erase_19 rfl (lv_at hl 1 rfl) ?_
    refine z_iconst hx hb (nI 0) dX4_erase_20 (by decide) ?_
    refine z_top (show nI 0 = zW (0#32) from rfl) ?_
    refine z_iast zW mb (0#32) hE hZ 5 0 rfl rfl (by decide) (by omega) dX4_erase_21 [(m0, .inr (4, [.ref m1, .ref m2, .ref m3, .ref m4, .ref m5, .int (zW mc)])), (m1, .inl (cI, 32, .inl (fun x9 => zI ((va_up ms f (-1)) x9)))), (m2, .inl (cJ, 1792, .inr (.inl mw))), (m3, .inl (cI, 32, .inl (fun x9 => nI (mi x9)))), (m4, .inl (cI, 448, .inl (fun x9 => nI (mp x9)))), (m5, .inl (cI, 32, .inl (fun x9 => zW ((va_up mb f (0#32)) x9))))] rfl (fun H locs hZ => ?_)
    refine lv_aload_n hx hb dX4_erase_22 rfl (lv_at hl 0 rfl) ?_
    refine lv_dup hx hb dX4_erase_23 rfl ?_
    refine z_get hE fF_X4_5 hZ 0 rfl (.int (zW mc)) rfl dX4_erase_24 ?_
    refine z_iconst hx hb (nI 1) dX4_erase_27 (by decide) ?_
    refine lv_iload_n hx hb dX4_erase_28 rfl (lv_at hl 1 rfl) ?_
    refine lv_ishl hx hb dX4_erase_29 ?_
    refine z_top (show (nI 1) <<< ((nI f) &&& 31) = zW (BitVec.twoPow 32 f) from sh1 _ hf) ?_
    refine lv_ior hx hb dX4_erase_30 ?_
    refine z_top (show (zW mc) ||| (zW (BitVec.twoPow 32 f)) = zW (mc ||| BitVec.twoPow 32 f) from rfl) ?_
    refine z_put hE fF_X4_5 fP_X4 rfl hZ 0 rfl rfl rfl (Nat.le_of_ble_eq_true rfl) dX4_erase_31 [(m0, .inr (4, [.ref m1, .ref m2, .ref m3, .ref m4, .ref m5, .int (zW (mc ||| BitVec.twoPow 32 f))])), (m1, .inl (cI, 32, .inl (fun x9 => zI ((va_up ms f (-1)) x9)))), (m2, .inl (cJ, 1792, .inr (.inl mw))), (m3, .inl (cI, 32, .inl (fun x9 => nI (mi x9)))), (m4, .inl (cI, 448, .inl (fun x9 => nI (mp x9)))), (m5, .inl (cI, 32, .inl (fun x9 => zW ((va_up mb f (0#32)) x9))))] rfl (fun H locs hZ => ?_)
    exact z_vret hE hrt9 hlocks hZ (mc ||| BitVec.twoPow 32 f) rfl (show (∀ g, (mc ||| BitVec.twoPow 32 f).getLsbD g = (mc.getLsbD g || decide (g = f))) from mc_or mc hf) rfl dX4_erase_34 (Nat.le_of_ble_eq_true rfl) (Nat.le_of_ble_eq_true rfl)
  · skip
    exfalso
    simp at h4; omega
set_option maxHeartbeats 1000000 in
set_option maxRecDepth 100000 in
theorem c_X4_isChanged (l : Launch) (D : va_G) (cI cJ cZ cII cZZ : ClassId) (m0 : Nat) (m1 : Nat) (m2 : Nat) (m3 : Nat) (m4 : Nat) (m5 : Nat) (ms : Nat → Int) (mw : Nat → Int64) (mi : Nat → Nat) (mp : Nat → Nat) (mb : Nat → BitVec 32) (mc : BitVec 32) (f : Nat) (hf : f < 32) :
    zC l yX4_isChanged cX4_isChanged 2 (some .boolean) { frames := 0, cells := 0, slots := 0, locals := 0 } D (zT cI cJ cZ cII cZZ) [.ref m0, .int (nI f)] [(m0, .inr (4, [.ref m1, .ref m2, .ref m3, .ref m4, .ref m5, .int (zW mc)])), (m1, .inl (cI, 32, .inl (fun x9 => zI (ms x9)))), (m2, .inl (cJ, 1792, .inr (.inl mw))), (m3, .inl (cI, 32, .inl (fun x9 => nI (mi x9)))), (m4, .inl (cI, 448, .inl (fun x9 => nI (mp x9)))), (m5, .inl (cI, 32, .inl (fun x9 => zW (mb x9))))] (S := Unit) (fun u => some (.int (zB (mc.getLsbD f)))) (fun u => True) (fun u => [(m0, .inr (4, [.ref m1, .ref m2, .ref m3, .ref m4, .ref m5, .int (zW mc)])), (m1, .inl (cI, 32, .inl (fun x9 => zI (ms x9)))), (m2, .inl (cJ, 1792, .inr (.inl mw))), (m3, .inl (cI, 32, .inl (fun x9 => nI (mi x9)))), (m4, .inl (cI, 448, .inl (fun x9 => nI (mp x9)))), (m5, .inl (cI, 32, .inl (fun x9 => zW (mb x9))))]) := by
  refine zC_of (by decide) (Nat.le_of_ble_eq_true rfl) ?_
  intro prg env s mth below meth cde A ls hE hrt9 hlocks hnm hZ hl
  have hx := hE.1
  have hb := hE.2.1
  have hl : lv_has ls 2 [(0, .ref m0), (1, .int (nI f))] := hl
  refine lv_aload_n hx hb dX4_isChanged_0 rfl (lv_at hl 0 rfl) ?_
  refine z_get hE fF_X4_5 hZ 0 rfl (.int (zW mc)) rfl dX4_isChanged_1 ?_
  refine lv_iload_n hx hb dX4_isChanged_4 rfl (lv_at hl 1 rfl) ?_
  refine lv_iushr (v := ((zW mc).toUInt32 >>> ((nI f).toUInt32 &&& Int32.toUInt32 31)).toInt32) hx hb dX4_isChanged_5 rfl ?_
  refine z_iconst hx hb (nI 1) dX4_isChanged_6 (by decide) ?_
  refine lv_iand hx hb dX4_isChanged_7 ?_
  refine z_if_eq hx hb 15 dX4_isChanged_8 (by decide) (C := mc.getLsbD f = false) (bit_test mc hf) (fun h8 => ?_) (fun h8 => ?_)
  · skip
    refine z_iconst hx hb (nI 0) dX4_isChanged_15 (by decide) ?_
    refine z_top (show nI 0 = zB (mc.getLsbD f) from by first | (rw [show (mc.getLsbD f) = false from h8]; rfl) | (rw [show (mc.getLsbD f) = true by simpa using h8]; rfl)) ?_
    exact z_zret (mc.getLsbD f) rfl hE hrt9 hlocks hZ () rfl trivial rfl dX4_isChanged_16 (Nat.le_of_ble_eq_true rfl) (Nat.le_of_ble_eq_true rfl)
  · skip
    refine z_iconst hx hb (nI 1) dX4_isChanged_11 (by decide) ?_
    refine lv_goto (tgt := 16) hx hb dX4_isChanged_12 (by decide) ?_
    refine z_top (show nI 1 = zB (mc.getLsbD f) from by first | (rw [show (mc.getLsbD f) = false from h8]; rfl) | (rw [show (mc.getLsbD f) = true by simpa using h8]; rfl)) ?_
    exact z_zret (mc.getLsbD f) rfl hE hrt9 hlocks hZ () rfl trivial rfl dX4_isChanged_16 (Nat.le_of_ble_eq_true rfl) (Nat.le_of_ble_eq_true rfl)
set_option maxHeartbeats 1000000 in
set_option maxRecDepth 100000 in
theorem c_X4_isHalfChanged (l : Launch) (D : va_G) (cI cJ cZ cII cZZ : ClassId) (m0 : Nat) (m1 : Nat) (m2 : Nat) (m3 : Nat) (m4 : Nat) (m5 : Nat) (ms : Nat → Int) (mw : Nat → Int64) (mi : Nat → Nat) (mp : Nat → Nat) (mb : Nat → BitVec 32) (mc : BitVec 32) (h : Nat) (hh : h < 2) :
    zC l yX4_isHalfChanged cX4_isHalfChanged 2 (some .boolean) { frames := 0, cells := 0, slots := 0, locals := 0 } D (zT cI cJ cZ cII cZZ) [.ref m0, .int (nI h)] [(m0, .inr (4, [.ref m1, .ref m2, .ref m3, .ref m4, .ref m5, .int (zW mc)])), (m1, .inl (cI, 32, .inl (fun x9 => zI (ms x9)))), (m2, .inl (cJ, 1792, .inr (.inl mw))), (m3, .inl (cI, 32, .inl (fun x9 => nI (mi x9)))), (m4, .inl (cI, 448, .inl (fun x9 => nI (mp x9)))), (m5, .inl (cI, 32, .inl (fun x9 => zW (mb x9))))] (S := Unit) (fun u => some (.int (zB (halfC mc h)))) (fun u => True) (fun u => [(m0, .inr (4, [.ref m1, .ref m2, .ref m3, .ref m4, .ref m5, .int (zW mc)])), (m1, .inl (cI, 32, .inl (fun x9 => zI (ms x9)))), (m2, .inl (cJ, 1792, .inr (.inl mw))), (m3, .inl (cI, 32, .inl (fun x9 => nI (mi x9)))), (m4, .inl (cI, 448, .inl (fun x9 => nI (mp x9)))), (m5, .inl (cI, 32, .inl (fun x9 => zW (mb x9))))]) := by
  refine zC_of (by decide) (Nat.le_of_ble_eq_true rfl) ?_
  intro prg env s mth below meth cde A ls hE hrt9 hlocks hnm hZ hl
  have hx := hE.1
  have hb := hE.2.1
  have hl : lv_has ls 2 [(0, .ref m0), (1, .int (nI h))] := hl
  refine lv_aload_n hx hb dX4_isHalfChanged_0 rfl (lv_at hl 0 rfl) ?_
  refine z_get hE fF_X4_5 hZ 0 rfl (.int (zW mc)) rfl dX4_isHalfChanged_1 ?_
  refine lv_iload_n hx hb dX4_isHalfChanged_4 rfl (lv_at hl 1 rfl) ?_
  refine z_bipush hx hb (nI 16) dX4_isHalfChanged_5 (by decide) ?_
  refine z_imul hx hb dX4_isHalfChanged_7 (z := nI (h * 16)) (pk_mul _ _) ?_
  refine lv_iushr (v := ((zW mc).toUInt32 >>> ((nI (h * 16)).toUInt32 &&& Int32.toUInt32 31)).toInt32) hx hb dX4_isHalfChanged_8 rfl ?_
  refine lv_ldc (v := 65535) hx hb hE.2.2.2.1 (hE.2.2.2.2.1 _ mg815) dX4_isHalfChanged_9 ?_
  refine z_top (show (65535 : Int32) = nI 65535 from rfl) ?_
  refine lv_iand hx hb dX4_isHalfChanged_11 ?_
  refine z_if_eq hx hb 19 dX4_isHalfChanged_12 (by decide) (C := halfC mc h = false) (half_test mc hh) (fun h12 => ?_) (fun h12 => ?_)
  · skip
    refine z_iconst hx hb (nI 0) dX4_isHalfChanged_19 (by decide) ?_
    refine z_top (show nI 0 = zB (halfC mc h) from by first | (rw [show (halfC mc h) = false from h12]; rfl) | (rw [show (halfC mc h) = true by simpa using h12]; rfl)) ?_
    exact z_zret (halfC mc h) rfl hE hrt9 hlocks hZ () rfl trivial rfl dX4_isHalfChanged_20 (Nat.le_of_ble_eq_true rfl) (Nat.le_of_ble_eq_true rfl)
  · skip
    refine z_iconst hx hb (nI 1) dX4_isHalfChanged_15 (by decide) ?_
    refine lv_goto (tgt := 20) hx hb dX4_isHalfChanged_16 (by decide) ?_
    refine z_top (show nI 1 = zB (halfC mc h) from by first | (rw [show (halfC mc h) = false from h12]; rfl) | (rw [show (halfC mc h) = true by simpa using h12]; rfl)) ?_
    exact z_zret (halfC mc h) rfl hE hrt9 hlocks hZ () rfl trivial rfl dX4_isHalfChanged_20 (Nat.le_of_ble_eq_true rfl) (Nat.le_of_ble_eq_true rfl)
set_option maxHeartbeats 1000000 in
set_option maxRecDepth 100000 in
theorem c_X4_isWritten (l : Launch) (D : va_G) (cI cJ cZ cII cZZ : ClassId) (m0 : Nat) (m1 : Nat) (m2 : Nat) (m3 : Nat) (m4 : Nat) (m5 : Nat) (ms : Nat → Int) (mw : Nat → Int64) (mi : Nat → Nat) (mp : Nat → Nat) (mb : Nat → BitVec 32) (mc : BitVec 32) (f : Nat) (q : Nat) (hf : f < 32) (hq : q < 32) :
    zC l yX4_isWritten cX4_isWritten 3 (some .boolean) { frames := 1, cells := 0, slots := 0, locals := 20 } D (zT cI cJ cZ cII cZZ) [.ref m0, .int (nI f), .int (nI q)] [(m0, .inr (4, [.ref m1, .ref m2, .ref m3, .ref m4, .ref m5, .int (zW mc)])), (m1, .inl (cI, 32, .inl (fun x9 => zI (ms x9)))), (m2, .inl (cJ, 1792, .inr (.inl mw))), (m3, .inl (cI, 32, .inl (fun x9 => nI (mi x9)))), (m4, .inl (cI, 448, .inl (fun x9 => nI (mp x9)))), (m5, .inl (cI, 32, .inl (fun x9 => zW (mb x9))))] (S := Unit) (fun u => some (.int (zB ((mb f).getLsbD q)))) (fun u => True) (fun u => [(m0, .inr (4, [.ref m1, .ref m2, .ref m3, .ref m4, .ref m5, .int (zW mc)])), (m1, .inl (cI, 32, .inl (fun x9 => zI (ms x9)))), (m2, .inl (cJ, 1792, .inr (.inl mw))), (m3, .inl (cI, 32, .inl (fun x9 => nI (mi x9)))), (m4, .inl (cI, 448, .inl (fun x9 => nI (mp x9)))), (m5, .inl (cI, 32, .inl (fun x9 => zW (mb x9))))]) := by
  refine zC_of (by decide) (Nat.le_of_ble_eq_true rfl) ?_
  intro prg env s mth below meth cde A ls hE hrt9 hlocks hnm hZ hl
  have hx := hE.1
  have hb := hE.2.1
  have hl : lv_has ls 3 [(0, .ref m0), (1, .int (nI f)), (2, .int (nI q))] := hl
  refine lv_iload_n hx hb dX4_isWritten_0 rfl (lv_at hl 1 rfl) ?_
  refine z_kN (As := [.int (nI f)]) (rest := []) hE hZ (c_X6_isFile l D cI cJ cZ cII cZZ  ((f : Nat) : Int) (nI f) (by first | assumption | omega) (zI_n _)) lL_X6_isFile lC_X4_41 [] [0, 1, 2, 3, 4, 5] [0, 1, 2, 3, 4, 5] [(m0, .inr (4, [.ref m1, .ref m2, .ref m3, .ref m4, .ref m5, .int (zW mc)])), (m1, .inl (cI, 32, .inl (fun x9 => zI (ms x9)))), (m2, .inl (cJ, 1792, .inr (.inl mw))), (m3, .inl (cI, 32, .inl (fun x9 => nI (mi x9)))), (m4, .inl (cI, 448, .inl (fun x9 => nI (mp x9)))), (m5, .inl (cI, 32, .inl (fun x9 => zW (mb x9))))] (fun u => [(m0, .inr (4, [.ref m1, .ref m2, .ref m3, .ref m4, .ref m5, .int (zW mc)])), (m1, .inl (cI, 32, .inl (fun x9 => zI (ms x9)))), (m2, .inl (cJ, 1792, .inr (.inl mw))), (m3, .inl (cI, 32, .inl (fun x9 => nI (mi x9)))), (m4, .inl (cI, 448, .inl (fun x9 => nI (mp x9)))), (m5, .inl (cI, 32, .inl (fun x9 => zW (mb x9))))]) rfl rfl (fun _ => rfl) (by decide) ⟨by decide, by decide⟩ 0 0 rfl rfl ⟨by decide, by decide⟩ rfl hl.1 rfl (Nat.le_of_ble_eq_true rfl) dX4_isWritten_1 (fun u H locs hq9 hZ => ?_)
  have hZ : zS D A s.heap H locs [(m0, .inr (4, [.ref m1, .ref m2, .ref m3, .ref m4, .ref m5, .int (zW mc)])), (m1, .inl (cI, 32, .inl (fun x9 => zI (ms x9)))), (m2, .inl (cJ, 1792, .inr (.inl mw))), (m3, .inl (cI, 32, .inl (fun x9 => nI (mi x9)))), (m4, .inl (cI, 448, .inl (fun x9 => nI (mp x9)))), (m5, .inl (cI, 32, .inl (fun x9 => zW (mb x9))))] := hZ
  refine W.eq (g2 := F0 mth 4 ls [.int (zB (decide (0 ≤ ((f : Nat) : Int)) && decide (((f : Nat) : Int) < 32)))]) rfl ?_
  refine z_if_eq hx hb 24 dX4_isWritten_4 (by decide) (C := (decide (0 ≤ ((f : Nat) : Int)) && decide (((f : Nat) : Int) < 32)) = false) (zB_0 _) (fun h4 => ?_) (fun h4 => ?_)
  · skip
    exfalso
    simp at h4; omega
  · skip
    refine lv_aload_n hx hb dX4_isWritten_7 rfl (lv_at hl 0 rfl) ?_
    refine z_get hE fF_X4_4 hZ 0 rfl (.ref m5) rfl dX4_isWritten_8 ?_
    refine lv_iload_n hx hb dX4_isWritten_11 rfl (lv_at hl 1 rfl) ?_
    refine z_iald hE hZ 5 0 rfl rfl (by decide) (by omega) dX4_isWritten_12 ?_
    refine lv_iload_n hx hb dX4_isWritten_13 rfl (lv_at hl 2 rfl) ?_
    refine lv_iushr (v := ((zW (mb f)).toUInt32 >>> ((nI q).toUInt32 &&& Int32.toUInt32 31)).toInt32) hx hb dX4_isWritten_14 rfl ?_
    refine z_iconst hx hb (nI 1) dX4_isWritten_15 (by decide) ?_
    refine lv_iand hx hb dX4_isWritten_16 ?_
    refine z_if_eq hx hb 24 dX4_isWritten_17 (by decide) (C := (mb f).getLsbD q = false) (bit_test (mb f) hq) (fun h17 => ?_) (fun h17 => ?_)
    · skip
      refine z_iconst hx hb (nI 0) dX4_isWritten_24 (by decide) ?_
      refine z_top (show nI 0 = zB ((mb f).getLsbD q) from by first | (rw [show ((mb f).getLsbD q) = false from h17]; rfl) | (rw [show ((mb f).getLsbD q) = true by simpa using h17]; rfl)) ?_
      exact z_zret ((mb f).getLsbD q) rfl hE hrt9 hlocks hZ () rfl trivial rfl dX4_isWritten_25 (Nat.le_of_ble_eq_true rfl) (Nat.le_of_ble_eq_true rfl)
    · skip
      refine z_iconst hx hb (nI 1) dX4_isWritten_20 (by decide) ?_
      refine lv_goto (tgt := 25) hx hb dX4_isWritten_21 (by decide) ?_
      refine z_top (show nI 1 = zB ((mb f).getLsbD q) from by first | (rw [show ((mb f).getLsbD q) = false from h17]; rfl) | (rw [show ((mb f).getLsbD q) = true by simpa using h17]; rfl)) ?_
      exact z_zret ((mb f).getLsbD q) rfl hE hrt9 hlocks hZ () rfl trivial rfl dX4_isWritten_25 (Nat.le_of_ble_eq_true rfl) (Nat.le_of_ble_eq_true rfl)
set_option maxHeartbeats 1000000 in
set_option maxRecDepth 100000 in
theorem c_X4_placesNeeded (l : Launch) (D : va_G) (cI cJ cZ cII cZZ : ClassId) (m0 : Nat) (m1 : Nat) (m2 : Nat) (m3 : Nat) (m4 : Nat) (m5 : Nat) (ms : Nat → Int) (mw : Nat → Int64) (mi : Nat → Nat) (mp : Nat → Nat) (mb : Nat → BitVec 32) (mc : BitVec 32)  (hms : ∀ f, f < 32 → -1 ≤ ms f ∧ ms f ≤ 448) (hmb : ∀ f, f < 32 → (mb f).toNat < 16384) :
    zC l yX4_placesNeeded cX4_placesNeeded 3 (some .int) { frames := 1, cells := 0, slots := 0, locals := 21 } D (zT cI cJ cZ cII cZZ) [.ref m0] [(m0, .inr (4, [.ref m1, .ref m2, .ref m3, .ref m4, .ref m5, .int (zW mc)])), (m1, .inl (cI, 32, .inl (fun x9 => zI (ms x9)))), (m2, .inl (cJ, 1792, .inr (.inl mw))), (m3, .inl (cI, 32, .inl (fun x9 => nI (mi x9)))), (m4, .inl (cI, 448, .inl (fun x9 => nI (mp x9)))), (m5, .inl (cI, 32, .inl (fun x9 => zW (mb x9))))] (S := Unit) (fun u => some (.int (nI (needF ms mb mc 32 + (if halfC mc 0 then 1 else 0) + (if halfC mc 1 then 1 else 0))))) (fun u => True) (fun u => [(m0, .inr (4, [.ref m1, .ref m2, .ref m3, .ref m4, .ref m5, .int (zW mc)])), (m1, .inl (cI, 32, .inl (fun x9 => zI (ms x9)))), (m2, .inl (cJ, 1792, .inr (.inl mw))), (m3, .inl (cI, 32, .inl (fun x9 => nI (mi x9)))), (m4, .inl (cI, 448, .inl (fun x9 => nI (mp x9)))), (m5, .inl (cI, 32, .inl (fun x9 => zW (mb x9))))]) := by
  refine zC_of (by decide) (Nat.le_of_ble_eq_true rfl) ?_
  intro prg env s mth below meth cde A ls hE hrt9 hlocks hnm hZ hl
  have hx := hE.1
  have hb := hE.2.1
  have hl : lv_has ls 3 [(0, .ref m0)] := hl
  refine z_iconst hx hb (nI 0) dX4_placesNeeded_0 (by decide) ?_
  refine lv_istore_n (lv' := [(1, .int (nI 0)), (0, .ref m0)]) hx hb dX4_placesNeeded_1 rfl hl (by decide) rfl (fun ls hl => ?_)
  refine z_iconst hx hb (nI 0) dX4_placesNeeded_2 (by decide) ?_
  refine lv_istore_n (lv' := [(2, .int (nI 0)), (1, .int (nI 0)), (0, .ref m0)]) hx hb dX4_placesNeeded_3 rfl hl (by decide) rfl (fun ls hl => ?_)
  refine z_loop (σ := Nat × Nat) (fun (i, n) H locs ls => (i ≤ 32) ∧ (n = needF ms mb mc i) ∧ (n ≤ 15 * i) ∧ zS D A s.heap H locs [(m0, .inr (4, [.ref m1, .ref m2, .ref m3, .ref m4, .ref m5, .int (zW mc)])), (m1, .inl (cI, 32, .inl (fun x9 => zI (ms x9)))), (m2, .inl (cJ, 1792, .inr (.inl mw))), (m3, .inl (cI, 32, .inl (fun x9 => nI (mi x9)))), (m4, .inl (cI, 448, .inl (fun x9 => nI (mp x9)))), (m5, .inl (cI, 32, .inl (fun x9 => zW (mb x9))))] ∧ lv_has ls 3 [(0, .ref m0), (1, .int (nI n)), (2, .int (nI i))]) (fun (i, n) => 32 - i) [] (0, 0) ⟨by omega, rfl, by omega, hZ, lv_sub hl [2, 1, 0] (by first | rfl | (simp only [lv_pick]; rfl))⟩ ?_
  intro x H locs ls hI ih4
  obtain ⟨i, n⟩ := x
  obtain ⟨hi, hn, hn2, hZ, hl⟩ := hI
  refine lv_iload_n hx hb dX4_placesNeeded_4 rfl (lv_at hl 2 rfl) ?_
  refine z_bipush hx hb (nI 32) dX4_placesNeeded_5 (by decide) ?_
  refine z_icmp_ge hx hb 49 dX4_placesNeeded_7 (by decide) (C := 32 ≤ i) (nIle (by omega) (by omega)) (fun h7 => ?_) (fun h7 => ?_)
  · skip
    refine z_iconst hx hb (nI 0) dX4_placesNeeded_49 (by decide) ?_
    refine lv_istore_n (lv' := [(2, .int (nI 0)), (0, .ref m0), (1, .int (nI n))]) hx hb dX4_placesNeeded_50 rfl hl (by decide) rfl (fun ls hl => ?_)
    refine z_loop (σ := Nat × Nat) (fun (j, n) H locs ls => (j ≤ 2) ∧ (n = needF ms mb mc 32 + (if 0 < j ∧ halfC mc 0 = true then 1 else 0) + (if 1 < j ∧ halfC mc 1 = true then 1 else 0)) ∧ (n ≤ 600 + j) ∧ zS D A s.heap H locs [(m0, .inr (4, [.ref m1, .ref m2, .ref m3, .ref m4, .ref m5, .int (zW mc)])), (m1, .inl (cI, 32, .inl (fun x9 => zI (ms x9)))), (m2, .inl (cJ, 1792, .inr (.inl mw))), (m3, .inl (cI, 32, .inl (fun x9 => nI (mi x9)))), (m4, .inl (cI, 448, .inl (fun x9 => nI (mp x9)))), (m5, .inl (cI, 32, .inl (fun x9 => zW (mb x9))))] ∧ lv_has ls 3 [(0, .ref m0), (1, .int (nI n)), (2, .int (nI j))]) (fun (j, n) => 2 - j) [] (0, n) ⟨by omega, by rw [hn, show i = 32 by omega]; simp, by omega, hZ, lv_sub hl [1, 2, 0] (by first | rfl | (simp only [lv_pick]; rfl))⟩ ?_
    intro x H locs ls hI ih51
    obtain ⟨j, n⟩ := x
    obtain ⟨hj, hn3, hn4, hZ, hl⟩ := hI
    refine lv_iload_n hx hb dX4_placesNeeded_51 rfl (lv_at hl 2 rfl) ?_
    refine z_iconst hx hb (nI 2) dX4_placesNeeded_52 (by decide) ?_
    refine z_icmp_ge hx hb 73 dX4_placesNeeded_53 (by decide) (C := 2 ≤ j) (nIle (by omega) (by omega)) (fun h53 => ?_) (fun h53 => ?_)
    · skip
      refine lv_iload_n hx hb dX4_placesNeeded_73 rfl (lv_at hl 1 rfl) ?_
      refine z_top (show nI n = nI (needF ms mb mc 32 + (if halfC mc 0 then 1 else 0) + (if halfC mc 1 then 1 else 0)) from by rw [hn3, show j = 2 by omega]; simp) ?_
      exact z_iret hE hrt9 hlocks hZ () rfl trivial rfl dX4_placesNeeded_74 (Nat.le_of_ble_eq_true rfl) (Nat.le_of_ble_eq_true rfl)
    · skip
      refine lv_aload_n hx hb dX4_placesNeeded_56 rfl (lv_at hl 0 rfl) ?_
      refine lv_iload_n hx hb dX4_placesNeeded_57 rfl (lv_at hl 2 rfl) ?_
      refine z_kV (As := [.int (nI j)]) (rest := []) hE hZ (c_X4_isHalfChanged l D cI cJ cZ cII cZZ m0 m1 m2 m3 m4 m5 ms mw mi mp mb mc j (by omega)) lL_X4_isHalfChanged lC_X4_73 rfl [0, 1, 2, 3, 4, 5] [] [0, 1, 2, 3, 4, 5] [] (fun u => [(m0, .inr (4, [.ref m1, .ref m2, .ref m3, .ref m4, .ref m5, .int (zW mc)])), (m1, .inl (cI, 32, .inl (fun x9 => zI (ms x9)))), (m2, .inl (cJ, 1792, .inr (.inl mw))), (m3, .inl (cI, 32, .inl (fun x9 => nI (mi x9)))), (m4, .inl (cI, 448, .inl (fun x9 => nI (mp x9)))), (m5, .inl (cI, 32, .inl (fun x9 => zW (mb x9))))]) 0 rfl rfl rfl (fun _ => rfl) (by decide) ⟨by decide, by decide⟩ 0 0 rfl rfl ⟨by decide, by decide⟩ rfl hl.1 rfl (Nat.le_of_ble_eq_true rfl) dX4_placesNeeded_58 (fun u H locs hq9 hZ => ?_)
      have hZ : zS D A s.heap H locs [(m0, .inr (4, [.ref m1, .ref m2, .ref m3, .ref m4, .ref m5, .int (zW mc)])), (m1, .inl (cI, 32, .inl (fun x9 => zI (ms x9)))), (m2, .inl (cJ, 1792, .inr (.inl mw))), (m3, .inl (cI, 32, .inl (fun x9 => nI (mi x9)))), (m4, .inl (cI, 448, .inl (fun x9 => nI (mp x9)))), (m5, .inl (cI, 32, .inl (fun x9 => zW (mb x9))))] := hZ
      refine W.eq (g2 := F0 mth 61 ls [.int (zB (halfC mc j))]) rfl ?_
      refine z_if_eq hx hb 67 dX4_placesNeeded_61 (by decide) (C := (halfC mc j) = false) (zB_0 _) (fun h61 => ?_) (fun h61 => ?_)
      · skip
        refine lv_iinc (v := nI (j + 1)) (lv' := [(2, .int (nI (j + 1))), (0, .ref m0), (1, .int (nI n))]) hx hb dX4_placesNeeded_67 hl (k := 2) rfl (nI_add _ _) (by decide) rfl (fun ls hl => ?_)
        refine lv_goto (tgt := 51) hx hb dX4_placesNeeded_70 (by decide) ?_
        exact ih51 (j + 1, n) _ _ _ ⟨by omega, by first | (have z : halfC mc j = false := h61; exact need_hf (by omega) hn3 z) | (have z : ¬ halfC mc j = false := h61; exact need_ht (by omega) hn3 z), by omega, hZ, lv_sub hl [1, 2, 0] (by first | rfl | (simp only [lv_pick]; rfl))⟩ (by (try dsimp only); omega)
      · skip
        refine lv_iinc (v := nI (n + 1)) (lv' := [(1, .int (nI (n + 1))), (0, .ref m0), (2, .int (nI j))]) hx hb dX4_placesNeeded_64 hl (k := 1) rfl (nI_add _ _) (by decide) rfl (fun ls hl => ?_)
        refine lv_iinc (v := nI (j + 1)) (lv' := [(2, .int (nI (j + 1))), (1, .int (nI (n + 1))), (0, .ref m0)]) hx hb dX4_placesNeeded_67 hl (k := 2) rfl (nI_add _ _) (by decide) rfl (fun ls hl => ?_)
        refine lv_goto (tgt := 51) hx hb dX4_placesNeeded_70 (by decide) ?_
        exact ih51 (j + 1, n + 1) _ _ _ ⟨by omega, by first | (have z : halfC mc j = false := h61; exact need_hf (by omega) hn3 z) | (have z : ¬ halfC mc j = false := h61; exact need_ht (by omega) hn3 z), by omega, hZ, lv_sub hl [2, 1, 0] (by first | rfl | (simp only [lv_pick]; rfl))⟩ (by (try dsimp only); omega)
  · skip
    refine lv_iload_n hx hb dX4_placesNeeded_10 rfl (lv_at hl 1 rfl) ?_
    refine lv_aload_n hx hb dX4_placesNeeded_11 rfl (lv_at hl 0 rfl) ?_
    refine z_get hE fF_X4_4 hZ 0 rfl (.ref m5) rfl dX4_placesNeeded_12 ?_
    refine lv_iload_n hx hb dX4_placesNeeded_15 rfl (lv_at hl 2 rfl) ?_
    refine z_iald hE hZ 5 0 rfl rfl (by decide) (by omega) dX4_placesNeeded_16 ?_
    refine z_kS (As := [.int (zW (mb i))]) (rest := [.int (nI n)]) hE hZ (c_J6_bitCount_0f7a4 l D cI cJ cZ cII cZZ  (zW (mb i)) (mb i) (rfl) (hmb i (by omega))) lL_J6_bitCount_0f7a4 lC_X4_65 [] [0, 1, 2, 3, 4, 5] [0, 1, 2, 3, 4, 5] [(m0, .inr (4, [.ref m1, .ref m2, .ref m3, .ref m4, .ref m5, .int (zW mc)])), (m1, .inl (cI, 32, .inl (fun x9 => zI (ms x9)))), (m2, .inl (cJ, 1792, .inr (.inl mw))), (m3, .inl (cI, 32, .inl (fun x9 => nI (mi x9)))), (m4, .inl (cI, 448, .inl (fun x9 => nI (mp x9)))), (m5, .inl (cI, 32, .inl (fun x9 => zW (mb x9))))] (fun u => [(m0, .inr (4, [.ref m1, .ref m2, .ref m3, .ref m4, .ref m5, .int (zW mc)])), (m1, .inl (cI, 32, .inl (fun x9 => zI (ms x9)))), (m2, .inl (cJ, 1792, .inr (.inl mw))), (m3, .inl (cI, 32, .inl (fun x9 => nI (mi x9)))), (m4, .inl (cI, 448, .inl (fun x9 => nI (mp x9)))), (m5, .inl (cI, 32, .inl (fun x9 => zW (mb x9))))]) rfl rfl (fun _ => rfl) (by decide) ⟨by decide, by decide⟩ 0 0 rfl rfl ⟨by decide, by decide⟩ rfl hl.1 rfl (Nat.le_of_ble_eq_true rfl) dX4_placesNeeded_17 (fun u H locs hq9 hZ => ?_)
    have hZ : zS D A s.heap H locs [(m0, .inr (4, [.ref m1, .ref m2, .ref m3, .ref m4, .ref m5, .int (zW mc)])), (m1, .inl (cI, 32, .inl (fun x9 => zI (ms x9)))), (m2, .inl (cJ, 1792, .inr (.inl mw))), (m3, .inl (cI, 32, .inl (fun x9 => nI (mi x9)))), (m4, .inl (cI, 448, .inl (fun x9 => nI (mp x9)))), (m5, .inl (cI, 32, .inl (fun x9 => zW (mb x9))))] := hZ
    refine W.eq (g2 := F0 mth 20 ls [.int (nI (popc (mb i) 14)), .int (nI n)]) rfl ?_
    have hpc := popc_le (mb i) 14
    refine z_iadd hx hb dX4_placesNeeded_20 (z := nI (n + (popc (mb i) 14))) (nI_add _ _) ?_
    refine lv_istore_n (lv' := [(1, .int (nI (n + (popc (mb i) 14)))), (0, .ref m0), (2, .int (nI i))]) hx hb dX4_placesNeeded_21 rfl hl (by decide) rfl (fun ls hl => ?_)
    refine lv_aload_n hx hb dX4_placesNeeded_22 rfl (lv_at hl 1 rfl) ?_
    refine lv_iload_n hx hb dX4_placesNeeded_23 rfl (lv_at hl 2 rfl) ?_
    refine z_kV (As := [.int (nI i)]) (rest := []) hE hZ (c_X4_isChanged l D cI cJ cZ cII cZZ m0 m1 m2 m3 m4 m5 ms mw mi mp mb mc i (by omega)) lL_X4_isChanged lC_X4_70 rfl [0, 1, 2, 3, 4, 5] [] [0, 1, 2, 3, 4, 5] [] (fun u => [(m0, .inr (4, [.ref m1, .ref m2, .ref m3, .ref m4, .ref m5, .int (zW mc)])), (m1, .inl (cI, 32, .inl (fun x9 => zI (ms x9)))), (m2, .inl (cJ, 1792, .inr (.inl mw))), (m3, .inl (cI, 32, .inl (fun x9 => nI (mi x9)))), (m4, .inl (cI, 448, .inl (fun x9 => nI (mp x9)))), (m5, .inl (cI, 32, .inl (fun x9 => zW (mb x9))))]) 0 rfl rfl rfl (fun _ => rfl) (by decide) ⟨by decide, by decide⟩ 0 0 rfl rfl ⟨by decide, by decide⟩ rfl hl.1 rfl (Nat.le_of_ble_eq_true rfl) dX4_placesNeeded_24 (fun u H locs hq9 hZ => ?_)
    have hZ : zS D A s.heap H locs [(m0, .inr (4, [.ref m1, .ref m2, .ref m3, .ref m4, .ref m5, .int (zW mc)])), (m1, .inl (cI, 32, .inl (fun x9 => zI (ms x9)))), (m2, .inl (cJ, 1792, .inr (.inl mw))), (m3, .inl (cI, 32, .inl (fun x9 => nI (mi x9)))), (m4, .inl (cI, 448, .inl (fun x9 => nI (mp x9)))), (m5, .inl (cI, 32, .inl (fun x9 => zW (mb x9))))] := hZ
    refine W.eq (g2 := F0 mth 27 ls [.int (zB (mc.getLsbD i))]) rfl ?_
    refine z_if_eq hx hb 43 dX4_placesNeeded_27 (by decide) (C := (mc.getLsbD i) = false) (zB_0 _) (fun h27 => ?_) (fun h27 => ?_)
    · skip
      refine lv_iinc (v := nI (i + 1)) (lv' := [(2, .int (nI (i + 1))), (1, .int (nI (n + (popc (mb i) 14)))), (0, .ref m0)]) hx hb dX4_placesNeeded_43 hl (k := 2) rfl (nI_add _ _) (by decide) rfl (fun ls hl => ?_)
      refine lv_goto (tgt := 4) hx hb dX4_placesNeeded_46 (by decide) ?_
      exact ih4 (i + 1, n + (popc (mb i) 14)) _ _ _ ⟨by omega, by first | (have z : mc.getLsbD i = false := h27; exact need_f hn z) | (have z : ms i = -1 := h37; exact need_m hn h27 z) | (have z : ¬ ms i = -1 := h37; exact need_t hn h27 z), by omega, hZ, lv_sub hl [2, 1, 0] (by first | rfl | (simp only [lv_pick]; rfl))⟩ (by (try dsimp only); omega)
    · skip
      refine lv_aload_n hx hb dX4_placesNeeded_30 rfl (lv_at hl 1 rfl) ?_
      refine z_get hE fF_X4_0 hZ 0 rfl (.ref m1) rfl dX4_placesNeeded_31 ?_
      refine lv_iload_n hx hb dX4_placesNeeded_34 rfl (lv_at hl 2 rfl) ?_
      refine z_iald hE hZ 1 0 rfl rfl (by decide) (by omega) dX4_placesNeeded_35 ?_
      have hmi := hms i (by omega)
      refine z_iconst hx hb (zI (-1)) dX4_placesNeeded_36 (by decide) ?_
      refine z_icmp_eq hx hb 43 dX4_placesNeeded_37 (by decide) (C := (ms i : Int) = (-1)) (by (try simp only [zI_n]); exact zI_eq ⟨by omega, by omega⟩ ⟨by omega, by omega⟩) (fun h37 => ?_) (fun h37 => ?_)
      · skip
        refine lv_iinc (v := nI (i + 1)) (lv' := [(2, .int (nI (i + 1))), (1, .int (nI (n + (popc (mb i) 14)))), (0, .ref m0)]) hx hb dX4_placesNeeded_43 hl (k := 2) rfl (nI_add _ _) (by decide) rfl (fun ls hl => ?_)
        refine lv_goto (tgt := 4) hx hb dX4_placesNeeded_46 (by decide) ?_
        exact ih4 (i + 1, n + (popc (mb i) 14)) _ _ _ ⟨by omega, by first | (have z : mc.getLsbD i = false := h27; exact need_f hn z) | (have z : ms i = -1 := h37; exact need_m hn h27 z) | (have z : ¬ ms i = -1 := h37; exact need_t hn h27 z), by omega, hZ, lv_sub hl [2, 1, 0] (by first | rfl | (simp only [lv_pick]; rfl))⟩ (by (try dsimp only); omega)
      · skip
        refine lv_iinc (v := nI (n + (popc (mb i) 14) + 1)) (lv' := [(1, .int (nI (n + (popc (mb i) 14) + 1))), (0, .ref m0), (2, .int (nI i))]) hx hb dX4_placesNeeded_40 hl (k := 0) rfl (nI_add _ _) (by decide) rfl (fun ls hl => ?_)
        refine lv_iinc (v := nI (i + 1)) (lv' := [(2, .int (nI (i + 1))), (1, .int (nI (n + (popc (mb i) 14) + 1))), (0, .ref m0)]) hx hb dX4_placesNeeded_43 hl (k := 2) rfl (nI_add _ _) (by decide) rfl (fun ls hl => ?_)
        refine lv_goto (tgt := 4) hx hb dX4_placesNeeded_46 (by decide) ?_
        exact ih4 (i + 1, n + (popc (mb i) 14) + 1) _ _ _ ⟨by omega, by first | (have z : mc.getLsbD i = false := h27; exact need_f hn z) | (have z : ms i = -1 := h37; exact need_m hn h27 z) | (have z : ¬ ms i = -1 := h37; exact need_t hn h27 z), by omega, hZ, lv_sub hl [2, 1, 0] (by first | rfl | (simp only [lv_pick]; rfl))⟩ (by (try dsimp only); omega)
set_option maxHeartbeats 1000000 in
set_option maxRecDepth 100000 in
theorem c_X4_movePiece (l : Launch) (D : va_G) (cI cJ cZ cII cZZ : ClassId) (m0 : Nat) (m1 : Nat) (m2 : Nat) (m3 : Nat) (m4 : Nat) (m5 : Nat) (ms : Nat → Int) (mw : Nat → Int64) (mi : Nat → Nat) (mp : Nat → Nat) (mb : Nat → BitVec 32) (mc : BitVec 32) (f : Nat) (q : Nat) (x : Nat) (hf : f < 32) (hq : q < 14) :
    zC l yX4_movePiece cX4_movePiece 4 none { frames := 1, cells := 0, slots := 0, locals := 20 } D (zT cI cJ cZ cII cZZ) [.ref m0, .int (nI f), .int (nI q), .int (nI x)] [(m0, .inr (4, [.ref m1, .ref m2, .ref m3, .ref m4, .ref m5, .int (zW mc)])), (m1, .inl (cI, 32, .inl (fun x9 => zI (ms x9)))), (m2, .inl (cJ, 1792, .inr (.inl mw))), (m3, .inl (cI, 32, .inl (fun x9 => nI (mi x9)))), (m4, .inl (cI, 448, .inl (fun x9 => nI (mp x9)))), (m5, .inl (cI, 32, .inl (fun x9 => zW (mb x9))))] (S := Unit) (fun u => none) (fun u => True) (fun u => [(m0, .inr (4, [.ref m1, .ref m2, .ref m3, .ref m4, .ref m5, .int (zW mc)])), (m1, .inl (cI, 32, .inl (fun x9 => zI (ms x9)))), (m2, .inl (cJ, 1792, .inr (.inl mw))), (m3, .inl (cI, 32, .inl (fun x9 => nI (mi x9)))), (m4, .inl (cI, 448, .inl (fun x9 => nI ((va_up mp (f * 14 + q) x) x9)))), (m5, .inl (cI, 32, .inl (fun x9 => zW (mb x9))))]) := by
  refine zC_of (by decide) (Nat.le_of_ble_eq_true rfl) ?_
  intro prg env s mth below meth cde A ls hE hrt9 hlocks hnm hZ hl
  have hx := hE.1
  have hb := hE.2.1
  have hl : lv_has ls 4 [(0, .ref m0), (1, .int (nI f)), (2, .int (nI q)), (3, .int (nI x))] := hl
  refine lv_iload_n hx hb dX4_movePiece_0 rfl (lv_at hl 1 rfl) ?_
  refine z_kN (As := [.int (nI f)]) (rest := []) hE hZ (c_X6_isFile l D cI cJ cZ cII cZZ  ((f : Nat) : Int) (nI f) (by first | assumption | omega) (zI_n _)) lL_X6_isFile lC_X4_41 [] [0, 1, 2, 3, 4, 5] [0, 1, 2, 3, 4, 5] [(m0, .inr (4, [.ref m1, .ref m2, .ref m3, .ref m4, .ref m5, .int (zW mc)])), (m1, .inl (cI, 32, .inl (fun x9 => zI (ms x9)))), (m2, .inl (cJ, 1792, .inr (.inl mw))), (m3, .inl (cI, 32, .inl (fun x9 => nI (mi x9)))), (m4, .inl (cI, 448, .inl (fun x9 => nI (mp x9)))), (m5, .inl (cI, 32, .inl (fun x9 => zW (mb x9))))] (fun u => [(m0, .inr (4, [.ref m1, .ref m2, .ref m3, .ref m4, .ref m5, .int (zW mc)])), (m1, .inl (cI, 32, .inl (fun x9 => zI (ms x9)))), (m2, .inl (cJ, 1792, .inr (.inl mw))), (m3, .inl (cI, 32, .inl (fun x9 => nI (mi x9)))), (m4, .inl (cI, 448, .inl (fun x9 => nI (mp x9)))), (m5, .inl (cI, 32, .inl (fun x9 => zW (mb x9))))]) rfl rfl (fun _ => rfl) (by decide) ⟨by decide, by decide⟩ 0 0 rfl rfl ⟨by decide, by decide⟩ rfl hl.1 rfl (Nat.le_of_ble_eq_true rfl) dX4_movePiece_1 (fun u H locs hq9 hZ => ?_)
  have hZ : zS D A s.heap H locs [(m0, .inr (4, [.ref m1, .ref m2, .ref m3, .ref m4, .ref m5, .int (zW mc)])), (m1, .inl (cI, 32, .inl (fun x9 => zI (ms x9)))), (m2, .inl (cJ, 1792, .inr (.inl mw))), (m3, .inl (cI, 32, .inl (fun x9 => nI (mi x9)))), (m4, .inl (cI, 448, .inl (fun x9 => nI (mp x9)))), (m5, .inl (cI, 32, .inl (fun x9 => zW (mb x9))))] := hZ
  refine W.eq (g2 := F0 mth 4 ls [.int (zB (decide (0 ≤ ((f : Nat) : Int)) && decide (((f : Nat) : Int) < 32)))]) rfl ?_
  refine z_if_eq hx hb 29 dX4_movePiece_4 (by decide) (C := (decide (0 ≤ ((f : Nat) : Int)) && decide (((f : Nat) : Int) < 32)) = false) (zB_0 _) (fun h4 => ?_) (fun h4 => ?_)
  · skip
    exfalso
    simp at h4; omega
  · skip
    refine lv_iload_n hx hb dX4_movePiece_7 rfl (lv_at hl 2 rfl) ?_
    refine z_if_lt hx hb 29 dX4_movePiece_8 (by decide) (C := False) (nI_lt0 (by omega)) (fun h8 => ?_) (fun h8 => ?_)
    · skip
      exact h8.elim
    · skip
      refine lv_iload_n hx hb dX4_movePiece_11 rfl (lv_at hl 2 rfl) ?_
      refine z_bipush hx hb (nI 14) dX4_movePiece_12 (by decide) ?_
      refine z_icmp_ge hx hb 29 dX4_movePiece_14 (by decide) (C := 14 ≤ q) (nIle (by omega) (by omega)) (fun h14 => ?_) (fun h14 => ?_)
      · skip
        exfalso
        omega
      · skip
        refine lv_aload_n hx hb dX4_movePiece_17 rfl (lv_at hl 0 rfl) ?_
        refine z_get hE fF_X4_3 hZ 0 rfl (.ref m4) rfl dX4_movePiece_18 ?_
        refine lv_iload_n hx hb dX4_movePiece_21 rfl (lv_at hl 1 rfl) ?_
        refine z_bipush hx hb (nI 14) dX4_movePiece_22 (by decide) ?_
        refine z_imul hx hb dX4_movePiece_24 (z := nI (f * 14)) (pk_mul _ _) ?_
        refine lv_iload_n hx hb dX4_movePiece_25 rfl (lv_at hl 2 rfl) ?_
        refine z_iadd hx hb dX4_movePiece_26 (z := nI ((f * 14) + q)) (nI_add _ _) ?_
        refine lv_iload_n hx hb dX4_movePiece_27 rfl (lv_at hl 3 rfl) ?_
        refine z_iast nI mp x hE hZ 4 0 rfl rfl (by decide) (by omega) dX4_movePiece_28 [(m0, .inr (4, [.ref m1, .ref m2, .ref m3, .ref m4, .ref m5, .int (zW mc)])), (m1, .inl (cI, 32, .inl (fun x9 => zI (ms x9)))), (m2, .inl (cJ, 1792, .inr (.inl mw))), (m3, .inl (cI, 32, .inl (fun x9 => nI (mi x9)))), (m4, .inl (cI, 448, .inl (fun x9 => nI ((va_up mp ((f * 14) + q) x) x9)))), (m5, .inl (cI, 32, .inl (fun x9 => zW (mb x9))))] rfl (fun H locs hZ => ?_)
        exact z_vret hE hrt9 hlocks hZ () rfl trivial rfl dX4_movePiece_29 (Nat.le_of_ble_eq_true rfl) (Nat.le_of_ble_eq_true rfl)
set_option maxHeartbeats 1000000 in
set_option maxRecDepth 100000 in
theorem c_X4_moveInode (l : Launch) (D : va_G) (cI cJ cZ cII cZZ : ClassId) (m0 : Nat) (m1 : Nat) (m2 : Nat) (m3 : Nat) (m4 : Nat) (m5 : Nat) (ms : Nat → Int) (mw : Nat → Int64) (mi : Nat → Nat) (mp : Nat → Nat) (mb : Nat → BitVec 32) (mc : BitVec 32) (f : Nat) (x : Nat) (hf : f < 32) :
    zC l yX4_moveInode cX4_moveInode 3 none { frames := 1, cells := 0, slots := 0, locals := 20 } D (zT cI cJ cZ cII cZZ) [.ref m0, .int (nI f), .int (nI x)] [(m0, .inr (4, [.ref m1, .ref m2, .ref m3, .ref m4, .ref m5, .int (zW mc)])), (m1, .inl (cI, 32, .inl (fun x9 => zI (ms x9)))), (m2, .inl (cJ, 1792, .inr (.inl mw))), (m3, .inl (cI, 32, .inl (fun x9 => nI (mi x9)))), (m4, .inl (cI, 448, .inl (fun x9 => nI (mp x9)))), (m5, .inl (cI, 32, .inl (fun x9 => zW (mb x9))))] (S := Unit) (fun u => none) (fun u => True) (fun u => [(m0, .inr (4, [.ref m1, .ref m2, .ref m3, .ref m4, .ref m5, .int (zW mc)])), (m1, .inl (cI, 32, .inl (fun x9 => zI (ms x9)))), (m2, .inl (cJ, 1792, .inr (.inl mw))), (m3, .inl (cI, 32, .inl (fun x9 => nI ((va_up mi f x) x9)))), (m4, .inl (cI, 448, .inl (fun x9 => nI (mp x9)))), (m5, .inl (cI, 32, .inl (fun x9 => zW (mb x9))))]) := by
  refine zC_of (by decide) (Nat.le_of_ble_eq_true rfl) ?_
  intro prg env s mth below meth cde A ls hE hrt9 hlocks hnm hZ hl
  have hx := hE.1
  have hb := hE.2.1
  have hl : lv_has ls 3 [(0, .ref m0), (1, .int (nI f)), (2, .int (nI x))] := hl
  refine lv_iload_n hx hb dX4_moveInode_0 rfl (lv_at hl 1 rfl) ?_
  refine z_kN (As := [.int (nI f)]) (rest := []) hE hZ (c_X6_isFile l D cI cJ cZ cII cZZ  ((f : Nat) : Int) (nI f) (by first | assumption | omega) (zI_n _)) lL_X6_isFile lC_X4_41 [] [0, 1, 2, 3, 4, 5] [0, 1, 2, 3, 4, 5] [(m0, .inr (4, [.ref m1, .ref m2, .ref m3, .ref m4, .ref m5, .int (zW mc)])), (m1, .inl (cI, 32, .inl (fun x9 => zI (ms x9)))), (m2, .inl (cJ, 1792, .inr (.inl mw))), (m3, .inl (cI, 32, .inl (fun x9 => nI (mi x9)))), (m4, .inl (cI, 448, .inl (fun x9 => nI (mp x9)))), (m5, .inl (cI, 32, .inl (fun x9 => zW (mb x9))))] (fun u => [(m0, .inr (4, [.ref m1, .ref m2, .ref m3, .ref m4, .ref m5, .int (zW mc)])), (m1, .inl (cI, 32, .inl (fun x9 => zI (ms x9)))), (m2, .inl (cJ, 1792, .inr (.inl mw))), (m3, .inl (cI, 32, .inl (fun x9 => nI (mi x9)))), (m4, .inl (cI, 448, .inl (fun x9 => nI (mp x9)))), (m5, .inl (cI, 32, .inl (fun x9 => zW (mb x9))))]) rfl rfl (fun _ => rfl) (by decide) ⟨by decide, by decide⟩ 0 0 rfl rfl ⟨by decide, by decide⟩ rfl hl.1 rfl (Nat.le_of_ble_eq_true rfl) dX4_moveInode_1 (fun u H locs hq9 hZ => ?_)
  have hZ : zS D A s.heap H locs [(m0, .inr (4, [.ref m1, .ref m2, .ref m3, .ref m4, .ref m5, .int (zW mc)])), (m1, .inl (cI, 32, .inl (fun x9 => zI (ms x9)))), (m2, .inl (cJ, 1792, .inr (.inl mw))), (m3, .inl (cI, 32, .inl (fun x9 => nI (mi x9)))), (m4, .inl (cI, 448, .inl (fun x9 => nI (mp x9)))), (m5, .inl (cI, 32, .inl (fun x9 => zW (mb x9))))] := hZ
  refine W.eq (g2 := F0 mth 4 ls [.int (zB (decide (0 ≤ ((f : Nat) : Int)) && decide (((f : Nat) : Int) < 32)))]) rfl ?_
  refine z_if_eq hx hb 14 dX4_moveInode_4 (by decide) (C := (decide (0 ≤ ((f : Nat) : Int)) && decide (((f : Nat) : Int) < 32)) = false) (zB_0 _) (fun h4 => ?_) (fun h4 => ?_)
  · skip
    exfalso
    simp at h4; omega
  · skip
    refine lv_aload_n hx hb dX4_moveInode_7 rfl (lv_at hl 0 rfl) ?_
    refine z_get hE fF_X4_2 hZ 0 rfl (.ref m3) rfl dX4_moveInode_8 ?_
    refine lv_iload_n hx hb dX4_moveInode_11 rfl (lv_at hl 1 rfl) ?_
    refine lv_iload_n hx hb dX4_moveInode_12 rfl (lv_at hl 2 rfl) ?_
    refine z_iast nI mi x hE hZ 3 0 rfl rfl (by decide) (by omega) dX4_moveInode_13 [(m0, .inr (4, [.ref m1, .ref m2, .ref m3, .ref m4, .ref m5, .int (zW mc)])), (m1, .inl (cI, 32, .inl (fun x9 => zI (ms x9)))), (m2, .inl (cJ, 1792, .inr (.inl mw))), (m3, .inl (cI, 32, .inl (fun x9 => nI ((va_up mi f x) x9)))), (m4, .inl (cI, 448, .inl (fun x9 => nI (mp x9)))), (m5, .inl (cI, 32, .inl (fun x9 => zW (mb x9))))] rfl (fun H locs hZ => ?_)
    exact z_vret hE hrt9 hlocks hZ () rfl trivial rfl dX4_moveInode_14 (Nat.le_of_ble_eq_true rfl) (Nat.le_of_ble_eq_true rfl)
set_option maxHeartbeats 1000000 in
set_option maxRecDepth 100000 in
theorem c_X4_pieceInto (l : Launch) (D : va_G) (cI cJ cZ cII cZZ : ClassId) (m0 : Nat) (m1 : Nat) (m2 : Nat) (m3 : Nat) (m4 : Nat) (m5 : Nat) (ms : Nat → Int) (mw : Nat → Int64) (mi : Nat → Nat) (mp : Nat → Nat) (mb : Nat → BitVec 32) (mc : BitVec 32) (k0 : Nat) (k1 : Nat) (kw : Nat → Int64) (f : Nat) (q : Nat) (hf : f < 32) (hq : q < 14) (hms : ∀ f, f < 32 → -1 ≤ ms f ∧ ms f ≤ 448) :
    zC l yX4_pieceInto cX4_pieceInto 9 none { frames := 2, cells := 0, slots := 0, locals := 44 } D (zT cI cJ cZ cII cZZ) [.ref m0, .int (nI f), .int (nI q), .ref k0] [(m0, .inr (4, [.ref m1, .ref m2, .ref m3, .ref m4, .ref m5, .int (zW mc)])), (m1, .inl (cI, 32, .inl (fun x9 => zI (ms x9)))), (m2, .inl (cJ, 1792, .inr (.inl mw))), (m3, .inl (cI, 32, .inl (fun x9 => nI (mi x9)))), (m4, .inl (cI, 448, .inl (fun x9 => nI (mp x9)))), (m5, .inl (cI, 32, .inl (fun x9 => zW (mb x9)))), (k0, .inr (0, [.ref k1])), (k1, .inl (cJ, 4, .inr (.inl kw)))] (S := (Nat → Int64)) (fun u => none) (fun u => (∀ k, k < 32 → bo u k = if ((q * 32 + k : Nat) : Int) < ms f then mo mw f (q * 32 + k) else 0)) (fun u => [(m0, .inr (4, [.ref m1, .ref m2, .ref m3, .ref m4, .ref m5, .int (zW mc)])), (m1, .inl (cI, 32, .inl (fun x9 => zI (ms x9)))), (m2, .inl (cJ, 1792, .inr (.inl mw))), (m3, .inl (cI, 32, .inl (fun x9 => nI (mi x9)))), (m4, .inl (cI, 448, .inl (fun x9 => nI (mp x9)))), (m5, .inl (cI, 32, .inl (fun x9 => zW (mb x9)))), (k0, .inr (0, [.ref k1])), (k1, .inl (cJ, 4, .inr (.inl u)))]) := by
  refine zC_of (by decide) (Nat.le_of_ble_eq_true rfl) ?_
  intro prg env s mth below meth cde A ls hE hrt9 hlocks hnm hZ hl
  have hx := hE.1
  have hb := hE.2.1
  have hl : lv_has ls 9 [(0, .ref m0), (1, .int (nI f)), (2, .int (nI q)), (3, .ref k0)] := hl
  have hmf := hms f hf
  refine lv_aload_n hx hb dX4_pieceInto_0 rfl (lv_at hl 3 rfl) ?_
  refine z_kV (As := []) (rest := []) hE hZ (c_X0_wipe l D cI cJ cZ cII cZZ k0 k1 kw  ) lL_X0_wipe lC_X4_76 rfl [6, 7] [0, 1, 2, 3, 4, 5] [0, 1, 2, 3, 4, 5, 6, 7] [(m0, .inr (4, [.ref m1, .ref m2, .ref m3, .ref m4, .ref m5, .int (zW mc)])), (m1, .inl (cI, 32, .inl (fun x9 => zI (ms x9)))), (m2, .inl (cJ, 1792, .inr (.inl mw))), (m3, .inl (cI, 32, .inl (fun x9 => nI (mi x9)))), (m4, .inl (cI, 448, .inl (fun x9 => nI (mp x9)))), (m5, .inl (cI, 32, .inl (fun x9 => zW (mb x9))))] (fun u => [(m0, .inr (4, [.ref m1, .ref m2, .ref m3, .ref m4, .ref m5, .int (zW mc)])), (m1, .inl (cI, 32, .inl (fun x9 => zI (ms x9)))), (m2, .inl (cJ, 1792, .inr (.inl mw))), (m3, .inl (cI, 32, .inl (fun x9 => nI (mi x9)))), (m4, .inl (cI, 448, .inl (fun x9 => nI (mp x9)))), (m5, .inl (cI, 32, .inl (fun x9 => zW (mb x9)))), (k0, .inr (0, [.ref k1])), (k1, .inl (cJ, 4, .inr (.inl (fun _ => 0))))]) 0 rfl rfl rfl (fun _ => rfl) (by decide) ⟨by decide, by decide⟩ 0 0 rfl rfl ⟨by decide, by decide⟩ rfl hl.1 rfl (Nat.le_of_ble_eq_true rfl) dX4_pieceInto_1 (fun u H locs hq9 hZ => ?_)
  have hZ : zS D A s.heap H locs [(m0, .inr (4, [.ref m1, .ref m2, .ref m3, .ref m4, .ref m5, .int (zW mc)])), (m1, .inl (cI, 32, .inl (fun x9 => zI (ms x9)))), (m2, .inl (cJ, 1792, .inr (.inl mw))), (m3, .inl (cI, 32, .inl (fun x9 => nI (mi x9)))), (m4, .inl (cI, 448, .inl (fun x9 => nI (mp x9)))), (m5, .inl (cI, 32, .inl (fun x9 => zW (mb x9)))), (k0, .inr (0, [.ref k1])), (k1, .inl (cJ, 4, .inr (.inl (fun _ => 0))))] := hZ
  refine W.eq (g2 := F0 mth 4 ls []) rfl ?_
  refine lv_iload_n hx hb dX4_pieceInto_4 rfl (lv_at hl 1 rfl) ?_
  refine z_kN (As := [.int (nI f)]) (rest := []) hE hZ (c_X6_isFile l D cI cJ cZ cII cZZ  ((f : Nat) : Int) (nI f) (by first | assumption | omega) (zI_n _)) lL_X6_isFile lC_X4_41 [] [0, 1, 2, 3, 4, 5, 6, 7] [0, 1, 2, 3, 4, 5, 6, 7] [(m0, .inr (4, [.ref m1, .ref m2, .ref m3, .ref m4, .ref m5, .int (zW mc)])), (m1, .inl (cI, 32, .inl (fun x9 => zI (ms x9)))), (m2, .inl (cJ, 1792, .inr (.inl mw))), (m3, .inl (cI, 32, .inl (fun x9 => nI (mi x9)))), (m4, .inl (cI, 448, .inl (fun x9 => nI (mp x9)))), (m5, .inl (cI, 32, .inl (fun x9 => zW (mb x9)))), (k0, .inr (0, [.ref k1])), (k1, .inl (cJ, 4, .inr (.inl (fun _ => 0))))] (fun u => [(m0, .inr (4, [.ref m1, .ref m2, .ref m3, .ref m4, .ref m5, .int (zW mc)])), (m1, .inl (cI, 32, .inl (fun x9 => zI (ms x9)))), (m2, .inl (cJ, 1792, .inr (.inl mw))), (m3, .inl (cI, 32, .inl (fun x9 => nI (mi x9)))), (m4, .inl (cI, 448, .inl (fun x9 => nI (mp x9)))), (m5, .inl (cI, 32, .inl (fun x9 => zW (mb x9)))), (k0, .inr (0, [.ref k1])), (k1, .inl (cJ, 4, .inr (.inl (fun _ => 0))))]) rfl rfl (fun _ => rfl) (by decide) ⟨by decide, by decide⟩ 0 0 rfl rfl ⟨by decide, by decide⟩ rfl hl.1 rfl (Nat.le_of_ble_eq_true rfl) dX4_pieceInto_5 (fun u H locs hq9 hZ => ?_)
  have hZ : zS D A s.heap H locs [(m0, .inr (4, [.ref m1, .ref m2, .ref m3, .ref m4, .ref m5, .int (zW mc)])), (m1, .inl (cI, 32, .inl (fun x9 => zI (ms x9)))), (m2, .inl (cJ, 1792, .inr (.inl mw))), (m3, .inl (cI, 32, .inl (fun x9 => nI (mi x9)))), (m4, .inl (cI, 448, .inl (fun x9 => nI (mp x9)))), (m5, .inl (cI, 32, .inl (fun x9 => zW (mb x9)))), (k0, .inr (0, [.ref k1])), (k1, .inl (cJ, 4, .inr (.inl (fun _ => 0))))] := hZ
  refine W.eq (g2 := F0 mth 8 ls [.int (zB (decide (0 ≤ ((f : Nat) : Int)) && decide (((f : Nat) : Int) < 32)))]) rfl ?_
  refine z_if_eq hx hb 21 dX4_pieceInto_8 (by decide) (C := (decide (0 ≤ ((f : Nat) : Int)) && decide (((f : Nat) : Int) < 32)) = false) (zB_0 _) (fun h8 => ?_) (fun h8 => ?_)
  · skip
    exfalso
    simp at h8; omega
  · skip
    refine lv_iload_n hx hb dX4_pieceInto_11 rfl (lv_at hl 2 rfl) ?_
    refine z_if_lt hx hb 21 dX4_pieceInto_12 (by decide) (C := False) (nI_lt0 (by omega)) (fun h12 => ?_) (fun h12 => ?_)
    · skip
      exact h12.elim
    · skip
      refine lv_iload_n hx hb dX4_pieceInto_15 rfl (lv_at hl 2 rfl) ?_
      refine z_bipush hx hb (nI 14) dX4_pieceInto_16 (by decide) ?_
      refine z_icmp_lt hx hb 22 dX4_pieceInto_18 (by decide) (C := q < 14) (nIlt (by omega) (by omega)) (fun h18 => ?_) (fun h18 => ?_)
      · skip
        refine lv_iload_n hx hb dX4_pieceInto_22 rfl (lv_at hl 2 rfl) ?_
        refine z_iconst hx hb (nI 4) dX4_pieceInto_23 (by decide) ?_
        refine z_imul hx hb dX4_pieceInto_24 (z := nI (q * 4)) (pk_mul _ _) ?_
        refine lv_istore (lv' := [(4, .int (nI (q * 4))), (0, .ref m0), (1, .int (nI f)), (2, .int (nI q)), (3, .ref k0)]) hx hb dX4_pieceInto_25 hl (by decide) rfl (fun ls hl => ?_)
        refine z_iconst hx hb (nI 0) dX4_pieceInto_27 (by decide) ?_
        refine lv_istore (lv' := [(5, .int (nI 0)), (4, .int (nI (q * 4))), (0, .ref m0), (1, .int (nI f)), (2, .int (nI q)), (3, .ref k0)]) hx hb dX4_pieceInto_28 hl (by decide) rfl (fun ls hl => ?_)
        refine z_loop (σ := Nat × (Nat → Int64)) (fun (i, w) H locs ls => (i ≤ 4) ∧ (∀ k, k < 32 → bo w k = if k < i * 8 ∧ ((q * 32 + k : Nat) : Int) < ms f then mo mw f (q * 32 + k) else 0) ∧ zS D A s.heap H locs [(m0, .inr (4, [.ref m1, .ref m2, .ref m3, .ref m4, .ref m5, .int (zW mc)])), (m1, .inl (cI, 32, .inl (fun x9 => zI (ms x9)))), (m2, .inl (cJ, 1792, .inr (.inl mw))), (m3, .inl (cI, 32, .inl (fun x9 => nI (mi x9)))), (m4, .inl (cI, 448, .inl (fun x9 => nI (mp x9)))), (m5, .inl (cI, 32, .inl (fun x9 => zW (mb x9)))), (k0, .inr (0, [.ref k1])), (k1, .inl (cJ, 4, .inr (.inl w)))] ∧ lv_has ls 9 [(0, .ref m0), (1, .int (nI f)), (2, .int (nI q)), (3, .ref k0), (4, .int (nI (q * 4))), (5, .int (nI i))]) (fun (i, w) => 4 - i) [] (0, fun _ => 0) ⟨by omega, fun k _ => by rw [if_neg (by omega)]; exact oc_0 _, hZ, lv_sub hl [2, 3, 4, 5, 1, 0] (by first | rfl | (simp only [lv_pick]; rfl))⟩ ?_
        intro x H locs ls hI ih30
        obtain ⟨i, w⟩ := x
        obtain ⟨hi, hw, hZ, hl⟩ := hI
        refine lv_iload hx hb dX4_pieceInto_30 (lv_at hl 5 rfl) ?_
        refine z_iconst hx hb (nI 4) dX4_pieceInto_32 (by decide) ?_
        refine z_icmp_ge hx hb 115 dX4_pieceInto_33 (by decide) (C := 4 ≤ i) (nIle (by omega) (by omega)) (fun h33 => ?_) (fun h33 => ?_)
        · skip
          exact z_vret hE hrt9 hlocks hZ w rfl (show (∀ k, k < 32 → bo w k = if ((q * 32 + k : Nat) : Int) < ms f then mo mw f (q * 32 + k) else 0) from fun k hk => by rw [hw k hk]; congr 1; simp; omega) rfl dX4_pieceInto_115 (Nat.le_of_ble_eq_true rfl) (Nat.le_of_ble_eq_true rfl)
        · skip
          refine lv_aload_n hx hb dX4_pieceInto_36 rfl (lv_at hl 0 rfl) ?_
          refine z_get hE fF_X4_0 hZ 0 rfl (.ref m1) rfl dX4_pieceInto_37 ?_
          refine lv_iload_n hx hb dX4_pieceInto_40 rfl (lv_at hl 1 rfl) ?_
          refine z_iald hE hZ 1 0 rfl rfl (by decide) (by omega) dX4_pieceInto_41 ?_
          refine lv_iload hx hb dX4_pieceInto_42 (lv_at hl 4 rfl) ?_
          refine lv_iload hx hb dX4_pieceInto_44 (lv_at hl 5 rfl) ?_
          refine z_iadd hx hb dX4_pieceInto_46 (z := nI ((q * 4) + i)) (nI_add _ _) ?_
          refine z_bipush hx hb (nI 8) dX4_pieceInto_47 (by decide) ?_
          refine z_imul hx hb dX4_pieceInto_49 (z := nI (((q * 4) + i) * 8)) (pk_mul _ _) ?_
          refine z_isub hx hb dX4_pieceInto_50 (z := zI ((ms f) - ((((q * 4) + i) * 8 : Nat) : Int))) (by (try simp only [zI_n]); exact zI_sub _ _) ?_
          refine lv_istore (lv' := [(6, .int (zI ((ms f) - ((((q * 4) + i) * 8 : Nat) : Int)))), (0, .ref m0), (1, .int (nI f)), (2, .int (nI q)), (3, .ref k0), (4, .int (nI (q * 4))), (5, .int (nI i))]) hx hb dX4_pieceInto_51 hl (by decide) rfl (fun ls hl => ?_)
          refine lv_iload hx hb dX4_pieceInto_53 (lv_at hl 0 rfl) ?_
          refine z_if_le hx hb 109 dX4_pieceInto_55 (by decide) (C := (ms f) - ((((q * 4) + i) * 8 : Nat) : Int) ≤ 0) (zI_le0 ⟨by omega, by omega⟩) (fun h55 => ?_) (fun h55 => ?_)
          · skip
            refine lv_iinc (v := nI (i + 1)) (lv' := [(5, .int (nI (i + 1))), (6, .int (zI ((ms f) - ((((q * 4) + i) * 8 : Nat) : Int)))), (0, .ref m0), (1, .int (nI f)), (2, .int (nI q)), (3, .ref k0), (4, .int (nI (q * 4)))]) hx hb dX4_pieceInto_109 hl (k := 6) rfl (nI_add _ _) (by decide) rfl (fun ls hl => ?_)
            refine lv_goto (tgt := 30) hx hb dX4_pieceInto_112 (by decide) ?_
            exact ih30 (i + 1, w) _ _ _ ⟨by omega, by first | (have z : ms f - (((q * 4 + i) * 8 : Nat) : Int) ≤ 0 := h55; exact pi_z (by omega) hw z) | (have z : ¬ ms f - (((q * 4 + i) * 8 : Nat) : Int) < 8 := h62; exact pi_f (by omega) hw z) | (have z : ms f - (((q * 4 + i) * 8 : Nat) : Int) < 8 := h62; exact pi_c (by omega) hw h55 z), hZ, lv_sub hl [2, 3, 4, 5, 6, 0] (by first | rfl | (simp only [lv_pick]; rfl))⟩ (by (try dsimp only); omega)
          · skip
            refine lv_iload hx hb dX4_pieceInto_58 (lv_at hl 0 rfl) ?_
            refine z_bipush hx hb (nI 8) dX4_pieceInto_60 (by decide) ?_
            refine z_icmp_lt hx hb 71 dX4_pieceInto_62 (by decide) (C := ((ms f) - ((((q * 4) + i) * 8 : Nat) : Int) : Int) < 8) (by (try simp only [zI_n]); exact zI_lt ⟨by omega, by omega⟩ ⟨by omega, by omega⟩) (fun h62 => ?_) (fun h62 => ?_)
            · skip
              refine lv_ldc2 (v := -1) hx hb hE.2.2.2.1 (hE.2.2.2.2.1 _ mg817) dX4_pieceInto_71 ?_
              refine z_bipush hx hb (nI 64) dX4_pieceInto_74 (by decide) ?_
              refine z_bipush hx hb (nI 8) dX4_pieceInto_76 (by decide) ?_
              refine lv_iload hx hb dX4_pieceInto_78 (lv_at hl 0 rfl) ?_
              refine z_imul hx hb dX4_pieceInto_80 (z := zI (8 * ((ms f) - ((((q * 4) + i) * 8 : Nat) : Int)))) (by (try simp only [zI_n]); exact zI_mul _ _) ?_
              refine z_isub hx hb dX4_pieceInto_81 (z := zI (64 - (8 * ((ms f) - ((((q * 4) + i) * 8 : Nat) : Int))))) (by (try simp only [zI_n]); exact zI_sub _ _) ?_
              refine z_top (show zI (64 - (8 * ((ms f) - ((((q * 4) + i) * 8 : Nat) : Int)))) = nI (64 - 8 * (ms f - ((q * 4 + i) * 8 : Nat)).toNat) from by rw [zI_n]; congr 1; omega) ?_
              refine lv_lshl (v := (-1 : Int64) <<< ((nI (64 - 8 * (ms f - ((q * 4 + i) * 8 : Nat)).toNat)).toInt64 &&& 63)) hx hb dX4_pieceInto_82 rfl ?_
              refine lv_lstore (lv' := [(7, .long ((-1 : Int64) <<< ((nI (64 - 8 * (ms f - ((q * 4 + i) * 8 : Nat)).toNat)).toInt64 &&& 63))), (6, .int (zI ((ms f) - ((((q * 4) + i) * 8 : Nat) : Int)))), (0, .ref m0), (1, .int (nI f)), (2, .int (nI q)), (3, .ref k0), (4, .int (nI (q * 4))), (5, .int (nI i))]) hx hb dX4_pieceInto_83 hl (by decide) rfl (fun ls hl => ?_)
              refine lv_aload_n hx hb dX4_pieceInto_85 rfl (lv_at hl 5 rfl) ?_
              refine lv_iload hx hb dX4_pieceInto_86 (lv_at hl 7 rfl) ?_
              refine lv_aload_n hx hb dX4_pieceInto_88 rfl (lv_at hl 2 rfl) ?_
              refine z_get hE fF_X4_1 hZ 0 rfl (.ref m2) rfl dX4_pieceInto_89 ?_
              refine lv_iload_n hx hb dX4_pieceInto_92 rfl (lv_at hl 3 rfl) ?_
              refine z_bipush hx hb (nI 56) dX4_pieceInto_93 (by decide) ?_
              refine z_imul hx hb dX4_pieceInto_95 (z := nI (f * 56)) (pk_mul _ _) ?_
              refine lv_iload hx hb dX4_pieceInto_96 (lv_at hl 6 rfl) ?_
              refine z_iadd hx hb dX4_pieceInto_98 (z := nI ((f * 56) + (q * 4))) (nI_add _ _) ?_
              refine lv_iload hx hb dX4_pieceInto_99 (lv_at hl 7 rfl) ?_
              refine z_iadd hx hb dX4_pieceInto_101 (z := nI (((f * 56) + (q * 4)) + i)) (nI_add _ _) ?_
              refine z_lald hE hZ 2 1 rfl rfl (by decide) (by omega) dX4_pieceInto_102 ?_
              refine lv_lload hx hb dX4_pieceInto_103 (lv_at hl 0 rfl) ?_
              refine lv_land hx hb dX4_pieceInto_105 ?_
              refine z_kV (As := [.int (nI i), .long ((mw (((f * 56) + (q * 4)) + i)) &&& ((-1 : Int64) <<< ((nI (64 - 8 * (ms f - ((q * 4 + i) * 8 : Nat)).toNat)).toInt64 &&& 63)))]) (rest := []) hE hZ (c_X0_setWord l D cI cJ cZ cII cZZ k0 k1 w i ((mw (((f * 56) + (q * 4)) + i)) &&& ((-1 : Int64) <<< ((nI (64 - 8 * (ms f - ((q * 4 + i) * 8 : Nat)).toNat)).toInt64 &&& 63))) (by omega)) lL_X0_setWord lC_X4_81 rfl [6, 7] [0, 1, 2, 3, 4, 5] [0, 1, 2, 3, 4, 5, 6, 7] [(m0, .inr (4, [.ref m1, .ref m2, .ref m3, .ref m4, .ref m5, .int (zW mc)])), (m1, .inl (cI, 32, .inl (fun x9 => zI (ms x9)))), (m2, .inl (cJ, 1792, .inr (.inl mw))), (m3, .inl (cI, 32, .inl (fun x9 => nI (mi x9)))), (m4, .inl (cI, 448, .inl (fun x9 => nI (mp x9)))), (m5, .inl (cI, 32, .inl (fun x9 => zW (mb x9))))] (fun u => [(m0, .inr (4, [.ref m1, .ref m2, .ref m3, .ref m4, .ref m5, .int (zW mc)])), (m1, .inl (cI, 32, .inl (fun x9 => zI (ms x9)))), (m2, .inl (cJ, 1792, .inr (.inl mw))), (m3, .inl (cI, 32, .inl (fun x9 => nI (mi x9)))), (m4, .inl (cI, 448, .inl (fun x9 => nI (mp x9)))), (m5, .inl (cI, 32, .inl (fun x9 => zW (mb x9)))), (k0, .inr (0, [.ref k1])), (k1, .inl (cJ, 4, .inr (.inl (va_up w i ((mw (((f * 56) + (q * 4)) + i)) &&& ((-1 : Int64) <<< ((nI (64 - 8 * (ms f - ((q * 4 + i) * 8 : Nat)).toNat)).toInt64 &&& 63)))))))]) 0 rfl rfl rfl (fun _ => rfl) (by decide) ⟨by decide, by decide⟩ 0 0 rfl rfl ⟨by decide, by decide⟩ rfl hl.1 rfl (Nat.le_of_ble_eq_true rfl) dX4_pieceInto_106 (fun u H locs hq9 hZ => ?_)
              have hZ : zS D A s.heap H locs [(m0, .inr (4, [.ref m1, .ref m2, .ref m3, .ref m4, .ref m5, .int (zW mc)])), (m1, .inl (cI, 32, .inl (fun x9 => zI (ms x9)))), (m2, .inl (cJ, 1792, .inr (.inl mw))), (m3, .inl (cI, 32, .inl (fun x9 => nI (mi x9)))), (m4, .inl (cI, 448, .inl (fun x9 => nI (mp x9)))), (m5, .inl (cI, 32, .inl (fun x9 => zW (mb x9)))), (k0, .inr (0, [.ref k1])), (k1, .inl (cJ, 4, .inr (.inl (va_up w i ((mw (((f * 56) + (q * 4)) + i)) &&& ((-1 : Int64) <<< ((nI (64 - 8 * (ms f - ((q * 4 + i) * 8 : Nat)).toNat)).toInt64 &&& 63)))))))] := hZ
              refine W.eq (g2 := F0 mth 109 ls []) rfl ?_
              refine lv_iinc (v := nI (i + 1)) (lv' := [(5, .int (nI (i + 1))), (7, .long ((-1 : Int64) <<< ((nI (64 - 8 * (ms f - ((q * 4 + i) * 8 : Nat)).toNat)).toInt64 &&& 63))), (6, .int (zI ((ms f) - ((((q * 4) + i) * 8 : Nat) : Int)))), (0, .ref m0), (1, .int (nI f)), (2, .int (nI q)), (3, .ref k0), (4, .int (nI (q * 4)))]) hx hb dX4_pieceInto_109 hl (k := 7) rfl (nI_add _ _) (by decide) rfl (fun ls hl => ?_)
              refine lv_goto (tgt := 30) hx hb dX4_pieceInto_112 (by decide) ?_
              exact ih30 (i + 1, va_up w i ((mw (((f * 56) + (q * 4)) + i)) &&& ((-1 : Int64) <<< ((nI (64 - 8 * (ms f - ((q * 4 + i) * 8 : Nat)).toNat)).toInt64 &&& 63)))) _ _ _ ⟨by omega, by first | (have z : ms f - (((q * 4 + i) * 8 : Nat) : Int) ≤ 0 := h55; exact pi_z (by omega) hw z) | (have z : ¬ ms f - (((q * 4 + i) * 8 : Nat) : Int) < 8 := h62; exact pi_f (by omega) hw z) | (have z : ms f - (((q * 4 + i) * 8 : Nat) : Int) < 8 := h62; exact pi_c (by omega) hw h55 z), hZ, lv_sub hl [3, 4, 5, 6, 7, 0] (by first | rfl | (simp only [lv_pick]; rfl))⟩ (by (try dsimp only); omega)
            · skip
              refine lv_ldc2 (v := -1) hx hb hE.2.2.2.1 (hE.2.2.2.2.1 _ mg817) dX4_pieceInto_65 ?_
              refine lv_goto (tgt := 83) hx hb dX4_pieceInto_68 (by decide) ?_
              refine lv_lstore (lv' := [(7, .long (-1 : Int64)), (6, .int (zI ((ms f) - ((((q * 4) + i) * 8 : Nat) : Int)))), (0, .ref m0), (1, .int (nI f)), (2, .int (nI q)), (3, .ref k0), (4, .int (nI (q * 4))), (5, .int (nI i))]) hx hb dX4_pieceInto_83 hl (by decide) rfl (fun ls hl => ?_)
              refine lv_aload_n hx hb dX4_pieceInto_85 rfl (lv_at hl 5 rfl) ?_
              refine lv_iload hx hb dX4_pieceInto_86 (lv_at hl 7 rfl) ?_
              refine lv_aload_n hx hb dX4_pieceInto_88 rfl (lv_at hl 2 rfl) ?_
              refine z_get hE fF_X4_1 hZ 0 rfl (.ref m2) rfl dX4_pieceInto_89 ?_
              refine lv_iload_n hx hb dX4_pieceInto_92 rfl (lv_at hl 3 rfl) ?_
              refine z_bipush hx hb (nI 56) dX4_pieceInto_93 (by decide) ?_
              refine z_imul hx hb dX4_pieceInto_95 (z := nI (f * 56)) (pk_mul _ _) ?_
              refine lv_iload hx hb dX4_pieceInto_96 (lv_at hl 6 rfl) ?_
              refine z_iadd hx hb dX4_pieceInto_98 (z := nI ((f * 56) + (q * 4))) (nI_add _ _) ?_
              refine lv_iload hx hb dX4_pieceInto_99 (lv_at hl 7 rfl) ?_
              refine z_iadd hx hb dX4_pieceInto_101 (z := nI (((f * 56) + (q * 4)) + i)) (nI_add _ _) ?_
              refine z_lald hE hZ 2 1 rfl rfl (by decide) (by omega) dX4_pieceInto_102 ?_
              refine lv_lload hx hb dX4_pieceInto_103 (lv_at hl 0 rfl) ?_
              refine lv_land hx hb dX4_pieceInto_105 ?_
              refine z_kV (As := [.int (nI i), .long ((mw (((f * 56) + (q * 4)) + i)) &&& (-1 : Int64))]) (rest := []) hE hZ (c_X0_setWord l D cI cJ cZ cII cZZ k0 k1 w i ((mw (((f * 56) + (q * 4)) + i)) &&& (-1 : Int64)) (by omega)) lL_X0_setWord lC_X4_81 rfl [6, 7] [0, 1, 2, 3, 4, 5] [0, 1, 2, 3, 4, 5, 6, 7] [(m0, .inr (4, [.ref m1, .ref m2, .ref m3, .ref m4, .ref m5, .int (zW mc)])), (m1, .inl (cI, 32, .inl (fun x9 => zI (ms x9)))), (m2, .inl (cJ, 1792, .inr (.inl mw))), (m3, .inl (cI, 32, .inl (fun x9 => nI (mi x9)))), (m4, .inl (cI, 448, .inl (fun x9 => nI (mp x9)))), (m5, .inl (cI, 32, .inl (fun x9 => zW (mb x9))))] (fun u => [(m0, .inr (4, [.ref m1, .ref m2, .ref m3, .ref m4, .ref m5, .int (zW mc)])), (m1, .inl (cI, 32, .inl (fun x9 => zI (ms x9)))), (m2, .inl (cJ, 1792, .inr (.inl mw))), (m3, .inl (cI, 32, .inl (fun x9 => nI (mi x9)))), (m4, .inl (cI, 448, .inl (fun x9 => nI (mp x9)))), (m5, .inl (cI, 32, .inl (fun x9 => zW (mb x9)))), (k0, .inr (0, [.ref k1])), (k1, .inl (cJ, 4, .inr (.inl (va_up w i ((mw (((f * 56) + (q * 4)) + i)) &&& (-1 : Int64))))))]) 0 rfl rfl rfl (fun _ => rfl) (by decide) ⟨by decide, by decide⟩ 0 0 rfl rfl ⟨by decide, by decide⟩ rfl hl.1 rfl (Nat.le_of_ble_eq_true rfl) dX4_pieceInto_106 (fun u H locs hq9 hZ => ?_)
              have hZ : zS D A s.heap H locs [(m0, .inr (4, [.ref m1, .ref m2, .ref m3, .ref m4, .ref m5, .int (zW mc)])), (m1, .inl (cI, 32, .inl (fun x9 => zI (ms x9)))), (m2, .inl (cJ, 1792, .inr (.inl mw))), (m3, .inl (cI, 32, .inl (fun x9 => nI (mi x9)))), (m4, .inl (cI, 448, .inl (fun x9 => nI (mp x9)))), (m5, .inl (cI, 32, .inl (fun x9 => zW (mb x9)))), (k0, .inr (0, [.ref k1])), (k1, .inl (cJ, 4, .inr (.inl (va_up w i ((mw (((f * 56) + (q * 4)) + i)) &&& (-1 : Int64))))))] := hZ
              refine W.eq (g2 := F0 mth 109 ls []) rfl ?_
              refine lv_iinc (v := nI (i + 1)) (lv' := [(5, .int (nI (i + 1))), (7, .long (-1 : Int64)), (6, .int (zI ((ms f) - ((((q * 4) + i) * 8 : Nat) : Int)))), (0, .ref m0), (1, .int (nI f)), (2, .int (nI q)), (3, .ref k0), (4, .int (nI (q * 4)))]) hx hb dX4_pieceInto_109 hl (k := 7) rfl (nI_add _ _) (by decide) rfl (fun ls hl => ?_)
              refine lv_goto (tgt := 30) hx hb dX4_pieceInto_112 (by decide) ?_
              exact ih30 (i + 1, va_up w i ((mw (((f * 56) + (q * 4)) + i)) &&& (-1 : Int64))) _ _ _ ⟨by omega, by first | (have z : ms f - (((q * 4 + i) * 8 : Nat) : Int) ≤ 0 := h55; exact pi_z (by omega) hw z) | (have z : ¬ ms f - (((q * 4 + i) * 8 : Nat) : Int) < 8 := h62; exact pi_f (by omega) hw z) | (have z : ms f - (((q * 4 + i) * 8 : Nat) : Int) < 8 := h62; exact pi_c (by omega) hw h55 z), hZ, lv_sub hl [3, 4, 5, 6, 7, 0] (by first | rfl | (simp only [lv_pick]; rfl))⟩ (by (try dsimp only); omega)
      · skip
        exfalso
        omega
set_option maxHeartbeats 1000000 in
set_option maxRecDepth 100000 in
theorem c_X4_inodeInto (l : Launch) (D : va_G) (cI cJ cZ cII cZZ : ClassId) (m0 : Nat) (m1 : Nat) (m2 : Nat) (m3 : Nat) (m4 : Nat) (m5 : Nat) (ms : Nat → Int) (mw : Nat → Int64) (mi : Nat → Nat) (mp : Nat → Nat) (mb : Nat → BitVec 32) (mc : BitVec 32) (k0 : Nat) (k1 : Nat) (kw : Nat → Int64) (f : Nat) (hf : f < 32) (hms : ∀ f, f < 32 → -1 ≤ ms f ∧ ms f ≤ 448) (hmf : 0 ≤ ms f) (hmp : ∀ j, mp j < 65536) :
    zC l yX4_inodeInto cX4_inodeInto 4 none { frames := 2, cells := 0, slots := 0, locals := 44 } D (zT cI cJ cZ cII cZZ) [.ref m0, .int (nI f), .ref k0] [(m0, .inr (4, [.ref m1, .ref m2, .ref m3, .ref m4, .ref m5, .int (zW mc)])), (m1, .inl (cI, 32, .inl (fun x9 => zI (ms x9)))), (m2, .inl (cJ, 1792, .inr (.inl mw))), (m3, .inl (cI, 32, .inl (fun x9 => nI (mi x9)))), (m4, .inl (cI, 448, .inl (fun x9 => nI (mp x9)))), (m5, .inl (cI, 32, .inl (fun x9 => zW (mb x9)))), (k0, .inr (0, [.ref k1])), (k1, .inl (cJ, 4, .inr (.inl kw)))] (S := (Nat → Int64)) (fun u => none) (fun u => (∀ j, j < 16 → nmK u j = inoN ms mp f j)) (fun u => [(m0, .inr (4, [.ref m1, .ref m2, .ref m3, .ref m4, .ref m5, .int (zW mc)])), (m1, .inl (cI, 32, .inl (fun x9 => zI (ms x9)))), (m2, .inl (cJ, 1792, .inr (.inl mw))), (m3, .inl (cI, 32, .inl (fun x9 => nI (mi x9)))), (m4, .inl (cI, 448, .inl (fun x9 => nI (mp x9)))), (m5, .inl (cI, 32, .inl (fun x9 => zW (mb x9)))), (k0, .inr (0, [.ref k1])), (k1, .inl (cJ, 4, .inr (.inl u)))]) := by
  refine zC_of (by decide) (Nat.le_of_ble_eq_true rfl) ?_
  intro prg env s mth below meth cde A ls hE hrt9 hlocks hnm hZ hl
  have hx := hE.1
  have hb := hE.2.1
  have hl : lv_has ls 4 [(0, .ref m0), (1, .int (nI f)), (2, .ref k0)] := hl
  have hmf2 := hms f hf
  refine lv_aload_n hx hb dX4_inodeInto_0 rfl (lv_at hl 2 rfl) ?_
  refine z_kV (As := []) (rest := []) hE hZ (c_X0_wipe l D cI cJ cZ cII cZZ k0 k1 kw  ) lL_X0_wipe lC_X4_76 rfl [6, 7] [0, 1, 2, 3, 4, 5] [0, 1, 2, 3, 4, 5, 6, 7] [(m0, .inr (4, [.ref m1, .ref m2, .ref m3, .ref m4, .ref m5, .int (zW mc)])), (m1, .inl (cI, 32, .inl (fun x9 => zI (ms x9)))), (m2, .inl (cJ, 1792, .inr (.inl mw))), (m3, .inl (cI, 32, .inl (fun x9 => nI (mi x9)))), (m4, .inl (cI, 448, .inl (fun x9 => nI (mp x9)))), (m5, .inl (cI, 32, .inl (fun x9 => zW (mb x9))))] (fun u => [(m0, .inr (4, [.ref m1, .ref m2, .ref m3, .ref m4, .ref m5, .int (zW mc)])), (m1, .inl (cI, 32, .inl (fun x9 => zI (ms x9)))), (m2, .inl (cJ, 1792, .inr (.inl mw))), (m3, .inl (cI, 32, .inl (fun x9 => nI (mi x9)))), (m4, .inl (cI, 448, .inl (fun x9 => nI (mp x9)))), (m5, .inl (cI, 32, .inl (fun x9 => zW (mb x9)))), (k0, .inr (0, [.ref k1])), (k1, .inl (cJ, 4, .inr (.inl (fun _ => 0))))]) 0 rfl rfl rfl (fun _ => rfl) (by decide) ⟨by decide, by decide⟩ 0 0 rfl rfl ⟨by decide, by decide⟩ rfl hl.1 rfl (Nat.le_of_ble_eq_true rfl) dX4_inodeInto_1 (fun u H locs hq9 hZ => ?_)
  have hZ : zS D A s.heap H locs [(m0, .inr (4, [.ref m1, .ref m2, .ref m3, .ref m4, .ref m5, .int (zW mc)])), (m1, .inl (cI, 32, .inl (fun x9 => zI (ms x9)))), (m2, .inl (cJ, 1792, .inr (.inl mw))), (m3, .inl (cI, 32, .inl (fun x9 => nI (mi x9)))), (m4, .inl (cI, 448, .inl (fun x9 => nI (mp x9)))), (m5, .inl (cI, 32, .inl (fun x9 => zW (mb x9)))), (k0, .inr (0, [.ref k1])), (k1, .inl (cJ, 4, .inr (.inl (fun _ => 0))))] := hZ
  refine W.eq (g2 := F0 mth 4 ls []) rfl ?_
  refine lv_iload_n hx hb dX4_inodeInto_4 rfl (lv_at hl 1 rfl) ?_
  refine z_kN (As := [.int (nI f)]) (rest := []) hE hZ (c_X6_isFile l D cI cJ cZ cII cZZ  ((f : Nat) : Int) (nI f) (by first | assumption | omega) (zI_n _)) lL_X6_isFile lC_X4_41 [] [0, 1, 2, 3, 4, 5, 6, 7] [0, 1, 2, 3, 4, 5, 6, 7] [(m0, .inr (4, [.ref m1, .ref m2, .ref m3, .ref m4, .ref m5, .int (zW mc)])), (m1, .inl (cI, 32, .inl (fun x9 => zI (ms x9)))), (m2, .inl (cJ, 1792, .inr (.inl mw))), (m3, .inl (cI, 32, .inl (fun x9 => nI (mi x9)))), (m4, .inl (cI, 448, .inl (fun x9 => nI (mp x9)))), (m5, .inl (cI, 32, .inl (fun x9 => zW (mb x9)))), (k0, .inr (0, [.ref k1])), (k1, .inl (cJ, 4, .inr (.inl (fun _ => 0))))] (fun u => [(m0, .inr (4, [.ref m1, .ref m2, .ref m3, .ref m4, .ref m5, .int (zW mc)])), (m1, .inl (cI, 32, .inl (fun x9 => zI (ms x9)))), (m2, .inl (cJ, 1792, .inr (.inl mw))), (m3, .inl (cI, 32, .inl (fun x9 => nI (mi x9)))), (m4, .inl (cI, 448, .inl (fun x9 => nI (mp x9)))), (m5, .inl (cI, 32, .inl (fun x9 => zW (mb x9)))), (k0, .inr (0, [.ref k1])), (k1, .inl (cJ, 4, .inr (.inl (fun _ => 0))))]) rfl rfl (fun _ => rfl) (by decide) ⟨by decide, by decide⟩ 0 0 rfl rfl ⟨by decide, by decide⟩ rfl hl.1 rfl (Nat.le_of_ble_eq_true rfl) dX4_inodeInto_5 (fun u H locs hq9 hZ => ?_)
  have hZ : zS D A s.heap H locs [(m0, .inr (4, [.ref m1, .ref m2, .ref m3, .ref m4, .ref m5, .int (zW mc)])), (m1, .inl (cI, 32, .inl (fun x9 => zI (ms x9)))), (m2, .inl (cJ, 1792, .inr (.inl mw))), (m3, .inl (cI, 32, .inl (fun x9 => nI (mi x9)))), (m4, .inl (cI, 448, .inl (fun x9 => nI (mp x9)))), (m5, .inl (cI, 32, .inl (fun x9 => zW (mb x9)))), (k0, .inr (0, [.ref k1])), (k1, .inl (cJ, 4, .inr (.inl (fun _ => 0))))] := hZ
  refine W.eq (g2 := F0 mth 8 ls [.int (zB (decide (0 ≤ ((f : Nat) : Int)) && decide (((f : Nat) : Int) < 32)))]) rfl ?_
  refine z_if_ne hx hb 12 dX4_inodeInto_8 (by decide) (C := (decide (0 ≤ ((f : Nat) : Int)) && decide (((f : Nat) : Int) < 32)) = false) (zB_0 _) (fun h8 => ?_) (fun h8 => ?_)
  · skip
    refine lv_aload_n hx hb dX4_inodeInto_12 rfl (lv_at hl 2 rfl) ?_
    refine z_iconst hx hb (nI 0) dX4_inodeInto_13 (by decide) ?_
    refine lv_aload_n hx hb dX4_inodeInto_14 rfl (lv_at hl 0 rfl) ?_
    refine z_get hE fF_X4_0 hZ 0 rfl (.ref m1) rfl dX4_inodeInto_15 ?_
    refine lv_iload_n hx hb dX4_inodeInto_18 rfl (lv_at hl 1 rfl) ?_
    refine z_iald hE hZ 1 0 rfl rfl (by decide) (by omega) dX4_inodeInto_19 ?_
    refine z_top (show zI (ms f) = nI ((ms f).toNat) from zI_inN (by omega) (by omega)) ?_
    refine z_kV (As := [.int (nI 0), .int (nI ((ms f).toNat))]) (rest := []) hE hZ (c_X0_setNumber l D cI cJ cZ cII cZZ k0 k1 (fun _ => 0) 0 (nI ((ms f).toNat)) (by omega)) lL_X0_setNumber lC_X4_85 rfl [6, 7] [0, 1, 2, 3, 4, 5] [0, 1, 2, 3, 4, 5, 6, 7] [(m0, .inr (4, [.ref m1, .ref m2, .ref m3, .ref m4, .ref m5, .int (zW mc)])), (m1, .inl (cI, 32, .inl (fun x9 => zI (ms x9)))), (m2, .inl (cJ, 1792, .inr (.inl mw))), (m3, .inl (cI, 32, .inl (fun x9 => nI (mi x9)))), (m4, .inl (cI, 448, .inl (fun x9 => nI (mp x9)))), (m5, .inl (cI, 32, .inl (fun x9 => zW (mb x9))))] (fun u => [(m0, .inr (4, [.ref m1, .ref m2, .ref m3, .ref m4, .ref m5, .int (zW mc)])), (m1, .inl (cI, 32, .inl (fun x9 => zI (ms x9)))), (m2, .inl (cJ, 1792, .inr (.inl mw))), (m3, .inl (cI, 32, .inl (fun x9 => nI (mi x9)))), (m4, .inl (cI, 448, .inl (fun x9 => nI (mp x9)))), (m5, .inl (cI, 32, .inl (fun x9 => zW (mb x9)))), (k0, .inr (0, [.ref k1])), (k1, .inl (cJ, 4, .inr (.inl (va_up (fun _ => 0) (0 / 4) (stN ((fun _ => 0) (0 / 4)) (0 % 4) (nI ((ms f).toNat)))))))]) 0 rfl rfl rfl (fun _ => rfl) (by decide) ⟨by decide, by decide⟩ 0 0 rfl rfl ⟨by decide, by decide⟩ rfl hl.1 rfl (Nat.le_of_ble_eq_true rfl) dX4_inodeInto_20 (fun u H locs hq9 hZ => ?_)
    have hZ : zS D A s.heap H locs [(m0, .inr (4, [.ref m1, .ref m2, .ref m3, .ref m4, .ref m5, .int (zW mc)])), (m1, .inl (cI, 32, .inl (fun x9 => zI (ms x9)))), (m2, .inl (cJ, 1792, .inr (.inl mw))), (m3, .inl (cI, 32, .inl (fun x9 => nI (mi x9)))), (m4, .inl (cI, 448, .inl (fun x9 => nI (mp x9)))), (m5, .inl (cI, 32, .inl (fun x9 => zW (mb x9)))), (k0, .inr (0, [.ref k1])), (k1, .inl (cJ, 4, .inr (.inl (va_up (fun _ => 0) (0 / 4) (stN ((fun _ => 0) (0 / 4)) (0 % 4) (nI ((ms f).toNat)))))))] := hZ
    refine W.eq (g2 := F0 mth 23 ls []) rfl ?_
    refine z_iconst hx hb (nI 0) dX4_inodeInto_23 (by decide) ?_
    refine lv_istore_n (lv' := [(3, .int (nI 0)), (0, .ref m0), (1, .int (nI f)), (2, .ref k0)]) hx hb dX4_inodeInto_24 rfl hl (by decide) rfl (fun ls hl => ?_)
    refine z_loop (σ := Nat × (Nat → Int64)) (fun (i, w) H locs ls => (i ≤ ((ms f).toNat + 31) / 32) ∧ (∀ j, j < 16 → nmK w j = if j < 1 + i then inoN ms mp f j else 0) ∧ zS D A s.heap H locs [(m0, .inr (4, [.ref m1, .ref m2, .ref m3, .ref m4, .ref m5, .int (zW mc)])), (m1, .inl (cI, 32, .inl (fun x9 => zI (ms x9)))), (m2, .inl (cJ, 1792, .inr (.inl mw))), (m3, .inl (cI, 32, .inl (fun x9 => nI (mi x9)))), (m4, .inl (cI, 448, .inl (fun x9 => nI (mp x9)))), (m5, .inl (cI, 32, .inl (fun x9 => zW (mb x9)))), (k0, .inr (0, [.ref k1])), (k1, .inl (cJ, 4, .inr (.inl w)))] ∧ lv_has ls 4 [(0, .ref m0), (1, .int (nI f)), (2, .ref k0), (3, .int (nI i))]) (fun (i, w) => 14 - i) [] (0, va_up (fun _ => 0) (0 / 4) (stN ((fun _ => 0) (0 / 4)) (0 % 4) (nI ((ms f).toNat)))) ⟨by omega, ino_0 (by omega), hZ, lv_sub hl [1, 2, 3, 0] (by first | rfl | (simp only [lv_pick]; rfl))⟩ ?_
    intro x H locs ls hI ih25
    obtain ⟨i, w⟩ := x
    obtain ⟨hi, hw, hZ, hl⟩ := hI
    refine lv_iload_n hx hb dX4_inodeInto_25 rfl (lv_at hl 3 rfl) ?_
    refine z_bipush hx hb (nI 14) dX4_inodeInto_26 (by decide) ?_
    refine z_icmp_ge hx hb 68 dX4_inodeInto_28 (by decide) (C := 14 ≤ i) (nIle (by omega) (by omega)) (fun h28 => ?_) (fun h28 => ?_)
    · skip
      exact z_vret hE hrt9 hlocks hZ w rfl (show (∀ j, j < 16 → nmK w j = inoN ms mp f j) from fun j hj => by rw [hw j hj]; by_cases q : j < 1 + i; rw [if_pos q]; rw [if_neg q]; unfold inoN; rw [if_neg (by omega), if_neg (by omega)]) rfl dX4_inodeInto_68 (Nat.le_of_ble_eq_true rfl) (Nat.le_of_ble_eq_true rfl)
    · skip
      refine lv_iload_n hx hb dX4_inodeInto_31 rfl (lv_at hl 3 rfl) ?_
      refine lv_aload_n hx hb dX4_inodeInto_32 rfl (lv_at hl 0 rfl) ?_
      refine z_get hE fF_X4_0 hZ 0 rfl (.ref m1) rfl dX4_inodeInto_33 ?_
      refine lv_iload_n hx hb dX4_inodeInto_36 rfl (lv_at hl 1 rfl) ?_
      refine z_iald hE hZ 1 0 rfl rfl (by decide) (by omega) dX4_inodeInto_37 ?_
      refine z_kN (As := [.int (zI (ms f))]) (rest := [.int (nI i)]) hE hZ (c_X6_piecesOf l D cI cJ cZ cII cZZ  (ms f) (zI (ms f)) (⟨by omega, by omega⟩) (rfl)) lL_X6_piecesOf lC_X4_61 [] [0, 1, 2, 3, 4, 5, 6, 7] [0, 1, 2, 3, 4, 5, 6, 7] [(m0, .inr (4, [.ref m1, .ref m2, .ref m3, .ref m4, .ref m5, .int (zW mc)])), (m1, .inl (cI, 32, .inl (fun x9 => zI (ms x9)))), (m2, .inl (cJ, 1792, .inr (.inl mw))), (m3, .inl (cI, 32, .inl (fun x9 => nI (mi x9)))), (m4, .inl (cI, 448, .inl (fun x9 => nI (mp x9)))), (m5, .inl (cI, 32, .inl (fun x9 => zW (mb x9)))), (k0, .inr (0, [.ref k1])), (k1, .inl (cJ, 4, .inr (.inl w)))] (fun u => [(m0, .inr (4, [.ref m1, .ref m2, .ref m3, .ref m4, .ref m5, .int (zW mc)])), (m1, .inl (cI, 32, .inl (fun x9 => zI (ms x9)))), (m2, .inl (cJ, 1792, .inr (.inl mw))), (m3, .inl (cI, 32, .inl (fun x9 => nI (mi x9)))), (m4, .inl (cI, 448, .inl (fun x9 => nI (mp x9)))), (m5, .inl (cI, 32, .inl (fun x9 => zW (mb x9)))), (k0, .inr (0, [.ref k1])), (k1, .inl (cJ, 4, .inr (.inl w)))]) rfl rfl (fun _ => rfl) (by decide) ⟨by decide, by decide⟩ 0 0 rfl rfl ⟨by decide, by decide⟩ rfl hl.1 rfl (Nat.le_of_ble_eq_true rfl) dX4_inodeInto_38 (fun u H locs hq9 hZ => ?_)
      have hZ : zS D A s.heap H locs [(m0, .inr (4, [.ref m1, .ref m2, .ref m3, .ref m4, .ref m5, .int (zW mc)])), (m1, .inl (cI, 32, .inl (fun x9 => zI (ms x9)))), (m2, .inl (cJ, 1792, .inr (.inl mw))), (m3, .inl (cI, 32, .inl (fun x9 => nI (mi x9)))), (m4, .inl (cI, 448, .inl (fun x9 => nI (mp x9)))), (m5, .inl (cI, 32, .inl (fun x9 => zW (mb x9)))), (k0, .inr (0, [.ref k1])), (k1, .inl (cJ, 4, .inr (.inl w)))] := hZ
      refine W.eq (g2 := F0 mth 41 ls [.int (nI (((ms f) + 31).toNat / 32)), .int (nI i)]) rfl ?_
      refine z_top (show nI (((ms f) + 31).toNat / 32) = nI (((ms f).toNat + 31) / 32) from by congr 1; omega) ?_
      refine z_icmp_ge hx hb 68 dX4_inodeInto_41 (by decide) (C := ((ms f).toNat + 31) / 32 ≤ i) (nIle (by omega) (by omega)) (fun h41 => ?_) (fun h41 => ?_)
      · skip
        exact z_vret hE hrt9 hlocks hZ w rfl (show (∀ j, j < 16 → nmK w j = inoN ms mp f j) from fun j hj => by rw [hw j hj]; by_cases q : j < 1 + i; rw [if_pos q]; rw [if_neg q]; unfold inoN; rw [if_neg (by omega), if_neg (by omega)]) rfl dX4_inodeInto_68 (Nat.le_of_ble_eq_true rfl) (Nat.le_of_ble_eq_true rfl)
      · skip
        refine lv_aload_n hx hb dX4_inodeInto_44 rfl (lv_at hl 2 rfl) ?_
        refine z_iconst hx hb (nI 1) dX4_inodeInto_45 (by decide) ?_
        refine lv_iload_n hx hb dX4_inodeInto_46 rfl (lv_at hl 3 rfl) ?_
        refine z_iadd hx hb dX4_inodeInto_47 (z := nI (1 + i)) (nI_add _ _) ?_
        refine lv_aload_n hx hb dX4_inodeInto_48 rfl (lv_at hl 0 rfl) ?_
        refine z_get hE fF_X4_3 hZ 0 rfl (.ref m4) rfl dX4_inodeInto_49 ?_
        refine lv_iload_n hx hb dX4_inodeInto_52 rfl (lv_at hl 1 rfl) ?_
        refine z_bipush hx hb (nI 14) dX4_inodeInto_53 (by decide) ?_
        refine z_imul hx hb dX4_inodeInto_55 (z := nI (f * 14)) (pk_mul _ _) ?_
        refine lv_iload_n hx hb dX4_inodeInto_56 rfl (lv_at hl 3 rfl) ?_
        refine z_iadd hx hb dX4_inodeInto_57 (z := nI ((f * 14) + i)) (nI_add _ _) ?_
        refine z_iald hE hZ 4 0 rfl rfl (by decide) (by omega) dX4_inodeInto_58 ?_
        refine z_kV (As := [.int (nI (1 + i)), .int (nI (mp ((f * 14) + i)))]) (rest := []) hE hZ (c_X0_setNumber l D cI cJ cZ cII cZZ k0 k1 w (1 + i) (nI (mp ((f * 14) + i))) (by omega)) lL_X0_setNumber lC_X4_85 rfl [6, 7] [0, 1, 2, 3, 4, 5] [0, 1, 2, 3, 4, 5, 6, 7] [(m0, .inr (4, [.ref m1, .ref m2, .ref m3, .ref m4, .ref m5, .int (zW mc)])), (m1, .inl (cI, 32, .inl (fun x9 => zI (ms x9)))), (m2, .inl (cJ, 1792, .inr (.inl mw))), (m3, .inl (cI, 32, .inl (fun x9 => nI (mi x9)))), (m4, .inl (cI, 448, .inl (fun x9 => nI (mp x9)))), (m5, .inl (cI, 32, .inl (fun x9 => zW (mb x9))))] (fun u => [(m0, .inr (4, [.ref m1, .ref m2, .ref m3, .ref m4, .ref m5, .int (zW mc)])), (m1, .inl (cI, 32, .inl (fun x9 => zI (ms x9)))), (m2, .inl (cJ, 1792, .inr (.inl mw))), (m3, .inl (cI, 32, .inl (fun x9 => nI (mi x9)))), (m4, .inl (cI, 448, .inl (fun x9 => nI (mp x9)))), (m5, .inl (cI, 32, .inl (fun x9 => zW (mb x9)))), (k0, .inr (0, [.ref k1])), (k1, .inl (cJ, 4, .inr (.inl (va_up w ((1 + i) / 4) (stN (w ((1 + i) / 4)) ((1 + i) % 4) (nI (mp ((f * 14) + i))))))))]) 0 rfl rfl rfl (fun _ => rfl) (by decide) ⟨by decide, by decide⟩ 0 0 rfl rfl ⟨by decide, by decide⟩ rfl hl.1 rfl (Nat.le_of_ble_eq_true rfl) dX4_inodeInto_59 (fun u H locs hq9 hZ => ?_)
        have hZ : zS D A s.heap H locs [(m0, .inr (4, [.ref m1, .ref m2, .ref m3, .ref m4, .ref m5, .int (zW mc)])), (m1, .inl (cI, 32, .inl (fun x9 => zI (ms x9)))), (m2, .inl (cJ, 1792, .inr (.inl mw))), (m3, .inl (cI, 32, .inl (fun x9 => nI (mi x9)))), (m4, .inl (cI, 448, .inl (fun x9 => nI (mp x9)))), (m5, .inl (cI, 32, .inl (fun x9 => zW (mb x9)))), (k0, .inr (0, [.ref k1])), (k1, .inl (cJ, 4, .inr (.inl (va_up w ((1 + i) / 4) (stN (w ((1 + i) / 4)) ((1 + i) % 4) (nI (mp ((f * 14) + i))))))))] := hZ
        refine W.eq (g2 := F0 mth 62 ls []) rfl ?_
        refine lv_iinc (v := nI (i + 1)) (lv' := [(3, .int (nI (i + 1))), (0, .ref m0), (1, .int (nI f)), (2, .ref k0)]) hx hb dX4_inodeInto_62 hl (k := 3) rfl (nI_add _ _) (by decide) rfl (fun ls hl => ?_)
        refine lv_goto (tgt := 25) hx hb dX4_inodeInto_65 (by decide) ?_
        exact ih25 (i + 1, va_up w ((1 + i) / 4) (stN (w ((1 + i) / 4)) ((1 + i) % 4) (nI (mp ((f * 14) + i))))) _ _ _ ⟨by omega, fun j hj => by rw [nmK_set (by omega) hj (by rw [hw _ (by omega)]; rw [if_neg (by omega)]) (by have := hmp (f * 14 + i); omega), hw j hj]; exact ino_s (by omega) (hmp _), hZ, lv_sub hl [1, 2, 3, 0] (by first | rfl | (simp only [lv_pick]; rfl))⟩ (by (try dsimp only); omega)
  · skip
    exfalso
    simp at h8; omega
set_option maxHeartbeats 1000000 in
set_option maxRecDepth 100000 in
theorem c_X4_halfInto (l : Launch) (D : va_G) (cI cJ cZ cII cZZ : ClassId) (m0 : Nat) (m1 : Nat) (m2 : Nat) (m3 : Nat) (m4 : Nat) (m5 : Nat) (ms : Nat → Int) (mw : Nat → Int64) (mi : Nat → Nat) (mp : Nat → Nat) (mb : Nat → BitVec 32) (mc : BitVec 32) (k0 : Nat) (k1 : Nat) (kw : Nat → Int64) (h : Nat) (hh : h < 2) (hmi : ∀ j, mi j < 65536) :
    zC l yX4_halfInto cX4_halfInto 4 none { frames := 2, cells := 0, slots := 0, locals := 44 } D (zT cI cJ cZ cII cZZ) [.ref m0, .int (nI h), .ref k0] [(m0, .inr (4, [.ref m1, .ref m2, .ref m3, .ref m4, .ref m5, .int (zW mc)])), (m1, .inl (cI, 32, .inl (fun x9 => zI (ms x9)))), (m2, .inl (cJ, 1792, .inr (.inl mw))), (m3, .inl (cI, 32, .inl (fun x9 => nI (mi x9)))), (m4, .inl (cI, 448, .inl (fun x9 => nI (mp x9)))), (m5, .inl (cI, 32, .inl (fun x9 => zW (mb x9)))), (k0, .inr (0, [.ref k1])), (k1, .inl (cJ, 4, .inr (.inl kw)))] (S := (Nat → Int64)) (fun u => none) (fun u => (∀ j, j < 16 → nmK u j = mi (h * 16 + j))) (fun u => [(m0, .inr (4, [.ref m1, .ref m2, .ref m3, .ref m4, .ref m5, .int (zW mc)])), (m1, .inl (cI, 32, .inl (fun x9 => zI (ms x9)))), (m2, .inl (cJ, 1792, .inr (.inl mw))), (m3, .inl (cI, 32, .inl (fun x9 => nI (mi x9)))), (m4, .inl (cI, 448, .inl (fun x9 => nI (mp x9)))), (m5, .inl (cI, 32, .inl (fun x9 => zW (mb x9)))), (k0, .inr (0, [.ref k1])), (k1, .inl (cJ, 4, .inr (.inl u)))]) := by
  refine zC_of (by decide) (Nat.le_of_ble_eq_true rfl) ?_
  intro prg env s mth below meth cde A ls hE hrt9 hlocks hnm hZ hl
  have hx := hE.1
  have hb := hE.2.1
  have hl : lv_has ls 4 [(0, .ref m0), (1, .int (nI h)), (2, .ref k0)] := hl
  refine lv_aload_n hx hb dX4_halfInto_0 rfl (lv_at hl 2 rfl) ?_
  refine z_kV (As := []) (rest := []) hE hZ (c_X0_wipe l D cI cJ cZ cII cZZ k0 k1 kw  ) lL_X0_wipe lC_X4_76 rfl [6, 7] [0, 1, 2, 3, 4, 5] [0, 1, 2, 3, 4, 5, 6, 7] [(m0, .inr (4, [.ref m1, .ref m2, .ref m3, .ref m4, .ref m5, .int (zW mc)])), (m1, .inl (cI, 32, .inl (fun x9 => zI (ms x9)))), (m2, .inl (cJ, 1792, .inr (.inl mw))), (m3, .inl (cI, 32, .inl (fun x9 => nI (mi x9)))), (m4, .inl (cI, 448, .inl (fun x9 => nI (mp x9)))), (m5, .inl (cI, 32, .inl (fun x9 => zW (mb x9))))] (fun u => [(m0, .inr (4, [.ref m1, .ref m2, .ref m3, .ref m4, .ref m5, .int (zW mc)])), (m1, .inl (cI, 32, .inl (fun x9 => zI (ms x9)))), (m2, .inl (cJ, 1792, .inr (.inl mw))), (m3, .inl (cI, 32, .inl (fun x9 => nI (mi x9)))), (m4, .inl (cI, 448, .inl (fun x9 => nI (mp x9)))), (m5, .inl (cI, 32, .inl (fun x9 => zW (mb x9)))), (k0, .inr (0, [.ref k1])), (k1, .inl (cJ, 4, .inr (.inl (fun _ => 0))))]) 0 rfl rfl rfl (fun _ => rfl) (by decide) ⟨by decide, by decide⟩ 0 0 rfl rfl ⟨by decide, by decide⟩ rfl hl.1 rfl (Nat.le_of_ble_eq_true rfl) dX4_halfInto_1 (fun u H locs hq9 hZ => ?_)
  have hZ : zS D A s.heap H locs [(m0, .inr (4, [.ref m1, .ref m2, .ref m3, .ref m4, .ref m5, .int (zW mc)])), (m1, .inl (cI, 32, .inl (fun x9 => zI (ms x9)))), (m2, .inl (cJ, 1792, .inr (.inl mw))), (m3, .inl (cI, 32, .inl (fun x9 => nI (mi x9)))), (m4, .inl (cI, 448, .inl (fun x9 => nI (mp x9)))), (m5, .inl (cI, 32, .inl (fun x9 => zW (mb x9)))), (k0, .inr (0, [.ref k1])), (k1, .inl (cJ, 4, .inr (.inl (fun _ => 0))))] := hZ
  refine W.eq (g2 := F0 mth 4 ls []) rfl ?_
  refine lv_iload_n hx hb dX4_halfInto_4 rfl (lv_at hl 1 rfl) ?_
  refine z_if_lt hx hb 13 dX4_halfInto_5 (by decide) (C := False) (nI_lt0 (by omega)) (fun h5 => ?_) (fun h5 => ?_)
  · skip
    exact h5.elim
  · skip
    refine lv_iload_n hx hb dX4_halfInto_8 rfl (lv_at hl 1 rfl) ?_
    refine z_iconst hx hb (nI 2) dX4_halfInto_9 (by decide) ?_
    refine z_icmp_lt hx hb 14 dX4_halfInto_10 (by decide) (C := h < 2) (nIlt (by omega) (by omega)) (fun h10 => ?_) (fun h10 => ?_)
    · skip
      refine z_iconst hx hb (nI 0) dX4_halfInto_14 (by decide) ?_
      refine lv_istore_n (lv' := [(3, .int (nI 0)), (0, .ref m0), (1, .int (nI h)), (2, .ref k0)]) hx hb dX4_halfInto_15 rfl hl (by decide) rfl (fun ls hl => ?_)
      refine z_loop (σ := Nat × (Nat → Int64)) (fun (i, w) H locs ls => (i ≤ 16) ∧ (∀ j, j < 16 → nmK w j = if j < i then mi (h * 16 + j) else 0) ∧ zS D A s.heap H locs [(m0, .inr (4, [.ref m1, .ref m2, .ref m3, .ref m4, .ref m5, .int (zW mc)])), (m1, .inl (cI, 32, .inl (fun x9 => zI (ms x9)))), (m2, .inl (cJ, 1792, .inr (.inl mw))), (m3, .inl (cI, 32, .inl (fun x9 => nI (mi x9)))), (m4, .inl (cI, 448, .inl (fun x9 => nI (mp x9)))), (m5, .inl (cI, 32, .inl (fun x9 => zW (mb x9)))), (k0, .inr (0, [.ref k1])), (k1, .inl (cJ, 4, .inr (.inl w)))] ∧ lv_has ls 4 [(0, .ref m0), (1, .int (nI h)), (2, .ref k0), (3, .int (nI i))]) (fun (i, w) => 16 - i) [] (0, fun _ => 0) ⟨by omega, fun j _ => by rw [if_neg (by omega)]; exact nmK_0 j, hZ, lv_sub hl [1, 2, 3, 0] (by first | rfl | (simp only [lv_pick]; rfl))⟩ ?_
      intro x H locs ls hI ih16
      obtain ⟨i, w⟩ := x
      obtain ⟨hi, hw, hZ, hl⟩ := hI
      refine lv_iload_n hx hb dX4_halfInto_16 rfl (lv_at hl 3 rfl) ?_
      refine z_bipush hx hb (nI 16) dX4_halfInto_17 (by decide) ?_
      refine z_icmp_ge hx hb 44 dX4_halfInto_19 (by decide) (C := 16 ≤ i) (nIle (by omega) (by omega)) (fun h19 => ?_) (fun h19 => ?_)
      · skip
        exact z_vret hE hrt9 hlocks hZ w rfl (show (∀ j, j < 16 → nmK w j = mi (h * 16 + j)) from fun j hj => by rw [hw j hj, if_pos (by omega)]) rfl dX4_halfInto_44 (Nat.le_of_ble_eq_true rfl) (Nat.le_of_ble_eq_true rfl)
      · skip
        refine lv_aload_n hx hb dX4_halfInto_22 rfl (lv_at hl 2 rfl) ?_
        refine lv_iload_n hx hb dX4_halfInto_23 rfl (lv_at hl 3 rfl) ?_
        refine lv_aload_n hx hb dX4_halfInto_24 rfl (lv_at hl 0 rfl) ?_
        refine z_get hE fF_X4_2 hZ 0 rfl (.ref m3) rfl dX4_halfInto_25 ?_
        refine lv_iload_n hx hb dX4_halfInto_28 rfl (lv_at hl 1 rfl) ?_
        refine z_bipush hx hb (nI 16) dX4_halfInto_29 (by decide) ?_
        refine z_imul hx hb dX4_halfInto_31 (z := nI (h * 16)) (pk_mul _ _) ?_
        refine lv_iload_n hx hb dX4_halfInto_32 rfl (lv_at hl 3 rfl) ?_
        refine z_iadd hx hb dX4_halfInto_33 (z := nI ((h * 16) + i)) (nI_add _ _) ?_
        refine z_iald hE hZ 3 0 rfl rfl (by decide) (by omega) dX4_halfInto_34 ?_
        refine z_kV (As := [.int (nI i), .int (nI (mi ((h * 16) + i)))]) (rest := []) hE hZ (c_X0_setNumber l D cI cJ cZ cII cZZ k0 k1 w i (nI (mi ((h * 16) + i))) (by omega)) lL_X0_setNumber lC_X4_85 rfl [6, 7] [0, 1, 2, 3, 4, 5] [0, 1, 2, 3, 4, 5, 6, 7] [(m0, .inr (4, [.ref m1, .ref m2, .ref m3, .ref m4, .ref m5, .int (zW mc)])), (m1, .inl (cI, 32, .inl (fun x9 => zI (ms x9)))), (m2, .inl (cJ, 1792, .inr (.inl mw))), (m3, .inl (cI, 32, .inl (fun x9 => nI (mi x9)))), (m4, .inl (cI, 448, .inl (fun x9 => nI (mp x9)))), (m5, .inl (cI, 32, .inl (fun x9 => zW (mb x9))))] (fun u => [(m0, .inr (4, [.ref m1, .ref m2, .ref m3, .ref m4, .ref m5, .int (zW mc)])), (m1, .inl (cI, 32, .inl (fun x9 => zI (ms x9)))), (m2, .inl (cJ, 1792, .inr (.inl mw))), (m3, .inl (cI, 32, .inl (fun x9 => nI (mi x9)))), (m4, .inl (cI, 448, .inl (fun x9 => nI (mp x9)))), (m5, .inl (cI, 32, .inl (fun x9 => zW (mb x9)))), (k0, .inr (0, [.ref k1])), (k1, .inl (cJ, 4, .inr (.inl (va_up w (i / 4) (stN (w (i / 4)) (i % 4) (nI (mi ((h * 16) + i))))))))]) 0 rfl rfl rfl (fun _ => rfl) (by decide) ⟨by decide, by decide⟩ 0 0 rfl rfl ⟨by decide, by decide⟩ rfl hl.1 rfl (Nat.le_of_ble_eq_true rfl) dX4_halfInto_35 (fun u H locs hq9 hZ => ?_)
        have hZ : zS D A s.heap H locs [(m0, .inr (4, [.ref m1, .ref m2, .ref m3, .ref m4, .ref m5, .int (zW mc)])), (m1, .inl (cI, 32, .inl (fun x9 => zI (ms x9)))), (m2, .inl (cJ, 1792, .inr (.inl mw))), (m3, .inl (cI, 32, .inl (fun x9 => nI (mi x9)))), (m4, .inl (cI, 448, .inl (fun x9 => nI (mp x9)))), (m5, .inl (cI, 32, .inl (fun x9 => zW (mb x9)))), (k0, .inr (0, [.ref k1])), (k1, .inl (cJ, 4, .inr (.inl (va_up w (i / 4) (stN (w (i / 4)) (i % 4) (nI (mi ((h * 16) + i))))))))] := hZ
        refine W.eq (g2 := F0 mth 38 ls []) rfl ?_
        refine lv_iinc (v := nI (i + 1)) (lv' := [(3, .int (nI (i + 1))), (0, .ref m0), (1, .int (nI h)), (2, .ref k0)]) hx hb dX4_halfInto_38 hl (k := 3) rfl (nI_add _ _) (by decide) rfl (fun ls hl => ?_)
        refine lv_goto (tgt := 16) hx hb dX4_halfInto_41 (by decide) ?_
        exact ih16 (i + 1, va_up w (i / 4) (stN (w (i / 4)) (i % 4) (nI (mi ((h * 16) + i))))) _ _ _ ⟨by omega, fun j hj => by rw [nmK_set (by omega) hj (by rw [hw _ (by omega)]; rw [if_neg (by omega)]) (by have := hmi (h * 16 + i); omega), hw j hj]; exact half_s (hmi _), hZ, lv_sub hl [1, 2, 3, 0] (by first | rfl | (simp only [lv_pick]; rfl))⟩ (by (try dsimp only); omega)
    · skip
      exfalso
      omega
