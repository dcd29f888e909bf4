set_option maxHeartbeats 1000000 in
set_option maxRecDepth 100000 in
theorem c_X2_wipe (l : Launch) (D : va_G) (cI cJ cZ cII cZZ : ClassId) (i0 : Nat) (i1 : Nat) (iN : Nat) (ih : Nat → Nat)   :
    zC l yX2_wipe cX2_wipe 1 none { frames := 1, cells := 0, slots := 0, locals := 23 } D (zT cI cJ cZ cII cZZ) [.ref i0] [(i0, .inr (2, [.int (nI iN), .ref i1])), (i1, .inl (cI, 12, .inl (fun x9 => nI (ih x9))))] (S := Unit) (fun u => none) (fun u => True) (fun u => [(i0, .inr (2, [.int (nI 0), .ref i1])), (i1, .inl (cI, 12, .inl (fun x9 => nI ((fun _ => 0) x9))))]) := by
  refine zC_of (by decide) (Nat.le_of_ble_eq_true rfl) ?_
  intro prg env s mth below meth cde A ls hE hrt9 hlocks hnm hZ hl
  have hx := hE.1
  have hb := hE.2.1
  have hl : lv_has ls 1 [(0, .ref i0)] := hl
  refine lv_aload_n hx hb dX2_wipe_0 rfl (lv_at hl 0 rfl) ?_
  refine z_iconst hx hb (nI 0) dX2_wipe_1 (by decide) ?_
  refine z_put hE fF_X2_0 fP_X2 rfl hZ 0 rfl rfl rfl (Nat.le_of_ble_eq_true rfl) dX2_wipe_2 [(i0, .inr (2, [.int (nI 0), .ref i1])), (i1, .inl (cI, 12, .inl (fun x9 => nI (ih x9))))] rfl (fun H locs hZ => ?_)
  refine lv_aload_n hx hb dX2_wipe_5 rfl (lv_at hl 0 rfl) ?_
  refine z_get hE fF_X2_1 hZ 0 rfl (.ref i1) rfl dX2_wipe_6 ?_
  refine z_iconst hx hb (nI 0) dX2_wipe_9 (by decide) ?_
  refine z_kS (As := [.ref i1, .int (nI 0)]) (rest := []) hE hZ (c_J7_fill_53178 l D cI cJ cZ cII cZZ i1 12 (fun k => nI (ih k)) (nI 0) (by decide)) lL_J7_fill_53178 lC_X2_19 [1] [0] [0, 1] [(i0, .inr (2, [.int (nI 0), .ref i1]))] (fun u => [(i0, .inr (2, [.int (nI 0), .ref i1])), (i1, .inl (cI, 12, .inl (fun x9 => nI ((fun _ => 0) x9))))]) rfl rfl (fun _ => rfl) (by decide) ⟨by decide, by decide⟩ 0 0 rfl rfl ⟨by decide, by decide⟩ rfl hl.1 rfl (Nat.le_of_ble_eq_true rfl) dX2_wipe_10 (fun u H locs hq9 hZ => ?_)
  have hZ : zS D A s.heap H locs [(i0, .inr (2, [.int (nI 0), .ref i1])), (i1, .inl (cI, 12, .inl (fun x9 => nI ((fun _ => 0) x9))))] := hZ
  refine W.eq (g2 := F0 mth 13 ls []) rfl ?_
  exact z_vret hE hrt9 hlocks hZ () rfl trivial rfl dX2_wipe_13 (Nat.le_of_ble_eq_true rfl) (Nat.le_of_ble_eq_true rfl)
set_option maxHeartbeats 1000000 in
set_option maxRecDepth 100000 in
theorem c_X2_pointNumber (l : Launch) (D : va_G) (cI cJ cZ cII cZZ : ClassId) (i0 : Nat) (i1 : Nat) (iN : Nat) (ih : Nat → Nat)   :
    zC l yX2_pointNumber cX2_pointNumber 1 (some .int) { frames := 0, cells := 0, slots := 0, locals := 0 } D (zT cI cJ cZ cII cZZ) [.ref i0] [(i0, .inr (2, [.int (nI iN), .ref i1])), (i1, .inl (cI, 12, .inl (fun x9 => nI (ih x9))))] (S := Unit) (fun u => some (.int (nI iN))) (fun u => True) (fun u => [(i0, .inr (2, [.int (nI iN), .ref i1])), (i1, .inl (cI, 12, .inl (fun x9 => nI (ih x9))))]) := by
  refine zC_of (by decide) (Nat.le_of_ble_eq_true rfl) ?_
  intro prg env s mth below meth cde A ls hE hrt9 hlocks hnm hZ hl
  have hx := hE.1
  have hb := hE.2.1
  have hl : lv_has ls 1 [(0, .ref i0)] := hl
  refine lv_aload_n hx hb dX2_pointNumber_0 rfl (lv_at hl 0 rfl) ?_
  refine z_get hE fF_X2_0 hZ 0 rfl (.int (nI iN)) rfl dX2_pointNumber_1 ?_
  exact z_iret hE hrt9 hlocks hZ () rfl trivial rfl dX2_pointNumber_4 (Nat.le_of_ble_eq_true rfl) (Nat.le_of_ble_eq_true rfl)
set_option maxHeartbeats 1000000 in
set_option maxRecDepth 100000 in
theorem c_X2_advance (l : Launch) (D : va_G) (cI cJ cZ cII cZZ : ClassId) (i0 : Nat) (i1 : Nat) (iN : Nat) (ih : Nat → Nat)   :
    zC l yX2_advance cX2_advance 1 none { frames := 0, cells := 0, slots := 0, locals := 0 } D (zT cI cJ cZ cII cZZ) [.ref i0] [(i0, .inr (2, [.int (nI iN), .ref i1])), (i1, .inl (cI, 12, .inl (fun x9 => nI (ih x9))))] (S := Unit) (fun u => none) (fun u => True) (fun u => [(i0, .inr (2, [.int (nI (iN + 1)), .ref i1])), (i1, .inl (cI, 12, .inl (fun x9 => nI (ih x9))))]) := by
  refine zC_of (by decide) (Nat.le_of_ble_eq_true rfl) ?_
  intro prg env s mth below meth cde A ls hE hrt9 hlocks hnm hZ hl
  have hx := hE.1
  have hb := hE.2.1
  have hl : lv_has ls 1 [(0, .ref i0)] := hl
  refine lv_aload_n hx hb dX2_advance_0 rfl (lv_at hl 0 rfl) ?_
  refine lv_dup hx hb dX2_advance_1 rfl ?_
  refine z_get hE fF_X2_0 hZ 0 rfl (.int (nI iN)) rfl dX2_advance_2 ?_
  refine z_iconst hx hb (nI 1) dX2_advance_5 (by decide) ?_
  refine z_iadd hx hb dX2_advance_6 (z := nI (iN + 1)) (nI_add _ _) ?_
  refine z_put hE fF_X2_0 fP_X2 rfl hZ 0 rfl rfl rfl (Nat.le_of_ble_eq_true rfl) dX2_advance_7 [(i0, .inr (2, [.int (nI (iN + 1)), .ref i1])), (i1, .inl (cI, 12, .inl (fun x9 => nI (ih x9))))] rfl (fun H locs hZ => ?_)
  exact z_vret hE hrt9 hlocks hZ () rfl trivial rfl dX2_advance_10 (Nat.le_of_ble_eq_true rfl) (Nat.le_of_ble_eq_true rfl)
set_option maxHeartbeats 1000000 in
set_option maxRecDepth 100000 in
theorem c_X2_halfOf (l : Launch) (D : va_G) (cI cJ cZ cII cZZ : ClassId) (i0 : Nat) (i1 : Nat) (iN : Nat) (ih : Nat → Nat) (k : Int) (h : Nat) (k_q : Int32) (hk : -1 ≤ k ∧ k < 5) (hh : h < 2) (k_h : k_q = zI k) :
    zC l yX2_halfOf cX2_halfOf 4 (some .int) { frames := 0, cells := 0, slots := 0, locals := 0 } D (zT cI cJ cZ cII cZZ) [.ref i0, .int (k_q), .int (nI h)] [(i0, .inr (2, [.int (nI iN), .ref i1])), (i1, .inl (cI, 12, .inl (fun x9 => nI (ih x9))))] (S := Unit) (fun u => some (.int (nI (ih ((k + 1).toNat * 2 + h))))) (fun u => True) (fun u => [(i0, .inr (2, [.int (nI iN), .ref i1])), (i1, .inl (cI, 12, .inl (fun x9 => nI (ih x9))))]) := by
  refine zC_of (by decide) (Nat.le_of_ble_eq_true rfl) ?_
  intro prg env s mth below meth cde A ls hE hrt9 hlocks hnm hZ hl
  have hx := hE.1
  have hb := hE.2.1
  subst k_h
  have hl : lv_has ls 4 [(0, .ref i0), (1, .int (zI k)), (2, .int (nI h))] := hl
  refine lv_iload_n hx hb dX2_halfOf_0 rfl (lv_at hl 1 rfl) ?_
  refine z_iconst hx hb (nI 1) dX2_halfOf_1 (by decide) ?_
  refine z_iadd hx hb dX2_halfOf_2 (z := zI (k + 1)) (by (try simp only [zI_n]); exact zI_add _ _) ?_
  refine z_iconst hx hb (nI 2) dX2_halfOf_3 (by decide) ?_
  refine z_imul hx hb dX2_halfOf_4 (z := zI ((k + 1) * 2)) (by (try simp only [zI_n]); exact zI_mul _ _) ?_
  refine lv_iload_n hx hb dX2_halfOf_5 rfl (lv_at hl 2 rfl) ?_
  refine z_iadd hx hb dX2_halfOf_6 (z := zI (((k + 1) * 2) + ((h : Nat) : Int))) (by (try simp only [zI_n]); exact zI_add _ _) ?_
  refine z_top (show zI (((k + 1) * 2) + ((h : Nat) : Int)) = nI ((k + 1).toNat * 2 + h) from by rw [zI_n]; congr 1; omega) ?_
  refine lv_istore_n (lv' := [(3, .int (nI ((k + 1).toNat * 2 + h))), (0, .ref i0), (1, .int (zI k)), (2, .int (nI h))]) hx hb dX2_halfOf_7 rfl hl (by decide) rfl (fun ls hl => ?_)
  refine lv_iload_n hx hb dX2_halfOf_8 rfl (lv_at hl 0 rfl) ?_
  refine z_if_lt hx hb 30 dX2_halfOf_9 (by decide) (C := False) (nI_lt0 (by omega)) (fun h9 => ?_) (fun h9 => ?_)
  · skip
    exact h9.elim
  · skip
    refine lv_iload_n hx hb dX2_halfOf_12 rfl (lv_at hl 0 rfl) ?_
    refine lv_aload_n hx hb dX2_halfOf_13 rfl (lv_at hl 1 rfl) ?_
    refine z_get hE fF_X2_1 hZ 0 rfl (.ref i1) rfl dX2_halfOf_14 ?_
    refine z_alen hE hZ 1 0 rfl rfl 12 rfl dX2_halfOf_17 ?_
    refine z_icmp_ge hx hb 30 dX2_halfOf_18 (by decide) (C := 12 ≤ (k + 1).toNat * 2 + h) (nIle (by omega) (by omega)) (fun h18 => ?_) (fun h18 => ?_)
    · skip
      exfalso
      omega
    · skip
      refine lv_aload_n hx hb dX2_halfOf_21 rfl (lv_at hl 1 rfl) ?_
      refine z_get hE fF_X2_1 hZ 0 rfl (.ref i1) rfl dX2_halfOf_22 ?_
      refine lv_iload_n hx hb dX2_halfOf_25 rfl (lv_at hl 0 rfl) ?_
      refine z_iald hE hZ 1 0 rfl rfl (by decide) (by omega) dX2_halfOf_26 ?_
      refine lv_goto (tgt := 31) hx hb dX2_halfOf_27 (by decide) ?_
      exact z_iret hE hrt9 hlocks hZ () rfl trivial rfl dX2_halfOf_31 (Nat.le_of_ble_eq_true rfl) (Nat.le_of_ble_eq_true rfl)
set_option maxHeartbeats 1000000 in
set_option maxRecDepth 100000 in
theorem c_X2_moveHalf (l : Launch) (D : va_G) (cI cJ cZ cII cZZ : ClassId) (i0 : Nat) (i1 : Nat) (iN : Nat) (ih : Nat → Nat) (h : Nat) (q : Nat) (hh : h < 2) :
    zC l yX2_moveHalf cX2_moveHalf 3 none { frames := 0, cells := 0, slots := 0, locals := 0 } D (zT cI cJ cZ cII cZZ) [.ref i0, .int (nI h), .int (nI q)] [(i0, .inr (2, [.int (nI iN), .ref i1])), (i1, .inl (cI, 12, .inl (fun x9 => nI (ih x9))))] (S := Unit) (fun u => none) (fun u => True) (fun u => [(i0, .inr (2, [.int (nI iN), .ref i1])), (i1, .inl (cI, 12, .inl (fun x9 => nI ((va_up ih h q) x9))))]) := by
  refine zC_of (by decide) (Nat.le_of_ble_eq_true rfl) ?_
  intro prg env s mth below meth cde A ls hE hrt9 hlocks hnm hZ hl
  have hx := hE.1
  have hb := hE.2.1
  have hl : lv_has ls 3 [(0, .ref i0), (1, .int (nI h)), (2, .int (nI q))] := hl
  refine lv_iload_n hx hb dX2_moveHalf_0 rfl (lv_at hl 1 rfl) ?_
  refine z_if_lt hx hb 16 dX2_moveHalf_1 (by decide) (C := False) (nI_lt0 (by omega)) (fun h1 => ?_) (fun h1 => ?_)
  · skip
    exact h1.elim
  · skip
    refine lv_iload_n hx hb dX2_moveHalf_4 rfl (lv_at hl 1 rfl) ?_
    refine z_iconst hx hb (nI 2) dX2_moveHalf_5 (by decide) ?_
    refine z_icmp_ge hx hb 16 dX2_moveHalf_6 (by decide) (C := 2 ≤ h) (nIle (by omega) (by omega)) (fun h6 => ?_) (fun h6 => ?_)
    · skip
      exfalso
      omega
    · skip
      refine lv_aload_n hx hb dX2_moveHalf_9 rfl (lv_at hl 0 rfl) ?_
      refine z_get hE fF_X2_1 hZ 0 rfl (.ref i1) rfl dX2_moveHalf_10 ?_
      refine lv_iload_n hx hb dX2_moveHalf_13 rfl (lv_at hl 1 rfl) ?_
      refine lv_iload_n hx hb dX2_moveHalf_14 rfl (lv_at hl 2 rfl) ?_
      refine z_iast nI ih q hE hZ 1 0 rfl rfl (by decide) (by omega) dX2_moveHalf_15 [(i0, .inr (2, [.int (nI iN), .ref i1])), (i1, .inl (cI, 12, .inl (fun x9 => nI ((va_up ih h q) x9))))] rfl (fun H locs hZ => ?_)
      exact z_vret hE hrt9 hlocks hZ () rfl trivial rfl dX2_moveHalf_16 (Nat.le_of_ble_eq_true rfl) (Nat.le_of_ble_eq_true rfl)
set_option maxHeartbeats 1000000 in
set_option maxRecDepth 100000 in
theorem c_X2_hasSnapshot (l : Launch) (D : va_G) (cI cJ cZ cII cZZ : ClassId) (i0 : Nat) (i1 : Nat) (iN : Nat) (ih : Nat → Nat) (k : Int) (k_q : Int32) (hk : -2147483648 ≤ k ∧ k < 2147483648) (hih : ∀ j, ih j < 65536) (k_h : k_q = zI k) :
    zC l yX2_hasSnapshot cX2_hasSnapshot 2 (some .boolean) { frames := 1, cells := 0, slots := 0, locals := 23 } D (zT cI cJ cZ cII cZZ) [.ref i0, .int (k_q)] [(i0, .inr (2, [.int (nI iN), .ref i1])), (i1, .inl (cI, 12, .inl (fun x9 => nI (ih x9))))] (S := Unit) (fun u => some (.int (zB (hasS ih k)))) (fun u => True) (fun u => [(i0, .inr (2, [.int (nI iN), .ref i1])), (i1, .inl (cI, 12, .inl (fun x9 => nI (ih x9))))]) := by
  refine zC_of (by decide) (Nat.le_of_ble_eq_true rfl) ?_
  intro prg env s mth below meth cde A ls hE hrt9 hlocks hnm hZ hl
  have hx := hE.1
  have hb := hE.2.1
  subst k_h
  have hl : lv_has ls 2 [(0, .ref i0), (1, .int (zI k))] := hl
  refine lv_iload_n hx hb dX2_hasSnapshot_0 rfl (lv_at hl 1 rfl) ?_
  refine z_if_lt hx hb 31 dX2_hasSnapshot_1 (by decide) (C := k < 0) (zI_lt0 ⟨by omega, by omega⟩) (fun h1 => ?_) (fun h1 => ?_)
  · skip
    refine z_iconst hx hb (nI 0) dX2_hasSnapshot_31 (by decide) ?_
    refine z_top (show nI 0 = zB (hasS ih k) from by first | (rw [show hasS ih k = true by unfold hasS; simp only [decide_eq_true_eq]; omega]; rfl) | (rw [show hasS ih k = false by unfold hasS; simp only [decide_eq_false_iff_not]; omega]; rfl)) ?_
    exact z_zret (hasS ih k) rfl hE hrt9 hlocks hZ () rfl trivial rfl dX2_hasSnapshot_32 (Nat.le_of_ble_eq_true rfl) (Nat.le_of_ble_eq_true rfl)
  · skip
    refine lv_iload_n hx hb dX2_hasSnapshot_4 rfl (lv_at hl 1 rfl) ?_
    refine z_iconst hx hb (nI 5) dX2_hasSnapshot_5 (by decide) ?_
    refine z_icmp_ge hx hb 31 dX2_hasSnapshot_6 (by decide) (C := (5 : Int) ≤ k) (by (try simp only [zI_n]); exact zI_le ⟨by omega, by omega⟩ ⟨by omega, by omega⟩) (fun h6 => ?_) (fun h6 => ?_)
    · skip
      refine z_iconst hx hb (nI 0) dX2_hasSnapshot_31 (by decide) ?_
      refine z_top (show nI 0 = zB (hasS ih k) from by first | (rw [show hasS ih k = true by unfold hasS; simp only [decide_eq_true_eq]; omega]; rfl) | (rw [show hasS ih k = false by unfold hasS; simp only [decide_eq_false_iff_not]; omega]; rfl)) ?_
      exact z_zret (hasS ih k) rfl hE hrt9 hlocks hZ () rfl trivial rfl dX2_hasSnapshot_32 (Nat.le_of_ble_eq_true rfl) (Nat.le_of_ble_eq_true rfl)
    · skip
      refine lv_aload_n hx hb dX2_hasSnapshot_9 rfl (lv_at hl 0 rfl) ?_
      refine lv_iload_n hx hb dX2_hasSnapshot_10 rfl (lv_at hl 1 rfl) ?_
      refine z_iconst hx hb (nI 0) dX2_hasSnapshot_11 (by decide) ?_
      refine z_kV (As := [.int (zI k), .int (nI 0)]) (rest := []) hE hZ (c_X2_halfOf l D cI cJ cZ cII cZZ i0 i1 iN ih k 0 (zI k) (by first | assumption | omega) (by first | assumption | omega) (rfl)) lL_X2_halfOf lC_X2_25 rfl [0, 1] [] [0, 1] [] (fun u => [(i0, .inr (2, [.int (nI iN), .ref i1])), (i1, .inl (cI, 12, .inl (fun x9 => nI (ih x9))))]) 0 rfl rfl rfl (fun _ => rfl) (by decide) ⟨by decide, by decide⟩ 0 0 rfl rfl ⟨by decide, by decide⟩ rfl hl.1 rfl (Nat.le_of_ble_eq_true rfl) dX2_hasSnapshot_12 (fun u H locs hq9 hZ => ?_)
      have hZ : zS D A s.heap H locs [(i0, .inr (2, [.int (nI iN), .ref i1])), (i1, .inl (cI, 12, .inl (fun x9 => nI (ih x9))))] := hZ
      refine W.eq (g2 := F0 mth 15 ls [.int (nI (ih ((k + 1).toNat * 2 + 0)))]) rfl ?_
      have hb12 := hih ((k + 1).toNat * 2 + 0)
      refine z_if_ne hx hb 27 dX2_hasSnapshot_15 (by decide) (C := ih ((k + 1).toNat * 2 + 0) = 0) (nI_eq0 (by omega)) (fun h15 => ?_) (fun h15 => ?_)
      · skip
        refine z_iconst hx hb (nI 1) dX2_hasSnapshot_27 (by decide) ?_
        refine lv_goto (tgt := 32) hx hb dX2_hasSnapshot_28 (by decide) ?_
        refine z_top (show nI 1 = zB (hasS ih k) from by first | (rw [show hasS ih k = true by unfold hasS; simp only [decide_eq_true_eq]; omega]; rfl) | (rw [show hasS ih k = false by unfold hasS; simp only [decide_eq_false_iff_not]; omega]; rfl)) ?_
        exact z_zret (hasS ih k) rfl hE hrt9 hlocks hZ () rfl trivial rfl dX2_hasSnapshot_32 (Nat.le_of_ble_eq_true rfl) (Nat.le_of_ble_eq_true rfl)
      · skip
        refine lv_aload_n hx hb dX2_hasSnapshot_18 rfl (lv_at hl 0 rfl) ?_
        refine lv_iload_n hx hb dX2_hasSnapshot_19 rfl (lv_at hl 1 rfl) ?_
        refine z_iconst hx hb (nI 1) dX2_hasSnapshot_20 (by decide) ?_
        refine z_kV (As := [.int (zI k), .int (nI 1)]) (rest := []) hE hZ (c_X2_halfOf l D cI cJ cZ cII cZZ i0 i1 iN ih k 1 (zI k) (by first | assumption | omega) (by first | assumption | omega) (rfl)) lL_X2_halfOf lC_X2_25 rfl [0, 1] [] [0, 1] [] (fun u => [(i0, .inr (2, [.int (nI iN), .ref i1])), (i1, .inl (cI, 12, .inl (fun x9 => nI (ih x9))))]) 0 rfl rfl rfl (fun _ => rfl) (by decide) ⟨by decide, by decide⟩ 0 0 rfl rfl ⟨by decide, by decide⟩ rfl hl.1 rfl (Nat.le_of_ble_eq_true rfl) dX2_hasSnapshot_21 (fun u H locs hq9 hZ => ?_)
        have hZ : zS D A s.heap H locs [(i0, .inr (2, [.int (nI iN), .ref i1])), (i1, .inl (cI, 12, .inl (fun x9 => nI (ih x9))))] := hZ
        refine W.eq (g2 := F0 mth 24 ls [.int (nI (ih ((k + 1).toNat * 2 + 1)))]) rfl ?_
        have hb21 := hih ((k + 1).toNat * 2 + 1)
        refine z_if_eq hx hb 31 dX2_hasSnapshot_24 (by decide) (C := ih ((k + 1).toNat * 2 + 1) = 0) (nI_eq0 (by omega)) (fun h24 => ?_) (fun h24 => ?_)
        · skip
          refine z_iconst hx hb (nI 0) dX2_hasSnapshot_31 (by decide) ?_
          refine z_top (show nI 0 = zB (hasS ih k) from by first | (rw [show hasS ih k = true by unfold hasS; simp only [decide_eq_true_eq]; omega]; rfl) | (rw [show hasS ih k = false by unfold hasS; simp only [decide_eq_false_iff_not]; omega]; rfl)) ?_
          exact z_zret (hasS ih k) rfl hE hrt9 hlocks hZ () rfl trivial rfl dX2_hasSnapshot_32 (Nat.le_of_ble_eq_true rfl) (Nat.le_of_ble_eq_true rfl)
        · skip
          refine z_iconst hx hb (nI 1) dX2_hasSnapshot_27 (by decide) ?_
          refine lv_goto (tgt := 32) hx hb dX2_hasSnapshot_28 (by decide) ?_
          refine z_top (show nI 1 = zB (hasS ih k) from by first | (rw [show hasS ih k = true by unfold hasS; simp only [decide_eq_true_eq]; omega]; rfl) | (rw [show hasS ih k = false by unfold hasS; simp only [decide_eq_false_iff_not]; omega]; rfl)) ?_
          exact z_zret (hasS ih k) rfl hE hrt9 hlocks hZ () rfl trivial rfl dX2_hasSnapshot_32 (Nat.le_of_ble_eq_true rfl) (Nat.le_of_ble_eq_true rfl)
set_option maxHeartbeats 1000000 in
set_option maxRecDepth 100000 in
theorem c_X2_setSnapshot (l : Launch) (D : va_G) (cI cJ cZ cII cZZ : ClassId) (i0 : Nat) (i1 : Nat) (iN : Nat) (ih : Nat → Nat) (k : Nat) (a : Nat) (b : Nat) (hk : k < 5) :
    zC l yX2_setSnapshot cX2_setSnapshot 4 none { frames := 0, cells := 0, slots := 0, locals := 0 } D (zT cI cJ cZ cII cZZ) [.ref i0, .int (nI k), .int (nI a), .int (nI b)] [(i0, .inr (2, [.int (nI iN), .ref i1])), (i1, .inl (cI, 12, .inl (fun x9 => nI (ih x9))))] (S := Unit) (fun u => none) (fun u => True) (fun u => [(i0, .inr (2, [.int (nI iN), .ref i1])), (i1, .inl (cI, 12, .inl (fun x9 => nI ((va_up (va_up ih ((k + 1) * 2) a) ((k + 1) * 2 + 1) b) x9))))]) := by
  refine zC_of (by decide) (Nat.le_of_ble_eq_true rfl) ?_
  intro prg env s mth below meth cde A ls hE hrt9 hlocks hnm hZ hl
  have hx := hE.1
  have hb := hE.2.1
  have hl : lv_has ls 4 [(0, .ref i0), (1, .int (nI k)), (2, .int (nI a)), (3, .int (nI b))] := hl
  refine lv_iload_n hx hb dX2_setSnapshot_0 rfl (lv_at hl 1 rfl) ?_
  refine z_if_lt hx hb 33 dX2_setSnapshot_1 (by decide) (C := False) (nI_lt0 (by omega)) (fun h1 => ?_) (fun h1 => ?_)
  · skip
    exact h1.elim
  · skip
    refine lv_iload_n hx hb dX2_setSnapshot_4 rfl (lv_at hl 1 rfl) ?_
    refine z_iconst hx hb (nI 5) dX2_setSnapshot_5 (by decide) ?_
    refine z_icmp_ge hx hb 33 dX2_setSnapshot_6 (by decide) (C := 5 ≤ k) (nIle (by omega) (by omega)) (fun h6 => ?_) (fun h6 => ?_)
    · skip
      exfalso
      omega
    · skip
      refine lv_aload_n hx hb dX2_setSnapshot_9 rfl (lv_at hl 0 rfl) ?_
      refine z_get hE fF_X2_1 hZ 0 rfl (.ref i1) rfl dX2_setSnapshot_10 ?_
      refine lv_iload_n hx hb dX2_setSnapshot_13 rfl (lv_at hl 1 rfl) ?_
      refine z_iconst hx hb (nI 1) dX2_setSnapshot_14 (by decide) ?_
      refine z_iadd hx hb dX2_setSnapshot_15 (z := nI (k + 1)) (nI_add _ _) ?_
      refine z_iconst hx hb (nI 2) dX2_setSnapshot_16 (by decide) ?_
      refine z_imul hx hb dX2_setSnapshot_17 (z := nI ((k + 1) * 2)) (pk_mul _ _) ?_
      refine lv_iload_n hx hb dX2_setSnapshot_18 rfl (lv_at hl 2 rfl) ?_
      refine z_iast nI ih a hE hZ 1 0 rfl rfl (by decide) (by omega) dX2_setSnapshot_19 [(i0, .inr (2, [.int (nI iN), .ref i1])), (i1, .inl (cI, 12, .inl (fun x9 => nI ((va_up ih ((k + 1) * 2) a) x9))))] rfl (fun H locs hZ => ?_)
      refine lv_aload_n hx hb dX2_setSnapshot_20 rfl (lv_at hl 0 rfl) ?_
      refine z_get hE fF_X2_1 hZ 0 rfl (.ref i1) rfl dX2_setSnapshot_21 ?_
      refine lv_iload_n hx hb dX2_setSnapshot_24 rfl (lv_at hl 1 rfl) ?_
      refine z_iconst hx hb (nI 1) dX2_setSnapshot_25 (by decide) ?_
      refine z_iadd hx hb dX2_setSnapshot_26 (z := nI (k + 1)) (nI_add _ _) ?_
      refine z_iconst hx hb (nI 2) dX2_setSnapshot_27 (by decide) ?_
      refine z_imul hx hb dX2_setSnapshot_28 (z := nI ((k + 1) * 2)) (pk_mul _ _) ?_
      refine z_iconst hx hb (nI 1) dX2_setSnapshot_29 (by decide) ?_
      refine z_iadd hx hb dX2_setSnapshot_30 (z := nI (((k + 1) * 2) + 1)) (nI_add _ _) ?_
      refine lv_iload_n hx hb dX2_setSnapshot_31 rfl (lv_at hl 3 rfl) ?_
      refine z_iast nI (va_up ih ((k + 1) * 2) a) b hE hZ 1 0 rfl rfl (by decide) (by omega) dX2_setSnapshot_32 [(i0, .inr (2, [.int (nI iN), .ref i1])), (i1, .inl (cI, 12, .inl (fun x9 => nI ((va_up (va_up ih ((k + 1) * 2) a) (((k + 1) * 2) + 1) b) x9))))] rfl (fun H locs hZ => ?_)
      have hZ := z_ext 1 hZ rfl (fun _ _ => rfl) [(i0, .inr (2, [.int (nI iN), .ref i1])), (i1, .inl (cI, 12, .inl (fun x9 => nI ((va_up (va_up ih ((k + 1) * 2) a) ((k + 1) * 2 + 1) b) x9))))] rfl
      exact z_vret hE hrt9 hlocks hZ () rfl trivial rfl dX2_setSnapshot_33 (Nat.le_of_ble_eq_true rfl) (Nat.le_of_ble_eq_true rfl)
set_option maxHeartbeats 1000000 in
set_option maxRecDepth 100000 in
theorem c_X2_keepMapAs (l : Launch) (D : va_G) (cI cJ cZ cII cZZ : ClassId) (i0 : Nat) (i1 : Nat) (iN : Nat) (ih : Nat → Nat) (k : Nat) (hk : k < 5) :
    zC l yX2_keepMapAs cX2_keepMapAs 2 none { frames := 1, cells := 0, slots := 0, locals := 23 } D (zT cI cJ cZ cII cZZ) [.ref i0, .int (nI k)] [(i0, .inr (2, [.int (nI iN), .ref i1])), (i1, .inl (cI, 12, .inl (fun x9 => nI (ih x9))))] (S := Unit) (fun u => none) (fun u => True) (fun u => [(i0, .inr (2, [.int (nI iN), .ref i1])), (i1, .inl (cI, 12, .inl (fun x9 => nI ((va_up (va_up ih ((k + 1) * 2) (ih 0)) ((k + 1) * 2 + 1) (ih 1)) x9))))]) := by
  refine zC_of (by decide) (Nat.le_of_ble_eq_true rfl) ?_
  intro prg env s mth below meth cde A ls hE hrt9 hlocks hnm hZ hl
  have hx := hE.1
  have hb := hE.2.1
  have hl : lv_has ls 2 [(0, .ref i0), (1, .int (nI k))] := hl
  refine lv_aload_n hx hb dX2_keepMapAs_0 rfl (lv_at hl 0 rfl) ?_
  refine lv_iload_n hx hb dX2_keepMapAs_1 rfl (lv_at hl 1 rfl) ?_
  refine lv_aload_n hx hb dX2_keepMapAs_2 rfl (lv_at hl 0 rfl) ?_
  refine z_get hE fF_X2_1 hZ 0 rfl (.ref i1) rfl dX2_keepMapAs_3 ?_
  refine z_iconst hx hb (nI 0) dX2_keepMapAs_6 (by decide) ?_
  refine z_iald hE hZ 1 0 rfl rfl (by decide) (by omega) dX2_keepMapAs_7 ?_
  refine lv_aload_n hx hb dX2_keepMapAs_8 rfl (lv_at hl 0 rfl) ?_
  refine z_get hE fF_X2_1 hZ 0 rfl (.ref i1) rfl dX2_keepMapAs_9 ?_
  refine z_iconst hx hb (nI 1) dX2_keepMapAs_12 (by decide) ?_
  refine z_iald hE hZ 1 0 rfl rfl (by decide) (by omega) dX2_keepMapAs_13 ?_
  refine z_kV (As := [.int (nI k), .int (nI (ih 0)), .int (nI (ih 1))]) (rest := []) hE hZ (c_X2_setSnapshot l D cI cJ cZ cII cZZ i0 i1 iN ih k (ih 0) (ih 1) (by first | assumption | omega)) lL_X2_setSnapshot lC_X2_29 rfl [0, 1] [] [0, 1] [] (fun u => [(i0, .inr (2, [.int (nI iN), .ref i1])), (i1, .inl (cI, 12, .inl (fun x9 => nI ((va_up (va_up ih ((k + 1) * 2) (ih 0)) ((k + 1) * 2 + 1) (ih 1)) x9))))]) 0 rfl rfl rfl (fun _ => rfl) (by decide) ⟨by decide, by decide⟩ 0 0 rfl rfl ⟨by decide, by decide⟩ rfl hl.1 rfl (Nat.le_of_ble_eq_true rfl) dX2_keepMapAs_14 (fun u H locs hq9 hZ => ?_)
  have hZ : zS D A s.heap H locs [(i0, .inr (2, [.int (nI iN), .ref i1])), (i1, .inl (cI, 12, .inl (fun x9 => nI ((va_up (va_up ih ((k + 1) * 2) (ih 0)) ((k + 1) * 2 + 1) (ih 1)) x9))))] := hZ
  refine W.eq (g2 := F0 mth 17 ls []) rfl ?_
  exact z_vret hE hrt9 hlocks hZ () rfl trivial rfl dX2_keepMapAs_17 (Nat.le_of_ble_eq_true rfl) (Nat.le_of_ble_eq_true rfl)
set_option maxHeartbeats 1000000 in
set_option maxRecDepth 100000 in
theorem c_X2_forget (l : Launch) (D : va_G) (cI cJ cZ cII cZZ : ClassId) (i0 : Nat) (i1 : Nat) (iN : Nat) (ih : Nat → Nat) (k : Nat) (hk : k < 5) :
    zC l yX2_forget cX2_forget 2 none { frames := 1, cells := 0, slots := 0, locals := 23 } D (zT cI cJ cZ cII cZZ) [.ref i0, .int (nI k)] [(i0, .inr (2, [.int (nI iN), .ref i1])), (i1, .inl (cI, 12, .inl (fun x9 => nI (ih x9))))] (S := Unit) (fun u => none) (fun u => True) (fun u => [(i0, .inr (2, [.int (nI iN), .ref i1])), (i1, .inl (cI, 12, .inl (fun x9 => nI ((va_up (va_up ih ((k + 1) * 2) 0) ((k + 1) * 2 + 1) 0) x9))))]) := by
  refine zC_of (by decide) (Nat.le_of_ble_eq_true rfl) ?_
  intro prg env s mth below meth cde A ls hE hrt9 hlocks hnm hZ hl
  have hx := hE.1
  have hb := hE.2.1
  have hl : lv_has ls 2 [(0, .ref i0), (1, .int (nI k))] := hl
  refine lv_aload_n hx hb dX2_forget_0 rfl (lv_at hl 0 rfl) ?_
  refine lv_iload_n hx hb dX2_forget_1 rfl (lv_at hl 1 rfl) ?_
  refine z_iconst hx hb (nI 0) dX2_forget_2 (by decide) ?_
  refine z_iconst hx hb (nI 0) dX2_forget_3 (by decide) ?_
  refine z_kV (As := [.int (nI k), .int (nI 0), .int (nI 0)]) (rest := []) hE hZ (c_X2_setSnapshot l D cI cJ cZ cII cZZ i0 i1 iN ih k 0 0 (by first | assumption | omega)) lL_X2_setSnapshot lC_X2_29 rfl [0, 1] [] [0, 1] [] (fun u => [(i0, .inr (2, [.int (nI iN), .ref i1])), (i1, .inl (cI, 12, .inl (fun x9 => nI ((va_up (va_up ih ((k + 1) * 2) 0) ((k + 1) * 2 + 1) 0) x9))))]) 0 rfl rfl rfl (fun _ => rfl) (by decide) ⟨by decide, by decide⟩ 0 0 rfl rfl ⟨by decide, by decide⟩ rfl hl.1 rfl (Nat.le_of_ble_eq_true rfl) dX2_forget_4 (fun u H locs hq9 hZ => ?_)
  have hZ : zS D A s.heap H locs [(i0, .inr (2, [.int (nI iN), .ref i1])), (i1, .inl (cI, 12, .inl (fun x9 => nI ((va_up (va_up ih ((k + 1) * 2) 0) ((k + 1) * 2 + 1) 0) x9))))] := hZ
  refine W.eq (g2 := F0 mth 7 ls []) rfl ?_
  exact z_vret hE hrt9 hlocks hZ () rfl trivial rfl dX2_forget_7 (Nat.le_of_ble_eq_true rfl) (Nat.le_of_ble_eq_true rfl)
set_option maxHeartbeats 1000000 in
set_option maxRecDepth 100000 in
theorem c_X2_into (l : Launch) (D : va_G) (cI cJ cZ cII cZZ : ClassId) (i0 : Nat) (i1 : Nat) (iN : Nat) (ih : Nat → Nat) (k0 : Nat) (k1 : Nat) (kw : Nat → Int64)  (hN : iN < 2 ^ 31) (hih : ∀ j, ih j < 65536) :
    zC l yX2_into cX2_into 3 none { frames := 2, cells := 0, slots := 0, locals := 44 } D (zT cI cJ cZ cII cZZ) [.ref i0, .ref k0] [(i0, .inr (2, [.int (nI iN), .ref i1])), (i1, .inl (cI, 12, .inl (fun x9 => nI (ih x9)))), (k0, .inr (0, [.ref k1])), (k1, .inl (cJ, 4, .inr (.inl kw)))] (S := (Nat → Int64)) (fun u => none) (fun u => (∀ j, j < 16 → nmK u j = infoN iN ih j)) (fun u => [(i0, .inr (2, [.int (nI iN), .ref i1])), (i1, .inl (cI, 12, .inl (fun x9 => nI (ih x9)))), (k0, .inr (0, [.ref k1])), (k1, .inl (cJ, 4, .inr (.inl u)))]) := by
  refine zC_of (by decide) (Nat.le_of_ble_eq_true rfl) ?_
  intro prg env s mth below meth cde A ls hE hrt9 hlocks hnm hZ hl
  have hx := hE.1
  have hb := hE.2.1
  have hl : lv_has ls 3 [(0, .ref i0), (1, .ref k0)] := hl
  refine lv_aload_n hx hb dX2_into_0 rfl (lv_at hl 1 rfl) ?_
  refine z_kV (As := []) (rest := []) hE hZ (c_X0_wipe l D cI cJ cZ cII cZZ k0 k1 kw  ) lL_X0_wipe lC_X2_33 rfl [2, 3] [0, 1] [0, 1, 2, 3] [(i0, .inr (2, [.int (nI iN), .ref i1])), (i1, .inl (cI, 12, .inl (fun x9 => nI (ih x9))))] (fun u => [(i0, .inr (2, [.int (nI iN), .ref i1])), (i1, .inl (cI, 12, .inl (fun x9 => nI (ih x9)))), (k0, .inr (0, [.ref k1])), (k1, .inl (cJ, 4, .inr (.inl (fun _ => 0))))]) 0 rfl rfl rfl (fun _ => rfl) (by decide) ⟨by decide, by decide⟩ 0 0 rfl rfl ⟨by decide, by decide⟩ rfl hl.1 rfl (Nat.le_of_ble_eq_true rfl) dX2_into_1 (fun u H locs hq9 hZ => ?_)
  have hZ : zS D A s.heap H locs [(i0, .inr (2, [.int (nI iN), .ref i1])), (i1, .inl (cI, 12, .inl (fun x9 => nI (ih x9)))), (k0, .inr (0, [.ref k1])), (k1, .inl (cJ, 4, .inr (.inl (fun _ => 0))))] := hZ
  refine W.eq (g2 := F0 mth 4 ls []) rfl ?_
  refine lv_aload_n hx hb dX2_into_4 rfl (lv_at hl 1 rfl) ?_
  refine z_iconst hx hb (nI 0) dX2_into_5 (by decide) ?_
  refine lv_aload_n hx hb dX2_into_6 rfl (lv_at hl 0 rfl) ?_
  refine z_get hE fF_X2_0 hZ 0 rfl (.int (nI iN)) rfl dX2_into_7 ?_
  refine z_bipush hx hb (nI 16) dX2_into_10 (by decide) ?_
  refine lv_iushr (v := ((nI iN).toUInt32 >>> ((nI 16).toUInt32 &&& Int32.toUInt32 31)).toInt32) hx hb dX2_into_12 rfl ?_
  refine z_top (show ((nI iN).toUInt32 >>> ((nI 16).toUInt32 &&& Int32.toUInt32 31)).toInt32 = nI (iN / 65536) from pk_ushrN (by omega) 16 16 (by decide)) ?_
  refine z_kV (As := [.int (nI 0), .int (nI (iN / 65536))]) (rest := []) hE hZ (c_X0_setNumber l D cI cJ cZ cII cZZ k0 k1 (fun _ => 0) 0 (nI (iN / 65536)) (by omega)) lL_X0_setNumber lC_X2_38 rfl [2, 3] [0, 1] [0, 1, 2, 3] [(i0, .inr (2, [.int (nI iN), .ref i1])), (i1, .inl (cI, 12, .inl (fun x9 => nI (ih x9))))] (fun u => [(i0, .inr (2, [.int (nI iN), .ref i1])), (i1, .inl (cI, 12, .inl (fun x9 => nI (ih x9)))), (k0, .inr (0, [.ref k1])), (k1, .inl (cJ, 4, .inr (.inl (va_up (fun _ => 0) (0 / 4) (stN ((fun _ => 0) (0 / 4)) (0 % 4) (nI (iN / 65536)))))))]) 0 rfl rfl rfl (fun _ => rfl) (by decide) ⟨by decide, by decide⟩ 0 0 rfl rfl ⟨by decide, by decide⟩ rfl hl.1 rfl (Nat.le_of_ble_eq_true rfl) dX2_into_13 (fun u H locs hq9 hZ => ?_)
  have hZ : zS D A s.heap H locs [(i0, .inr (2, [.int (nI iN), .ref i1])), (i1, .inl (cI, 12, .inl (fun x9 => nI (ih x9)))), (k0, .inr (0, [.ref k1])), (k1, .inl (cJ, 4, .inr (.inl (va_up (fun _ => 0) (0 / 4) (stN ((fun _ => 0) (0 / 4)) (0 % 4) (nI (iN / 65536)))))))] := hZ
  refine W.eq (g2 := F0 mth 16 ls []) rfl ?_
  refine lv_aload_n hx hb dX2_into_16 rfl (lv_at hl 1 rfl) ?_
  refine z_iconst hx hb (nI 1) dX2_into_17 (by decide) ?_
  refine lv_aload_n hx hb dX2_into_18 rfl (lv_at hl 0 rfl) ?_
  refine z_get hE fF_X2_0 hZ 0 rfl (.int (nI iN)) rfl dX2_into_19 ?_
  refine z_kV (As := [.int (nI 1), .int (nI iN)]) (rest := []) hE hZ (c_X0_setNumber l D cI cJ cZ cII cZZ k0 k1 (va_up (fun _ => 0) (0 / 4) (stN ((fun _ => 0) (0 / 4)) (0 % 4) (nI (iN / 65536)))) 1 (nI iN) (by omega)) lL_X0_setNumber lC_X2_38 rfl [2, 3] [0, 1] [0, 1, 2, 3] [(i0, .inr (2, [.int (nI iN), .ref i1])), (i1, .inl (cI, 12, .inl (fun x9 => nI (ih x9))))] (fun u => [(i0, .inr (2, [.int (nI iN), .ref i1])), (i1, .inl (cI, 12, .inl (fun x9 => nI (ih x9)))), (k0, .inr (0, [.ref k1])), (k1, .inl (cJ, 4, .inr (.inl (va_up (va_up (fun _ => 0) (0 / 4) (stN ((fun _ => 0) (0 / 4)) (0 % 4) (nI (iN / 65536)))) (1 / 4) (stN ((va_up (fun _ => 0) (0 / 4) (stN ((fun _ => 0) (0 / 4)) (0 % 4) (nI (iN / 65536)))) (1 / 4)) (1 % 4) (nI iN))))))]) 0 rfl rfl rfl (fun _ => rfl) (by decide) ⟨by decide, by decide⟩ 0 0 rfl rfl ⟨by decide, by decide⟩ rfl hl.1 rfl (Nat.le_of_ble_eq_true rfl) dX2_into_22 (fun u H locs hq9 hZ => ?_)
  have hZ : zS D A s.heap H locs [(i0, .inr (2, [.int (nI iN), .ref i1])), (i1, .inl (cI, 12, .inl (fun x9 => nI (ih x9)))), (k0, .inr (0, [.ref k1])), (k1, .inl (cJ, 4, .inr (.inl (va_up (va_up (fun _ => 0) (0 / 4) (stN ((fun _ => 0) (0 / 4)) (0 % 4) (nI (iN / 65536)))) (1 / 4) (stN ((va_up (fun _ => 0) (0 / 4) (stN ((fun _ => 0) (0 / 4)) (0 % 4) (nI (iN / 65536)))) (1 / 4)) (1 % 4) (nI iN))))))] := hZ
  refine W.eq (g2 := F0 mth 25 ls []) rfl ?_
  refine z_iconst hx hb (nI 0) dX2_into_25 (by decide) ?_
  refine lv_istore_n (lv' := [(2, .int (nI 0)), (0, .ref i0), (1, .ref k0)]) hx hb dX2_into_26 rfl hl (by decide) rfl (fun ls hl => ?_)
  refine z_loop (σ := Nat × (Nat → Int64)) (fun (i, w) H locs ls => (i ≤ 12) ∧ (∀ j, j < 16 → nmK w j = if j < 2 + i then infoN iN ih j else 0) ∧ zS D A s.heap H locs [(i0, .inr (2, [.int (nI iN), .ref i1])), (i1, .inl (cI, 12, .inl (fun x9 => nI (ih x9)))), (k0, .inr (0, [.ref k1])), (k1, .inl (cJ, 4, .inr (.inl w)))] ∧ lv_has ls 3 [(0, .ref i0), (1, .ref k0), (2, .int (nI i))]) (fun (i, w) => 12 - i) [] (0, va_up (va_up (fun _ => 0) (0 / 4) (stN ((fun _ => 0) (0 / 4)) (0 % 4) (nI (iN / 65536)))) (1 / 4) (stN ((va_up (fun _ => 0) (0 / 4) (stN ((fun _ => 0) (0 / 4)) (0 % 4) (nI (iN / 65536)))) (1 / 4)) (1 % 4) (nI iN))) ⟨by omega, info_0 hN, hZ, lv_sub hl [1, 2, 0] (by first | rfl | (simp only [lv_pick]; rfl))⟩ ?_
  intro x H locs ls hI ih27
  obtain ⟨i, w⟩ := x
  obtain ⟨hi, hw, hZ, hl⟩ := hI
  refine lv_iload_n hx hb dX2_into_27 rfl (lv_at hl 2 rfl) ?_
  refine lv_aload_n hx hb dX2_into_28 rfl (lv_at hl 0 rfl) ?_
  refine z_get hE fF_X2_1 hZ 0 rfl (.ref i1) rfl dX2_into_29 ?_
  refine z_alen hE hZ 1 0 rfl rfl 12 rfl dX2_into_32 ?_
  refine z_icmp_ge hx hb 55 dX2_into_33 (by decide) (C := 12 ≤ i) (nIle (by omega) (by omega)) (fun h33 => ?_) (fun h33 => ?_)
  · skip
    exact z_vret hE hrt9 hlocks hZ w rfl (show (∀ j, j < 16 → nmK w j = infoN iN ih j) from fun j hj => by rw [hw j hj]; by_cases q : j < 2 + i; rw [if_pos q]; rw [if_neg q]; unfold infoN; rw [if_neg (by omega), if_neg (by omega), if_neg (by omega)]) rfl dX2_into_55 (Nat.le_of_ble_eq_true rfl) (Nat.le_of_ble_eq_true rfl)
  · skip
    refine lv_aload_n hx hb dX2_into_36 rfl (lv_at hl 1 rfl) ?_
    refine z_iconst hx hb (nI 2) dX2_into_37 (by decide) ?_
    refine lv_iload_n hx hb dX2_into_38 rfl (lv_at hl 2 rfl) ?_
    refine z_iadd hx hb dX2_into_39 (z := nI (2 + i)) (nI_add _ _) ?_
    refine lv_aload_n hx hb dX2_into_40 rfl (lv_at hl 0 rfl) ?_
    refine z_get hE fF_X2_1 hZ 0 rfl (.ref i1) rfl dX2_into_41 ?_
    refine lv_iload_n hx hb dX2_into_44 rfl (lv_at hl 2 rfl) ?_
    refine z_iald hE hZ 1 0 rfl rfl (by decide) (by omega) dX2_into_45 ?_
    refine z_kV (As := [.int (nI (2 + i)), .int (nI (ih i))]) (rest := []) hE hZ (c_X0_setNumber l D cI cJ cZ cII cZZ k0 k1 w (2 + i) (nI (ih i)) (by omega)) lL_X0_setNumber lC_X2_38 rfl [2, 3] [0, 1] [0, 1, 2, 3] [(i0, .inr (2, [.int (nI iN), .ref i1])), (i1, .inl (cI, 12, .inl (fun x9 => nI (ih x9))))] (fun u => [(i0, .inr (2, [.int (nI iN), .ref i1])), (i1, .inl (cI, 12, .inl (fun x9 => nI (ih x9)))), (k0, .inr (0, [.ref k1])), (k1, .inl (cJ, 4, .inr (.inl (va_up w ((2 + i) / 4) (stN (w ((2 + i) / 4)) ((2 + i) % 4) (nI (ih i)))))))]) 0 rfl rfl rfl (fun _ => rfl) (by decide) ⟨by decide, by decide⟩ 0 0 rfl rfl ⟨by decide, by decide⟩ rfl hl.1 rfl (Nat.le_of_ble_eq_true rfl) dX2_into_46 (fun u H locs hq9 hZ => ?_)
    have hZ : zS D A s.heap H locs [(i0, .inr (2, [.int (nI iN), .ref i1])), (i1, .inl (cI, 12, .inl (fun x9 => nI (ih x9)))), (k0, .inr (0, [.ref k1])), (k1, .inl (cJ, 4, .inr (.inl (va_up w ((2 + i) / 4) (stN (w ((2 + i) / 4)) ((2 + i) % 4) (nI (ih i)))))))] := hZ
    refine W.eq (g2 := F0 mth 49 ls []) rfl ?_
    refine lv_iinc (v := nI (i + 1)) (lv' := [(2, .int (nI (i + 1))), (0, .ref i0), (1, .ref k0)]) hx hb dX2_into_49 hl (k := 2) rfl (nI_add _ _) (by decide) rfl (fun ls hl => ?_)
    refine lv_goto (tgt := 27) hx hb dX2_into_52 (by decide) ?_
    exact ih27 (i + 1, va_up w ((2 + i) / 4) (stN (w ((2 + i) / 4)) ((2 + i) % 4) (nI (ih i)))) _ _ _ ⟨by omega, fun j hj => by rw [nmK_set (by omega) hj (by rw [hw _ (by omega)]; rw [if_neg (by omega)]) (by have := hih i; omega), hw j hj]; exact info_s (by omega) (hih i), hZ, lv_sub hl [1, 2, 0] (by first | rfl | (simp only [lv_pick]; rfl))⟩ (by (try dsimp only); omega)
set_option maxHeartbeats 1000000 in
set_option maxRecDepth 100000 in
theorem c_X2_readFrom (l : Launch) (D : va_G) (cI cJ cZ cII cZZ : ClassId) (d0 : Nat) (d1 : Nat) (d2 : Nat) (dw : Nat → Int64) (du : Nat → Int) (dn : Int) (df : Bool) (db : Bool) (dc : Int) (i0 : Nat) (i1 : Nat) (iN : Nat) (ih : Nat → Nat) (B : Nat → Int64) (hR : DR B dw du dn df) (hN : num B 0 0 < 32768) :
    zC l yX2_readFrom cX2_readFrom 3 none { frames := 2, cells := 0, slots := 0, locals := 49 } D (zT cI cJ cZ cII cZZ) [.ref i0, .ref d0] [(d0, .inr (1, [.ref d1, .ref d2, .int (zI dn), .int (zB df), .int (zB db), .int (zI dc)])), (d1, .inl (cJ, 3000, .inr (.inl dw))), (d2, .inl (cI, 5, .inl (fun x9 => zI (du x9)))), (i0, .inr (2, [.int (nI iN), .ref i1])), (i1, .inl (cI, 12, .inl (fun x9 => nI (ih x9))))] (S := Unit) (fun u => none) (fun u => True) (fun u => [(d0, .inr (1, [.ref d1, .ref d2, .int (zI dn), .int (zB df), .int (zB db), .int (zI dc)])), (d1, .inl (cJ, 3000, .inr (.inl dw))), (d2, .inl (cI, 5, .inl (fun x9 => zI (du x9)))), (i0, .inr (2, [.int (nI (num B 0 0 * 65536 + num B 0 1)), .ref i1])), (i1, .inl (cI, 12, .inl (fun x9 => nI ((fun i => num B 0 (2 + i)) x9))))]) := by
  refine zC_of (by decide) (Nat.le_of_ble_eq_true rfl) ?_
  intro prg env s mth below meth cde A ls hE hrt9 hlocks hnm hZ hl
  have hx := hE.1
  have hb := hE.2.1
  have hl : lv_has ls 3 [(0, .ref i0), (1, .ref d0)] := hl
  refine lv_aload_n hx hb dX2_readFrom_0 rfl (lv_at hl 0 rfl) ?_
  refine lv_aload_n hx hb dX2_readFrom_1 rfl (lv_at hl 1 rfl) ?_
  refine z_iconst hx hb (nI 0) dX2_readFrom_2 (by decide) ?_
  refine z_iconst hx hb (nI 0) dX2_readFrom_3 (by decide) ?_
  refine z_kV (As := [.int (nI 0), .int (nI 0)]) (rest := [.ref i0]) hE hZ (c_X1_number l D cI cJ cZ cII cZZ d0 d1 d2 dw du dn df db dc B 0 0 (by omega) (by omega) (by first | assumption | omega)) lL_X1_number lC_X2_42 rfl [0, 1, 2] [3, 4] [2, 3, 4, 0, 1] [(i0, .inr (2, [.int (nI iN), .ref i1])), (i1, .inl (cI, 12, .inl (fun x9 => nI (ih x9))))] (fun u => [(d0, .inr (1, [.ref d1, .ref d2, .int (zI dn), .int (zB df), .int (zB db), .int (zI dc)])), (d1, .inl (cJ, 3000, .inr (.inl dw))), (d2, .inl (cI, 5, .inl (fun x9 => zI (du x9)))), (i0, .inr (2, [.int (nI iN), .ref i1])), (i1, .inl (cI, 12, .inl (fun x9 => nI (ih x9))))]) 0 rfl rfl rfl (fun _ => rfl) (by decide) ⟨by decide, by decide⟩ 0 0 rfl rfl ⟨by decide, by decide⟩ rfl hl.1 rfl (Nat.le_of_ble_eq_true rfl) dX2_readFrom_4 (fun u H locs hq9 hZ => ?_)
  have hZ : zS D A s.heap H locs [(d0, .inr (1, [.ref d1, .ref d2, .int (zI dn), .int (zB df), .int (zB db), .int (zI dc)])), (d1, .inl (cJ, 3000, .inr (.inl dw))), (d2, .inl (cI, 5, .inl (fun x9 => zI (du x9)))), (i0, .inr (2, [.int (nI iN), .ref i1])), (i1, .inl (cI, 12, .inl (fun x9 => nI (ih x9))))] := hZ
  refine W.eq (g2 := F0 mth 7 ls [.int (nI (num B 0 0)), .ref i0]) rfl ?_
  refine z_bipush hx hb (nI 16) dX2_readFrom_7 (by decide) ?_
  refine lv_ishl hx hb dX2_readFrom_9 ?_
  refine z_top (show (nI (num B 0 0)) <<< ((nI 16) &&& 31) = nI (num B 0 0 * 65536) from pk_shlN _ 16 (by decide) (by omega)) ?_
  refine lv_aload_n hx hb dX2_readFrom_10 rfl (lv_at hl 1 rfl) ?_
  refine z_iconst hx hb (nI 0) dX2_readFrom_11 (by decide) ?_
  refine z_iconst hx hb (nI 1) dX2_readFrom_12 (by decide) ?_
  refine z_kV (As := [.int (nI 0), .int (nI 1)]) (rest := [.int (nI (num B 0 0 * 65536)), .ref i0]) hE hZ (c_X1_number l D cI cJ cZ cII cZZ d0 d1 d2 dw du dn df db dc B 0 1 (by omega) (by omega) (by first | assumption | omega)) lL_X1_number lC_X2_42 rfl [0, 1, 2] [3, 4] [2, 3, 4, 0, 1] [(i0, .inr (2, [.int (nI iN), .ref i1])), (i1, .inl (cI, 12, .inl (fun x9 => nI (ih x9))))] (fun u => [(d0, .inr (1, [.ref d1, .ref d2, .int (zI dn), .int (zB df), .int (zB db), .int (zI dc)])), (d1, .inl (cJ, 3000, .inr (.inl dw))), (d2, .inl (cI, 5, .inl (fun x9 => zI (du x9)))), (i0, .inr (2, [.int (nI iN), .ref i1])), (i1, .inl (cI, 12, .inl (fun x9 => nI (ih x9))))]) 0 rfl rfl rfl (fun _ => rfl) (by decide) ⟨by decide, by decide⟩ 0 0 rfl rfl ⟨by decide, by decide⟩ rfl hl.1 rfl (Nat.le_of_ble_eq_true rfl) dX2_readFrom_13 (fun u H locs hq9 hZ => ?_)
  have hZ : zS D A s.heap H locs [(d0, .inr (1, [.ref d1, .ref d2, .int (zI dn), .int (zB df), .int (zB db), .int (zI dc)])), (d1, .inl (cJ, 3000, .inr (.inl dw))), (d2, .inl (cI, 5, .inl (fun x9 => zI (du x9)))), (i0, .inr (2, [.int (nI iN), .ref i1])), (i1, .inl (cI, 12, .inl (fun x9 => nI (ih x9))))] := hZ
  refine W.eq (g2 := F0 mth 16 ls [.int (nI (num B 0 1)), .int (nI (num B 0 0 * 65536)), .ref i0]) rfl ?_
  refine lv_ior hx hb dX2_readFrom_16 ?_
  refine z_top (show (nI (num B 0 0 * 65536)) ||| (nI (num B 0 1)) = nI (num B 0 0 * 65536 + num B 0 1) from or_hi (nm_lt _ _)) ?_
  refine z_put hE fF_X2_0 fP_X2 rfl hZ 3 rfl rfl rfl (Nat.le_of_ble_eq_true rfl) dX2_readFrom_17 [(d0, .inr (1, [.ref d1, .ref d2, .int (zI dn), .int (zB df), .int (zB db), .int (zI dc)])), (d1, .inl (cJ, 3000, .inr (.inl dw))), (d2, .inl (cI, 5, .inl (fun x9 => zI (du x9)))), (i0, .inr (2, [.int (nI (num B 0 0 * 65536 + num B 0 1)), .ref i1])), (i1, .inl (cI, 12, .inl (fun x9 => nI (ih x9))))] rfl (fun H locs hZ => ?_)
  refine z_iconst hx hb (nI 0) dX2_readFrom_20 (by decide) ?_
  refine lv_istore_n (lv' := [(2, .int (nI 0)), (0, .ref i0), (1, .ref d0)]) hx hb dX2_readFrom_21 rfl hl (by decide) rfl (fun ls hl => ?_)
  refine z_loop (σ := Nat × (Nat → Nat)) (fun (i, f1) H locs ls => (i ≤ 12) ∧ (∀ j, j < i → f1 j = num B 0 (2 + j)) ∧ zS D A s.heap H locs [(d0, .inr (1, [.ref d1, .ref d2, .int (zI dn), .int (zB df), .int (zB db), .int (zI dc)])), (d1, .inl (cJ, 3000, .inr (.inl dw))), (d2, .inl (cI, 5, .inl (fun x9 => zI (du x9)))), (i0, .inr (2, [.int (nI (num B 0 0 * 65536 + num B 0 1)), .ref i1])), (i1, .inl (cI, 12, .inl (fun x9 => nI (f1 x9))))] ∧ lv_has ls 3 [(0, .ref i0), (1, .ref d0), (2, .int (nI i))]) (fun (i, f1) => 12 - i) [] (0, ih) ⟨by omega, fun k h => absurd h (Nat.not_lt_zero k), hZ, lv_sub hl [1, 2, 0] (by first | rfl | (simp only [lv_pick]; rfl))⟩ ?_
  intro x H locs ls hI ih22
  obtain ⟨i, f1⟩ := x
  obtain ⟨hi, hf, hZ, hl⟩ := hI
  refine lv_iload_n hx hb dX2_readFrom_22 rfl (lv_at hl 2 rfl) ?_
  refine lv_aload_n hx hb dX2_readFrom_23 rfl (lv_at hl 0 rfl) ?_
  refine z_get hE fF_X2_1 hZ 3 rfl (.ref i1) rfl dX2_readFrom_24 ?_
  refine z_alen hE hZ 4 0 rfl rfl 12 rfl dX2_readFrom_27 ?_
  refine z_icmp_ge hx hb 51 dX2_readFrom_28 (by decide) (C := 12 ≤ i) (nIle (by omega) (by omega)) (fun h28 => ?_) (fun h28 => ?_)
  · skip
    have hZ := z_ext 4 hZ rfl (fun k h => by rw [hf k (by omega)]) [(d0, .inr (1, [.ref d1, .ref d2, .int (zI dn), .int (zB df), .int (zB db), .int (zI dc)])), (d1, .inl (cJ, 3000, .inr (.inl dw))), (d2, .inl (cI, 5, .inl (fun x9 => zI (du x9)))), (i0, .inr (2, [.int (nI (num B 0 0 * 65536 + num B 0 1)), .ref i1])), (i1, .inl (cI, 12, .inl (fun x9 => nI ((fun i => num B 0 (2 + i)) x9))))] rfl
    exact z_vret hE hrt9 hlocks hZ () rfl trivial rfl dX2_readFrom_51 (Nat.le_of_ble_eq_true rfl) (Nat.le_of_ble_eq_true rfl)
  · skip
    refine lv_aload_n hx hb dX2_readFrom_31 rfl (lv_at hl 0 rfl) ?_
    refine z_get hE fF_X2_1 hZ 3 rfl (.ref i1) rfl dX2_readFrom_32 ?_
    refine lv_iload_n hx hb dX2_readFrom_35 rfl (lv_at hl 2 rfl) ?_
    refine lv_aload_n hx hb dX2_readFrom_36 rfl (lv_at hl 1 rfl) ?_
    refine z_iconst hx hb (nI 0) dX2_readFrom_37 (by decide) ?_
    refine z_iconst hx hb (nI 2) dX2_readFrom_38 (by decide) ?_
    refine lv_iload_n hx hb dX2_readFrom_39 rfl (lv_at hl 2 rfl) ?_
    refine z_iadd hx hb dX2_readFrom_40 (z := nI (2 + i)) (nI_add _ _) ?_
    refine z_kV (As := [.int (nI 0), .int (nI (2 + i))]) (rest := [.int (nI i), .ref i1]) hE hZ (c_X1_number l D cI cJ cZ cII cZZ d0 d1 d2 dw du dn df db dc B 0 (2 + i) (by omega) (by omega) (by first | assumption | omega)) lL_X1_number lC_X2_42 rfl [0, 1, 2] [3, 4] [2, 3, 4, 0, 1] [(i0, .inr (2, [.int (nI (num B 0 0 * 65536 + num B 0 1)), .ref i1])), (i1, .inl (cI, 12, .inl (fun x9 => nI (f1 x9))))] (fun u => [(d0, .inr (1, [.ref d1, .ref d2, .int (zI dn), .int (zB df), .int (zB db), .int (zI dc)])), (d1, .inl (cJ, 3000, .inr (.inl dw))), (d2, .inl (cI, 5, .inl (fun x9 => zI (du x9)))), (i0, .inr (2, [.int (nI (num B 0 0 * 65536 + num B 0 1)), .ref i1])), (i1, .inl (cI, 12, .inl (fun x9 => nI (f1 x9))))]) 0 rfl rfl rfl (fun _ => rfl) (by decide) ⟨by decide, by decide⟩ 0 0 rfl rfl ⟨by decide, by decide⟩ rfl hl.1 rfl (Nat.le_of_ble_eq_true rfl) dX2_readFrom_41 (fun u H locs hq9 hZ => ?_)
    have hZ : zS D A s.heap H locs [(d0, .inr (1, [.ref d1, .ref d2, .int (zI dn), .int (zB df), .int (zB db), .int (zI dc)])), (d1, .inl (cJ, 3000, .inr (.inl dw))), (d2, .inl (cI, 5, .inl (fun x9 => zI (du x9)))), (i0, .inr (2, [.int (nI (num B 0 0 * 65536 + num B 0 1)), .ref i1])), (i1, .inl (cI, 12, .inl (fun x9 => nI (f1 x9))))] := hZ
    refine W.eq (g2 := F0 mth 44 ls [.int (nI (num B 0 (2 + i))), .int (nI i), .ref i1]) rfl ?_
    refine z_iast nI f1 (num B 0 (2 + i)) hE hZ 4 0 rfl rfl (by decide) (by omega) dX2_readFrom_44 [(d0, .inr (1, [.ref d1, .ref d2, .int (zI dn), .int (zB df), .int (zB db), .int (zI dc)])), (d1, .inl (cJ, 3000, .inr (.inl dw))), (d2, .inl (cI, 5, .inl (fun x9 => zI (du x9)))), (i0, .inr (2, [.int (nI (num B 0 0 * 65536 + num B 0 1)), .ref i1])), (i1, .inl (cI, 12, .inl (fun x9 => nI ((va_up f1 i (num B 0 (2 + i))) x9))))] rfl (fun H locs hZ => ?_)
    refine lv_iinc (v := nI (i + 1)) (lv' := [(2, .int (nI (i + 1))), (0, .ref i0), (1, .ref d0)]) hx hb dX2_readFrom_45 hl (k := 2) rfl (nI_add _ _) (by decide) rfl (fun ls hl => ?_)
    refine lv_goto (tgt := 22) hx hb dX2_readFrom_48 (by decide) ?_
    exact ih22 (i + 1, va_up f1 i (num B 0 (2 + i))) _ _ _ ⟨by omega, fun k h => by unfold va_up; by_cases q : k = i <;> simp [q]; exact hf k (by omega), hZ, lv_sub hl [1, 2, 0] (by first | rfl | (simp only [lv_pick]; rfl))⟩ (by (try dsimp only); omega)
set_option maxHeartbeats 1000000 in
set_option maxRecDepth 100000 in
theorem c_X3_wipe (l : Launch) (D : va_G) (cI cJ cZ cII cZZ : ClassId) (g0 : Nat) (g1 : Nat) (g2 : Nat) (g3 : Nat) (g4 : Nat) (gk : Nat → Nat) (gf : Nat → Nat) (go : Nat → Nat) (gv : Nat → Int64) (gl : Nat)   :
    zC l yX3_wipe cX3_wipe 1 none { frames := 0, cells := 0, slots := 0, locals := 0 } D (zT cI cJ cZ cII cZZ) [.ref g0] [(g0, .inr (3, [.ref g1, .ref g2, .ref g3, .ref g4, .int (nI gl)])), (g1, .inl (cI, 40, .inl (fun x9 => nI (gk x9)))), (g2, .inl (cI, 40, .inl (fun x9 => nI (gf x9)))), (g3, .inl (cI, 40, .inl (fun x9 => nI (go x9)))), (g4, .inl (cJ, 40, .inr (.inl gv)))] (S := Unit) (fun u => none) (fun u => True) (fun u => [(g0, .inr (3, [.ref g1, .ref g2, .ref g3, .ref g4, .int (nI 0)])), (g1, .inl (cI, 40, .inl (fun x9 => nI (gk x9)))), (g2, .inl (cI, 40, .inl (fun x9 => nI (gf x9)))), (g3, .inl (cI, 40, .inl (fun x9 => nI (go x9)))), (g4, .inl (cJ, 40, .inr (.inl gv)))]) := by
  refine zC_of (by decide) (Nat.le_of_ble_eq_true rfl) ?_
  intro prg env s mth below meth cde A ls hE hrt9 hlocks hnm hZ hl
  have hx := hE.1
  have hb := hE.2.1
  have hl : lv_has ls 1 [(0, .ref g0)] := hl
  refine lv_aload_n hx hb dX3_wipe_0 rfl (lv_at hl 0 rfl) ?_
  refine z_iconst hx hb (nI 0) dX3_wipe_1 (by decide) ?_
  refine z_put hE fF_X3_4 fP_X3 rfl hZ 0 rfl rfl rfl (Nat.le_of_ble_eq_true rfl) dX3_wipe_2 [(g0, .inr (3, [.ref g1, .ref g2, .ref g3, .ref g4, .int (nI 0)])), (g1, .inl (cI, 40, .inl (fun x9 => nI (gk x9)))), (g2, .inl (cI, 40, .inl (fun x9 => nI (gf x9)))), (g3, .inl (cI, 40, .inl (fun x9 => nI (go x9)))), (g4, .inl (cJ, 40, .inr (.inl gv)))] rfl (fun H locs hZ => ?_)
  exact z_vret hE hrt9 hlocks hZ () rfl trivial rfl dX3_wipe_5 (Nat.le_of_ble_eq_true rfl) (Nat.le_of_ble_eq_true rfl)
set_option maxHeartbeats 1000000 in
set_option maxRecDepth 100000 in
theorem c_X3_length (l : Launch) (D : va_G) (cI cJ cZ cII cZZ : ClassId) (g0 : Nat) (g1 : Nat) (g2 : Nat) (g3 : Nat) (g4 : Nat) (gk : Nat → Nat) (gf : Nat → Nat) (go : Nat → Nat) (gv : Nat → Int64) (gl : Nat)   :
    zC l yX3_length cX3_length 1 (some .int) { frames := 0, cells := 0, slots := 0, locals := 0 } D (zT cI cJ cZ cII cZZ) [.ref g0] [(g0, .inr (3, [.ref g1, .ref g2, .ref g3, .ref g4, .int (nI gl)])), (g1, .inl (cI, 40, .inl (fun x9 => nI (gk x9)))), (g2, .inl (cI, 40, .inl (fun x9 => nI (gf x9)))), (g3, .inl (cI, 40, .inl (fun x9 => nI (go x9)))), (g4, .inl (cJ, 40, .inr (.inl gv)))] (S := Unit) (fun u => some (.int (nI gl))) (fun u => True) (fun u => [(g0, .inr (3, [.ref g1, .ref g2, .ref g3, .ref g4, .int (nI gl)])), (g1, .inl (cI, 40, .inl (fun x9 => nI (gk x9)))), (g2, .inl (cI, 40, .inl (fun x9 => nI (gf x9)))), (g3, .inl (cI, 40, .inl (fun x9 => nI (go x9)))), (g4, .inl (cJ, 40, .inr (.inl gv)))]) := by
  refine zC_of (by decide) (Nat.le_of_ble_eq_true rfl) ?_
  intro prg env s mth below meth cde A ls hE hrt9 hlocks hnm hZ hl
  have hx := hE.1
  have hb := hE.2.1
  have hl : lv_has ls 1 [(0, .ref g0)] := hl
  refine lv_aload_n hx hb dX3_length_0 rfl (lv_at hl 0 rfl) ?_
  refine z_get hE fF_X3_4 hZ 0 rfl (.int (nI gl)) rfl dX3_length_1 ?_
  exact z_iret hE hrt9 hlocks hZ () rfl trivial rfl dX3_length_4 (Nat.le_of_ble_eq_true rfl) (Nat.le_of_ble_eq_true rfl)
set_option maxHeartbeats 1000000 in
set_option maxRecDepth 100000 in
theorem c_X3_isFull (l : Launch) (D : va_G) (cI cJ cZ cII cZZ : ClassId) (g0 : Nat) (g1 : Nat) (g2 : Nat) (g3 : Nat) (g4 : Nat) (gk : Nat → Nat) (gf : Nat → Nat) (go : Nat → Nat) (gv : Nat → Int64) (gl : Nat)  (hg : gl ≤ 40) :
    zC l yX3_isFull cX3_isFull 1 (some .boolean) { frames := 0, cells := 0, slots := 0, locals := 0 } D (zT cI cJ cZ cII cZZ) [.ref g0] [(g0, .inr (3, [.ref g1, .ref g2, .ref g3, .ref g4, .int (nI gl)])), (g1, .inl (cI, 40, .inl (fun x9 => nI (gk x9)))), (g2, .inl (cI, 40, .inl (fun x9 => nI (gf x9)))), (g3, .inl (cI, 40, .inl (fun x9 => nI (go x9)))), (g4, .inl (cJ, 40, .inr (.inl gv)))] (S := Unit) (fun u => some (.int (zB (decide (40 ≤ gl))))) (fun u => True) (fun u => [(g0, .inr (3, [.ref g1, .ref g2, .ref g3, .ref g4, .int (nI gl)])), (g1, .inl (cI, 40, .inl (fun x9 => nI (gk x9)))), (g2, .inl (cI, 40, .inl (fun x9 => nI (gf x9)))), (g3, .inl (cI, 40, .inl (fun x9 => nI (go x9)))), (g4, .inl (cJ, 40, .inr (.inl gv)))]) := by
  refine zC_of (by decide) (Nat.le_of_ble_eq_true rfl) ?_
  intro prg env s mth below meth cde A ls hE hrt9 hlocks hnm hZ hl
  have hx := hE.1
  have hb := hE.2.1
  have hl : lv_has ls 1 [(0, .ref g0)] := hl
  refine lv_aload_n hx hb dX3_isFull_0 rfl (lv_at hl 0 rfl) ?_
  refine z_get hE fF_X3_4 hZ 0 rfl (.int (nI gl)) rfl dX3_isFull_1 ?_
  refine z_bipush hx hb (nI 40) dX3_isFull_4 (by decide) ?_
  refine z_icmp_lt hx hb 13 dX3_isFull_6 (by decide) (C := gl < 40) (nIlt (by omega) (by omega)) (fun h6 => ?_) (fun h6 => ?_)
  · skip
    refine z_iconst hx hb (nI 0) dX3_isFull_13 (by decide) ?_
    refine z_top (show nI 0 = zB (decide (40 ≤ gl)) from by first | (rw [show decide (40 ≤ gl) = true by simp; omega]; rfl) | (rw [show decide (40 ≤ gl) = false by simp; omega]; rfl)) ?_
    exact z_zret (decide (40 ≤ gl)) rfl hE hrt9 hlocks hZ () rfl trivial rfl dX3_isFull_14 (Nat.le_of_ble_eq_true rfl) (Nat.le_of_ble_eq_true rfl)
  · skip
    refine z_iconst hx hb (nI 1) dX3_isFull_9 (by decide) ?_
    refine lv_goto (tgt := 14) hx hb dX3_isFull_10 (by decide) ?_
    refine z_top (show nI 1 = zB (decide (40 ≤ gl)) from by first | (rw [show decide (40 ≤ gl) = true by simp; omega]; rfl) | (rw [show decide (40 ≤ gl) = false by simp; omega]; rfl)) ?_
    exact z_zret (decide (40 ≤ gl)) rfl hE hrt9 hlocks hZ () rfl trivial rfl dX3_isFull_14 (Nat.le_of_ble_eq_true rfl) (Nat.le_of_ble_eq_true rfl)
set_option maxHeartbeats 1000000 in
set_option maxRecDepth 100000 in
theorem c_X3_enter (l : Launch) (D : va_G) (cI cJ cZ cII cZZ : ClassId) (g0 : Nat) (g1 : Nat) (g2 : Nat) (g3 : Nat) (g4 : Nat) (gk : Nat → Nat) (gf : Nat → Nat) (go : Nat → Nat) (gv : Nat → Int64) (gl : Nat) (k : Nat) (f : Nat) (o : Nat) (v : Int64) (hg : gl < 40) :
    zC l yX3_enter cX3_enter 6 none { frames := 1, cells := 0, slots := 0, locals := 20 } D (zT cI cJ cZ cII cZZ) [.ref g0, .int (nI k), .int (nI f), .int (nI o), .long v] [(g0, .inr (3, [.ref g1, .ref g2, .ref g3, .ref g4, .int (nI gl)])), (g1, .inl (cI, 40, .inl (fun x9 => nI (gk x9)))), (g2, .inl (cI, 40, .inl (fun x9 => nI (gf x9)))), (g3, .inl (cI, 40, .inl (fun x9 => nI (go x9)))), (g4, .inl (cJ, 40, .inr (.inl gv)))] (S := Unit) (fun u => none) (fun u => True) (fun u => [(g0, .inr (3, [.ref g1, .ref g2, .ref g3, .ref g4, .int (nI (gl + 1))])), (g1, .inl (cI, 40, .inl (fun x9 => nI ((va_up gk gl k) x9)))), (g2, .inl (cI, 40, .inl (fun x9 => nI ((va_up gf gl f) x9)))), (g3, .inl (cI, 40, .inl (fun x9 => nI ((va_up go gl o) x9)))), (g4, .inl (cJ, 40, .inr (.inl (va_up gv gl v))))]) := by
  refine zC_of (by decide) (Nat.le_of_ble_eq_true rfl) ?_
  intro prg env s mth below meth cde A ls hE hrt9 hlocks hnm hZ hl
  have hx := hE.1
  have hb := hE.2.1
  have hl : lv_has ls 6 [(0, .ref g0), (1, .int (nI k)), (2, .int (nI f)), (3, .int (nI o)), (4, .long v)] := hl
  refine lv_aload_n hx hb dX3_enter_0 rfl (lv_at hl 0 rfl) ?_
  refine z_kV (As := []) (rest := []) hE hZ (c_X3_isFull l D cI cJ cZ cII cZZ g0 g1 g2 g3 g4 gk gf go gv gl  (by omega)) lL_X3_isFull lC_X3_29 rfl [0, 1, 2, 3, 4] [] [0, 1, 2, 3, 4] [] (fun u => [(g0, .inr (3, [.ref g1, .ref g2, .ref g3, .ref g4, .int (nI gl)])), (g1, .inl (cI, 40, .inl (fun x9 => nI (gk x9)))), (g2, .inl (cI, 40, .inl (fun x9 => nI (gf x9)))), (g3, .inl (cI, 40, .inl (fun x9 => nI (go x9)))), (g4, .inl (cJ, 40, .inr (.inl gv)))]) 0 rfl rfl rfl (fun _ => rfl) (by decide) ⟨by decide, by decide⟩ 0 0 rfl rfl ⟨by decide, by decide⟩ rfl hl.1 rfl (Nat.le_of_ble_eq_true rfl) dX3_enter_1 (fun u H locs hq9 hZ => ?_)
  have hZ : zS D A s.heap H locs [(g0, .inr (3, [.ref g1, .ref g2, .ref g3, .ref g4, .int (nI gl)])), (g1, .inl (cI, 40, .inl (fun x9 => nI (gk x9)))), (g2, .inl (cI, 40, .inl (fun x9 => nI (gf x9)))), (g3, .inl (cI, 40, .inl (fun x9 => nI (go x9)))), (g4, .inl (cJ, 40, .inr (.inl gv)))] := hZ
  refine W.eq (g2 := F0 mth 4 ls [.int (zB (decide (40 ≤ gl)))]) rfl ?_
  refine z_if_eq hx hb 8 dX3_enter_4 (by decide) (C := (decide (40 ≤ gl)) = false) (zB_0 _) (fun h4 => ?_) (fun h4 => ?_)
  · skip
    refine lv_aload_n hx hb dX3_enter_8 rfl (lv_at hl 0 rfl) ?_
    refine z_get hE fF_X3_0 hZ 0 rfl (.ref g1) rfl dX3_enter_9 ?_
    refine lv_aload_n hx hb dX3_enter_12 rfl (lv_at hl 0 rfl) ?_
    refine z_get hE fF_X3_4 hZ 0 rfl (.int (nI gl)) rfl dX3_enter_13 ?_
    refine lv_iload_n hx hb dX3_enter_16 rfl (lv_at hl 1 rfl) ?_
    refine z_iast nI gk k hE hZ 1 0 rfl rfl (by decide) (by omega) dX3_enter_17 [(g0, .inr (3, [.ref g1, .ref g2, .ref g3, .ref g4, .int (nI gl)])), (g1, .inl (cI, 40, .inl (fun x9 => nI ((va_up gk gl k) x9)))), (g2, .inl (cI, 40, .inl (fun x9 => nI (gf x9)))), (g3, .inl (cI, 40, .inl (fun x9 => nI (go x9)))), (g4, .inl (cJ, 40, .inr (.inl gv)))] rfl (fun H locs hZ => ?_)
    refine lv_aload_n hx hb dX3_enter_18 rfl (lv_at hl 0 rfl) ?_
    refine z_get hE fF_X3_1 hZ 0 rfl (.ref g2) rfl dX3_enter_19 ?_
    refine lv_aload_n hx hb dX3_enter_22 rfl (lv_at hl 0 rfl) ?_
    refine z_get hE fF_X3_4 hZ 0 rfl (.int (nI gl)) rfl dX3_enter_23 ?_
    refine lv_iload_n hx hb dX3_enter_26 rfl (lv_at hl 2 rfl) ?_
    refine z_iast nI gf f hE hZ 2 0 rfl rfl (by decide) (by omega) dX3_enter_27 [(g0, .inr (3, [.ref g1, .ref g2, .ref g3, .ref g4, .int (nI gl)])), (g1, .inl (cI, 40, .inl (fun x9 => nI ((va_up gk gl k) x9)))), (g2, .inl (cI, 40, .inl (fun x9 => nI ((va_up gf gl f) x9)))), (g3, .inl (cI, 40, .inl (fun x9 => nI (go x9)))), (g4, .inl (cJ, 40, .inr (.inl gv)))] rfl (fun H locs hZ => ?_)
    refine lv_aload_n hx hb dX3_enter_28 rfl (lv_at hl 0 rfl) ?_
    refine z_get hE fF_X3_2 hZ 0 rfl (.ref g3) rfl dX3_enter_29 ?_
    refine lv_aload_n hx hb dX3_enter_32 rfl (lv_at hl 0 rfl) ?_
    refine z_get hE fF_X3_4 hZ 0 rfl (.int (nI gl)) rfl dX3_enter_33 ?_
    refine lv_iload_n hx hb dX3_enter_36 rfl (lv_at hl 3 rfl) ?_
    refine z_iast nI go o hE hZ 3 0 rfl rfl (by decide) (by omega) dX3_enter_37 [(g0, .inr (3, [.ref g1, .ref g2, .ref g3, .ref g4, .int (nI gl)])), (g1, .inl (cI, 40, .inl (fun x9 => nI ((va_up gk gl k) x9)))), (g2, .inl (cI, 40, .inl (fun x9 => nI ((va_up gf gl f) x9)))), (g3, .inl (cI, 40, .inl (fun x9 => nI ((va_up go gl o) x9)))), (g4, .inl (cJ, 40, .inr (.inl gv)))] rfl (fun H locs hZ => ?_)
    refine lv_aload_n hx hb dX3_enter_38 rfl (lv_at hl 0 rfl) ?_
    refine z_get hE fF_X3_3 hZ 0 rfl (.ref g4) rfl dX3_enter_39 ?_
    refine lv_aload_n hx hb dX3_enter_42 rfl (lv_at hl 0 rfl) ?_
    refine z_get hE fF_X3_4 hZ 0 rfl (.int (nI gl)) rfl dX3_enter_43 ?_
    refine lv_lload hx hb dX3_enter_46 (lv_at hl 4 rfl) ?_
    refine z_last gv v hE hZ 4 1 rfl rfl (by decide) (by omega) dX3_enter_48 [(g0, .inr (3, [.ref g1, .ref g2, .ref g3, .ref g4, .int (nI gl)])), (g1, .inl (cI, 40, .inl (fun x9 => nI ((va_up gk gl k) x9)))), (g2, .inl (cI, 40, .inl (fun x9 => nI ((va_up gf gl f) x9)))), (g3, .inl (cI, 40, .inl (fun x9 => nI ((va_up go gl o) x9)))), (g4, .inl (cJ, 40, .inr (.inl (va_up gv gl v))))] rfl (fun H locs hZ => ?_)
    refine lv_aload_n hx hb dX3_enter_49 rfl (lv_at hl 0 rfl) ?_
    refine lv_dup hx hb dX3_enter_50 rfl ?_
    refine z_get hE fF_X3_4 hZ 0 rfl (.int (nI gl)) rfl dX3_enter_51 ?_
    refine z_iconst hx hb (nI 1) dX3_enter_54 (by decide) ?_
    refine z_iadd hx hb dX3_enter_55 (z := nI (gl + 1)) (nI_add _ _) ?_
    refine z_put hE fF_X3_4 fP_X3 rfl hZ 0 rfl rfl rfl (Nat.le_of_ble_eq_true rfl) dX3_enter_56 [(g0, .inr (3, [.ref g1, .ref g2, .ref g3, .ref g4, .int (nI (gl + 1))])), (g1, .inl (cI, 40, .inl (fun x9 => nI ((va_up gk gl k) x9)))), (g2, .inl (cI, 40, .inl (fun x9 => nI ((va_up gf gl f) x9)))), (g3, .inl (cI, 40, .inl (fun x9 => nI ((va_up go gl o) x9)))), (g4, .inl (cJ, 40, .inr (.inl (va_up gv gl v))))] rfl (fun H locs hZ => ?_)
    exact z_vret hE hrt9 hlocks hZ () rfl trivial rfl dX3_enter_59 (Nat.le_of_ble_eq_true rfl) (Nat.le_of_ble_eq_true rfl)
  · skip
    exfalso
    simp at h4; omega
