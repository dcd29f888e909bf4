set_option maxHeartbeats 1000000 in
set_option maxRecDepth 100000 in
theorem c_J7_fill_53178 (l : Launch) (D : va_G) (cI cJ cZ cII cZZ : ClassId) (a0 : Nat) (aN : Nat) (af : Nat → Int32) (v : Int32) (hN : aN < 2 ^ 31) :
    zC l yJ7_fill_53178 cJ7_fill_53178 4 none { frames := 0, cells := 0, slots := 0, locals := 0 } D (zT cI cJ cZ cII cZZ) [.ref a0, .int (v)] [(a0, .inl (cI, aN, .inl af))] (S := Unit) (fun u => none) (fun u => True) (fun u => [(a0, .inl (cI, aN, .inl (fun _ => v)))]) := by
  refine zC_of (by decide) (Nat.le_of_ble_eq_true rfl) ?_
  intro prg env s mth below meth cde A ls hE hrt9 hlocks hnm hZ hl
  have hx := hE.1
  have hb := hE.2.1
  have hl : lv_has ls 4 [(0, .ref a0), (1, .int (v))] := hl
  refine z_iconst hx hb (nI 0) dJ7_fill_53178_0 (by decide) ?_
  refine lv_istore_n (lv' := [(2, .int (nI 0)), (0, .ref a0), (1, .int (v))]) hx hb dJ7_fill_53178_1 rfl hl (by decide) rfl (fun ls hl => ?_)
  refine lv_aload_n hx hb dJ7_fill_53178_2 rfl (lv_at hl 1 rfl) ?_
  refine z_alen hE hZ 0 0 rfl rfl aN rfl dJ7_fill_53178_3 ?_
  refine lv_istore_n (lv' := [(3, .int (nI aN)), (2, .int (nI 0)), (0, .ref a0), (1, .int (v))]) hx hb dJ7_fill_53178_4 rfl hl (by decide) rfl (fun ls hl => ?_)
  refine z_loop (σ := Nat × (Nat → Int32)) (fun (i, f1) H locs ls => (i ≤ aN) ∧ (∀ k, k < i → f1 k = v) ∧ zS D A s.heap H locs [(a0, .inl (cI, aN, .inl f1))] ∧ lv_has ls 4 [(0, .ref a0), (1, .int (v)), (2, .int (nI i)), (3, .int (nI aN))]) (fun (i, f1) => aN - i) [] (0, af) ⟨by omega, fun k h => absurd h (Nat.not_lt_zero k), hZ, lv_sub hl [2, 3, 1, 0] (by first | rfl | (simp only [lv_pick]; rfl))⟩ ?_
  intro x H locs ls hI ih5
  obtain ⟨i, f1⟩ := x
  obtain ⟨hi, hf, hZ, hl⟩ := hI
  refine lv_iload_n hx hb dJ7_fill_53178_5 rfl (lv_at hl 2 rfl) ?_
  refine lv_iload_n hx hb dJ7_fill_53178_6 rfl (lv_at hl 3 rfl) ?_
  refine z_icmp_ge hx hb 20 dJ7_fill_53178_7 (by decide) (C := aN ≤ i) (nIle (by omega) (by omega)) (fun h7 => ?_) (fun h7 => ?_)
  · skip
    have hZ := z_ext 0 hZ rfl (fun k h => hf k (by omega)) [(a0, .inl (cI, aN, .inl (fun _ => v)))] rfl
    exact z_vret hE hrt9 hlocks hZ () rfl trivial rfl dJ7_fill_53178_20 (Nat.le_of_ble_eq_true rfl) (Nat.le_of_ble_eq_true rfl)
  · skip
    refine lv_aload_n hx hb dJ7_fill_53178_10 rfl (lv_at hl 0 rfl) ?_
    refine lv_iload_n hx hb dJ7_fill_53178_11 rfl (lv_at hl 2 rfl) ?_
    refine lv_iload_n hx hb dJ7_fill_53178_12 rfl (lv_at hl 1 rfl) ?_
    refine z_iast0 f1 v hE hZ 0 0 rfl rfl (by omega) (by omega) dJ7_fill_53178_13 [(a0, .inl (cI, aN, .inl (va_up f1 i v)))] rfl (fun H locs hZ => ?_)
    refine lv_iinc (v := nI (i + 1)) (lv' := [(2, .int (nI (i + 1))), (0, .ref a0), (1, .int (v)), (3, .int (nI aN))]) hx hb dJ7_fill_53178_14 hl (k := 2) rfl (nI_add _ _) (by decide) rfl (fun ls hl => ?_)
    refine lv_goto (tgt := 5) hx hb dJ7_fill_53178_17 (by decide) ?_
    exact ih5 (i + 1, va_up f1 i v) _ _ _ ⟨by omega, fun k h => by unfold va_up; by_cases q : k = i <;> simp [q]; exact hf k (by omega), hZ, lv_sub hl [1, 2, 0, 3] (by first | rfl | (simp only [lv_pick]; rfl))⟩ (by (try dsimp only); omega)
set_option maxHeartbeats 1000000 in
set_option maxRecDepth 100000 in
theorem c_J7_fill_d0a16 (l : Launch) (D : va_G) (cI cJ cZ cII cZZ : ClassId) (a0 : Nat) (aN : Nat) (al : Nat → Int64) (v : Int64) (hN : aN < 2 ^ 31) :
    zC l yJ7_fill_d0a16 cJ7_fill_d0a16 5 none { frames := 0, cells := 0, slots := 0, locals := 0 } D (zT cI cJ cZ cII cZZ) [.ref a0, .long v] [(a0, .inl (cJ, aN, .inr (.inl al)))] (S := Unit) (fun u => none) (fun u => True) (fun u => [(a0, .inl (cJ, aN, .inr (.inl (fun _ => v))))]) := by
  refine zC_of (by decide) (Nat.le_of_ble_eq_true rfl) ?_
  intro prg env s mth below meth cde A ls hE hrt9 hlocks hnm hZ hl
  have hx := hE.1
  have hb := hE.2.1
  have hl : lv_has ls 5 [(0, .ref a0), (1, .long v)] := hl
  refine z_iconst hx hb (nI 0) dJ7_fill_d0a16_0 (by decide) ?_
  refine lv_istore_n (lv' := [(3, .int (nI 0)), (0, .ref a0), (1, .long v)]) hx hb dJ7_fill_d0a16_1 rfl hl (by decide) rfl (fun ls hl => ?_)
  refine lv_aload_n hx hb dJ7_fill_d0a16_2 rfl (lv_at hl 1 rfl) ?_
  refine z_alen hE hZ 0 1 rfl rfl aN rfl dJ7_fill_d0a16_3 ?_
  refine lv_istore (lv' := [(4, .int (nI aN)), (3, .int (nI 0)), (0, .ref a0), (1, .long v)]) hx hb dJ7_fill_d0a16_4 hl (by decide) rfl (fun ls hl => ?_)
  refine z_loop (σ := Nat × (Nat → Int64)) (fun (i, f1) H locs ls => (i ≤ aN) ∧ (∀ k, k < i → f1 k = v) ∧ zS D A s.heap H locs [(a0, .inl (cJ, aN, .inr (.inl f1)))] ∧ lv_has ls 5 [(0, .ref a0), (1, .long v), (3, .int (nI i)), (4, .int (nI aN))]) (fun (i, f1) => aN - i) [] (0, al) ⟨by omega, fun k h => absurd h (Nat.not_lt_zero k), hZ, lv_sub hl [2, 3, 1, 0] (by first | rfl | (simp only [lv_pick]; rfl))⟩ ?_
  intro x H locs ls hI ih6
  obtain ⟨i, f1⟩ := x
  obtain ⟨hi, hf, hZ, hl⟩ := hI
  refine lv_iload_n hx hb dJ7_fill_d0a16_6 rfl (lv_at hl 2 rfl) ?_
  refine lv_iload hx hb dJ7_fill_d0a16_7 (lv_at hl 3 rfl) ?_
  refine z_icmp_ge hx hb 22 dJ7_fill_d0a16_9 (by decide) (C := aN ≤ i) (nIle (by omega) (by omega)) (fun h9 => ?_) (fun h9 => ?_)
  · skip
    have hZ := z_extl 0 hZ rfl (fun k h => hf k (by omega)) [(a0, .inl (cJ, aN, .inr (.inl (fun _ => v))))] rfl
    exact z_vret hE hrt9 hlocks hZ () rfl trivial rfl dJ7_fill_d0a16_22 (Nat.le_of_ble_eq_true rfl) (Nat.le_of_ble_eq_true rfl)
  · skip
    refine lv_aload_n hx hb dJ7_fill_d0a16_12 rfl (lv_at hl 0 rfl) ?_
    refine lv_iload_n hx hb dJ7_fill_d0a16_13 rfl (lv_at hl 2 rfl) ?_
    refine lv_lload_n hx hb dJ7_fill_d0a16_14 rfl (lv_at hl 1 rfl) ?_
    refine z_last f1 v hE hZ 0 1 rfl rfl (by omega) (by omega) dJ7_fill_d0a16_15 [(a0, .inl (cJ, aN, .inr (.inl (va_up f1 i v))))] rfl (fun H locs hZ => ?_)
    refine lv_iinc (v := nI (i + 1)) (lv' := [(3, .int (nI (i + 1))), (0, .ref a0), (1, .long v), (4, .int (nI aN))]) hx hb dJ7_fill_d0a16_16 hl (k := 2) rfl (nI_add _ _) (by decide) rfl (fun ls hl => ?_)
    refine lv_goto (tgt := 6) hx hb dJ7_fill_d0a16_19 (by decide) ?_
    exact ih6 (i + 1, va_up f1 i v) _ _ _ ⟨by omega, fun k h => by unfold va_up; by_cases q : k = i <;> simp [q]; exact hf k (by omega), hZ, lv_sub hl [1, 2, 0, 3] (by first | rfl | (simp only [lv_pick]; rfl))⟩ (by (try dsimp only); omega)
set_option maxHeartbeats 1000000 in
set_option maxRecDepth 100000 in
theorem c_X6_isFile (l : Launch) (D : va_G) (cI cJ cZ cII cZZ : ClassId)  (f : Int) (f_q : Int32) (hf : -2147483648 ≤ f ∧ f < 2147483648) (f_h : f_q = zI f) :
    zC l yX6_isFile cX6_isFile 1 (some .boolean) { frames := 0, cells := 0, slots := 0, locals := 0 } D (zT cI cJ cZ cII cZZ) [.int (f_q)] [] (S := Unit) (fun u => some (.int (zB (decide (0 ≤ f) && decide (f < 32))))) (fun u => True) (fun u => []) := by
  refine zC_of (by decide) (Nat.le_of_ble_eq_true rfl) ?_
  intro prg env s mth below meth cde A ls hE hrt9 hlocks hnm hZ hl
  have hx := hE.1
  have hb := hE.2.1
  subst f_h
  have hl : lv_has ls 1 [(0, .int (zI f))] := hl
  refine lv_iload_n hx hb dX6_isFile_0 rfl (lv_at hl 0 rfl) ?_
  refine z_if_lt hx hb 14 dX6_isFile_1 (by decide) (C := f < 0) (zI_lt0 ⟨by omega, by omega⟩) (fun h1 => ?_) (fun h1 => ?_)
  · skip
    refine z_iconst hx hb (nI 0) dX6_isFile_14 (by decide) ?_
    refine z_top (show nI 0 = zB (decide (0 ≤ f) && decide (f < 32)) from by first | (rw [show (decide (0 ≤ f) && decide (f < 32)) = true by simp; omega]; rfl) | (rw [show (decide (0 ≤ f) && decide (f < 32)) = false by simp; omega]; rfl)) ?_
    exact z_zret (decide (0 ≤ f) && decide (f < 32)) rfl hE hrt9 hlocks hZ () rfl trivial rfl dX6_isFile_15 (Nat.le_of_ble_eq_true rfl) (Nat.le_of_ble_eq_true rfl)
  · skip
    refine lv_iload_n hx hb dX6_isFile_4 rfl (lv_at hl 0 rfl) ?_
    refine z_bipush hx hb (nI 32) dX6_isFile_5 (by decide) ?_
    refine z_icmp_ge hx hb 14 dX6_isFile_7 (by decide) (C := (32 : Int) ≤ f) (by (try simp only [zI_n]); exact zI_le ⟨by omega, by omega⟩ ⟨by omega, by omega⟩) (fun h7 => ?_) (fun h7 => ?_)
    · skip
      refine z_iconst hx hb (nI 0) dX6_isFile_14 (by decide) ?_
      refine z_top (show nI 0 = zB (decide (0 ≤ f) && decide (f < 32)) from by first | (rw [show (decide (0 ≤ f) && decide (f < 32)) = true by simp; omega]; rfl) | (rw [show (decide (0 ≤ f) && decide (f < 32)) = false by simp; omega]; rfl)) ?_
      exact z_zret (decide (0 ≤ f) && decide (f < 32)) rfl hE hrt9 hlocks hZ () rfl trivial rfl dX6_isFile_15 (Nat.le_of_ble_eq_true rfl) (Nat.le_of_ble_eq_true rfl)
    · skip
      refine z_iconst hx hb (nI 1) dX6_isFile_10 (by decide) ?_
      refine lv_goto (tgt := 15) hx hb dX6_isFile_11 (by decide) ?_
      refine z_top (show nI 1 = zB (decide (0 ≤ f) && decide (f < 32)) from by first | (rw [show (decide (0 ≤ f) && decide (f < 32)) = true by simp; omega]; rfl) | (rw [show (decide (0 ≤ f) && decide (f < 32)) = false by simp; omega]; rfl)) ?_
      exact z_zret (decide (0 ≤ f) && decide (f < 32)) rfl hE hrt9 hlocks hZ () rfl trivial rfl dX6_isFile_15 (Nat.le_of_ble_eq_true rfl) (Nat.le_of_ble_eq_true rfl)
set_option maxHeartbeats 1000000 in
set_option maxRecDepth 100000 in
theorem c_X6_piecesOf (l : Launch) (D : va_G) (cI cJ cZ cII cZZ : ClassId)  (n : Int) (n_q : Int32) (hn : -1 ≤ n ∧ n < 2000000000) (n_h : n_q = zI n) :
    zC l yX6_piecesOf cX6_piecesOf 1 (some .int) { frames := 0, cells := 0, slots := 0, locals := 0 } D (zT cI cJ cZ cII cZZ) [.int (n_q)] [] (S := Unit) (fun u => some (.int (nI ((n + 31).toNat / 32)))) (fun u => True) (fun u => []) := by
  refine zC_of (by decide) (Nat.le_of_ble_eq_true rfl) ?_
  intro prg env s mth below meth cde A ls hE hrt9 hlocks hnm hZ hl
  have hx := hE.1
  have hb := hE.2.1
  subst n_h
  have hl : lv_has ls 1 [(0, .int (zI n))] := hl
  refine lv_iload_n hx hb dX6_piecesOf_0 rfl (lv_at hl 0 rfl) ?_
  refine z_bipush hx hb (nI 32) dX6_piecesOf_1 (by decide) ?_
  refine z_iadd hx hb dX6_piecesOf_3 (z := zI (n + 32)) (by (try simp only [zI_n]); exact zI_add _ _) ?_
  refine z_iconst hx hb (nI 1) dX6_piecesOf_4 (by decide) ?_
  refine z_isub hx hb dX6_piecesOf_5 (z := zI ((n + 32) - 1)) (by (try simp only [zI_n]); exact zI_sub _ _) ?_
  refine z_top (show zI ((n + 32) - 1) = nI ((n + 31).toNat) from by rw [zI_n]; congr 1; omega) ?_
  refine z_bipush hx hb (nI 32) dX6_piecesOf_6 (by decide) ?_
  refine z_idiv hx hb dX6_piecesOf_8 (by omega) (by omega) (by omega) ?_
  refine z_top (show nI (((n + 31).toNat) / 32) = nI ((n + 31).toNat / 32) from by first | rfl | (congr 1; omega) | simp_all) ?_
  exact z_iret hE hrt9 hlocks hZ () rfl trivial rfl dX6_piecesOf_9 (Nat.le_of_ble_eq_true rfl) (Nat.le_of_ble_eq_true rfl)
set_option maxHeartbeats 1000000 in
set_option maxRecDepth 100000 in
theorem c_X6_shiftOfNumber (l : Launch) (D : va_G) (cI cJ cZ cII cZZ : ClassId)  (i : Nat) (hi : i < 2 ^ 31) :
    zC l yX6_shiftOfNumber cX6_shiftOfNumber 1 (some .int) { frames := 0, cells := 0, slots := 0, locals := 0 } D (zT cI cJ cZ cII cZZ) [.int (nI i)] [] (S := Unit) (fun u => some (.int (nI (48 - 16 * (i % 4))))) (fun u => True) (fun u => []) := by
  refine zC_of (by decide) (Nat.le_of_ble_eq_true rfl) ?_
  intro prg env s mth below meth cde A ls hE hrt9 hlocks hnm hZ hl
  have hx := hE.1
  have hb := hE.2.1
  have hl : lv_has ls 1 [(0, .int (nI i))] := hl
  refine z_bipush hx hb (nI 48) dX6_shiftOfNumber_0 (by decide) ?_
  refine z_bipush hx hb (nI 16) dX6_shiftOfNumber_2 (by decide) ?_
  refine lv_iload_n hx hb dX6_shiftOfNumber_4 rfl (lv_at hl 0 rfl) ?_
  refine z_iconst hx hb (nI 4) dX6_shiftOfNumber_5 (by decide) ?_
  refine z_irem hx hb dX6_shiftOfNumber_6 (by omega) (by omega) (by omega) ?_
  refine z_imul hx hb dX6_shiftOfNumber_7 (z := nI (16 * (i % 4))) (pk_mul _ _) ?_
  refine z_isub hx hb dX6_shiftOfNumber_8 (z := nI (48 - (16 * (i % 4)))) (pk_sub (by omega)) ?_
  refine z_top (show nI (48 - (16 * (i % 4))) = nI (48 - 16 * (i % 4)) from by first | rfl | (congr 1; omega) | simp_all) ?_
  exact z_iret hE hrt9 hlocks hZ () rfl trivial rfl dX6_shiftOfNumber_9 (Nat.le_of_ble_eq_true rfl) (Nat.le_of_ble_eq_true rfl)
