set_option maxHeartbeats 1000000 in
set_option maxRecDepth 100000 in
theorem c_X5_freePlaces (l : Launch) (D : va_G) (cI cJ cZ cII cZZ : ClassId) (p0 : Nat) (p1 : Nat) (pu : Nat → Bool) (pf : Int) (pl : Nat)   :
    zC l yX5_freePlaces cX5_freePlaces 1 (some .int) { frames := 0, cells := 0, slots := 0, locals := 0 } D (zT cI cJ cZ cII cZZ) [.ref p0] [(p0, .inr (5, [.ref p1, .int (zI pf), .int (nI pl)])), (p1, .inl (cI, 600, .inl (fun x9 => zB (pu x9))))] (S := Unit) (fun u => some (.int (zI pf))) (fun u => True) (fun u => [(p0, .inr (5, [.ref p1, .int (zI pf), .int (nI pl)])), (p1, .inl (cI, 600, .inl (fun x9 => zB (pu x9))))]) := by
  refine zC_of (by decide) (Nat.le_of_ble_eq_true rfl) ?_
  intro prg env s mth below meth cde A ls hE hrt9 hlocks hnm hZ hl
  have hx := hE.1
  have hb := hE.2.1
  have hl : lv_has ls 1 [(0, .ref p0)] := hl
  refine lv_aload_n hx hb dX5_freePlaces_0 rfl (lv_at hl 0 rfl) ?_
  refine z_get hE fF_X5_1 hZ 0 rfl (.int (zI pf)) rfl dX5_freePlaces_1 ?_
  exact z_iret hE hrt9 hlocks hZ () rfl trivial rfl dX5_freePlaces_4 (Nat.le_of_ble_eq_true rfl) (Nat.le_of_ble_eq_true rfl)
set_option maxHeartbeats 1000000 in
set_option maxRecDepth 100000 in
theorem c_X5_startTaking (l : Launch) (D : va_G) (cI cJ cZ cII cZZ : ClassId) (p0 : Nat) (p1 : Nat) (pu : Nat → Bool) (pf : Int) (pl : Nat)   :
    zC l yX5_startTaking cX5_startTaking 1 none { frames := 0, cells := 0, slots := 0, locals := 0 } D (zT cI cJ cZ cII cZZ) [.ref p0] [(p0, .inr (5, [.ref p1, .int (zI pf), .int (nI pl)])), (p1, .inl (cI, 600, .inl (fun x9 => zB (pu x9))))] (S := Unit) (fun u => none) (fun u => True) (fun u => [(p0, .inr (5, [.ref p1, .int (zI pf), .int (nI 0)])), (p1, .inl (cI, 600, .inl (fun x9 => zB (pu x9))))]) := by
  refine zC_of (by decide) (Nat.le_of_ble_eq_true rfl) ?_
  intro prg env s mth below meth cde A ls hE hrt9 hlocks hnm hZ hl
  have hx := hE.1
  have hb := hE.2.1
  have hl : lv_has ls 1 [(0, .ref p0)] := hl
  refine lv_aload_n hx hb dX5_startTaking_0 rfl (lv_at hl 0 rfl) ?_
  refine z_iconst hx hb (nI 0) dX5_startTaking_1 (by decide) ?_
  refine z_put hE fF_X5_2 fP_X5 rfl hZ 0 rfl rfl rfl (Nat.le_of_ble_eq_true rfl) dX5_startTaking_2 [(p0, .inr (5, [.ref p1, .int (zI pf), .int (nI 0)])), (p1, .inl (cI, 600, .inl (fun x9 => zB (pu x9))))] rfl (fun H locs hZ => ?_)
  exact z_vret hE hrt9 hlocks hZ () rfl trivial rfl dX5_startTaking_5 (Nat.le_of_ble_eq_true rfl) (Nat.le_of_ble_eq_true rfl)
set_option maxHeartbeats 1000000 in
set_option maxRecDepth 100000 in
theorem c_X5_takeFresh (l : Launch) (D : va_G) (cI cJ cZ cII cZZ : ClassId) (p0 : Nat) (p1 : Nat) (pu : Nat → Bool) (pf : Int) (pl : Nat) (q : Nat) (h1 : pl < q ∧ q < 600) (h2 : pu q = false) (h3 : ∀ j, pl < j → j < q → pu j = true) :
    zC l yX5_takeFresh cX5_takeFresh 2 (some .int) { frames := 0, cells := 0, slots := 0, locals := 0 } D (zT cI cJ cZ cII cZZ) [.ref p0] [(p0, .inr (5, [.ref p1, .int (zI pf), .int (nI pl)])), (p1, .inl (cI, 600, .inl (fun x9 => zB (pu x9))))] (S := Unit) (fun u => some (.int (nI q))) (fun u => True) (fun u => [(p0, .inr (5, [.ref p1, .int (zI pf), .int (nI q)])), (p1, .inl (cI, 600, .inl (fun x9 => zB (pu x9))))]) := by
  refine zC_of (by decide) (Nat.le_of_ble_eq_true rfl) ?_
  intro prg env s mth below meth cde A ls hE hrt9 hlocks hnm hZ hl
  have hx := hE.1
  have hb := hE.2.1
  have hl : lv_has ls 2 [(0, .ref p0)] := hl
  refine lv_aload_n hx hb dX5_takeFresh_0 rfl (lv_at hl 0 rfl) ?_
  refine z_get hE fF_X5_2 hZ 0 rfl (.int (nI pl)) rfl dX5_takeFresh_1 ?_
  refine z_iconst hx hb (nI 1) dX5_takeFresh_4 (by decide) ?_
  refine z_iadd hx hb dX5_takeFresh_5 (z := nI (pl + 1)) (nI_add _ _) ?_
  refine lv_istore_n (lv' := [(1, .int (nI (pl + 1))), (0, .ref p0)]) hx hb dX5_takeFresh_6 rfl hl (by decide) rfl (fun ls hl => ?_)
  refine z_loop (σ := Nat) (fun i H locs ls => (pl < i ∧ i ≤ q) ∧ zS D A s.heap H locs [(p0, .inr (5, [.ref p1, .int (zI pf), .int (nI pl)])), (p1, .inl (cI, 600, .inl (fun x9 => zB (pu x9))))] ∧ lv_has ls 2 [(0, .ref p0), (1, .int (nI i))]) (fun i => q - i) [] (pl + 1) ⟨by omega, hZ, lv_sub hl [1, 0] (by first | rfl | (simp only [lv_pick]; rfl))⟩ ?_
  intro x H locs ls hI ih7
  obtain ⟨i, hx9⟩ : ∃ z, z = x := ⟨x, rfl⟩
  subst hx9
  obtain ⟨hi, hZ, hl⟩ := hI
  refine lv_iload_n hx hb dX5_takeFresh_7 rfl (lv_at hl 1 rfl) ?_
  refine z_sipush hx hb (nI 600) dX5_takeFresh_8 (by decide) ?_
  refine z_icmp_ge hx hb 36 dX5_takeFresh_11 (by decide) (C := 600 ≤ i) (nIle (by omega) (by omega)) (fun h11 => ?_) (fun h11 => ?_)
  · skip
    exfalso
    omega
  · skip
    refine lv_aload_n hx hb dX5_takeFresh_14 rfl (lv_at hl 0 rfl) ?_
    refine z_get hE fF_X5_0 hZ 0 rfl (.ref p1) rfl dX5_takeFresh_15 ?_
    refine lv_iload_n hx hb dX5_takeFresh_18 rfl (lv_at hl 1 rfl) ?_
    refine z_iald hE hZ 1 0 rfl rfl (by decide) (by omega) dX5_takeFresh_19 ?_
    refine z_if_ne hx hb 30 dX5_takeFresh_20 (by decide) (C := (pu i) = false) (zB_0 _) (fun h20 => ?_) (fun h20 => ?_)
    · skip
      refine lv_iinc (v := nI (i + 1)) (lv' := [(1, .int (nI (i + 1))), (0, .ref p0)]) hx hb dX5_takeFresh_30 hl (k := 1) rfl (nI_add _ _) (by decide) rfl (fun ls hl => ?_)
      refine lv_goto (tgt := 7) hx hb dX5_takeFresh_33 (by decide) ?_
      have hne : i ≠ q := fun z => by rw [z] at h20; exact h20 h2
      exact ih7 (i + 1) _ _ _ ⟨by omega, hZ, lv_sub hl [1, 0] (by first | rfl | (simp only [lv_pick]; rfl))⟩ (by (try dsimp only); omega)
    · skip
      have e20 : i = q := fresh_eq hi h3 h20
      refine lv_aload_n hx hb dX5_takeFresh_23 rfl (lv_at hl 0 rfl) ?_
      refine lv_iload_n hx hb dX5_takeFresh_24 rfl (lv_at hl 1 rfl) ?_
      refine z_put hE fF_X5_2 fP_X5 rfl hZ 0 rfl rfl rfl (Nat.le_of_ble_eq_true rfl) dX5_takeFresh_25 [(p0, .inr (5, [.ref p1, .int (zI pf), .int (nI i)])), (p1, .inl (cI, 600, .inl (fun x9 => zB (pu x9))))] rfl (fun H locs hZ => ?_)
      refine lv_iload_n hx hb dX5_takeFresh_28 rfl (lv_at hl 1 rfl) ?_
      rw [e20] at hZ
      refine z_top (show nI i = nI q from by rw [e20]) ?_
      exact z_iret hE hrt9 hlocks hZ () rfl trivial rfl dX5_takeFresh_29 (Nat.le_of_ble_eq_true rfl) (Nat.le_of_ble_eq_true rfl)
set_option maxHeartbeats 1000000 in
set_option maxRecDepth 100000 in
theorem c_X5_use (l : Launch) (D : va_G) (cI cJ cZ cII cZZ : ClassId) (p0 : Nat) (p1 : Nat) (pu : Nat → Bool) (pf : Int) (pl : Nat) (x : Nat) (hx2 : x < 600) (hpf : pf = (fc pu 600 : Int)) :
    zC l yX5_use cX5_use 2 (some .boolean) { frames := 0, cells := 0, slots := 0, locals := 0 } D (zT cI cJ cZ cII cZZ) [.ref p0, .int (nI x)] [(p0, .inr (5, [.ref p1, .int (zI pf), .int (nI pl)])), (p1, .inl (cI, 600, .inl (fun x9 => zB (pu x9))))] (S := (Nat → Bool) × Int) (fun u => some (.int (zB (!pu x)))) (fun u => (u.1 = va_up pu x true) ∧ (u.2 = (fc u.1 600 : Int))) (fun u => [(p0, .inr (5, [.ref p1, .int (zI u.2), .int (nI pl)])), (p1, .inl (cI, 600, .inl (fun x9 => zB (u.1 x9))))]) := by
  refine zC_of (by decide) (Nat.le_of_ble_eq_true rfl) ?_
  intro prg env s mth below meth cde A ls hE hrt9 hlocks hnm hZ hl
  have hx := hE.1
  have hb := hE.2.1
  have hl : lv_has ls 2 [(0, .ref p0), (1, .int (nI x))] := hl
  refine lv_iload_n hx hb dX5_use_0 rfl (lv_at hl 1 rfl) ?_
  refine z_if_lt hx hb 20 dX5_use_1 (by decide) (C := False) (nI_lt0 (by omega)) (fun h1 => ?_) (fun h1 => ?_)
  · skip
    exact h1.elim
  · skip
    refine lv_iload_n hx hb dX5_use_4 rfl (lv_at hl 1 rfl) ?_
    refine z_sipush hx hb (nI 600) dX5_use_5 (by decide) ?_
    refine z_icmp_ge hx hb 20 dX5_use_8 (by decide) (C := 600 ≤ x) (nIle (by omega) (by omega)) (fun h8 => ?_) (fun h8 => ?_)
    · skip
      exfalso
      omega
    · skip
      refine lv_aload_n hx hb dX5_use_11 rfl (lv_at hl 0 rfl) ?_
      refine z_get hE fF_X5_0 hZ 0 rfl (.ref p1) rfl dX5_use_12 ?_
      refine lv_iload_n hx hb dX5_use_15 rfl (lv_at hl 1 rfl) ?_
      refine z_iald hE hZ 1 0 rfl rfl (by decide) (by omega) dX5_use_16 ?_
      refine z_if_eq hx hb 22 dX5_use_17 (by decide) (C := (pu x) = false) (zB_0 _) (fun h17 => ?_) (fun h17 => ?_)
      · skip
        refine lv_aload_n hx hb dX5_use_22 rfl (lv_at hl 0 rfl) ?_
        refine z_get hE fF_X5_0 hZ 0 rfl (.ref p1) rfl dX5_use_23 ?_
        refine lv_iload_n hx hb dX5_use_26 rfl (lv_at hl 1 rfl) ?_
        refine z_iconst hx hb (nI 1) dX5_use_27 (by decide) ?_
        refine z_top (show nI 1 = zB true from rfl) ?_
        refine z_iast zB pu true hE hZ 1 0 rfl rfl (by decide) (by omega) dX5_use_28 [(p0, .inr (5, [.ref p1, .int (zI pf), .int (nI pl)])), (p1, .inl (cI, 600, .inl (fun x9 => zB ((va_up pu x true) x9))))] rfl (fun H locs hZ => ?_)
        refine lv_aload_n hx hb dX5_use_29 rfl (lv_at hl 0 rfl) ?_
        refine lv_dup hx hb dX5_use_30 rfl ?_
        refine z_get hE fF_X5_1 hZ 0 rfl (.int (zI pf)) rfl dX5_use_31 ?_
        refine z_iconst hx hb (nI 1) dX5_use_34 (by decide) ?_
        refine z_isub hx hb dX5_use_35 (z := zI (pf - 1)) (by (try simp only [zI_n]); exact zI_sub _ _) ?_
        refine z_put hE fF_X5_1 fP_X5 rfl hZ 0 rfl rfl rfl (Nat.le_of_ble_eq_true rfl) dX5_use_36 [(p0, .inr (5, [.ref p1, .int (zI (pf - 1)), .int (nI pl)])), (p1, .inl (cI, 600, .inl (fun x9 => zB ((va_up pu x true) x9))))] rfl (fun H locs hZ => ?_)
        refine z_iconst hx hb (nI 1) dX5_use_39 (by decide) ?_
        refine z_top (show nI 1 = zB (!pu x) from by rw [h17]; rfl) ?_
        exact z_zret (!pu x) rfl hE hrt9 hlocks hZ (va_up pu x true, pf - 1) rfl (show ((va_up pu x true) = va_up pu x true) ∧ ((pf - 1) = (fc (va_up pu x true) 600 : Int)) from ⟨rfl, by have q := fc_up pu x 600; rw [if_pos ⟨hx2, h17⟩] at q; rw [hpf]; omega⟩) rfl dX5_use_40 (Nat.le_of_ble_eq_true rfl) (Nat.le_of_ble_eq_true rfl)
      · skip
        refine z_iconst hx hb (nI 0) dX5_use_20 (by decide) ?_
        refine z_top (show nI 0 = zB (!pu x) from by rw [show pu x = true by simpa using h17]; rfl) ?_
        exact z_zret (!pu x) rfl hE hrt9 hlocks hZ (pu, pf) rfl (show (pu = va_up pu x true) ∧ (pf = (fc pu 600 : Int)) from ⟨(va_same (by simpa using h17)).symm, hpf⟩) rfl dX5_use_21 (Nat.le_of_ble_eq_true rfl) (Nat.le_of_ble_eq_true rfl)
set_option maxHeartbeats 1000000 in
set_option maxRecDepth 100000 in
theorem c_X5_useInode (l : Launch) (D : va_G) (cI cJ cZ cII cZZ : ClassId) (d0 : Nat) (d1 : Nat) (d2 : Nat) (dw : Nat → Int64) (du : Nat → Int) (dn : Int) (df : Bool) (db : Bool) (dc : Int) (p0 : Nat) (p1 : Nat) (pu : Nat → Bool) (pf : Int) (pl : Nat) (B : Nat → Int64) (ro : Nat → Nat) (x : Nat) (hx2 : x < 600) (hpf : pf = (fc pu 600 : Int)) (hR : DR B dw du dn df) (hT : TY B ro) (hr : x = 0 ∨ ro x = 2) (h0 : pu 0 = true) (h2 : C2 B ro pu) :
    zC l yX5_useInode cX5_useInode 5 none { frames := 2, cells := 0, slots := 0, locals := 49 } D (zT cI cJ cZ cII cZZ) [.ref p0, .int (nI x), .ref d0] [(d0, .inr (1, [.ref d1, .ref d2, .int (zI dn), .int (zB df), .int (zB db), .int (zI dc)])), (d1, .inl (cJ, 3000, .inr (.inl dw))), (d2, .inl (cI, 5, .inl (fun x9 => zI (du x9)))), (p0, .inr (5, [.ref p1, .int (zI pf), .int (nI pl)])), (p1, .inl (cI, 600, .inl (fun x9 => zB (pu x9))))] (S := (Nat → Bool) × Int) (fun u => none) (fun u => (∀ p, u.1 p = true ↔ pu p = true ∨ (x ≠ 0 ∧ cInd B x p)) ∧ (u.2 = (fc u.1 600 : Int)) ∧ (C2 B ro u.1)) (fun u => [(d0, .inr (1, [.ref d1, .ref d2, .int (zI dn), .int (zB df), .int (zB db), .int (zI dc)])), (d1, .inl (cJ, 3000, .inr (.inl dw))), (d2, .inl (cI, 5, .inl (fun x9 => zI (du x9)))), (p0, .inr (5, [.ref p1, .int (zI u.2), .int (nI pl)])), (p1, .inl (cI, 600, .inl (fun x9 => zB (u.1 x9))))]) := by
  refine zC_of (by decide) (Nat.le_of_ble_eq_true rfl) ?_
  intro prg env s mth below meth cde A ls hE hrt9 hlocks hnm hZ hl
  have hx := hE.1
  have hb := hE.2.1
  have hl : lv_has ls 5 [(0, .ref p0), (1, .int (nI x)), (2, .ref d0)] := hl
  refine lv_aload_n hx hb dX5_useInode_0 rfl (lv_at hl 0 rfl) ?_
  refine lv_iload_n hx hb dX5_useInode_1 rfl (lv_at hl 1 rfl) ?_
  refine z_kV (As := [.int (nI x)]) (rest := []) hE hZ (c_X5_use l D cI cJ cZ cII cZZ p0 p1 pu pf pl x (by first | assumption | omega) (by first | assumption | omega)) lL_X5_use lC_X5_38 rfl [3, 4] [0, 1, 2] [0, 1, 2, 3, 4] [(d0, .inr (1, [.ref d1, .ref d2, .int (zI dn), .int (zB df), .int (zB db), .int (zI dc)])), (d1, .inl (cJ, 3000, .inr (.inl dw))), (d2, .inl (cI, 5, .inl (fun x9 => zI (du x9))))] (fun u => [(d0, .inr (1, [.ref d1, .ref d2, .int (zI dn), .int (zB df), .int (zB db), .int (zI dc)])), (d1, .inl (cJ, 3000, .inr (.inl dw))), (d2, .inl (cI, 5, .inl (fun x9 => zI (du x9)))), (p0, .inr (5, [.ref p1, .int (zI u.2), .int (nI pl)])), (p1, .inl (cI, 600, .inl (fun x9 => zB (u.1 x9))))]) 0 rfl rfl rfl (fun _ => rfl) (by decide) ⟨by decide, by decide⟩ 0 0 rfl rfl ⟨by decide, by decide⟩ rfl hl.1 rfl (Nat.le_of_ble_eq_true rfl) dX5_useInode_2 (fun u H locs hq9 hZ => ?_)
  obtain ⟨pu1_2, pf1_2⟩ := u
  obtain ⟨hq_2, hq2_2⟩ := hq9
  have hq_2 : pu1_2 = va_up pu x true := hq_2
  have hq2_2 : pf1_2 = (fc pu1_2 600 : Int) := hq2_2
  have hZ : zS D A s.heap H locs [(d0, .inr (1, [.ref d1, .ref d2, .int (zI dn), .int (zB df), .int (zB db), .int (zI dc)])), (d1, .inl (cJ, 3000, .inr (.inl dw))), (d2, .inl (cI, 5, .inl (fun x9 => zI (du x9)))), (p0, .inr (5, [.ref p1, .int (zI pf1_2), .int (nI pl)])), (p1, .inl (cI, 600, .inl (fun x9 => zB (pu1_2 x9))))] := hZ
  refine W.eq (g2 := F0 mth 5 ls [.int (zB (!pu x))]) rfl ?_
  refine z_if_ne hx hb 9 dX5_useInode_5 (by decide) (C := (!pu x) = false) (zB_0 _) (fun h5 => ?_) (fun h5 => ?_)
  · skip
    have hux : pu x = false := by simpa using h5
    have hxn : x ≠ 0 := fun z => by rw [z, h0] at hux; cases hux
    have hrx : ro x = 2 := hr.resolve_left hxn
    refine lv_aload_n hx hb dX5_useInode_9 rfl (lv_at hl 2 rfl) ?_
    refine lv_iload_n hx hb dX5_useInode_10 rfl (lv_at hl 1 rfl) ?_
    refine z_iconst hx hb (nI 0) dX5_useInode_11 (by decide) ?_
    refine z_kV (As := [.int (nI x), .int (nI 0)]) (rest := []) hE hZ (c_X1_number l D cI cJ cZ cII cZZ d0 d1 d2 dw du dn df db dc B x 0 (by omega) (by omega) (by first | assumption | omega)) lL_X1_number lC_X5_42 rfl [0, 1, 2] [3, 4] [2, 3, 4, 0, 1] [(p0, .inr (5, [.ref p1, .int (zI pf1_2), .int (nI pl)])), (p1, .inl (cI, 600, .inl (fun x9 => zB (pu1_2 x9))))] (fun u => [(d0, .inr (1, [.ref d1, .ref d2, .int (zI dn), .int (zB df), .int (zB db), .int (zI dc)])), (d1, .inl (cJ, 3000, .inr (.inl dw))), (d2, .inl (cI, 5, .inl (fun x9 => zI (du x9)))), (p0, .inr (5, [.ref p1, .int (zI pf1_2), .int (nI pl)])), (p1, .inl (cI, 600, .inl (fun x9 => zB (pu1_2 x9))))]) 0 rfl rfl rfl (fun _ => rfl) (by decide) ⟨by decide, by decide⟩ 0 0 rfl rfl ⟨by decide, by decide⟩ rfl hl.1 rfl (Nat.le_of_ble_eq_true rfl) dX5_useInode_12 (fun u H locs hq9 hZ => ?_)
    have hZ : zS D A s.heap H locs [(d0, .inr (1, [.ref d1, .ref d2, .int (zI dn), .int (zB df), .int (zB db), .int (zI dc)])), (d1, .inl (cJ, 3000, .inr (.inl dw))), (d2, .inl (cI, 5, .inl (fun x9 => zI (du x9)))), (p0, .inr (5, [.ref p1, .int (zI pf1_2), .int (nI pl)])), (p1, .inl (cI, 600, .inl (fun x9 => zB (pu1_2 x9))))] := hZ
    refine W.eq (g2 := F0 mth 15 ls [.int (nI (num B x 0))]) rfl ?_
    have ht := hT.2.2 x hx2 hrx
    refine z_kN (As := [.int (nI (num B x 0))]) (rest := []) hE hZ (c_X6_piecesOf l D cI cJ cZ cII cZZ  ((num B x 0 : Nat) : Int) (nI (num B x 0)) (⟨by omega, by have := ht.1; omega⟩) (zI_n _)) lL_X6_piecesOf lC_X5_50 [] [0, 1, 2, 3, 4] [0, 1, 2, 3, 4] [(d0, .inr (1, [.ref d1, .ref d2, .int (zI dn), .int (zB df), .int (zB db), .int (zI dc)])), (d1, .inl (cJ, 3000, .inr (.inl dw))), (d2, .inl (cI, 5, .inl (fun x9 => zI (du x9)))), (p0, .inr (5, [.ref p1, .int (zI pf1_2), .int (nI pl)])), (p1, .inl (cI, 600, .inl (fun x9 => zB (pu1_2 x9))))] (fun u => [(d0, .inr (1, [.ref d1, .ref d2, .int (zI dn), .int (zB df), .int (zB db), .int (zI dc)])), (d1, .inl (cJ, 3000, .inr (.inl dw))), (d2, .inl (cI, 5, .inl (fun x9 => zI (du x9)))), (p0, .inr (5, [.ref p1, .int (zI pf1_2), .int (nI pl)])), (p1, .inl (cI, 600, .inl (fun x9 => zB (pu1_2 x9))))]) rfl rfl (fun _ => rfl) (by decide) ⟨by decide, by decide⟩ 0 0 rfl rfl ⟨by decide, by decide⟩ rfl hl.1 rfl (Nat.le_of_ble_eq_true rfl) dX5_useInode_15 (fun u H locs hq9 hZ => ?_)
    have hZ : zS D A s.heap H locs [(d0, .inr (1, [.ref d1, .ref d2, .int (zI dn), .int (zB df), .int (zB db), .int (zI dc)])), (d1, .inl (cJ, 3000, .inr (.inl dw))), (d2, .inl (cI, 5, .inl (fun x9 => zI (du x9)))), (p0, .inr (5, [.ref p1, .int (zI pf1_2), .int (nI pl)])), (p1, .inl (cI, 600, .inl (fun x9 => zB (pu1_2 x9))))] := hZ
    refine W.eq (g2 := F0 mth 18 ls [.int (nI ((((num B x 0 : Nat) : Int) + 31).toNat / 32))]) rfl ?_
    refine z_top (show nI ((((num B x 0 : Nat) : Int) + 31).toNat / 32) = nI ((num B x 0 + 31) / 32) from by congr 1) ?_
    refine z_bipush hx hb (nI 14) dX5_useInode_18 (by decide) ?_
    refine z_mmin (rest := []) hE hl.1 lC_X5_54 (Nat.le_of_ble_eq_true rfl) (Nat.le_of_ble_eq_true rfl) (Nat.le_of_ble_eq_true rfl) (Nat.le_of_ble_eq_true rfl) (((num B x 0 + 31) / 32 : Nat) : Int) 14 (zI_n _) (zI_n _) ⟨by omega, by omega⟩ ⟨by omega, by omega⟩ dX5_useInode_20 ?_
    refine z_top (show zI (if 14 < (((num B x 0 + 31) / 32 : Nat) : Int) then 14 else (((num B x 0 + 31) / 32 : Nat) : Int)) = nI ((num B x 0 + 31) / 32) from by rw [zI_n]; congr 1; rw [if_neg (by have := ht.1; omega)]) ?_
    refine lv_istore_n (lv' := [(3, .int (nI ((num B x 0 + 31) / 32))), (0, .ref p0), (1, .int (nI x)), (2, .ref d0)]) hx hb dX5_useInode_23 rfl hl (by decide) rfl (fun ls hl => ?_)
    refine z_iconst hx hb (nI 0) dX5_useInode_24 (by decide) ?_
    refine lv_istore (lv' := [(4, .int (nI 0)), (3, .int (nI ((num B x 0 + 31) / 32))), (0, .ref p0), (1, .int (nI x)), (2, .ref d0)]) hx hb dX5_useInode_25 hl (by decide) rfl (fun ls hl => ?_)
    have hle : num B x 0 ≤ 448 := ht.1
    refine z_loop (σ := Nat × (Nat → Bool) × Int) (fun (i, w, fv) H locs ls => (i ≤ (num B x 0 + 31) / 32) ∧ (∀ p, w p = true ↔ (pu p = true ∨ p = x) ∨ ∃ q, q < i ∧ p = num B x (1 + q)) ∧ (fv = (fc w 600 : Int)) ∧ zS D A s.heap H locs [(d0, .inr (1, [.ref d1, .ref d2, .int (zI dn), .int (zB df), .int (zB db), .int (zI dc)])), (d1, .inl (cJ, 3000, .inr (.inl dw))), (d2, .inl (cI, 5, .inl (fun x9 => zI (du x9)))), (p0, .inr (5, [.ref p1, .int (zI fv), .int (nI pl)])), (p1, .inl (cI, 600, .inl (fun x9 => zB (w x9))))] ∧ lv_has ls 5 [(0, .ref p0), (1, .int (nI x)), (2, .ref d0), (3, .int (nI ((num B x 0 + 31) / 32))), (4, .int (nI i))]) (fun (i, w, fv) => (num B x 0 + 31) / 32 - i) [] (0, pu1_2, pf1_2) ⟨by omega, fun p => by rw [hq_2, vt]; constructor; exact Or.inl; rintro (z | ⟨q, z, -⟩); exact z; omega, hq2_2, hZ, lv_sub hl [2, 3, 4, 1, 0] (by first | rfl | (simp only [lv_pick]; rfl))⟩ ?_
    intro x H locs ls hI ih27
    obtain ⟨i, w, fv⟩ := x
    obtain ⟨hi, hw, hfi, hZ, hl⟩ := hI
    refine lv_iload hx hb dX5_useInode_27 (lv_at hl 4 rfl) ?_
    refine lv_iload_n hx hb dX5_useInode_29 rfl (lv_at hl 3 rfl) ?_
    refine z_icmp_ge hx hb 53 dX5_useInode_30 (by decide) (C := (num B x 0 + 31) / 32 ≤ i) (nIle (by omega) (by omega)) (fun h30 => ?_) (fun h30 => ?_)
    · skip
      exact z_vret hE hrt9 hlocks hZ (w, fv) rfl (show (∀ p, w p = true ↔ pu p = true ∨ (x ≠ 0 ∧ cInd B x p)) ∧ (fv = (fc w 600 : Int)) ∧ (C2 B ro w) from ⟨fun p => by
              rw [hw p]
              constructor
              · rintro ((z | z) | ⟨q, z1, z2⟩)
                · exact Or.inl z
                · exact Or.inr ⟨hxn, Or.inl z⟩
                · exact Or.inr ⟨hxn, Or.inr ⟨q, by omega, z2⟩⟩
              · rintro (z | ⟨-, z | ⟨q, z1, z2⟩⟩)
                · exact Or.inl (Or.inl z)
                · exact Or.inl (Or.inr z)
                · by_cases e : q < i
                  · exact Or.inr ⟨q, e, z2⟩
                  · have := ht.2.2 q z1 (by omega)
                    rw [z2, this]; exact Or.inl (Or.inl h0), hfi, C2_inode hT hx2 hrx h2 h0 (fun p => by
              rw [hw p]
              constructor
              · rintro ((z | z) | ⟨q, z1, z2⟩)
                · exact Or.inl z
                · exact Or.inr (Or.inl z)
                · exact Or.inr (Or.inr ⟨q, by omega, z2⟩)
              · rintro (z | z | ⟨q, z1, z2⟩)
                · exact Or.inl (Or.inl z)
                · exact Or.inl (Or.inr z)
                · by_cases e : q < i
                  · exact Or.inr ⟨q, e, z2⟩
                  · have := ht.2.2 q z1 (by omega)
                    rw [z2, this]; exact Or.inl (Or.inl h0))⟩) rfl dX5_useInode_53 (Nat.le_of_ble_eq_true rfl) (Nat.le_of_ble_eq_true rfl)
    · skip
      refine lv_aload_n hx hb dX5_useInode_33 rfl (lv_at hl 0 rfl) ?_
      refine lv_aload_n hx hb dX5_useInode_34 rfl (lv_at hl 2 rfl) ?_
      refine lv_iload_n hx hb dX5_useInode_35 rfl (lv_at hl 1 rfl) ?_
      refine z_iconst hx hb (nI 1) dX5_useInode_36 (by decide) ?_
      refine lv_iload hx hb dX5_useInode_37 (lv_at hl 4 rfl) ?_
      refine z_iadd hx hb dX5_useInode_39 (z := nI (1 + i)) (nI_add _ _) ?_
      refine z_kV (As := [.int (nI x), .int (nI (1 + i))]) (rest := [.ref p0]) hE hZ (c_X1_number l D cI cJ cZ cII cZZ d0 d1 d2 dw du dn df db dc B x (1 + i) (by omega) (by omega) (by first | assumption | omega)) lL_X1_number lC_X5_42 rfl [0, 1, 2] [3, 4] [2, 3, 4, 0, 1] [(p0, .inr (5, [.ref p1, .int (zI fv), .int (nI pl)])), (p1, .inl (cI, 600, .inl (fun x9 => zB (w x9))))] (fun u => [(d0, .inr (1, [.ref d1, .ref d2, .int (zI dn), .int (zB df), .int (zB db), .int (zI dc)])), (d1, .inl (cJ, 3000, .inr (.inl dw))), (d2, .inl (cI, 5, .inl (fun x9 => zI (du x9)))), (p0, .inr (5, [.ref p1, .int (zI fv), .int (nI pl)])), (p1, .inl (cI, 600, .inl (fun x9 => zB (w x9))))]) 0 rfl rfl rfl (fun _ => rfl) (by decide) ⟨by decide, by decide⟩ 0 0 rfl rfl ⟨by decide, by decide⟩ rfl hl.1 rfl (Nat.le_of_ble_eq_true rfl) dX5_useInode_40 (fun u H locs hq9 hZ => ?_)
      have hZ : zS D A s.heap H locs [(d0, .inr (1, [.ref d1, .ref d2, .int (zI dn), .int (zB df), .int (zB db), .int (zI dc)])), (d1, .inl (cJ, 3000, .inr (.inl dw))), (d2, .inl (cI, 5, .inl (fun x9 => zI (du x9)))), (p0, .inr (5, [.ref p1, .int (zI fv), .int (nI pl)])), (p1, .inl (cI, 600, .inl (fun x9 => zB (w x9))))] := hZ
      refine W.eq (g2 := F0 mth 43 ls [.int (nI (num B x (1 + i))), .ref p0]) rfl ?_
      refine z_kV (As := [.int (nI (num B x (1 + i)))]) (rest := []) hE hZ (c_X5_use l D cI cJ cZ cII cZZ p0 p1 w fv pl (num B x (1 + i)) ((ht.2.1 i (by omega)).1) (hfi)) lL_X5_use lC_X5_38 rfl [3, 4] [0, 1, 2] [0, 1, 2, 3, 4] [(d0, .inr (1, [.ref d1, .ref d2, .int (zI dn), .int (zB df), .int (zB db), .int (zI dc)])), (d1, .inl (cJ, 3000, .inr (.inl dw))), (d2, .inl (cI, 5, .inl (fun x9 => zI (du x9))))] (fun u => [(d0, .inr (1, [.ref d1, .ref d2, .int (zI dn), .int (zB df), .int (zB db), .int (zI dc)])), (d1, .inl (cJ, 3000, .inr (.inl dw))), (d2, .inl (cI, 5, .inl (fun x9 => zI (du x9)))), (p0, .inr (5, [.ref p1, .int (zI u.2), .int (nI pl)])), (p1, .inl (cI, 600, .inl (fun x9 => zB (u.1 x9))))]) 0 rfl rfl rfl (fun _ => rfl) (by decide) ⟨by decide, by decide⟩ 0 0 rfl rfl ⟨by decide, by decide⟩ rfl hl.1 rfl (Nat.le_of_ble_eq_true rfl) dX5_useInode_43 (fun u H locs hq9 hZ => ?_)
      obtain ⟨pu1_43, pf1_43⟩ := u
      obtain ⟨hq_43, hq2_43⟩ := hq9
      have hq_43 : pu1_43 = va_up w (num B x (1 + i)) true := hq_43
      have hq2_43 : pf1_43 = (fc pu1_43 600 : Int) := hq2_43
      have hZ : zS D A s.heap H locs [(d0, .inr (1, [.ref d1, .ref d2, .int (zI dn), .int (zB df), .int (zB db), .int (zI dc)])), (d1, .inl (cJ, 3000, .inr (.inl dw))), (d2, .inl (cI, 5, .inl (fun x9 => zI (du x9)))), (p0, .inr (5, [.ref p1, .int (zI pf1_43), .int (nI pl)])), (p1, .inl (cI, 600, .inl (fun x9 => zB (pu1_43 x9))))] := hZ
      refine W.eq (g2 := F0 mth 46 ls [.int (zB (!w (num B x (1 + i))))]) rfl ?_
      refine lv_pop hx hb dX5_useInode_46 rfl ?_
      refine lv_iinc (v := nI (i + 1)) (lv' := [(4, .int (nI (i + 1))), (0, .ref p0), (1, .int (nI x)), (2, .ref d0), (3, .int (nI ((num B x 0 + 31) / 32)))]) hx hb dX5_useInode_47 hl (k := 4) rfl (nI_add _ _) (by decide) rfl (fun ls hl => ?_)
      refine lv_goto (tgt := 27) hx hb dX5_useInode_50 (by decide) ?_
      exact ih27 (i + 1, pu1_43, pf1_43) _ _ _ ⟨by omega, fun p => by
              rw [hq_43, vt, hw p]
              constructor
              · rintro ((z | ⟨q, z1, z2⟩) | z)
                · exact Or.inl z
                · exact Or.inr ⟨q, by omega, z2⟩
                · exact Or.inr ⟨i, by omega, z⟩
              · rintro (z | ⟨q, z1, z2⟩)
                · exact Or.inl (Or.inl z)
                · by_cases e : q = i
                  · exact Or.inr (by rw [z2, e])
                  · exact Or.inl (Or.inr ⟨q, by omega, z2⟩), hq2_43, hZ, lv_sub hl [1, 2, 3, 4, 0] (by first | rfl | (simp only [lv_pick]; rfl))⟩ (by (try dsimp only); omega)
  · skip
    have hux : pu x = true := by simpa using h5
    exact z_vret hE hrt9 hlocks hZ (pu1_2, pf1_2) rfl (show (∀ p, pu1_2 p = true ↔ pu p = true ∨ (x ≠ 0 ∧ cInd B x p)) ∧ (pf1_2 = (fc pu1_2 600 : Int)) ∧ (C2 B ro pu1_2) from ⟨by rw [hq_2, va_same hux]; exact inode_marked hx2 h0 hr h2 hux, hq2_2, by rw [hq_2, va_same hux]; exact h2⟩) rfl dX5_useInode_8 (Nat.le_of_ble_eq_true rfl) (Nat.le_of_ble_eq_true rfl)
set_option maxHeartbeats 1000000 in
set_option maxRecDepth 100000 in
theorem c_X5_useHalf (l : Launch) (D : va_G) (cI cJ cZ cII cZZ : ClassId) (d0 : Nat) (d1 : Nat) (d2 : Nat) (dw : Nat → Int64) (du : Nat → Int) (dn : Int) (df : Bool) (db : Bool) (dc : Int) (p0 : Nat) (p1 : Nat) (pu : Nat → Bool) (pf : Int) (pl : Nat) (B : Nat → Int64) (ro : Nat → Nat) (h : Nat) (hh : h < 600) (hpf : pf = (fc pu 600 : Int)) (hR : DR B dw du dn df) (hT : TY B ro) (hr : h = 0 ∨ ro h = 1) (h0 : pu 0 = true) (h1 : C1 B ro pu) (h2 : C2 B ro pu) :
    zC l yX5_useHalf cX5_useHalf 4 none { frames := 3, cells := 0, slots := 0, locals := 73 } D (zT cI cJ cZ cII cZZ) [.ref p0, .int (nI h), .ref d0] [(d0, .inr (1, [.ref d1, .ref d2, .int (zI dn), .int (zB df), .int (zB db), .int (zI dc)])), (d1, .inl (cJ, 3000, .inr (.inl dw))), (d2, .inl (cI, 5, .inl (fun x9 => zI (du x9)))), (p0, .inr (5, [.ref p1, .int (zI pf), .int (nI pl)])), (p1, .inl (cI, 600, .inl (fun x9 => zB (pu x9))))] (S := (Nat → Bool) × Int) (fun u => none) (fun u => (∀ p, u.1 p = true ↔ pu p = true ∨ (h ≠ 0 ∧ cHlf B h p)) ∧ (u.2 = (fc u.1 600 : Int)) ∧ (C2 B ro u.1) ∧ (C1 B ro u.1)) (fun u => [(d0, .inr (1, [.ref d1, .ref d2, .int (zI dn), .int (zB df), .int (zB db), .int (zI dc)])), (d1, .inl (cJ, 3000, .inr (.inl dw))), (d2, .inl (cI, 5, .inl (fun x9 => zI (du x9)))), (p0, .inr (5, [.ref p1, .int (zI u.2), .int (nI pl)])), (p1, .inl (cI, 600, .inl (fun x9 => zB (u.1 x9))))]) := by
  refine zC_of (by decide) (Nat.le_of_ble_eq_true rfl) ?_
  intro prg env s mth below meth cde A ls hE hrt9 hlocks hnm hZ hl
  have hx := hE.1
  have hb := hE.2.1
  have hl : lv_has ls 4 [(0, .ref p0), (1, .int (nI h)), (2, .ref d0)] := hl
  refine lv_aload_n hx hb dX5_useHalf_0 rfl (lv_at hl 0 rfl) ?_
  refine lv_iload_n hx hb dX5_useHalf_1 rfl (lv_at hl 1 rfl) ?_
  refine z_kV (As := [.int (nI h)]) (rest := []) hE hZ (c_X5_use l D cI cJ cZ cII cZZ p0 p1 pu pf pl h (hh) (by first | assumption | omega)) lL_X5_use lC_X5_38 rfl [3, 4] [0, 1, 2] [0, 1, 2, 3, 4] [(d0, .inr (1, [.ref d1, .ref d2, .int (zI dn), .int (zB df), .int (zB db), .int (zI dc)])), (d1, .inl (cJ, 3000, .inr (.inl dw))), (d2, .inl (cI, 5, .inl (fun x9 => zI (du x9))))] (fun u => [(d0, .inr (1, [.ref d1, .ref d2, .int (zI dn), .int (zB df), .int (zB db), .int (zI dc)])), (d1, .inl (cJ, 3000, .inr (.inl dw))), (d2, .inl (cI, 5, .inl (fun x9 => zI (du x9)))), (p0, .inr (5, [.ref p1, .int (zI u.2), .int (nI pl)])), (p1, .inl (cI, 600, .inl (fun x9 => zB (u.1 x9))))]) 0 rfl rfl rfl (fun _ => rfl) (by decide) ⟨by decide, by decide⟩ 0 0 rfl rfl ⟨by decide, by decide⟩ rfl hl.1 rfl (Nat.le_of_ble_eq_true rfl) dX5_useHalf_2 (fun u H locs hq9 hZ => ?_)
  obtain ⟨pu1_2, pf1_2⟩ := u
  obtain ⟨hq_2, hq2_2⟩ := hq9
  have hq_2 : pu1_2 = va_up pu h true := hq_2
  have hq2_2 : pf1_2 = (fc pu1_2 600 : Int) := hq2_2
  have hZ : zS D A s.heap H locs [(d0, .inr (1, [.ref d1, .ref d2, .int (zI dn), .int (zB df), .int (zB db), .int (zI dc)])), (d1, .inl (cJ, 3000, .inr (.inl dw))), (d2, .inl (cI, 5, .inl (fun x9 => zI (du x9)))), (p0, .inr (5, [.ref p1, .int (zI pf1_2), .int (nI pl)])), (p1, .inl (cI, 600, .inl (fun x9 => zB (pu1_2 x9))))] := hZ
  refine W.eq (g2 := F0 mth 5 ls [.int (zB (!pu h))]) rfl ?_
  refine z_if_ne hx hb 9 dX5_useHalf_5 (by decide) (C := (!pu h) = false) (zB_0 _) (fun h5 => ?_) (fun h5 => ?_)
  · skip
    have hux : pu h = false := by simpa using h5
    have hxn : h ≠ 0 := fun z => by rw [z, h0] at hux; cases hux
    have hrx : ro h = 1 := hr.resolve_left hxn
    refine z_iconst hx hb (nI 0) dX5_useHalf_9 (by decide) ?_
    refine lv_istore_n (lv' := [(3, .int (nI 0)), (0, .ref p0), (1, .int (nI h)), (2, .ref d0)]) hx hb dX5_useHalf_10 rfl hl (by decide) rfl (fun ls hl => ?_)
    refine z_loop (σ := Nat × (Nat → Bool) × Int) (fun (i, w, fv) H locs ls => (i ≤ 16) ∧ (∀ p, w p = true ↔ (pu p = true ∨ p = h) ∨ ∃ j, j < i ∧ num B h j ≠ 0 ∧ cInd B (num B h j) p) ∧ (fv = (fc w 600 : Int)) ∧ (C2 B ro w) ∧ zS D A s.heap H locs [(d0, .inr (1, [.ref d1, .ref d2, .int (zI dn), .int (zB df), .int (zB db), .int (zI dc)])), (d1, .inl (cJ, 3000, .inr (.inl dw))), (d2, .inl (cI, 5, .inl (fun x9 => zI (du x9)))), (p0, .inr (5, [.ref p1, .int (zI fv), .int (nI pl)])), (p1, .inl (cI, 600, .inl (fun x9 => zB (w x9))))] ∧ lv_has ls 4 [(0, .ref p0), (1, .int (nI h)), (2, .ref d0), (3, .int (nI i))]) (fun (i, w, fv) => 16 - i) [] (0, pu1_2, pf1_2) ⟨by omega, fun p => by rw [hq_2, vt]; constructor; exact Or.inl; rintro (z | ⟨q, z, -⟩); exact z; omega, hq2_2, by rw [hq_2]; exact C2_half hrx h2, hZ, lv_sub hl [1, 2, 3, 0] (by first | rfl | (simp only [lv_pick]; rfl))⟩ ?_
    intro x H locs ls hI ih11
    obtain ⟨i, w, fv⟩ := x
    obtain ⟨hi, hw, hfi, hc2, hZ, hl⟩ := hI
    refine lv_iload_n hx hb dX5_useHalf_11 rfl (lv_at hl 3 rfl) ?_
    refine z_bipush hx hb (nI 16) dX5_useHalf_12 (by decide) ?_
    refine z_icmp_ge hx hb 34 dX5_useHalf_14 (by decide) (C := 16 ≤ i) (nIle (by omega) (by omega)) (fun h14 => ?_) (fun h14 => ?_)
    · skip
      exact z_vret hE hrt9 hlocks hZ (w, fv) rfl (show (∀ p, w p = true ↔ pu p = true ∨ (h ≠ 0 ∧ cHlf B h p)) ∧ (fv = (fc w 600 : Int)) ∧ (C2 B ro w) ∧ (C1 B ro w) from ⟨(half_done hT hh hrx h0 h1 hc2 (fun p => by rw [hw p, show i = 16 by omega])).1, hfi, hc2, (half_done hT hh hrx h0 h1 hc2 (fun p => by rw [hw p, show i = 16 by omega])).2⟩) rfl dX5_useHalf_34 (Nat.le_of_ble_eq_true rfl) (Nat.le_of_ble_eq_true rfl)
    · skip
      refine lv_aload_n hx hb dX5_useHalf_17 rfl (lv_at hl 0 rfl) ?_
      refine lv_aload_n hx hb dX5_useHalf_18 rfl (lv_at hl 2 rfl) ?_
      refine lv_iload_n hx hb dX5_useHalf_19 rfl (lv_at hl 1 rfl) ?_
      refine lv_iload_n hx hb dX5_useHalf_20 rfl (lv_at hl 3 rfl) ?_
      refine z_kV (As := [.int (nI h), .int (nI i)]) (rest := [.ref p0]) hE hZ (c_X1_number l D cI cJ cZ cII cZZ d0 d1 d2 dw du dn df db dc B h i (by omega) (by omega) (by first | assumption | omega)) lL_X1_number lC_X5_42 rfl [0, 1, 2] [3, 4] [2, 3, 4, 0, 1] [(p0, .inr (5, [.ref p1, .int (zI fv), .int (nI pl)])), (p1, .inl (cI, 600, .inl (fun x9 => zB (w x9))))] (fun u => [(d0, .inr (1, [.ref d1, .ref d2, .int (zI dn), .int (zB df), .int (zB db), .int (zI dc)])), (d1, .inl (cJ, 3000, .inr (.inl dw))), (d2, .inl (cI, 5, .inl (fun x9 => zI (du x9)))), (p0, .inr (5, [.ref p1, .int (zI fv), .int (nI pl)])), (p1, .inl (cI, 600, .inl (fun x9 => zB (w x9))))]) 0 rfl rfl rfl (fun _ => rfl) (by decide) ⟨by decide, by decide⟩ 0 0 rfl rfl ⟨by decide, by decide⟩ rfl hl.1 rfl (Nat.le_of_ble_eq_true rfl) dX5_useHalf_21 (fun u H locs hq9 hZ => ?_)
      have hZ : zS D A s.heap H locs [(d0, .inr (1, [.ref d1, .ref d2, .int (zI dn), .int (zB df), .int (zB db), .int (zI dc)])), (d1, .inl (cJ, 3000, .inr (.inl dw))), (d2, .inl (cI, 5, .inl (fun x9 => zI (du x9)))), (p0, .inr (5, [.ref p1, .int (zI fv), .int (nI pl)])), (p1, .inl (cI, 600, .inl (fun x9 => zB (w x9))))] := hZ
      refine W.eq (g2 := F0 mth 24 ls [.int (nI (num B h i)), .ref p0]) rfl ?_
      have htj := hT.2.1 h hh hrx i (by omega)
      refine lv_aload_n hx hb dX5_useHalf_24 rfl (lv_at hl 2 rfl) ?_
      refine z_kV (As := [.int (nI (num B h i)), .ref d0]) (rest := []) hE hZ (c_X5_useInode l D cI cJ cZ cII cZZ d0 d1 d2 dw du dn df db dc p0 p1 w fv pl B ro (num B h i) (by rcases htj with z | z <;> omega) (hfi) (by first | assumption | omega) (by first | assumption | omega) (by rcases htj with z | z; exact Or.inl z; exact Or.inr z.2) ((hw 0).mpr (Or.inl (Or.inl h0))) (hc2)) lL_X5_useInode lC_X5_47 rfl [0, 1, 2, 3, 4] [] [0, 1, 2, 3, 4] [] (fun u => [(d0, .inr (1, [.ref d1, .ref d2, .int (zI dn), .int (zB df), .int (zB db), .int (zI dc)])), (d1, .inl (cJ, 3000, .inr (.inl dw))), (d2, .inl (cI, 5, .inl (fun x9 => zI (du x9)))), (p0, .inr (5, [.ref p1, .int (zI u.2), .int (nI pl)])), (p1, .inl (cI, 600, .inl (fun x9 => zB (u.1 x9))))]) 3 rfl rfl rfl (fun _ => rfl) (by decide) ⟨by decide, by decide⟩ 0 0 rfl rfl ⟨by decide, by decide⟩ rfl hl.1 rfl (Nat.le_of_ble_eq_true rfl) dX5_useHalf_25 (fun u H locs hq9 hZ => ?_)
      obtain ⟨pu1_25, pf1_25⟩ := u
      obtain ⟨hq_25, hq2_25, hq3_25⟩ := hq9
      have hq_25 : ∀ p, pu1_25 p = true ↔ w p = true ∨ ((num B h i) ≠ 0 ∧ cInd B (num B h i) p) := hq_25
      have hq2_25 : pf1_25 = (fc pu1_25 600 : Int) := hq2_25
      have hq3_25 : C2 B ro pu1_25 := hq3_25
      have hZ : zS D A s.heap H locs [(d0, .inr (1, [.ref d1, .ref d2, .int (zI dn), .int (zB df), .int (zB db), .int (zI dc)])), (d1, .inl (cJ, 3000, .inr (.inl dw))), (d2, .inl (cI, 5, .inl (fun x9 => zI (du x9)))), (p0, .inr (5, [.ref p1, .int (zI pf1_25), .int (nI pl)])), (p1, .inl (cI, 600, .inl (fun x9 => zB (pu1_25 x9))))] := hZ
      refine W.eq (g2 := F0 mth 28 ls []) rfl ?_
      refine lv_iinc (v := nI (i + 1)) (lv' := [(3, .int (nI (i + 1))), (0, .ref p0), (1, .int (nI h)), (2, .ref d0)]) hx hb dX5_useHalf_28 hl (k := 3) rfl (nI_add _ _) (by decide) rfl (fun ls hl => ?_)
      refine lv_goto (tgt := 11) hx hb dX5_useHalf_31 (by decide) ?_
      exact ih11 (i + 1, pu1_25, pf1_25) _ _ _ ⟨by omega, fun p => by
              rw [hq_25 p, hw p]
              constructor
              · rintro ((z | ⟨q, z1, z2⟩) | z)
                · exact Or.inl z
                · exact Or.inr ⟨q, by omega, z2⟩
                · exact Or.inr ⟨i, by omega, z⟩
              · rintro (z | ⟨q, z1, z2⟩)
                · exact Or.inl (Or.inl z)
                · by_cases e : q = i
                  · rw [e] at z2; exact Or.inr z2
                  · exact Or.inl (Or.inr ⟨q, by omega, z2⟩), hq2_25, hq3_25, hZ, lv_sub hl [1, 2, 3, 0] (by first | rfl | (simp only [lv_pick]; rfl))⟩ (by (try dsimp only); omega)
  · skip
    have hux : pu h = true := by simpa using h5
    exact z_vret hE hrt9 hlocks hZ (pu1_2, pf1_2) rfl (show (∀ p, pu1_2 p = true ↔ pu p = true ∨ (h ≠ 0 ∧ cHlf B h p)) ∧ (pf1_2 = (fc pu1_2 600 : Int)) ∧ (C2 B ro pu1_2) ∧ (C1 B ro pu1_2) from ⟨by rw [hq_2, va_same hux]; exact half_marked hh h0 hr h1 hux, hq2_2, by rw [hq_2, va_same hux]; exact h2, by rw [hq_2, va_same hux]; exact h1⟩) rfl dX5_useHalf_8 (Nat.le_of_ble_eq_true rfl) (Nat.le_of_ble_eq_true rfl)
set_option maxHeartbeats 1000000 in
set_option maxRecDepth 100000 in
theorem c_X5_survey (l : Launch) (D : va_G) (cI cJ cZ cII cZZ : ClassId) (d0 : Nat) (d1 : Nat) (d2 : Nat) (dw : Nat → Int64) (du : Nat → Int) (dn : Int) (df : Bool) (db : Bool) (dc : Int) (i0 : Nat) (i1 : Nat) (iN : Nat) (ih : Nat → Nat) (p0 : Nat) (p1 : Nat) (pu : Nat → Bool) (pf : Int) (pl : Nat) (B : Nat → Int64) (ro : Nat → Nat) (hR : DR B dw du dn df) (hT : TY B ro) (hih : ∀ k, k < 12 → ih k = 0 ∨ (ih k < 600 ∧ ro (ih k) = 1)) :
    zC l yX5_survey cX5_survey 5 none { frames := 4, cells := 0, slots := 0, locals := 96 } D (zT cI cJ cZ cII cZZ) [.ref p0, .ref i0, .ref d0] [(d0, .inr (1, [.ref d1, .ref d2, .int (zI dn), .int (zB df), .int (zB db), .int (zI dc)])), (d1, .inl (cJ, 3000, .inr (.inl dw))), (d2, .inl (cI, 5, .inl (fun x9 => zI (du x9)))), (i0, .inr (2, [.int (nI iN), .ref i1])), (i1, .inl (cI, 12, .inl (fun x9 => nI (ih x9)))), (p0, .inr (5, [.ref p1, .int (zI pf), .int (nI pl)])), (p1, .inl (cI, 600, .inl (fun x9 => zB (pu x9))))] (S := (Nat → Bool) × Int) (fun u => none) (fun u => (∀ p, u.1 p = true ↔ UA B ih 12 p) ∧ (u.2 = (fc u.1 600 : Int))) (fun u => [(d0, .inr (1, [.ref d1, .ref d2, .int (zI dn), .int (zB df), .int (zB db), .int (zI dc)])), (d1, .inl (cJ, 3000, .inr (.inl dw))), (d2, .inl (cI, 5, .inl (fun x9 => zI (du x9)))), (i0, .inr (2, [.int (nI iN), .ref i1])), (i1, .inl (cI, 12, .inl (fun x9 => nI (ih x9)))), (p0, .inr (5, [.ref p1, .int (zI u.2), .int (nI pl)])), (p1, .inl (cI, 600, .inl (fun x9 => zB (u.1 x9))))]) := by
  refine zC_of (by decide) (Nat.le_of_ble_eq_true rfl) ?_
  intro prg env s mth below meth cde A ls hE hrt9 hlocks hnm hZ hl
  have hx := hE.1
  have hb := hE.2.1
  have hl : lv_has ls 5 [(0, .ref p0), (1, .ref i0), (2, .ref d0)] := hl
  refine lv_aload_n hx hb dX5_survey_0 rfl (lv_at hl 0 rfl) ?_
  refine z_get hE fF_X5_0 hZ 5 rfl (.ref p1) rfl dX5_survey_1 ?_
  refine z_iconst hx hb (nI 0) dX5_survey_4 (by decide) ?_
  refine z_kS (As := [.ref p1, .int (nI 0)]) (rest := []) hE hZ (c_J7_fill_53178 l D cI cJ cZ cII cZZ p1 600 (fun x => zB (pu x)) (nI 0) (by decide)) lL_J7_fill_53178 lC_X5_22 [6] [0, 1, 2, 3, 4, 5] [0, 1, 2, 3, 4, 5, 6] [(d0, .inr (1, [.ref d1, .ref d2, .int (zI dn), .int (zB df), .int (zB db), .int (zI dc)])), (d1, .inl (cJ, 3000, .inr (.inl dw))), (d2, .inl (cI, 5, .inl (fun x9 => zI (du x9)))), (i0, .inr (2, [.int (nI iN), .ref i1])), (i1, .inl (cI, 12, .inl (fun x9 => nI (ih x9)))), (p0, .inr (5, [.ref p1, .int (zI pf), .int (nI pl)]))] (fun u => [(d0, .inr (1, [.ref d1, .ref d2, .int (zI dn), .int (zB df), .int (zB db), .int (zI dc)])), (d1, .inl (cJ, 3000, .inr (.inl dw))), (d2, .inl (cI, 5, .inl (fun x9 => zI (du x9)))), (i0, .inr (2, [.int (nI iN), .ref i1])), (i1, .inl (cI, 12, .inl (fun x9 => nI (ih x9)))), (p0, .inr (5, [.ref p1, .int (zI pf), .int (nI pl)])), (p1, .inl (cI, 600, .inl (fun x9 => zB ((fun _ => false) x9))))]) rfl rfl (fun _ => rfl) (by decide) ⟨by decide, by decide⟩ 0 0 rfl rfl ⟨by decide, by decide⟩ rfl hl.1 rfl (Nat.le_of_ble_eq_true rfl) dX5_survey_5 (fun u H locs hq9 hZ => ?_)
  have hZ : zS D A s.heap H locs [(d0, .inr (1, [.ref d1, .ref d2, .int (zI dn), .int (zB df), .int (zB db), .int (zI dc)])), (d1, .inl (cJ, 3000, .inr (.inl dw))), (d2, .inl (cI, 5, .inl (fun x9 => zI (du x9)))), (i0, .inr (2, [.int (nI iN), .ref i1])), (i1, .inl (cI, 12, .inl (fun x9 => nI (ih x9)))), (p0, .inr (5, [.ref p1, .int (zI pf), .int (nI pl)])), (p1, .inl (cI, 600, .inl (fun x9 => zB ((fun _ => false) x9))))] := hZ
  refine W.eq (g2 := F0 mth 8 ls []) rfl ?_
  refine lv_aload_n hx hb dX5_survey_8 rfl (lv_at hl 0 rfl) ?_
  refine z_get hE fF_X5_0 hZ 5 rfl (.ref p1) rfl dX5_survey_9 ?_
  refine z_iconst hx hb (nI 0) dX5_survey_12 (by decide) ?_
  refine z_iconst hx hb (nI 1) dX5_survey_13 (by decide) ?_
  refine z_top (show nI 1 = zB true from rfl) ?_
  refine z_iast zB (fun _ => false) true hE hZ 6 0 rfl rfl (by decide) (by omega) dX5_survey_14 [(d0, .inr (1, [.ref d1, .ref d2, .int (zI dn), .int (zB df), .int (zB db), .int (zI dc)])), (d1, .inl (cJ, 3000, .inr (.inl dw))), (d2, .inl (cI, 5, .inl (fun x9 => zI (du x9)))), (i0, .inr (2, [.int (nI iN), .ref i1])), (i1, .inl (cI, 12, .inl (fun x9 => nI (ih x9)))), (p0, .inr (5, [.ref p1, .int (zI pf), .int (nI pl)])), (p1, .inl (cI, 600, .inl (fun x9 => zB ((va_up (fun _ => false) 0 true) x9))))] rfl (fun H locs hZ => ?_)
  refine lv_aload_n hx hb dX5_survey_15 rfl (lv_at hl 0 rfl) ?_
  refine z_sipush hx hb (nI 599) dX5_survey_16 (by decide) ?_
  refine z_top (show nI 599 = zI 599 from zI_n _) ?_
  refine z_put hE fF_X5_1 fP_X5 rfl hZ 5 rfl rfl rfl (Nat.le_of_ble_eq_true rfl) dX5_survey_19 [(d0, .inr (1, [.ref d1, .ref d2, .int (zI dn), .int (zB df), .int (zB db), .int (zI dc)])), (d1, .inl (cJ, 3000, .inr (.inl dw))), (d2, .inl (cI, 5, .inl (fun x9 => zI (du x9)))), (i0, .inr (2, [.int (nI iN), .ref i1])), (i1, .inl (cI, 12, .inl (fun x9 => nI (ih x9)))), (p0, .inr (5, [.ref p1, .int (zI 599), .int (nI pl)])), (p1, .inl (cI, 600, .inl (fun x9 => zB ((va_up (fun _ => false) 0 true) x9))))] rfl (fun H locs hZ => ?_)
  refine z_iconst hx hb (zI (-1)) dX5_survey_22 (by decide) ?_
  refine lv_istore_n (lv' := [(3, .int (zI (-1))), (0, .ref p0), (1, .ref i0), (2, .ref d0)]) hx hb dX5_survey_23 rfl hl (by decide) rfl (fun ls hl => ?_)
  refine z_loop (σ := Int × (Nat → Bool) × Int) (fun (k, w, fv) H locs ls => (-1 ≤ k ∧ k ≤ 5) ∧ (∀ p, w p = true ↔ UA B ih ((k + 1).toNat * 2) p) ∧ (fv = (fc w 600 : Int)) ∧ (C1 B ro w) ∧ (C2 B ro w) ∧ zS D A s.heap H locs [(d0, .inr (1, [.ref d1, .ref d2, .int (zI dn), .int (zB df), .int (zB db), .int (zI dc)])), (d1, .inl (cJ, 3000, .inr (.inl dw))), (d2, .inl (cI, 5, .inl (fun x9 => zI (du x9)))), (i0, .inr (2, [.int (nI iN), .ref i1])), (i1, .inl (cI, 12, .inl (fun x9 => nI (ih x9)))), (p0, .inr (5, [.ref p1, .int (zI fv), .int (nI pl)])), (p1, .inl (cI, 600, .inl (fun x9 => zB (w x9))))] ∧ lv_has ls 5 [(0, .ref p0), (1, .ref i0), (2, .ref d0), (3, .int (zI k))]) (fun (k, w, fv) => (5 - k).toNat) [] ((-1), va_up (fun _ => false) 0 true, 599) ⟨by omega, fun p => by rw [vt]; unfold UA; simp, by have q := fc_up (fun _ => false) 0 600; rw [if_pos (by simp), fc_all] at q; omega, fun p hp hu hr => by rw [show p = 0 by simpa [vt] using hu, hT.1] at hr; omega, fun p hp hu hr => by rw [show p = 0 by simpa [vt] using hu, hT.1] at hr; omega, hZ, lv_sub hl [1, 2, 3, 0] (by first | rfl | (simp only [lv_pick]; rfl))⟩ ?_
  intro x H locs ls hI ih24
  obtain ⟨k, w, fv⟩ := x
  obtain ⟨hk, hw, hfi, hc1, hc2, hZ, hl⟩ := hI
  refine lv_iload_n hx hb dX5_survey_24 rfl (lv_at hl 3 rfl) ?_
  refine z_iconst hx hb (nI 5) dX5_survey_25 (by decide) ?_
  refine z_icmp_ge hx hb 62 dX5_survey_26 (by decide) (C := (5 : Int) ≤ k) (by (try simp only [zI_n]); exact zI_le ⟨by omega, by omega⟩ ⟨by omega, by omega⟩) (fun h26 => ?_) (fun h26 => ?_)
  · skip
    exact z_vret hE hrt9 hlocks hZ (w, fv) rfl (show (∀ p, w p = true ↔ UA B ih 12 p) ∧ (fv = (fc w 600 : Int)) from ⟨by rw [show (12 : Nat) = (k + 1).toNat * 2 by omega]; exact hw, hfi⟩) rfl dX5_survey_62 (Nat.le_of_ble_eq_true rfl) (Nat.le_of_ble_eq_true rfl)
  · skip
    refine z_iconst hx hb (nI 0) dX5_survey_29 (by decide) ?_
    refine lv_istore (lv' := [(4, .int (nI 0)), (0, .ref p0), (1, .ref i0), (2, .ref d0), (3, .int (zI k))]) hx hb dX5_survey_30 hl (by decide) rfl (fun ls hl => ?_)
    refine z_loop (σ := Nat × (Nat → Bool) × Int) (fun (h, w2, fv2) H locs ls => (h ≤ 2) ∧ (∀ p, w2 p = true ↔ UA B ih ((k + 1).toNat * 2 + h) p) ∧ (fv2 = (fc w2 600 : Int)) ∧ (C1 B ro w2) ∧ (C2 B ro w2) ∧ zS D A s.heap H locs [(d0, .inr (1, [.ref d1, .ref d2, .int (zI dn), .int (zB df), .int (zB db), .int (zI dc)])), (d1, .inl (cJ, 3000, .inr (.inl dw))), (d2, .inl (cI, 5, .inl (fun x9 => zI (du x9)))), (i0, .inr (2, [.int (nI iN), .ref i1])), (i1, .inl (cI, 12, .inl (fun x9 => nI (ih x9)))), (p0, .inr (5, [.ref p1, .int (zI fv2), .int (nI pl)])), (p1, .inl (cI, 600, .inl (fun x9 => zB (w2 x9))))] ∧ lv_has ls 5 [(0, .ref p0), (1, .ref i0), (2, .ref d0), (3, .int (zI k)), (4, .int (nI h))]) (fun (h, w2, fv2) => 2 - h) [] (0, w, fv) ⟨by omega, hw, hfi, hc1, hc2, hZ, lv_sub hl [1, 2, 3, 4, 0] (by first | rfl | (simp only [lv_pick]; rfl))⟩ ?_
    intro x H locs ls hI ih32
    obtain ⟨h, w2, fv2⟩ := x
    obtain ⟨hh, hw2, hfi2, hc12, hc22, hZ, hl⟩ := hI
    refine lv_iload hx hb dX5_survey_32 (lv_at hl 4 rfl) ?_
    refine z_iconst hx hb (nI 2) dX5_survey_34 (by decide) ?_
    refine z_icmp_ge hx hb 56 dX5_survey_35 (by decide) (C := 2 ≤ h) (nIle (by omega) (by omega)) (fun h35 => ?_) (fun h35 => ?_)
    · skip
      refine lv_iinc (v := zI (k + 1)) (lv' := [(3, .int (zI (k + 1))), (0, .ref p0), (1, .ref i0), (2, .ref d0), (4, .int (nI h))]) hx hb dX5_survey_56 hl (k := 3) rfl (by (try simp only [zI_n]); exact zI_add _ _) (by decide) rfl (fun ls hl => ?_)
      refine lv_goto (tgt := 24) hx hb dX5_survey_59 (by decide) ?_
      exact ih24 (k + 1, w2, fv2) _ _ _ ⟨by omega, by rw [show (k + 1 + 1).toNat * 2 = (k + 1).toNat * 2 + h by omega]; exact hw2, hfi2, hc12, hc22, hZ, lv_sub hl [1, 2, 3, 0] (by first | rfl | (simp only [lv_pick]; rfl))⟩ (by (try dsimp only); omega)
    · skip
      refine lv_aload_n hx hb dX5_survey_38 rfl (lv_at hl 0 rfl) ?_
      refine lv_aload_n hx hb dX5_survey_39 rfl (lv_at hl 1 rfl) ?_
      refine lv_iload_n hx hb dX5_survey_40 rfl (lv_at hl 3 rfl) ?_
      refine lv_iload hx hb dX5_survey_41 (lv_at hl 4 rfl) ?_
      refine z_kV (As := [.int (zI k), .int (nI h)]) (rest := [.ref p0]) hE hZ (c_X2_halfOf l D cI cJ cZ cII cZZ i0 i1 iN ih k h (zI k) (by omega) (by omega) (rfl)) lL_X2_halfOf lC_X5_28 rfl [3, 4] [0, 1, 2, 5, 6] [0, 1, 2, 5, 6, 3, 4] [(d0, .inr (1, [.ref d1, .ref d2, .int (zI dn), .int (zB df), .int (zB db), .int (zI dc)])), (d1, .inl (cJ, 3000, .inr (.inl dw))), (d2, .inl (cI, 5, .inl (fun x9 => zI (du x9)))), (p0, .inr (5, [.ref p1, .int (zI fv2), .int (nI pl)])), (p1, .inl (cI, 600, .inl (fun x9 => zB (w2 x9))))] (fun u => [(d0, .inr (1, [.ref d1, .ref d2, .int (zI dn), .int (zB df), .int (zB db), .int (zI dc)])), (d1, .inl (cJ, 3000, .inr (.inl dw))), (d2, .inl (cI, 5, .inl (fun x9 => zI (du x9)))), (i0, .inr (2, [.int (nI iN), .ref i1])), (i1, .inl (cI, 12, .inl (fun x9 => nI (ih x9)))), (p0, .inr (5, [.ref p1, .int (zI fv2), .int (nI pl)])), (p1, .inl (cI, 600, .inl (fun x9 => zB (w2 x9))))]) 0 rfl rfl rfl (fun _ => rfl) (by decide) ⟨by decide, by decide⟩ 0 0 rfl rfl ⟨by decide, by decide⟩ rfl hl.1 rfl (Nat.le_of_ble_eq_true rfl) dX5_survey_43 (fun u H locs hq9 hZ => ?_)
      have hZ : zS D A s.heap H locs [(d0, .inr (1, [.ref d1, .ref d2, .int (zI dn), .int (zB df), .int (zB db), .int (zI dc)])), (d1, .inl (cJ, 3000, .inr (.inl dw))), (d2, .inl (cI, 5, .inl (fun x9 => zI (du x9)))), (i0, .inr (2, [.int (nI iN), .ref i1])), (i1, .inl (cI, 12, .inl (fun x9 => nI (ih x9)))), (p0, .inr (5, [.ref p1, .int (zI fv2), .int (nI pl)])), (p1, .inl (cI, 600, .inl (fun x9 => zB (w2 x9))))] := hZ
      refine W.eq (g2 := F0 mth 46 ls [.int (nI (ih ((k + 1).toNat * 2 + h))), .ref p0]) rfl ?_
      have hik := hih ((k + 1).toNat * 2 + h) (by omega)
      refine lv_aload_n hx hb dX5_survey_46 rfl (lv_at hl 2 rfl) ?_
      refine z_kV (As := [.int (nI (ih ((k + 1).toNat * 2 + h))), .ref d0]) (rest := []) hE hZ (c_X5_useHalf l D cI cJ cZ cII cZZ d0 d1 d2 dw du dn df db dc p0 p1 w2 fv2 pl B ro (ih ((k + 1).toNat * 2 + h)) (by rcases hik with z | z <;> omega) (hfi2) (by first | assumption | omega) (by first | assumption | omega) (by rcases hik with z | z; exact Or.inl z; exact Or.inr z.2) ((hw2 0).mpr (Or.inl rfl)) (hc12) (hc22)) lL_X5_useHalf lC_X5_34 rfl [0, 1, 2, 5, 6] [3, 4] [2, 3, 4, 0, 1, 5, 6] [(i0, .inr (2, [.int (nI iN), .ref i1])), (i1, .inl (cI, 12, .inl (fun x9 => nI (ih x9))))] (fun u => [(d0, .inr (1, [.ref d1, .ref d2, .int (zI dn), .int (zB df), .int (zB db), .int (zI dc)])), (d1, .inl (cJ, 3000, .inr (.inl dw))), (d2, .inl (cI, 5, .inl (fun x9 => zI (du x9)))), (i0, .inr (2, [.int (nI iN), .ref i1])), (i1, .inl (cI, 12, .inl (fun x9 => nI (ih x9)))), (p0, .inr (5, [.ref p1, .int (zI u.2), .int (nI pl)])), (p1, .inl (cI, 600, .inl (fun x9 => zB (u.1 x9))))]) 3 rfl rfl rfl (fun _ => rfl) (by decide) ⟨by decide, by decide⟩ 0 0 rfl rfl ⟨by decide, by decide⟩ rfl hl.1 rfl (Nat.le_of_ble_eq_true rfl) dX5_survey_47 (fun u H locs hq9 hZ => ?_)
      obtain ⟨pu1_47, pf1_47⟩ := u
      obtain ⟨hq_47, hq2_47, hq3_47, hq4_47⟩ := hq9
      have hq_47 : ∀ p, pu1_47 p = true ↔ w2 p = true ∨ ((ih ((k + 1).toNat * 2 + h)) ≠ 0 ∧ cHlf B (ih ((k + 1).toNat * 2 + h)) p) := hq_47
      have hq2_47 : pf1_47 = (fc pu1_47 600 : Int) := hq2_47
      have hq3_47 : C2 B ro pu1_47 := hq3_47
      have hq4_47 : C1 B ro pu1_47 := hq4_47
      have hZ : zS D A s.heap H locs [(d0, .inr (1, [.ref d1, .ref d2, .int (zI dn), .int (zB df), .int (zB db), .int (zI dc)])), (d1, .inl (cJ, 3000, .inr (.inl dw))), (d2, .inl (cI, 5, .inl (fun x9 => zI (du x9)))), (i0, .inr (2, [.int (nI iN), .ref i1])), (i1, .inl (cI, 12, .inl (fun x9 => nI (ih x9)))), (p0, .inr (5, [.ref p1, .int (zI pf1_47), .int (nI pl)])), (p1, .inl (cI, 600, .inl (fun x9 => zB (pu1_47 x9))))] := hZ
      refine W.eq (g2 := F0 mth 50 ls []) rfl ?_
      refine lv_iinc (v := nI (h + 1)) (lv' := [(4, .int (nI (h + 1))), (0, .ref p0), (1, .ref i0), (2, .ref d0), (3, .int (zI k))]) hx hb dX5_survey_50 hl (k := 4) rfl (nI_add _ _) (by decide) rfl (fun ls hl => ?_)
      refine lv_goto (tgt := 32) hx hb dX5_survey_53 (by decide) ?_
      exact ih32 (h + 1, pu1_47, pf1_47) _ _ _ ⟨by omega, fun p => by rw [hq_47 p, hw2 p]; exact UA_s, hq2_47, hq4_47, hq3_47, hZ, lv_sub hl [1, 2, 3, 4, 0] (by first | rfl | (simp only [lv_pick]; rfl))⟩ (by (try dsimp only); omega)
