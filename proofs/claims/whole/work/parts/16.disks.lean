set_option maxHeartbeats 1000000 in
set_option maxRecDepth 100000 in
theorem c_X1_due (l : Launch) (D : va_G) (cI cJ cZ cII cZZ : ClassId) (d0 : Nat) (d1 : Nat) (d2 : Nat) (dw : Nat → Int64) (du : Nat → Int) (dn : Int) (df : Bool) (db : Bool) (dc : Int) (B : Nat → Int64) (d : Nat) (o : Nat) (hd : d < 5) (ho : o < 600) (hR : DU B dw du dn) :
    zC l yX1_due cX1_due 6 (some .long) { frames := 0, cells := 0, slots := 0, locals := 0 } D (zT cI cJ cZ cII cZZ) [.ref d0, .int (nI d), .int (nI o)] [(d0, .inr (1, [.ref d1, .ref d2, .int (zI dn), .int (zB df), .int (zB db), .int (zI dc)])), (d1, .inl (cJ, 3000, .inr (.inl dw))), (d2, .inl (cI, 5, .inl (fun x9 => zI (du x9))))] (S := Unit) (fun u => some (.long (Bd B d o))) (fun u => True) (fun u => [(d0, .inr (1, [.ref d1, .ref d2, .int (zI dn), .int (zB df), .int (zB db), .int (zI dc)])), (d1, .inl (cJ, 3000, .inr (.inl dw))), (d2, .inl (cI, 5, .inl (fun x9 => zI (du x9))))]) := by
  refine zC_of (by decide) (Nat.le_of_ble_eq_true rfl) ?_
  intro prg env s mth below meth cde A ls hE hrt9 hlocks hnm hZ hl
  have hx := hE.1
  have hb := hE.2.1
  have hl : lv_has ls 6 [(0, .ref d0), (1, .int (nI d)), (2, .int (nI o))] := hl
  refine lv_iload_n hx hb dX1_due_0 rfl (lv_at hl 2 rfl) ?_
  refine z_iconst hx hb (nI 4) dX1_due_1 (by decide) ?_
  refine z_idiv hx hb dX1_due_2 (by omega) (by omega) (by omega) ?_
  refine lv_aload_n hx hb dX1_due_3 rfl (lv_at hl 0 rfl) ?_
  refine z_get hE fF_X1_1 hZ 0 rfl (.ref d2) rfl dX1_due_4 ?_
  refine lv_iload_n hx hb dX1_due_7 rfl (lv_at hl 1 rfl) ?_
  refine z_iald hE hZ 2 0 rfl rfl (by decide) (by omega) dX1_due_8 ?_
  have hb8 := hR.2.1 d hd
  refine z_icmp_ge hx hb 25 dX1_due_9 (by decide) (C := (du d : Int) ≤ ((o / 4 : Nat) : Int)) (by (try simp only [zI_n]); exact zI_le ⟨by omega, by omega⟩ ⟨by omega, by omega⟩) (fun h9 => ?_) (fun h9 => ?_)
  · skip
    refine lv_lconst (v := 0) hx hb dX1_due_25 (by decide) ?_
    refine lv_lstore_n (lv' := [(3, .long 0), (0, .ref d0), (1, .int (nI d)), (2, .int (nI o))]) hx hb dX1_due_26 rfl hl (by decide) rfl (fun ls hl => ?_)
    refine z_iconst hx hb (nI 0) dX1_due_27 (by decide) ?_
    refine lv_istore (lv' := [(5, .int (nI 0)), (3, .long 0), (0, .ref d0), (1, .int (nI d)), (2, .int (nI o))]) hx hb dX1_due_28 hl (by decide) rfl (fun ls hl => ?_)
    refine z_loop (σ := Nat × Int64) (fun (i, x) H locs ls => (i ≤ 5) ∧ (x = xr (fun j => dw (j * 600 + o)) d i) ∧ zS D A s.heap H locs [(d0, .inr (1, [.ref d1, .ref d2, .int (zI dn), .int (zB df), .int (zB db), .int (zI dc)])), (d1, .inl (cJ, 3000, .inr (.inl dw))), (d2, .inl (cI, 5, .inl (fun x9 => zI (du x9))))] ∧ lv_has ls 6 [(0, .ref d0), (1, .int (nI d)), (2, .int (nI o)), (3, .long x), (5, .int (nI i))]) (fun (i, x) => 5 - i) [] (0, 0) ⟨by omega, rfl, hZ, lv_sub hl [2, 3, 4, 1, 0] (by first | rfl | (simp only [lv_pick]; rfl))⟩ ?_
    intro x H locs ls hI ih30
    obtain ⟨i, x⟩ := x
    obtain ⟨hi, hxx, hZ, hl⟩ := hI
    refine lv_iload hx hb dX1_due_30 (lv_at hl 4 rfl) ?_
    refine z_iconst hx hb (nI 5) dX1_due_32 (by decide) ?_
    refine z_icmp_ge hx hb 64 dX1_due_33 (by decide) (C := 5 ≤ i) (nIle (by omega) (by omega)) (fun h33 => ?_) (fun h33 => ?_)
    · skip
      refine lv_lload_n hx hb dX1_due_64 rfl (lv_at hl 3 rfl) ?_
      refine z_topl (show x = Bd B d o from by rw [hxx, show i = 5 by omega]; exact xr_due hR hd ho (by omega)) ?_
      exact z_lret hE hrt9 hlocks hZ () rfl trivial rfl dX1_due_65 (Nat.le_of_ble_eq_true rfl) (Nat.le_of_ble_eq_true rfl)
    · skip
      refine lv_iload hx hb dX1_due_36 (lv_at hl 4 rfl) ?_
      refine lv_iload_n hx hb dX1_due_38 rfl (lv_at hl 1 rfl) ?_
      refine z_icmp_eq hx hb 58 dX1_due_39 (by decide) (C := i = d) (nI_eq (by omega) (by omega)) (fun h39 => ?_) (fun h39 => ?_)
      · skip
        refine lv_iinc (v := nI (i + 1)) (lv' := [(5, .int (nI (i + 1))), (0, .ref d0), (1, .int (nI d)), (2, .int (nI o)), (3, .long x)]) hx hb dX1_due_58 hl (k := 4) rfl (nI_add _ _) (by decide) rfl (fun ls hl => ?_)
        refine lv_goto (tgt := 30) hx hb dX1_due_61 (by decide) ?_
        exact ih30 (i + 1, x) _ _ _ ⟨by omega, by first | (rw [hxx]; simp only [xr]; rw [if_pos h39]) | (rw [hxx]; simp only [xr]; rw [if_neg h39]), hZ, lv_sub hl [1, 2, 3, 4, 0] (by first | rfl | (simp only [lv_pick]; rfl))⟩ (by (try dsimp only); omega)
      · skip
        refine lv_lload_n hx hb dX1_due_42 rfl (lv_at hl 3 rfl) ?_
        refine lv_aload_n hx hb dX1_due_43 rfl (lv_at hl 0 rfl) ?_
        refine z_get hE fF_X1_0 hZ 0 rfl (.ref d1) rfl dX1_due_44 ?_
        refine lv_iload hx hb dX1_due_47 (lv_at hl 4 rfl) ?_
        refine z_sipush hx hb (nI 600) dX1_due_49 (by decide) ?_
        refine z_imul hx hb dX1_due_52 (z := nI (i * 600)) (pk_mul _ _) ?_
        refine lv_iload_n hx hb dX1_due_53 rfl (lv_at hl 2 rfl) ?_
        refine z_iadd hx hb dX1_due_54 (z := nI ((i * 600) + o)) (nI_add _ _) ?_
        refine z_lald hE hZ 1 1 rfl rfl (by decide) (by omega) dX1_due_55 ?_
        refine lv_lxor hx hb dX1_due_56 ?_
        refine lv_lstore_n (lv' := [(3, .long (x ^^^ (dw ((i * 600) + o)))), (0, .ref d0), (1, .int (nI d)), (2, .int (nI o)), (5, .int (nI i))]) hx hb dX1_due_57 rfl hl (by decide) rfl (fun ls hl => ?_)
        refine lv_iinc (v := nI (i + 1)) (lv' := [(5, .int (nI (i + 1))), (3, .long (x ^^^ (dw ((i * 600) + o)))), (0, .ref d0), (1, .int (nI d)), (2, .int (nI o))]) hx hb dX1_due_58 hl (k := 4) rfl (nI_add _ _) (by decide) rfl (fun ls hl => ?_)
        refine lv_goto (tgt := 30) hx hb dX1_due_61 (by decide) ?_
        exact ih30 (i + 1, x ^^^ (dw ((i * 600) + o))) _ _ _ ⟨by omega, by first | (rw [hxx]; simp only [xr]; rw [if_pos h39]) | (rw [hxx]; simp only [xr]; rw [if_neg h39]), hZ, lv_sub hl [2, 3, 4, 1, 0] (by first | rfl | (simp only [lv_pick]; rfl))⟩ (by (try dsimp only); omega)
  · skip
    refine lv_aload_n hx hb dX1_due_12 rfl (lv_at hl 0 rfl) ?_
    refine z_get hE fF_X1_0 hZ 0 rfl (.ref d1) rfl dX1_due_13 ?_
    refine lv_iload_n hx hb dX1_due_16 rfl (lv_at hl 1 rfl) ?_
    refine z_sipush hx hb (nI 600) dX1_due_17 (by decide) ?_
    refine z_imul hx hb dX1_due_20 (z := nI (d * 600)) (pk_mul _ _) ?_
    refine lv_iload_n hx hb dX1_due_21 rfl (lv_at hl 2 rfl) ?_
    refine z_iadd hx hb dX1_due_22 (z := nI ((d * 600) + o)) (nI_add _ _) ?_
    refine z_lald hE hZ 1 1 rfl rfl (by decide) (by omega) dX1_due_23 ?_
    refine z_topl (show dw ((d * 600) + o) = Bd B d o from hR.2.2.2 d o hd ho (by omega)) ?_
    exact z_lret hE hrt9 hlocks hZ () rfl trivial rfl dX1_due_24 (Nat.le_of_ble_eq_true rfl) (Nat.le_of_ble_eq_true rfl)
set_option maxHeartbeats 1000000 in
set_option maxRecDepth 100000 in
theorem c_X1_wipe (l : Launch) (D : va_G) (cI cJ cZ cII cZZ : ClassId) (d0 : Nat) (d1 : Nat) (d2 : Nat) (dw : Nat → Int64) (du : Nat → Int) (dn : Int) (df : Bool) (db : Bool) (dc : Int)   :
    zC l yX1_wipe cX1_wipe 1 none { frames := 1, cells := 0, slots := 0, locals := 24 } D (zT cI cJ cZ cII cZZ) [.ref d0] [(d0, .inr (1, [.ref d1, .ref d2, .int (zI dn), .int (zB df), .int (zB db), .int (zI dc)])), (d1, .inl (cJ, 3000, .inr (.inl dw))), (d2, .inl (cI, 5, .inl (fun x9 => zI (du x9))))] (S := Unit) (fun u => none) (fun u => True) (fun u => [(d0, .inr (1, [.ref d1, .ref d2, .int (zI (-1)), .int (zB false), .int (zB false), .int (zI 0)])), (d1, .inl (cJ, 3000, .inr (.inl (fun _ => 0)))), (d2, .inl (cI, 5, .inl (fun x9 => zI ((fun _ => 150) x9))))]) := by
  refine zC_of (by decide) (Nat.le_of_ble_eq_true rfl) ?_
  intro prg env s mth below meth cde A ls hE hrt9 hlocks hnm hZ hl
  have hx := hE.1
  have hb := hE.2.1
  have hl : lv_has ls 1 [(0, .ref d0)] := hl
  refine lv_aload_n hx hb dX1_wipe_0 rfl (lv_at hl 0 rfl) ?_
  refine z_get hE fF_X1_0 hZ 0 rfl (.ref d1) rfl dX1_wipe_1 ?_
  refine lv_lconst (v := 0) hx hb dX1_wipe_4 (by decide) ?_
  refine z_kS (As := [.ref d1, .long 0]) (rest := []) hE hZ (c_J7_fill_d0a16 l D cI cJ cZ cII cZZ d1 3000 dw 0 (by decide)) lL_J7_fill_d0a16 lC_X1_23 [1] [0, 2] [0, 2, 1] [(d0, .inr (1, [.ref d1, .ref d2, .int (zI dn), .int (zB df), .int (zB db), .int (zI dc)])), (d2, .inl (cI, 5, .inl (fun x9 => zI (du x9))))] (fun u => [(d0, .inr (1, [.ref d1, .ref d2, .int (zI dn), .int (zB df), .int (zB db), .int (zI dc)])), (d1, .inl (cJ, 3000, .inr (.inl (fun _ => 0)))), (d2, .inl (cI, 5, .inl (fun x9 => zI (du x9))))]) rfl rfl (fun _ => rfl) (by decide) ⟨by decide, by decide⟩ 0 0 rfl rfl ⟨by decide, by decide⟩ rfl hl.1 rfl (Nat.le_of_ble_eq_true rfl) dX1_wipe_5 (fun u H locs hq9 hZ => ?_)
  have hZ : zS D A s.heap H locs [(d0, .inr (1, [.ref d1, .ref d2, .int (zI dn), .int (zB df), .int (zB db), .int (zI dc)])), (d1, .inl (cJ, 3000, .inr (.inl (fun _ => 0)))), (d2, .inl (cI, 5, .inl (fun x9 => zI (du x9))))] := hZ
  refine W.eq (g2 := F0 mth 8 ls []) rfl ?_
  refine lv_aload_n hx hb dX1_wipe_8 rfl (lv_at hl 0 rfl) ?_
  refine z_get hE fF_X1_1 hZ 0 rfl (.ref d2) rfl dX1_wipe_9 ?_
  refine z_sipush hx hb (nI 150) dX1_wipe_12 (by decide) ?_
  refine z_kS (As := [.ref d2, .int (nI 150)]) (rest := []) hE hZ (c_J7_fill_53178 l D cI cJ cZ cII cZZ d2 5 (fun k => zI (du k)) (nI 150) (by decide)) lL_J7_fill_53178 lC_X1_29 [2] [0, 1] [0, 1, 2] [(d0, .inr (1, [.ref d1, .ref d2, .int (zI dn), .int (zB df), .int (zB db), .int (zI dc)])), (d1, .inl (cJ, 3000, .inr (.inl (fun _ => 0))))] (fun u => [(d0, .inr (1, [.ref d1, .ref d2, .int (zI dn), .int (zB df), .int (zB db), .int (zI dc)])), (d1, .inl (cJ, 3000, .inr (.inl (fun _ => 0)))), (d2, .inl (cI, 5, .inl (fun x9 => zI ((fun _ => 150) x9))))]) rfl rfl (fun _ => rfl) (by decide) ⟨by decide, by decide⟩ 0 0 rfl rfl ⟨by decide, by decide⟩ rfl hl.1 rfl (Nat.le_of_ble_eq_true rfl) dX1_wipe_15 (fun u H locs hq9 hZ => ?_)
  have hZ : zS D A s.heap H locs [(d0, .inr (1, [.ref d1, .ref d2, .int (zI dn), .int (zB df), .int (zB db), .int (zI dc)])), (d1, .inl (cJ, 3000, .inr (.inl (fun _ => 0)))), (d2, .inl (cI, 5, .inl (fun x9 => zI ((fun _ => 150) x9))))] := hZ
  refine W.eq (g2 := F0 mth 18 ls []) rfl ?_
  refine lv_aload_n hx hb dX1_wipe_18 rfl (lv_at hl 0 rfl) ?_
  refine z_iconst hx hb (zI (-1)) dX1_wipe_19 (by decide) ?_
  refine z_put hE fF_X1_2 fP_X1 rfl hZ 0 rfl rfl rfl (Nat.le_of_ble_eq_true rfl) dX1_wipe_20 [(d0, .inr (1, [.ref d1, .ref d2, .int (zI (-1)), .int (zB df), .int (zB db), .int (zI dc)])), (d1, .inl (cJ, 3000, .inr (.inl (fun _ => 0)))), (d2, .inl (cI, 5, .inl (fun x9 => zI ((fun _ => 150) x9))))] rfl (fun H locs hZ => ?_)
  refine lv_aload_n hx hb dX1_wipe_23 rfl (lv_at hl 0 rfl) ?_
  refine z_iconst hx hb (nI 0) dX1_wipe_24 (by decide) ?_
  refine z_top (show nI 0 = zB false from rfl) ?_
  refine z_put hE fF_X1_3 fP_X1 rfl hZ 0 rfl (zB_nar _) (zB_fit _) (Nat.le_of_ble_eq_true rfl) dX1_wipe_25 [(d0, .inr (1, [.ref d1, .ref d2, .int (zI (-1)), .int (zB false), .int (zB db), .int (zI dc)])), (d1, .inl (cJ, 3000, .inr (.inl (fun _ => 0)))), (d2, .inl (cI, 5, .inl (fun x9 => zI ((fun _ => 150) x9))))] rfl (fun H locs hZ => ?_)
  refine lv_aload_n hx hb dX1_wipe_28 rfl (lv_at hl 0 rfl) ?_
  refine z_iconst hx hb (nI 0) dX1_wipe_29 (by decide) ?_
  refine z_top (show nI 0 = zB false from rfl) ?_
  refine z_put hE fF_X1_4 fP_X1 rfl hZ 0 rfl (zB_nar _) (zB_fit _) (Nat.le_of_ble_eq_true rfl) dX1_wipe_30 [(d0, .inr (1, [.ref d1, .ref d2, .int (zI (-1)), .int (zB false), .int (zB false), .int (zI dc)])), (d1, .inl (cJ, 3000, .inr (.inl (fun _ => 0)))), (d2, .inl (cI, 5, .inl (fun x9 => zI ((fun _ => 150) x9))))] rfl (fun H locs hZ => ?_)
  refine lv_aload_n hx hb dX1_wipe_33 rfl (lv_at hl 0 rfl) ?_
  refine z_iconst hx hb (nI 0) dX1_wipe_34 (by decide) ?_
  refine z_top (show nI 0 = zI 0 from zI_n _) ?_
  refine z_put hE fF_X1_5 fP_X1 rfl hZ 0 rfl rfl rfl (Nat.le_of_ble_eq_true rfl) dX1_wipe_35 [(d0, .inr (1, [.ref d1, .ref d2, .int (zI (-1)), .int (zB false), .int (zB false), .int (zI 0)])), (d1, .inl (cJ, 3000, .inr (.inl (fun _ => 0)))), (d2, .inl (cI, 5, .inl (fun x9 => zI ((fun _ => 150) x9))))] rfl (fun H locs hZ => ?_)
  exact z_vret hE hrt9 hlocks hZ () rfl trivial rfl dX1_wipe_38 (Nat.le_of_ble_eq_true rfl) (Nat.le_of_ble_eq_true rfl)
set_option maxHeartbeats 1000000 in
set_option maxRecDepth 100000 in
theorem c_X1_isBroken (l : Launch) (D : va_G) (cI cJ cZ cII cZZ : ClassId) (d0 : Nat) (d1 : Nat) (d2 : Nat) (dw : Nat → Int64) (du : Nat → Int) (dn : Int) (df : Bool) (db : Bool) (dc : Int)   :
    zC l yX1_isBroken cX1_isBroken 1 (some .boolean) { frames := 0, cells := 0, slots := 0, locals := 0 } D (zT cI cJ cZ cII cZZ) [.ref d0] [(d0, .inr (1, [.ref d1, .ref d2, .int (zI dn), .int (zB df), .int (zB db), .int (zI dc)])), (d1, .inl (cJ, 3000, .inr (.inl dw))), (d2, .inl (cI, 5, .inl (fun x9 => zI (du x9))))] (S := Unit) (fun u => some (.int (zB db))) (fun u => True) (fun u => [(d0, .inr (1, [.ref d1, .ref d2, .int (zI dn), .int (zB df), .int (zB db), .int (zI dc)])), (d1, .inl (cJ, 3000, .inr (.inl dw))), (d2, .inl (cI, 5, .inl (fun x9 => zI (du x9))))]) := by
  refine zC_of (by decide) (Nat.le_of_ble_eq_true rfl) ?_
  intro prg env s mth below meth cde A ls hE hrt9 hlocks hnm hZ hl
  have hx := hE.1
  have hb := hE.2.1
  have hl : lv_has ls 1 [(0, .ref d0)] := hl
  refine lv_aload_n hx hb dX1_isBroken_0 rfl (lv_at hl 0 rfl) ?_
  refine z_get hE fF_X1_4 hZ 0 rfl (.int (zB db)) rfl dX1_isBroken_1 ?_
  exact z_zret db rfl hE hrt9 hlocks hZ () rfl trivial rfl dX1_isBroken_4 (Nat.le_of_ble_eq_true rfl) (Nat.le_of_ble_eq_true rfl)
set_option maxHeartbeats 1000000 in
set_option maxRecDepth 100000 in
theorem c_X1_unsound (l : Launch) (D : va_G) (cI cJ cZ cII cZZ : ClassId) (d0 : Nat) (d1 : Nat) (d2 : Nat) (dw : Nat → Int64) (du : Nat → Int) (dn : Int) (df : Bool) (db : Bool) (dc : Int)   :
    zC l yX1_unsound cX1_unsound 1 (some .int) { frames := 0, cells := 0, slots := 0, locals := 0 } D (zT cI cJ cZ cII cZZ) [.ref d0] [(d0, .inr (1, [.ref d1, .ref d2, .int (zI dn), .int (zB df), .int (zB db), .int (zI dc)])), (d1, .inl (cJ, 3000, .inr (.inl dw))), (d2, .inl (cI, 5, .inl (fun x9 => zI (du x9))))] (S := Unit) (fun u => some (.int (zI dn))) (fun u => True) (fun u => [(d0, .inr (1, [.ref d1, .ref d2, .int (zI dn), .int (zB df), .int (zB db), .int (zI dc)])), (d1, .inl (cJ, 3000, .inr (.inl dw))), (d2, .inl (cI, 5, .inl (fun x9 => zI (du x9))))]) := by
  refine zC_of (by decide) (Nat.le_of_ble_eq_true rfl) ?_
  intro prg env s mth below meth cde A ls hE hrt9 hlocks hnm hZ hl
  have hx := hE.1
  have hb := hE.2.1
  have hl : lv_has ls 1 [(0, .ref d0)] := hl
  refine lv_aload_n hx hb dX1_unsound_0 rfl (lv_at hl 0 rfl) ?_
  refine z_get hE fF_X1_2 hZ 0 rfl (.int (zI dn)) rfl dX1_unsound_1 ?_
  exact z_iret hE hrt9 hlocks hZ () rfl trivial rfl dX1_unsound_4 (Nat.le_of_ble_eq_true rfl) (Nat.le_of_ble_eq_true rfl)
set_option maxHeartbeats 1000000 in
set_option maxRecDepth 100000 in
theorem c_X1_hasFailed (l : Launch) (D : va_G) (cI cJ cZ cII cZZ : ClassId) (d0 : Nat) (d1 : Nat) (d2 : Nat) (dw : Nat → Int64) (du : Nat → Int) (dn : Int) (df : Bool) (db : Bool) (dc : Int) (d : Int) (d_q : Int32) (hd : -2147483648 ≤ d ∧ d < 2147483648) (hn : -1 ≤ dn ∧ dn < 5) (d_h : d_q = zI d) :
    zC l yX1_hasFailed cX1_hasFailed 2 (some .boolean) { frames := 0, cells := 0, slots := 0, locals := 0 } D (zT cI cJ cZ cII cZZ) [.ref d0, .int (d_q)] [(d0, .inr (1, [.ref d1, .ref d2, .int (zI dn), .int (zB df), .int (zB db), .int (zI dc)])), (d1, .inl (cJ, 3000, .inr (.inl dw))), (d2, .inl (cI, 5, .inl (fun x9 => zI (du x9))))] (S := Unit) (fun u => some (.int (zB (df && decide (d = dn))))) (fun u => True) (fun u => [(d0, .inr (1, [.ref d1, .ref d2, .int (zI dn), .int (zB df), .int (zB db), .int (zI dc)])), (d1, .inl (cJ, 3000, .inr (.inl dw))), (d2, .inl (cI, 5, .inl (fun x9 => zI (du x9))))]) := by
  refine zC_of (by decide) (Nat.le_of_ble_eq_true rfl) ?_
  intro prg env s mth below meth cde A ls hE hrt9 hlocks hnm hZ hl
  have hx := hE.1
  have hb := hE.2.1
  subst d_h
  have hl : lv_has ls 2 [(0, .ref d0), (1, .int (zI d))] := hl
  refine lv_aload_n hx hb dX1_hasFailed_0 rfl (lv_at hl 0 rfl) ?_
  refine z_get hE fF_X1_3 hZ 0 rfl (.int (zB df)) rfl dX1_hasFailed_1 ?_
  refine z_if_eq hx hb 19 dX1_hasFailed_4 (by decide) (C := df = false) (zB_0 _) (fun h4 => ?_) (fun h4 => ?_)
  · skip
    refine z_iconst hx hb (nI 0) dX1_hasFailed_19 (by decide) ?_
    refine z_top (show nI 0 = zB (df && decide (d = dn)) from by first | (rw [show (df && decide (d = dn)) = true by simp; exact ⟨by simpa using h4, h12⟩]; rfl) | (rw [show (df && decide (d = dn)) = false by simp; intro _; exact h12]; rfl) | (rw [show (df && decide (d = dn)) = false by rw [h4]; rfl]; rfl)) ?_
    exact z_zret (df && decide (d = dn)) rfl hE hrt9 hlocks hZ () rfl trivial rfl dX1_hasFailed_20 (Nat.le_of_ble_eq_true rfl) (Nat.le_of_ble_eq_true rfl)
  · skip
    refine lv_iload_n hx hb dX1_hasFailed_7 rfl (lv_at hl 1 rfl) ?_
    refine lv_aload_n hx hb dX1_hasFailed_8 rfl (lv_at hl 0 rfl) ?_
    refine z_get hE fF_X1_2 hZ 0 rfl (.int (zI dn)) rfl dX1_hasFailed_9 ?_
    refine z_icmp_ne hx hb 19 dX1_hasFailed_12 (by decide) (C := (d : Int) = dn) (by (try simp only [zI_n]); exact zI_eq ⟨by omega, by omega⟩ ⟨by omega, by omega⟩) (fun h12 => ?_) (fun h12 => ?_)
    · skip
      refine z_iconst hx hb (nI 0) dX1_hasFailed_19 (by decide) ?_
      refine z_top (show nI 0 = zB (df && decide (d = dn)) from by first | (rw [show (df && decide (d = dn)) = true by simp; exact ⟨by simpa using h4, h12⟩]; rfl) | (rw [show (df && decide (d = dn)) = false by simp; intro _; exact h12]; rfl) | (rw [show (df && decide (d = dn)) = false by rw [h4]; rfl]; rfl)) ?_
      exact z_zret (df && decide (d = dn)) rfl hE hrt9 hlocks hZ () rfl trivial rfl dX1_hasFailed_20 (Nat.le_of_ble_eq_true rfl) (Nat.le_of_ble_eq_true rfl)
    · skip
      refine z_iconst hx hb (nI 1) dX1_hasFailed_15 (by decide) ?_
      refine lv_goto (tgt := 20) hx hb dX1_hasFailed_16 (by decide) ?_
      refine z_top (show nI 1 = zB (df && decide (d = dn)) from by first | (rw [show (df && decide (d = dn)) = true by simp; exact ⟨by simpa using h4, h12⟩]; rfl) | (rw [show (df && decide (d = dn)) = false by simp; intro _; exact h12]; rfl) | (rw [show (df && decide (d = dn)) = false by rw [h4]; rfl]; rfl)) ?_
      exact z_zret (df && decide (d = dn)) rfl hE hrt9 hlocks hZ () rfl trivial rfl dX1_hasFailed_20 (Nat.le_of_ble_eq_true rfl) (Nat.le_of_ble_eq_true rfl)
set_option maxHeartbeats 1000000 in
set_option maxRecDepth 100000 in
theorem c_X1_rebuiltUpTo (l : Launch) (D : va_G) (cI cJ cZ cII cZZ : ClassId) (d0 : Nat) (d1 : Nat) (d2 : Nat) (dw : Nat → Int64) (du : Nat → Int) (dn : Int) (df : Bool) (db : Bool) (dc : Int)  (hn : -1 ≤ dn ∧ dn < 5) (hu : ∀ d, d < 5 → 0 ≤ du d ∧ du d ≤ 150) :
    zC l yX1_rebuiltUpTo cX1_rebuiltUpTo 1 (some .int) { frames := 0, cells := 0, slots := 0, locals := 0 } D (zT cI cJ cZ cII cZZ) [.ref d0] [(d0, .inr (1, [.ref d1, .ref d2, .int (zI dn), .int (zB df), .int (zB db), .int (zI dc)])), (d1, .inl (cJ, 3000, .inr (.inl dw))), (d2, .inl (cI, 5, .inl (fun x9 => zI (du x9))))] (S := Unit) (fun u => some (.int (zI (if 0 ≤ dn then du dn.toNat else 150)))) (fun u => True) (fun u => [(d0, .inr (1, [.ref d1, .ref d2, .int (zI dn), .int (zB df), .int (zB db), .int (zI dc)])), (d1, .inl (cJ, 3000, .inr (.inl dw))), (d2, .inl (cI, 5, .inl (fun x9 => zI (du x9))))]) := by
  refine zC_of (by decide) (Nat.le_of_ble_eq_true rfl) ?_
  intro prg env s mth below meth cde A ls hE hrt9 hlocks hnm hZ hl
  have hx := hE.1
  have hb := hE.2.1
  have hl : lv_has ls 1 [(0, .ref d0)] := hl
  refine lv_aload_n hx hb dX1_rebuiltUpTo_0 rfl (lv_at hl 0 rfl) ?_
  refine z_get hE fF_X1_2 hZ 0 rfl (.int (zI dn)) rfl dX1_rebuiltUpTo_1 ?_
  refine z_if_lt hx hb 27 dX1_rebuiltUpTo_4 (by decide) (C := dn < 0) (zI_lt0 ⟨by omega, by omega⟩) (fun h4 => ?_) (fun h4 => ?_)
  · skip
    refine z_sipush hx hb (nI 150) dX1_rebuiltUpTo_27 (by decide) ?_
    refine z_top (show nI 150 = zI (if 0 ≤ dn then du dn.toNat else 150) from by first | (rw [if_pos (by omega)]) | (rw [if_neg (by omega)]; rfl)) ?_
    exact z_iret hE hrt9 hlocks hZ () rfl trivial rfl dX1_rebuiltUpTo_30 (Nat.le_of_ble_eq_true rfl) (Nat.le_of_ble_eq_true rfl)
  · skip
    refine lv_aload_n hx hb dX1_rebuiltUpTo_7 rfl (lv_at hl 0 rfl) ?_
    refine z_get hE fF_X1_2 hZ 0 rfl (.int (zI dn)) rfl dX1_rebuiltUpTo_8 ?_
    refine z_iconst hx hb (nI 5) dX1_rebuiltUpTo_11 (by decide) ?_
    refine z_icmp_ge hx hb 27 dX1_rebuiltUpTo_12 (by decide) (C := (5 : Int) ≤ dn) (by (try simp only [zI_n]); exact zI_le ⟨by omega, by omega⟩ ⟨by omega, by omega⟩) (fun h12 => ?_) (fun h12 => ?_)
    · skip
      exfalso
      omega
    · skip
      refine lv_aload_n hx hb dX1_rebuiltUpTo_15 rfl (lv_at hl 0 rfl) ?_
      refine z_get hE fF_X1_1 hZ 0 rfl (.ref d2) rfl dX1_rebuiltUpTo_16 ?_
      refine lv_aload_n hx hb dX1_rebuiltUpTo_19 rfl (lv_at hl 0 rfl) ?_
      refine z_get hE fF_X1_2 hZ 0 rfl (.int (zI dn)) rfl dX1_rebuiltUpTo_20 ?_
      refine z_top (show zI dn = nI dn.toNat from zI_inN (by omega) (by omega)) ?_
      refine z_iald hE hZ 2 0 rfl rfl (by decide) (by omega) dX1_rebuiltUpTo_23 ?_
      refine lv_goto (tgt := 30) hx hb dX1_rebuiltUpTo_24 (by decide) ?_
      refine z_top (show zI (du dn.toNat) = zI (if 0 ≤ dn then du dn.toNat else 150) from by first | (rw [if_pos (by omega)]) | (rw [if_neg (by omega)]; rfl)) ?_
      exact z_iret hE hrt9 hlocks hZ () rfl trivial rfl dX1_rebuiltUpTo_30 (Nat.le_of_ble_eq_true rfl) (Nat.le_of_ble_eq_true rfl)
set_option maxHeartbeats 1000000 in
set_option maxRecDepth 100000 in
theorem c_X1_writings (l : Launch) (D : va_G) (cI cJ cZ cII cZZ : ClassId) (d0 : Nat) (d1 : Nat) (d2 : Nat) (dw : Nat → Int64) (du : Nat → Int) (dn : Int) (df : Bool) (db : Bool) (dc : Int)   :
    zC l yX1_writings cX1_writings 1 (some .int) { frames := 0, cells := 0, slots := 0, locals := 0 } D (zT cI cJ cZ cII cZZ) [.ref d0] [(d0, .inr (1, [.ref d1, .ref d2, .int (zI dn), .int (zB df), .int (zB db), .int (zI dc)])), (d1, .inl (cJ, 3000, .inr (.inl dw))), (d2, .inl (cI, 5, .inl (fun x9 => zI (du x9))))] (S := Unit) (fun u => some (.int (zI dc))) (fun u => True) (fun u => [(d0, .inr (1, [.ref d1, .ref d2, .int (zI dn), .int (zB df), .int (zB db), .int (zI dc)])), (d1, .inl (cJ, 3000, .inr (.inl dw))), (d2, .inl (cI, 5, .inl (fun x9 => zI (du x9))))]) := by
  refine zC_of (by decide) (Nat.le_of_ble_eq_true rfl) ?_
  intro prg env s mth below meth cde A ls hE hrt9 hlocks hnm hZ hl
  have hx := hE.1
  have hb := hE.2.1
  have hl : lv_has ls 1 [(0, .ref d0)] := hl
  refine lv_aload_n hx hb dX1_writings_0 rfl (lv_at hl 0 rfl) ?_
  refine z_get hE fF_X1_5 hZ 0 rfl (.int (zI dc)) rfl dX1_writings_1 ?_
  exact z_iret hE hrt9 hlocks hZ () rfl trivial rfl dX1_writings_4 (Nat.le_of_ble_eq_true rfl) (Nat.le_of_ble_eq_true rfl)
set_option maxHeartbeats 1000000 in
set_option maxRecDepth 100000 in
theorem c_X1_standing (l : Launch) (D : va_G) (cI cJ cZ cII cZZ : ClassId) (d0 : Nat) (d1 : Nat) (d2 : Nat) (dw : Nat → Int64) (du : Nat → Int) (dn : Int) (df : Bool) (db : Bool) (dc : Int) (d : Nat) (b : Nat) (w : Nat) (hd : d < 5) (hb1 : b < 150) (hw : w < 4) :
    zC l yX1_standing cX1_standing 4 (some .long) { frames := 0, cells := 0, slots := 0, locals := 0 } D (zT cI cJ cZ cII cZZ) [.ref d0, .int (nI d), .int (nI b), .int (nI w)] [(d0, .inr (1, [.ref d1, .ref d2, .int (zI dn), .int (zB df), .int (zB db), .int (zI dc)])), (d1, .inl (cJ, 3000, .inr (.inl dw))), (d2, .inl (cI, 5, .inl (fun x9 => zI (du x9))))] (S := Unit) (fun u => some (.long (dw (d * 600 + b * 4 + w)))) (fun u => True) (fun u => [(d0, .inr (1, [.ref d1, .ref d2, .int (zI dn), .int (zB df), .int (zB db), .int (zI dc)])), (d1, .inl (cJ, 3000, .inr (.inl dw))), (d2, .inl (cI, 5, .inl (fun x9 => zI (du x9))))]) := by
  refine zC_of (by decide) (Nat.le_of_ble_eq_true rfl) ?_
  intro prg env s mth below meth cde A ls hE hrt9 hlocks hnm hZ hl
  have hx := hE.1
  have hb := hE.2.1
  have hl : lv_has ls 4 [(0, .ref d0), (1, .int (nI d)), (2, .int (nI b)), (3, .int (nI w))] := hl
  refine lv_iload_n hx hb dX1_standing_0 rfl (lv_at hl 1 rfl) ?_
  refine z_if_lt hx hb 29 dX1_standing_1 (by decide) (C := False) (nI_lt0 (by omega)) (fun h1 => ?_) (fun h1 => ?_)
  · skip
    exact h1.elim
  · skip
    refine lv_iload_n hx hb dX1_standing_4 rfl (lv_at hl 1 rfl) ?_
    refine z_iconst hx hb (nI 5) dX1_standing_5 (by decide) ?_
    refine z_icmp_ge hx hb 29 dX1_standing_6 (by decide) (C := 5 ≤ d) (nIle (by omega) (by omega)) (fun h6 => ?_) (fun h6 => ?_)
    · skip
      exfalso
      omega
    · skip
      refine lv_iload_n hx hb dX1_standing_9 rfl (lv_at hl 2 rfl) ?_
      refine z_if_lt hx hb 29 dX1_standing_10 (by decide) (C := False) (nI_lt0 (by omega)) (fun h10 => ?_) (fun h10 => ?_)
      · skip
        exact h10.elim
      · skip
        refine lv_iload_n hx hb dX1_standing_13 rfl (lv_at hl 2 rfl) ?_
        refine z_sipush hx hb (nI 150) dX1_standing_14 (by decide) ?_
        refine z_icmp_ge hx hb 29 dX1_standing_17 (by decide) (C := 150 ≤ b) (nIle (by omega) (by omega)) (fun h17 => ?_) (fun h17 => ?_)
        · skip
          exfalso
          omega
        · skip
          refine lv_iload_n hx hb dX1_standing_20 rfl (lv_at hl 3 rfl) ?_
          refine z_if_lt hx hb 29 dX1_standing_21 (by decide) (C := False) (nI_lt0 (by omega)) (fun h21 => ?_) (fun h21 => ?_)
          · skip
            exact h21.elim
          · skip
            refine lv_iload_n hx hb dX1_standing_24 rfl (lv_at hl 3 rfl) ?_
            refine z_iconst hx hb (nI 4) dX1_standing_25 (by decide) ?_
            refine z_icmp_lt hx hb 31 dX1_standing_26 (by decide) (C := w < 4) (nIlt (by omega) (by omega)) (fun h26 => ?_) (fun h26 => ?_)
            · skip
              refine lv_aload_n hx hb dX1_standing_31 rfl (lv_at hl 0 rfl) ?_
              refine z_get hE fF_X1_0 hZ 0 rfl (.ref d1) rfl dX1_standing_32 ?_
              refine lv_iload_n hx hb dX1_standing_35 rfl (lv_at hl 1 rfl) ?_
              refine z_sipush hx hb (nI 600) dX1_standing_36 (by decide) ?_
              refine z_imul hx hb dX1_standing_39 (z := nI (d * 600)) (pk_mul _ _) ?_
              refine lv_iload_n hx hb dX1_standing_40 rfl (lv_at hl 2 rfl) ?_
              refine z_iconst hx hb (nI 4) dX1_standing_41 (by decide) ?_
              refine z_imul hx hb dX1_standing_42 (z := nI (b * 4)) (pk_mul _ _) ?_
              refine z_iadd hx hb dX1_standing_43 (z := nI ((d * 600) + (b * 4))) (nI_add _ _) ?_
              refine lv_iload_n hx hb dX1_standing_44 rfl (lv_at hl 3 rfl) ?_
              refine z_iadd hx hb dX1_standing_45 (z := nI (((d * 600) + (b * 4)) + w)) (nI_add _ _) ?_
              refine z_lald hE hZ 1 1 rfl rfl (by decide) (by omega) dX1_standing_46 ?_
              refine z_topl (show dw (((d * 600) + (b * 4)) + w) = dw (d * 600 + b * 4 + w) from by first | rfl | (congr 1; omega) | simp_all) ?_
              exact z_lret hE hrt9 hlocks hZ () rfl trivial rfl dX1_standing_47 (Nat.le_of_ble_eq_true rfl) (Nat.le_of_ble_eq_true rfl)
            · skip
              exfalso
              omega
set_option maxHeartbeats 1000000 in
set_option maxRecDepth 100000 in
theorem c_X1_word (l : Launch) (D : va_G) (cI cJ cZ cII cZZ : ClassId) (d0 : Nat) (d1 : Nat) (d2 : Nat) (dw : Nat → Int64) (du : Nat → Int) (dn : Int) (df : Bool) (db : Bool) (dc : Int) (B : Nat → Int64) (p : Nat) (i : Nat) (hp : p < 600) (hi : i < 4) (hR : DR B dw du dn df) :
    zC l yX1_word cX1_word 3 (some .long) { frames := 1, cells := 0, slots := 0, locals := 25 } D (zT cI cJ cZ cII cZZ) [.ref d0, .int (nI p), .int (nI i)] [(d0, .inr (1, [.ref d1, .ref d2, .int (zI dn), .int (zB df), .int (zB db), .int (zI dc)])), (d1, .inl (cJ, 3000, .inr (.inl dw))), (d2, .inl (cI, 5, .inl (fun x9 => zI (du x9))))] (S := Unit) (fun u => some (.long (B (4 * p + i)))) (fun u => True) (fun u => [(d0, .inr (1, [.ref d1, .ref d2, .int (zI dn), .int (zB df), .int (zB db), .int (zI dc)])), (d1, .inl (cJ, 3000, .inr (.inl dw))), (d2, .inl (cI, 5, .inl (fun x9 => zI (du x9))))]) := by
  refine zC_of (by decide) (Nat.le_of_ble_eq_true rfl) ?_
  intro prg env s mth below meth cde A ls hE hrt9 hlocks hnm hZ hl
  have hx := hE.1
  have hb := hE.2.1
  have hl : lv_has ls 3 [(0, .ref d0), (1, .int (nI p)), (2, .int (nI i))] := hl
  refine lv_iload_n hx hb dX1_word_0 rfl (lv_at hl 1 rfl) ?_
  refine z_if_lt hx hb 20 dX1_word_1 (by decide) (C := False) (nI_lt0 (by omega)) (fun h1 => ?_) (fun h1 => ?_)
  · skip
    exact h1.elim
  · skip
    refine lv_iload_n hx hb dX1_word_4 rfl (lv_at hl 1 rfl) ?_
    refine z_sipush hx hb (nI 600) dX1_word_5 (by decide) ?_
    refine z_icmp_ge hx hb 20 dX1_word_8 (by decide) (C := 600 ≤ p) (nIle (by omega) (by omega)) (fun h8 => ?_) (fun h8 => ?_)
    · skip
      exfalso
      omega
    · skip
      refine lv_iload_n hx hb dX1_word_11 rfl (lv_at hl 2 rfl) ?_
      refine z_if_lt hx hb 20 dX1_word_12 (by decide) (C := False) (nI_lt0 (by omega)) (fun h12 => ?_) (fun h12 => ?_)
      · skip
        exact h12.elim
      · skip
        refine lv_iload_n hx hb dX1_word_15 rfl (lv_at hl 2 rfl) ?_
        refine z_iconst hx hb (nI 4) dX1_word_16 (by decide) ?_
        refine z_icmp_lt hx hb 22 dX1_word_17 (by decide) (C := i < 4) (nIlt (by omega) (by omega)) (fun h17 => ?_) (fun h17 => ?_)
        · skip
          refine lv_aload_n hx hb dX1_word_22 rfl (lv_at hl 0 rfl) ?_
          refine lv_iload_n hx hb dX1_word_23 rfl (lv_at hl 1 rfl) ?_
          refine z_iconst hx hb (nI 4) dX1_word_24 (by decide) ?_
          refine z_irem hx hb dX1_word_25 (by omega) (by omega) (by omega) ?_
          refine lv_iload_n hx hb dX1_word_26 rfl (lv_at hl 1 rfl) ?_
          refine z_iconst hx hb (nI 4) dX1_word_27 (by decide) ?_
          refine z_idiv hx hb dX1_word_28 (by omega) (by omega) (by omega) ?_
          refine z_iconst hx hb (nI 4) dX1_word_29 (by decide) ?_
          refine z_imul hx hb dX1_word_30 (z := nI ((p / 4) * 4)) (pk_mul _ _) ?_
          refine lv_iload_n hx hb dX1_word_31 rfl (lv_at hl 2 rfl) ?_
          refine z_iadd hx hb dX1_word_32 (z := nI (((p / 4) * 4) + i)) (nI_add _ _) ?_
          refine z_kV (As := [.int (nI (p % 4)), .int (nI (((p / 4) * 4) + i))]) (rest := []) hE hZ (c_X1_due l D cI cJ cZ cII cZZ d0 d1 d2 dw du dn df db dc B (p % 4) (((p / 4) * 4) + i) (by omega) (by omega) (hR.u)) lL_X1_due lC_X1_42 rfl [0, 1, 2] [] [0, 1, 2] [] (fun u => [(d0, .inr (1, [.ref d1, .ref d2, .int (zI dn), .int (zB df), .int (zB db), .int (zI dc)])), (d1, .inl (cJ, 3000, .inr (.inl dw))), (d2, .inl (cI, 5, .inl (fun x9 => zI (du x9))))]) 0 rfl rfl rfl (fun _ => rfl) (by decide) ⟨by decide, by decide⟩ 0 0 rfl rfl ⟨by decide, by decide⟩ rfl hl.1 rfl (Nat.le_of_ble_eq_true rfl) dX1_word_33 (fun u H locs hq9 hZ => ?_)
          have hZ : zS D A s.heap H locs [(d0, .inr (1, [.ref d1, .ref d2, .int (zI dn), .int (zB df), .int (zB db), .int (zI dc)])), (d1, .inl (cJ, 3000, .inr (.inl dw))), (d2, .inl (cI, 5, .inl (fun x9 => zI (du x9))))] := hZ
          refine W.eq (g2 := F0 mth 36 ls [.long (Bd B (p % 4) (((p / 4) * 4) + i))]) rfl ?_
          refine z_topl (show Bd B (p % 4) (((p / 4) * 4) + i) = B (4 * p + i) from by unfold Bd; rw [if_pos (by omega)]; congr 1; omega) ?_
          exact z_lret hE hrt9 hlocks hZ () rfl trivial rfl dX1_word_36 (Nat.le_of_ble_eq_true rfl) (Nat.le_of_ble_eq_true rfl)
        · skip
          exfalso
          omega
set_option maxHeartbeats 1000000 in
set_option maxRecDepth 100000 in
theorem c_X1_number (l : Launch) (D : va_G) (cI cJ cZ cII cZZ : ClassId) (d0 : Nat) (d1 : Nat) (d2 : Nat) (dw : Nat → Int64) (du : Nat → Int) (dn : Int) (df : Bool) (db : Bool) (dc : Int) (B : Nat → Int64) (p : Nat) (i : Nat) (hp : p < 600) (hi : i < 16) (hR : DR B dw du dn df) :
    zC l yX1_number cX1_number 5 (some .int) { frames := 1, cells := 0, slots := 0, locals := 25 } D (zT cI cJ cZ cII cZZ) [.ref d0, .int (nI p), .int (nI i)] [(d0, .inr (1, [.ref d1, .ref d2, .int (zI dn), .int (zB df), .int (zB db), .int (zI dc)])), (d1, .inl (cJ, 3000, .inr (.inl dw))), (d2, .inl (cI, 5, .inl (fun x9 => zI (du x9))))] (S := Unit) (fun u => some (.int (nI (num B p i)))) (fun u => True) (fun u => [(d0, .inr (1, [.ref d1, .ref d2, .int (zI dn), .int (zB df), .int (zB db), .int (zI dc)])), (d1, .inl (cJ, 3000, .inr (.inl dw))), (d2, .inl (cI, 5, .inl (fun x9 => zI (du x9))))]) := by
  refine zC_of (by decide) (Nat.le_of_ble_eq_true rfl) ?_
  intro prg env s mth below meth cde A ls hE hrt9 hlocks hnm hZ hl
  have hx := hE.1
  have hb := hE.2.1
  have hl : lv_has ls 5 [(0, .ref d0), (1, .int (nI p)), (2, .int (nI i))] := hl
  refine lv_iload_n hx hb dX1_number_0 rfl (lv_at hl 1 rfl) ?_
  refine z_if_lt hx hb 21 dX1_number_1 (by decide) (C := False) (nI_lt0 (by omega)) (fun h1 => ?_) (fun h1 => ?_)
  · skip
    exact h1.elim
  · skip
    refine lv_iload_n hx hb dX1_number_4 rfl (lv_at hl 1 rfl) ?_
    refine z_sipush hx hb (nI 600) dX1_number_5 (by decide) ?_
    refine z_icmp_ge hx hb 21 dX1_number_8 (by decide) (C := 600 ≤ p) (nIle (by omega) (by omega)) (fun h8 => ?_) (fun h8 => ?_)
    · skip
      exfalso
      omega
    · skip
      refine lv_iload_n hx hb dX1_number_11 rfl (lv_at hl 2 rfl) ?_
      refine z_if_lt hx hb 21 dX1_number_12 (by decide) (C := False) (nI_lt0 (by omega)) (fun h12 => ?_) (fun h12 => ?_)
      · skip
        exact h12.elim
      · skip
        refine lv_iload_n hx hb dX1_number_15 rfl (lv_at hl 2 rfl) ?_
        refine z_bipush hx hb (nI 16) dX1_number_16 (by decide) ?_
        refine z_icmp_lt hx hb 23 dX1_number_18 (by decide) (C := i < 16) (nIlt (by omega) (by omega)) (fun h18 => ?_) (fun h18 => ?_)
        · skip
          refine lv_aload_n hx hb dX1_number_23 rfl (lv_at hl 0 rfl) ?_
          refine lv_iload_n hx hb dX1_number_24 rfl (lv_at hl 1 rfl) ?_
          refine z_iconst hx hb (nI 4) dX1_number_25 (by decide) ?_
          refine z_irem hx hb dX1_number_26 (by omega) (by omega) (by omega) ?_
          refine lv_iload_n hx hb dX1_number_27 rfl (lv_at hl 1 rfl) ?_
          refine z_iconst hx hb (nI 4) dX1_number_28 (by decide) ?_
          refine z_idiv hx hb dX1_number_29 (by omega) (by omega) (by omega) ?_
          refine z_iconst hx hb (nI 4) dX1_number_30 (by decide) ?_
          refine z_imul hx hb dX1_number_31 (z := nI ((p / 4) * 4)) (pk_mul _ _) ?_
          refine lv_iload_n hx hb dX1_number_32 rfl (lv_at hl 2 rfl) ?_
          refine z_iconst hx hb (nI 4) dX1_number_33 (by decide) ?_
          refine z_idiv hx hb dX1_number_34 (by omega) (by omega) (by omega) ?_
          refine z_iadd hx hb dX1_number_35 (z := nI (((p / 4) * 4) + (i / 4))) (nI_add _ _) ?_
          refine z_kV (As := [.int (nI (p % 4)), .int (nI (((p / 4) * 4) + (i / 4)))]) (rest := []) hE hZ (c_X1_due l D cI cJ cZ cII cZZ d0 d1 d2 dw du dn df db dc B (p % 4) (((p / 4) * 4) + (i / 4)) (by omega) (by omega) (hR.u)) lL_X1_due lC_X1_42 rfl [0, 1, 2] [] [0, 1, 2] [] (fun u => [(d0, .inr (1, [.ref d1, .ref d2, .int (zI dn), .int (zB df), .int (zB db), .int (zI dc)])), (d1, .inl (cJ, 3000, .inr (.inl dw))), (d2, .inl (cI, 5, .inl (fun x9 => zI (du x9))))]) 0 rfl rfl rfl (fun _ => rfl) (by decide) ⟨by decide, by decide⟩ 0 0 rfl rfl ⟨by decide, by decide⟩ rfl hl.1 rfl (Nat.le_of_ble_eq_true rfl) dX1_number_36 (fun u H locs hq9 hZ => ?_)
          have hZ : zS D A s.heap H locs [(d0, .inr (1, [.ref d1, .ref d2, .int (zI dn), .int (zB df), .int (zB db), .int (zI dc)])), (d1, .inl (cJ, 3000, .inr (.inl dw))), (d2, .inl (cI, 5, .inl (fun x9 => zI (du x9))))] := hZ
          refine W.eq (g2 := F0 mth 39 ls [.long (Bd B (p % 4) (((p / 4) * 4) + (i / 4)))]) rfl ?_
          refine lv_lstore_n (lv' := [(3, .long (Bd B (p % 4) (((p / 4) * 4) + (i / 4)))), (0, .ref d0), (1, .int (nI p)), (2, .int (nI i))]) hx hb dX1_number_39 rfl hl (by decide) rfl (fun ls hl => ?_)
          refine lv_lload_n hx hb dX1_number_40 rfl (lv_at hl 0 rfl) ?_
          refine lv_iload_n hx hb dX1_number_41 rfl (lv_at hl 3 rfl) ?_
          refine z_kN (As := [.int (nI i)]) (rest := [.long (Bd B (p % 4) (((p / 4) * 4) + (i / 4)))]) hE hZ (c_X6_shiftOfNumber l D cI cJ cZ cII cZZ  i (by omega)) lL_X6_shiftOfNumber lC_X1_46 [] [0, 1, 2] [0, 1, 2] [(d0, .inr (1, [.ref d1, .ref d2, .int (zI dn), .int (zB df), .int (zB db), .int (zI dc)])), (d1, .inl (cJ, 3000, .inr (.inl dw))), (d2, .inl (cI, 5, .inl (fun x9 => zI (du x9))))] (fun u => [(d0, .inr (1, [.ref d1, .ref d2, .int (zI dn), .int (zB df), .int (zB db), .int (zI dc)])), (d1, .inl (cJ, 3000, .inr (.inl dw))), (d2, .inl (cI, 5, .inl (fun x9 => zI (du x9))))]) rfl rfl (fun _ => rfl) (by decide) ⟨by decide, by decide⟩ 0 0 rfl rfl ⟨by decide, by decide⟩ rfl hl.1 rfl (Nat.le_of_ble_eq_true rfl) dX1_number_42 (fun u H locs hq9 hZ => ?_)
          have hZ : zS D A s.heap H locs [(d0, .inr (1, [.ref d1, .ref d2, .int (zI dn), .int (zB df), .int (zB db), .int (zI dc)])), (d1, .inl (cJ, 3000, .inr (.inl dw))), (d2, .inl (cI, 5, .inl (fun x9 => zI (du x9))))] := hZ
          refine W.eq (g2 := F0 mth 45 ls [.int (nI (48 - 16 * (i % 4))), .long (Bd B (p % 4) (((p / 4) * 4) + (i / 4)))]) rfl ?_
          refine lv_lushr (v := ((Bd B (p % 4) (((p / 4) * 4) + (i / 4))).toUInt64 >>> ((nI (48 - 16 * (i % 4))).toInt64.toUInt64 &&& Int64.toUInt64 63)).toInt64) hx hb dX1_number_45 rfl ?_
          refine lv_l2i (v := (((Bd B (p % 4) (((p / 4) * 4) + (i / 4))).toUInt64 >>> ((nI (48 - 16 * (i % 4))).toInt64.toUInt64 &&& Int64.toUInt64 63)).toInt64).toInt32) hx hb dX1_number_46 rfl ?_
          refine lv_ldc (v := 65535) hx hb hE.2.2.2.1 (hE.2.2.2.2.1 _ mg811) dX1_number_47 ?_
          refine z_top (show (65535 : Int32) = nI 65535 from rfl) ?_
          refine lv_iand hx hb dX1_number_49 ?_
          refine z_top (show ((((Bd B (p % 4) (((p / 4) * 4) + (i / 4))).toUInt64 >>> ((nI (48 - 16 * (i % 4))).toInt64.toUInt64 &&& Int64.toUInt64 63)).toInt64).toInt32) &&& (nI 65535) = nI (nm (Bd B (p % 4) (p / 4 * 4 + i / 4)) (i % 4)) from num_raw _ (by omega)) ?_
          refine z_top (show nI (nm (Bd B (p % 4) (p / 4 * 4 + i / 4)) (i % 4)) = nI (num B p i) from by unfold num Bd; rw [if_pos (by omega)]; congr 3; omega) ?_
          exact z_iret hE hrt9 hlocks hZ () rfl trivial rfl dX1_number_50 (Nat.le_of_ble_eq_true rfl) (Nat.le_of_ble_eq_true rfl)
        · skip
          exfalso
          omega
set_option maxHeartbeats 1000000 in
set_option maxRecDepth 100000 in
theorem c_X1_store (l : Launch) (D : va_G) (cI cJ cZ cII cZZ : ClassId) (d0 : Nat) (d1 : Nat) (d2 : Nat) (dw : Nat → Int64) (du : Nat → Int) (dn : Int) (df : Bool) (db : Bool) (dc : Int) (k0 : Nat) (k1 : Nat) (kw : Nat → Int64) (B : Nat → Int64) (p : Nat) (hp : p < 600) (hR : DR B dw du dn df) :
    zC l yX1_store cX1_store 9 none { frames := 1, cells := 0, slots := 0, locals := 25 } D (zT cI cJ cZ cII cZZ) [.ref d0, .int (nI p), .ref k0] [(d0, .inr (1, [.ref d1, .ref d2, .int (zI dn), .int (zB df), .int (zB db), .int (zI dc)])), (d1, .inl (cJ, 3000, .inr (.inl dw))), (d2, .inl (cI, 5, .inl (fun x9 => zI (du x9)))), (k0, .inr (0, [.ref k1])), (k1, .inl (cJ, 4, .inr (.inl kw)))] (S := (Nat → Int64)) (fun u => none) (fun u => (DR (upB B p kw 4) u du dn df)) (fun u => [(d0, .inr (1, [.ref d1, .ref d2, .int (zI dn), .int (zB df), .int (zB db), .int (zI (dc + 1))])), (d1, .inl (cJ, 3000, .inr (.inl u))), (d2, .inl (cI, 5, .inl (fun x9 => zI (du x9)))), (k0, .inr (0, [.ref k1])), (k1, .inl (cJ, 4, .inr (.inl kw)))]) := by
  refine zC_of (by decide) (Nat.le_of_ble_eq_true rfl) ?_
  intro prg env s mth below meth cde A ls hE hrt9 hlocks hnm hZ hl
  have hx := hE.1
  have hb := hE.2.1
  have hl : lv_has ls 9 [(0, .ref d0), (1, .int (nI p)), (2, .ref k0)] := hl
  refine lv_iload_n hx hb dX1_store_0 rfl (lv_at hl 1 rfl) ?_
  refine z_if_lt hx hb 11 dX1_store_1 (by decide) (C := False) (nI_lt0 (by omega)) (fun h1 => ?_) (fun h1 => ?_)
  · skip
    exact h1.elim
  · skip
    refine lv_iload_n hx hb dX1_store_4 rfl (lv_at hl 1 rfl) ?_
    refine z_sipush hx hb (nI 600) dX1_store_5 (by decide) ?_
    refine z_icmp_lt hx hb 12 dX1_store_8 (by decide) (C := p < 600) (nIlt (by omega) (by omega)) (fun h8 => ?_) (fun h8 => ?_)
    · skip
      refine lv_iload_n hx hb dX1_store_12 rfl (lv_at hl 1 rfl) ?_
      refine z_iconst hx hb (nI 4) dX1_store_13 (by decide) ?_
      refine z_irem hx hb dX1_store_14 (by omega) (by omega) (by omega) ?_
      refine lv_istore_n (lv' := [(3, .int (nI (p % 4))), (0, .ref d0), (1, .int (nI p)), (2, .ref k0)]) hx hb dX1_store_15 rfl hl (by decide) rfl (fun ls hl => ?_)
      refine lv_iload_n hx hb dX1_store_16 rfl (lv_at hl 2 rfl) ?_
      refine z_iconst hx hb (nI 4) dX1_store_17 (by decide) ?_
      refine z_idiv hx hb dX1_store_18 (by omega) (by omega) (by omega) ?_
      refine lv_istore (lv' := [(4, .int (nI (p / 4))), (3, .int (nI (p % 4))), (0, .ref d0), (1, .int (nI p)), (2, .ref k0)]) hx hb dX1_store_19 hl (by decide) rfl (fun ls hl => ?_)
      refine z_iconst hx hb (nI 0) dX1_store_21 (by decide) ?_
      refine lv_istore (lv' := [(5, .int (nI 0)), (4, .int (nI (p / 4))), (3, .int (nI (p % 4))), (0, .ref d0), (1, .int (nI p)), (2, .ref k0)]) hx hb dX1_store_22 hl (by decide) rfl (fun ls hl => ?_)
      refine z_loop (σ := Nat × (Nat → Int64)) (fun (i, w) H locs ls => (i ≤ 4) ∧ (DR (upB B p kw i) w du dn df) ∧ zS D A s.heap H locs [(d0, .inr (1, [.ref d1, .ref d2, .int (zI dn), .int (zB df), .int (zB db), .int (zI dc)])), (d1, .inl (cJ, 3000, .inr (.inl w))), (d2, .inl (cI, 5, .inl (fun x9 => zI (du x9)))), (k0, .inr (0, [.ref k1])), (k1, .inl (cJ, 4, .inr (.inl kw)))] ∧ lv_has ls 9 [(0, .ref d0), (1, .int (nI p)), (2, .ref k0), (3, .int (nI (p % 4))), (4, .int (nI (p / 4))), (5, .int (nI i))]) (fun (i, w) => 4 - i) [] (0, dw) ⟨by omega, hR, hZ, lv_sub hl [3, 4, 5, 2, 1, 0] (by first | rfl | (simp only [lv_pick]; rfl))⟩ ?_
      intro x H locs ls hI ih24
      obtain ⟨i, w⟩ := x
      obtain ⟨hi, hI, hZ, hl⟩ := hI
      have hua := hI.2.1 (p % 4) (by omega)
      have hub := hI.2.1 4 (by omega)
      refine lv_iload hx hb dX1_store_24 (lv_at hl 5 rfl) ?_
      refine z_iconst hx hb (nI 4) dX1_store_26 (by decide) ?_
      refine z_icmp_ge hx hb 123 dX1_store_27 (by decide) (C := 4 ≤ i) (nIle (by omega) (by omega)) (fun h27 => ?_) (fun h27 => ?_)
      · skip
        refine lv_aload_n hx hb dX1_store_123 rfl (lv_at hl 0 rfl) ?_
        refine lv_dup hx hb dX1_store_124 rfl ?_
        refine z_get hE fF_X1_5 hZ 0 rfl (.int (zI dc)) rfl dX1_store_125 ?_
        refine z_iconst hx hb (nI 1) dX1_store_128 (by decide) ?_
        refine z_iadd hx hb dX1_store_129 (z := zI (dc + 1)) (by (try simp only [zI_n]); exact zI_add _ _) ?_
        refine z_put hE fF_X1_5 fP_X1 rfl hZ 0 rfl rfl rfl (Nat.le_of_ble_eq_true rfl) dX1_store_130 [(d0, .inr (1, [.ref d1, .ref d2, .int (zI dn), .int (zB df), .int (zB db), .int (zI (dc + 1))])), (d1, .inl (cJ, 3000, .inr (.inl w))), (d2, .inl (cI, 5, .inl (fun x9 => zI (du x9)))), (k0, .inr (0, [.ref k1])), (k1, .inl (cJ, 4, .inr (.inl kw)))] rfl (fun H locs hZ => ?_)
        exact z_vret hE hrt9 hlocks hZ w rfl (show (DR (upB B p kw 4) w du dn df) from by rw [show (4 : Nat) = i by omega]; exact hI) rfl dX1_store_133 (Nat.le_of_ble_eq_true rfl) (Nat.le_of_ble_eq_true rfl)
      · skip
        refine lv_iload hx hb dX1_store_30 (lv_at hl 4 rfl) ?_
        refine z_iconst hx hb (nI 4) dX1_store_32 (by decide) ?_
        refine z_imul hx hb dX1_store_33 (z := nI ((p / 4) * 4)) (pk_mul _ _) ?_
        refine lv_iload hx hb dX1_store_34 (lv_at hl 5 rfl) ?_
        refine z_iadd hx hb dX1_store_36 (z := nI (((p / 4) * 4) + i)) (nI_add _ _) ?_
        refine lv_istore (lv' := [(6, .int (nI (((p / 4) * 4) + i))), (0, .ref d0), (1, .int (nI p)), (2, .ref k0), (3, .int (nI (p % 4))), (4, .int (nI (p / 4))), (5, .int (nI i))]) hx hb dX1_store_37 hl (by decide) rfl (fun ls hl => ?_)
        refine lv_aload_n hx hb dX1_store_39 rfl (lv_at hl 1 rfl) ?_
        refine z_iconst hx hb (nI 4) dX1_store_40 (by decide) ?_
        refine lv_iload hx hb dX1_store_41 (lv_at hl 0 rfl) ?_
        refine z_kV (As := [.int (nI 4), .int (nI (((p / 4) * 4) + i))]) (rest := []) hE hZ (c_X1_due l D cI cJ cZ cII cZZ d0 d1 d2 w du dn df db dc (upB B p kw i) 4 (((p / 4) * 4) + i) (by omega) (by omega) (hI.u)) lL_X1_due lC_X1_42 rfl [0, 1, 2] [3, 4] [2, 3, 4, 0, 1] [(k0, .inr (0, [.ref k1])), (k1, .inl (cJ, 4, .inr (.inl kw)))] (fun u => [(d0, .inr (1, [.ref d1, .ref d2, .int (zI dn), .int (zB df), .int (zB db), .int (zI dc)])), (d1, .inl (cJ, 3000, .inr (.inl w))), (d2, .inl (cI, 5, .inl (fun x9 => zI (du x9)))), (k0, .inr (0, [.ref k1])), (k1, .inl (cJ, 4, .inr (.inl kw)))]) 0 rfl rfl rfl (fun _ => rfl) (by decide) ⟨by decide, by decide⟩ 0 0 rfl rfl ⟨by decide, by decide⟩ rfl hl.1 rfl (Nat.le_of_ble_eq_true rfl) dX1_store_43 (fun u H locs hq9 hZ => ?_)
        have hZ : zS D A s.heap H locs [(d0, .inr (1, [.ref d1, .ref d2, .int (zI dn), .int (zB df), .int (zB db), .int (zI dc)])), (d1, .inl (cJ, 3000, .inr (.inl w))), (d2, .inl (cI, 5, .inl (fun x9 => zI (du x9)))), (k0, .inr (0, [.ref k1])), (k1, .inl (cJ, 4, .inr (.inl kw)))] := hZ
        refine W.eq (g2 := F0 mth 46 ls [.long (Bd (upB B p kw i) 4 (((p / 4) * 4) + i))]) rfl ?_
        refine lv_aload_n hx hb dX1_store_46 rfl (lv_at hl 1 rfl) ?_
        refine lv_iload_n hx hb dX1_store_47 rfl (lv_at hl 4 rfl) ?_
        refine lv_iload hx hb dX1_store_48 (lv_at hl 0 rfl) ?_
        refine z_kV (As := [.int (nI (p % 4)), .int (nI (((p / 4) * 4) + i))]) (rest := [.long (Bd (upB B p kw i) 4 (((p / 4) * 4) + i))]) hE hZ (c_X1_due l D cI cJ cZ cII cZZ d0 d1 d2 w du dn df db dc (upB B p kw i) (p % 4) (((p / 4) * 4) + i) (by omega) (by omega) (hI.u)) lL_X1_due lC_X1_42 rfl [0, 1, 2] [3, 4] [2, 3, 4, 0, 1] [(k0, .inr (0, [.ref k1])), (k1, .inl (cJ, 4, .inr (.inl kw)))] (fun u => [(d0, .inr (1, [.ref d1, .ref d2, .int (zI dn), .int (zB df), .int (zB db), .int (zI dc)])), (d1, .inl (cJ, 3000, .inr (.inl w))), (d2, .inl (cI, 5, .inl (fun x9 => zI (du x9)))), (k0, .inr (0, [.ref k1])), (k1, .inl (cJ, 4, .inr (.inl kw)))]) 0 rfl rfl rfl (fun _ => rfl) (by decide) ⟨by decide, by decide⟩ 0 0 rfl rfl ⟨by decide, by decide⟩ rfl hl.1 rfl (Nat.le_of_ble_eq_true rfl) dX1_store_50 (fun u H locs hq9 hZ => ?_)
        have hZ : zS D A s.heap H locs [(d0, .inr (1, [.ref d1, .ref d2, .int (zI dn), .int (zB df), .int (zB db), .int (zI dc)])), (d1, .inl (cJ, 3000, .inr (.inl w))), (d2, .inl (cI, 5, .inl (fun x9 => zI (du x9)))), (k0, .inr (0, [.ref k1])), (k1, .inl (cJ, 4, .inr (.inl kw)))] := hZ
        refine W.eq (g2 := F0 mth 53 ls [.long (Bd (upB B p kw i) (p % 4) (((p / 4) * 4) + i)), .long (Bd (upB B p kw i) 4 (((p / 4) * 4) + i))]) rfl ?_
        refine lv_lxor hx hb dX1_store_53 ?_
        refine lv_aload_n hx hb dX1_store_54 rfl (lv_at hl 3 rfl) ?_
        refine lv_iload hx hb dX1_store_55 (lv_at hl 6 rfl) ?_
        refine z_kV (As := [.int (nI i)]) (rest := [.long ((Bd (upB B p kw i) 4 (((p / 4) * 4) + i)) ^^^ (Bd (upB B p kw i) (p % 4) (((p / 4) * 4) + i)))]) hE hZ (c_X0_word l D cI cJ cZ cII cZZ k0 k1 kw i (by omega)) lL_X0_word lC_X1_51 rfl [3, 4] [0, 1, 2] [0, 1, 2, 3, 4] [(d0, .inr (1, [.ref d1, .ref d2, .int (zI dn), .int (zB df), .int (zB db), .int (zI dc)])), (d1, .inl (cJ, 3000, .inr (.inl w))), (d2, .inl (cI, 5, .inl (fun x9 => zI (du x9))))] (fun u => [(d0, .inr (1, [.ref d1, .ref d2, .int (zI dn), .int (zB df), .int (zB db), .int (zI dc)])), (d1, .inl (cJ, 3000, .inr (.inl w))), (d2, .inl (cI, 5, .inl (fun x9 => zI (du x9)))), (k0, .inr (0, [.ref k1])), (k1, .inl (cJ, 4, .inr (.inl kw)))]) 0 rfl rfl rfl (fun _ => rfl) (by decide) ⟨by decide, by decide⟩ 0 0 rfl rfl ⟨by decide, by decide⟩ rfl hl.1 rfl (Nat.le_of_ble_eq_true rfl) dX1_store_57 (fun u H locs hq9 hZ => ?_)
        have hZ : zS D A s.heap H locs [(d0, .inr (1, [.ref d1, .ref d2, .int (zI dn), .int (zB df), .int (zB db), .int (zI dc)])), (d1, .inl (cJ, 3000, .inr (.inl w))), (d2, .inl (cI, 5, .inl (fun x9 => zI (du x9)))), (k0, .inr (0, [.ref k1])), (k1, .inl (cJ, 4, .inr (.inl kw)))] := hZ
        refine W.eq (g2 := F0 mth 60 ls [.long (kw i), .long ((Bd (upB B p kw i) 4 (((p / 4) * 4) + i)) ^^^ (Bd (upB B p kw i) (p % 4) (((p / 4) * 4) + i)))]) rfl ?_
        refine lv_lxor hx hb dX1_store_60 ?_
        refine lv_lstore (lv' := [(7, .long (((Bd (upB B p kw i) 4 (((p / 4) * 4) + i)) ^^^ (Bd (upB B p kw i) (p % 4) (((p / 4) * 4) + i))) ^^^ (kw i))), (6, .int (nI (((p / 4) * 4) + i))), (0, .ref d0), (1, .int (nI p)), (2, .ref k0), (3, .int (nI (p % 4))), (4, .int (nI (p / 4))), (5, .int (nI i))]) hx hb dX1_store_61 hl (by decide) rfl (fun ls hl => ?_)
        refine lv_iload hx hb dX1_store_63 (lv_at hl 6 rfl) ?_
        refine lv_aload_n hx hb dX1_store_65 rfl (lv_at hl 2 rfl) ?_
        refine z_get hE fF_X1_1 hZ 0 rfl (.ref d2) rfl dX1_store_66 ?_
        refine lv_iload_n hx hb dX1_store_69 rfl (lv_at hl 5 rfl) ?_
        refine z_iald hE hZ 2 0 rfl rfl (by decide) (by omega) dX1_store_70 ?_
        refine z_icmp_ge hx hb 93 dX1_store_71 (by decide) (C := (du (p % 4) : Int) ≤ ((p / 4 : Nat) : Int)) (by (try simp only [zI_n]); exact zI_le ⟨by omega, by omega⟩ ⟨by omega, by omega⟩) (fun h71 => ?_) (fun h71 => ?_)
        · skip
          refine lv_iload hx hb dX1_store_93 (lv_at hl 6 rfl) ?_
          refine lv_aload_n hx hb dX1_store_95 rfl (lv_at hl 2 rfl) ?_
          refine z_get hE fF_X1_1 hZ 0 rfl (.ref d2) rfl dX1_store_96 ?_
          refine z_iconst hx hb (nI 4) dX1_store_99 (by decide) ?_
          refine z_iald hE hZ 2 0 rfl rfl (by decide) (by omega) dX1_store_100 ?_
          refine z_icmp_ge hx hb 117 dX1_store_101 (by decide) (C := (du 4 : Int) ≤ ((p / 4 : Nat) : Int)) (by (try simp only [zI_n]); exact zI_le ⟨by omega, by omega⟩ ⟨by omega, by omega⟩) (fun h101 => ?_) (fun h101 => ?_)
          · skip
            refine lv_iinc (v := nI (i + 1)) (lv' := [(5, .int (nI (i + 1))), (7, .long (((Bd (upB B p kw i) 4 (((p / 4) * 4) + i)) ^^^ (Bd (upB B p kw i) (p % 4) (((p / 4) * 4) + i))) ^^^ (kw i))), (6, .int (nI (((p / 4) * 4) + i))), (0, .ref d0), (1, .int (nI p)), (2, .ref k0), (3, .int (nI (p % 4))), (4, .int (nI (p / 4)))]) hx hb dX1_store_117 hl (k := 7) rfl (nI_add _ _) (by decide) rfl (fun ls hl => ?_)
            refine lv_goto (tgt := 24) hx hb dX1_store_120 (by decide) ?_
            exact ih24 (i + 1, w) _ _ _ ⟨by omega, by have q := DR_put hI hp (show i < 4 by omega) (kw i); simp only [h71, h101, if_true, if_false] at q; exact q, hZ, lv_sub hl [3, 4, 5, 6, 7, 0] (by first | rfl | (simp only [lv_pick]; rfl))⟩ (by (try dsimp only); omega)
          · skip
            refine lv_aload_n hx hb dX1_store_104 rfl (lv_at hl 2 rfl) ?_
            refine z_get hE fF_X1_0 hZ 0 rfl (.ref d1) rfl dX1_store_105 ?_
            refine z_sipush hx hb (nI 2400) dX1_store_108 (by decide) ?_
            refine lv_iload hx hb dX1_store_111 (lv_at hl 1 rfl) ?_
            refine z_iadd hx hb dX1_store_113 (z := nI (2400 + (((p / 4) * 4) + i))) (nI_add _ _) ?_
            refine lv_lload hx hb dX1_store_114 (lv_at hl 0 rfl) ?_
            refine z_last w (((Bd (upB B p kw i) 4 (((p / 4) * 4) + i)) ^^^ (Bd (upB B p kw i) (p % 4) (((p / 4) * 4) + i))) ^^^ (kw i)) hE hZ 1 1 rfl rfl (by decide) (by omega) dX1_store_116 [(d0, .inr (1, [.ref d1, .ref d2, .int (zI dn), .int (zB df), .int (zB db), .int (zI dc)])), (d1, .inl (cJ, 3000, .inr (.inl (va_up w (2400 + (((p / 4) * 4) + i)) (((Bd (upB B p kw i) 4 (((p / 4) * 4) + i)) ^^^ (Bd (upB B p kw i) (p % 4) (((p / 4) * 4) + i))) ^^^ (kw i)))))), (d2, .inl (cI, 5, .inl (fun x9 => zI (du x9)))), (k0, .inr (0, [.ref k1])), (k1, .inl (cJ, 4, .inr (.inl kw)))] rfl (fun H locs hZ => ?_)
            refine lv_iinc (v := nI (i + 1)) (lv' := [(5, .int (nI (i + 1))), (7, .long (((Bd (upB B p kw i) 4 (((p / 4) * 4) + i)) ^^^ (Bd (upB B p kw i) (p % 4) (((p / 4) * 4) + i))) ^^^ (kw i))), (6, .int (nI (((p / 4) * 4) + i))), (0, .ref d0), (1, .int (nI p)), (2, .ref k0), (3, .int (nI (p % 4))), (4, .int (nI (p / 4)))]) hx hb dX1_store_117 hl (k := 7) rfl (nI_add _ _) (by decide) rfl (fun ls hl => ?_)
            refine lv_goto (tgt := 24) hx hb dX1_store_120 (by decide) ?_
            exact ih24 (i + 1, va_up w (2400 + (((p / 4) * 4) + i)) (((Bd (upB B p kw i) 4 (((p / 4) * 4) + i)) ^^^ (Bd (upB B p kw i) (p % 4) (((p / 4) * 4) + i))) ^^^ (kw i))) _ _ _ ⟨by omega, by have q := DR_put hI hp (show i < 4 by omega) (kw i); simp only [h71, h101, if_true, if_false] at q; exact q, hZ, lv_sub hl [3, 4, 5, 6, 7, 0] (by first | rfl | (simp only [lv_pick]; rfl))⟩ (by (try dsimp only); omega)
        · skip
          refine lv_aload_n hx hb dX1_store_74 rfl (lv_at hl 2 rfl) ?_
          refine z_get hE fF_X1_0 hZ 0 rfl (.ref d1) rfl dX1_store_75 ?_
          refine lv_iload_n hx hb dX1_store_78 rfl (lv_at hl 5 rfl) ?_
          refine z_sipush hx hb (nI 600) dX1_store_79 (by decide) ?_
          refine z_imul hx hb dX1_store_82 (z := nI ((p % 4) * 600)) (pk_mul _ _) ?_
          refine lv_iload hx hb dX1_store_83 (lv_at hl 1 rfl) ?_
          refine z_iadd hx hb dX1_store_85 (z := nI (((p % 4) * 600) + (((p / 4) * 4) + i))) (nI_add _ _) ?_
          refine lv_aload_n hx hb dX1_store_86 rfl (lv_at hl 4 rfl) ?_
          refine lv_iload hx hb dX1_store_87 (lv_at hl 7 rfl) ?_
          refine z_kV (As := [.int (nI i)]) (rest := [.int (nI (((p % 4) * 600) + (((p / 4) * 4) + i))), .ref d1]) hE hZ (c_X0_word l D cI cJ cZ cII cZZ k0 k1 kw i (by omega)) lL_X0_word lC_X1_51 rfl [3, 4] [0, 1, 2] [0, 1, 2, 3, 4] [(d0, .inr (1, [.ref d1, .ref d2, .int (zI dn), .int (zB df), .int (zB db), .int (zI dc)])), (d1, .inl (cJ, 3000, .inr (.inl w))), (d2, .inl (cI, 5, .inl (fun x9 => zI (du x9))))] (fun u => [(d0, .inr (1, [.ref d1, .ref d2, .int (zI dn), .int (zB df), .int (zB db), .int (zI dc)])), (d1, .inl (cJ, 3000, .inr (.inl w))), (d2, .inl (cI, 5, .inl (fun x9 => zI (du x9)))), (k0, .inr (0, [.ref k1])), (k1, .inl (cJ, 4, .inr (.inl kw)))]) 0 rfl rfl rfl (fun _ => rfl) (by decide) ⟨by decide, by decide⟩ 0 0 rfl rfl ⟨by decide, by decide⟩ rfl hl.1 rfl (Nat.le_of_ble_eq_true rfl) dX1_store_89 (fun u H locs hq9 hZ => ?_)
          have hZ : zS D A s.heap H locs [(d0, .inr (1, [.ref d1, .ref d2, .int (zI dn), .int (zB df), .int (zB db), .int (zI dc)])), (d1, .inl (cJ, 3000, .inr (.inl w))), (d2, .inl (cI, 5, .inl (fun x9 => zI (du x9)))), (k0, .inr (0, [.ref k1])), (k1, .inl (cJ, 4, .inr (.inl kw)))] := hZ
          refine W.eq (g2 := F0 mth 92 ls [.long (kw i), .int (nI (((p % 4) * 600) + (((p / 4) * 4) + i))), .ref d1]) rfl ?_
          refine z_last w (kw i) hE hZ 1 1 rfl rfl (by decide) (by omega) dX1_store_92 [(d0, .inr (1, [.ref d1, .ref d2, .int (zI dn), .int (zB df), .int (zB db), .int (zI dc)])), (d1, .inl (cJ, 3000, .inr (.inl (va_up w (((p % 4) * 600) + (((p / 4) * 4) + i)) (kw i))))), (d2, .inl (cI, 5, .inl (fun x9 => zI (du x9)))), (k0, .inr (0, [.ref k1])), (k1, .inl (cJ, 4, .inr (.inl kw)))] rfl (fun H locs hZ => ?_)
          refine lv_iload hx hb dX1_store_93 (lv_at hl 6 rfl) ?_
          refine lv_aload_n hx hb dX1_store_95 rfl (lv_at hl 2 rfl) ?_
          refine z_get hE fF_X1_1 hZ 0 rfl (.ref d2) rfl dX1_store_96 ?_
          refine z_iconst hx hb (nI 4) dX1_store_99 (by decide) ?_
          refine z_iald hE hZ 2 0 rfl rfl (by decide) (by omega) dX1_store_100 ?_
          refine z_icmp_ge hx hb 117 dX1_store_101 (by decide) (C := (du 4 : Int) ≤ ((p / 4 : Nat) : Int)) (by (try simp only [zI_n]); exact zI_le ⟨by omega, by omega⟩ ⟨by omega, by omega⟩) (fun h101 => ?_) (fun h101 => ?_)
          · skip
            refine lv_iinc (v := nI (i + 1)) (lv' := [(5, .int (nI (i + 1))), (7, .long (((Bd (upB B p kw i) 4 (((p / 4) * 4) + i)) ^^^ (Bd (upB B p kw i) (p % 4) (((p / 4) * 4) + i))) ^^^ (kw i))), (6, .int (nI (((p / 4) * 4) + i))), (0, .ref d0), (1, .int (nI p)), (2, .ref k0), (3, .int (nI (p % 4))), (4, .int (nI (p / 4)))]) hx hb dX1_store_117 hl (k := 7) rfl (nI_add _ _) (by decide) rfl (fun ls hl => ?_)
            refine lv_goto (tgt := 24) hx hb dX1_store_120 (by decide) ?_
            exact ih24 (i + 1, va_up w (((p % 4) * 600) + (((p / 4) * 4) + i)) (kw i)) _ _ _ ⟨by omega, by have q := DR_put hI hp (show i < 4 by omega) (kw i); simp only [h71, h101, if_true, if_false] at q; exact q, hZ, lv_sub hl [3, 4, 5, 6, 7, 0] (by first | rfl | (simp only [lv_pick]; rfl))⟩ (by (try dsimp only); omega)
          · skip
            refine lv_aload_n hx hb dX1_store_104 rfl (lv_at hl 2 rfl) ?_
            refine z_get hE fF_X1_0 hZ 0 rfl (.ref d1) rfl dX1_store_105 ?_
            refine z_sipush hx hb (nI 2400) dX1_store_108 (by decide) ?_
            refine lv_iload hx hb dX1_store_111 (lv_at hl 1 rfl) ?_
            refine z_iadd hx hb dX1_store_113 (z := nI (2400 + (((p / 4) * 4) + i))) (nI_add _ _) ?_
            refine lv_lload hx hb dX1_store_114 (lv_at hl 0 rfl) ?_
            refine z_last (va_up w (((p % 4) * 600) + (((p / 4) * 4) + i)) (kw i)) (((Bd (upB B p kw i) 4 (((p / 4) * 4) + i)) ^^^ (Bd (upB B p kw i) (p % 4) (((p / 4) * 4) + i))) ^^^ (kw i)) hE hZ 1 1 rfl rfl (by decide) (by omega) dX1_store_116 [(d0, .inr (1, [.ref d1, .ref d2, .int (zI dn), .int (zB df), .int (zB db), .int (zI dc)])), (d1, .inl (cJ, 3000, .inr (.inl (va_up (va_up w (((p % 4) * 600) + (((p / 4) * 4) + i)) (kw i)) (2400 + (((p / 4) * 4) + i)) (((Bd (upB B p kw i) 4 (((p / 4) * 4) + i)) ^^^ (Bd (upB B p kw i) (p % 4) (((p / 4) * 4) + i))) ^^^ (kw i)))))), (d2, .inl (cI, 5, .inl (fun x9 => zI (du x9)))), (k0, .inr (0, [.ref k1])), (k1, .inl (cJ, 4, .inr (.inl kw)))] rfl (fun H locs hZ => ?_)
            refine lv_iinc (v := nI (i + 1)) (lv' := [(5, .int (nI (i + 1))), (7, .long (((Bd (upB B p kw i) 4 (((p / 4) * 4) + i)) ^^^ (Bd (upB B p kw i) (p % 4) (((p / 4) * 4) + i))) ^^^ (kw i))), (6, .int (nI (((p / 4) * 4) + i))), (0, .ref d0), (1, .int (nI p)), (2, .ref k0), (3, .int (nI (p % 4))), (4, .int (nI (p / 4)))]) hx hb dX1_store_117 hl (k := 7) rfl (nI_add _ _) (by decide) rfl (fun ls hl => ?_)
            refine lv_goto (tgt := 24) hx hb dX1_store_120 (by decide) ?_
            exact ih24 (i + 1, va_up (va_up w (((p % 4) * 600) + (((p / 4) * 4) + i)) (kw i)) (2400 + (((p / 4) * 4) + i)) (((Bd (upB B p kw i) 4 (((p / 4) * 4) + i)) ^^^ (Bd (upB B p kw i) (p % 4) (((p / 4) * 4) + i))) ^^^ (kw i))) _ _ _ ⟨by omega, by have q := DR_put hI hp (show i < 4 by omega) (kw i); simp only [h71, h101, if_true, if_false] at q; exact q, hZ, lv_sub hl [3, 4, 5, 6, 7, 0] (by first | rfl | (simp only [lv_pick]; rfl))⟩ (by (try dsimp only); omega)
    · skip
      exfalso
      omega
set_option maxHeartbeats 1000000 in
set_option maxRecDepth 100000 in
theorem c_X1_lose (l : Launch) (D : va_G) (cI cJ cZ cII cZZ : ClassId) (d0 : Nat) (d1 : Nat) (d2 : Nat) (dw : Nat → Int64) (du : Nat → Int) (dn : Int) (df : Bool) (db : Bool) (dc : Int) (q : Nat) (hq : q < 5) (hn : -1 ≤ dn ∧ dn < 5) :
    zC l yX1_lose cX1_lose 2 none { frames := 0, cells := 0, slots := 0, locals := 0 } D (zT cI cJ cZ cII cZZ) [.ref d0, .int (nI q)] [(d0, .inr (1, [.ref d1, .ref d2, .int (zI dn), .int (zB df), .int (zB db), .int (zI dc)])), (d1, .inl (cJ, 3000, .inr (.inl dw))), (d2, .inl (cI, 5, .inl (fun x9 => zI (du x9))))] (S := Bool × Int × Bool × (Nat → Int)) (fun u => none) (fun u => (((dn ≠ -1 ∧ dn ≠ (q : Int)) ∧ u.1 = true ∧ u.2.1 = dn ∧ u.2.2.1 = df ∧ u.2.2.2 = du) ∨ ((dn = -1 ∨ dn = (q : Int)) ∧ u.1 = db ∧ u.2.1 = (q : Int) ∧ u.2.2.1 = true ∧ u.2.2.2 = va_up du q 0))) (fun u => [(d0, .inr (1, [.ref d1, .ref d2, .int (zI u.2.1), .int (zB u.2.2.1), .int (zB u.1), .int (zI dc)])), (d1, .inl (cJ, 3000, .inr (.inl dw))), (d2, .inl (cI, 5, .inl (fun x9 => zI (u.2.2.2 x9))))]) := by
  refine zC_of (by decide) (Nat.le_of_ble_eq_true rfl) ?_
  intro prg env s mth below meth cde A ls hE hrt9 hlocks hnm hZ hl
  have hx := hE.1
  have hb := hE.2.1
  have hl : lv_has ls 2 [(0, .ref d0), (1, .int (nI q))] := hl
  refine lv_aload_n hx hb dX1_lose_0 rfl (lv_at hl 0 rfl) ?_
  refine z_get hE fF_X1_2 hZ 0 rfl (.int (zI dn)) rfl dX1_lose_1 ?_
  refine z_iconst hx hb (zI (-1)) dX1_lose_4 (by decide) ?_
  refine z_icmp_eq hx hb 24 dX1_lose_5 (by decide) (C := (dn : Int) = (-1)) (by (try simp only [zI_n]); exact zI_eq ⟨by omega, by omega⟩ ⟨by omega, by omega⟩) (fun h5 => ?_) (fun h5 => ?_)
  · skip
    refine lv_iload_n hx hb dX1_lose_24 rfl (lv_at hl 1 rfl) ?_
    refine z_if_lt hx hb 50 dX1_lose_25 (by decide) (C := False) (nI_lt0 (by omega)) (fun h25 => ?_) (fun h25 => ?_)
    · skip
      exact h25.elim
    · skip
      refine lv_iload_n hx hb dX1_lose_28 rfl (lv_at hl 1 rfl) ?_
      refine z_iconst hx hb (nI 5) dX1_lose_29 (by decide) ?_
      refine z_icmp_ge hx hb 50 dX1_lose_30 (by decide) (C := 5 ≤ q) (nIle (by omega) (by omega)) (fun h30 => ?_) (fun h30 => ?_)
      · skip
        exfalso
        omega
      · skip
        refine lv_aload_n hx hb dX1_lose_33 rfl (lv_at hl 0 rfl) ?_
        refine lv_iload_n hx hb dX1_lose_34 rfl (lv_at hl 1 rfl) ?_
        refine z_top (show nI q = zI ((q : Nat) : Int) from zI_n _) ?_
        refine z_put hE fF_X1_2 fP_X1 rfl hZ 0 rfl rfl rfl (Nat.le_of_ble_eq_true rfl) dX1_lose_35 [(d0, .inr (1, [.ref d1, .ref d2, .int (zI ((q : Nat) : Int)), .int (zB df), .int (zB db), .int (zI dc)])), (d1, .inl (cJ, 3000, .inr (.inl dw))), (d2, .inl (cI, 5, .inl (fun x9 => zI (du x9))))] rfl (fun H locs hZ => ?_)
        refine lv_aload_n hx hb dX1_lose_38 rfl (lv_at hl 0 rfl) ?_
        refine z_iconst hx hb (nI 1) dX1_lose_39 (by decide) ?_
        refine z_top (show nI 1 = zB true from rfl) ?_
        refine z_put hE fF_X1_3 fP_X1 rfl hZ 0 rfl (zB_nar _) (zB_fit _) (Nat.le_of_ble_eq_true rfl) dX1_lose_40 [(d0, .inr (1, [.ref d1, .ref d2, .int (zI ((q : Nat) : Int)), .int (zB true), .int (zB db), .int (zI dc)])), (d1, .inl (cJ, 3000, .inr (.inl dw))), (d2, .inl (cI, 5, .inl (fun x9 => zI (du x9))))] rfl (fun H locs hZ => ?_)
        refine lv_aload_n hx hb dX1_lose_43 rfl (lv_at hl 0 rfl) ?_
        refine z_get hE fF_X1_1 hZ 0 rfl (.ref d2) rfl dX1_lose_44 ?_
        refine lv_iload_n hx hb dX1_lose_47 rfl (lv_at hl 1 rfl) ?_
        refine z_iconst hx hb (nI 0) dX1_lose_48 (by decide) ?_
        refine z_top (show nI 0 = zI 0 from zI_n _) ?_
        refine z_iast zI du 0 hE hZ 2 0 rfl rfl (by decide) (by omega) dX1_lose_49 [(d0, .inr (1, [.ref d1, .ref d2, .int (zI ((q : Nat) : Int)), .int (zB true), .int (zB db), .int (zI dc)])), (d1, .inl (cJ, 3000, .inr (.inl dw))), (d2, .inl (cI, 5, .inl (fun x9 => zI ((va_up du q 0) x9))))] rfl (fun H locs hZ => ?_)
        exact z_vret hE hrt9 hlocks hZ (db, ((q : Nat) : Int), true, va_up du q 0) rfl (show (((dn ≠ -1 ∧ dn ≠ (q : Int)) ∧ db = true ∧ ((q : Nat) : Int) = dn ∧ true = df ∧ (va_up du q 0) = du) ∨ ((dn = -1 ∨ dn = (q : Int)) ∧ db = db ∧ ((q : Nat) : Int) = (q : Int) ∧ true = true ∧ (va_up du q 0) = va_up du q 0)) from by first | exact Or.inl ⟨⟨by omega, by omega⟩, rfl, rfl, rfl, rfl⟩ | exact Or.inr ⟨by omega, rfl, rfl, rfl, rfl⟩) rfl dX1_lose_50 (Nat.le_of_ble_eq_true rfl) (Nat.le_of_ble_eq_true rfl)
  · skip
    refine lv_aload_n hx hb dX1_lose_8 rfl (lv_at hl 0 rfl) ?_
    refine z_get hE fF_X1_2 hZ 0 rfl (.int (zI dn)) rfl dX1_lose_9 ?_
    refine lv_iload_n hx hb dX1_lose_12 rfl (lv_at hl 1 rfl) ?_
    refine z_icmp_eq hx hb 24 dX1_lose_13 (by decide) (C := (dn : Int) = ((q : Nat) : Int)) (by (try simp only [zI_n]); exact zI_eq ⟨by omega, by omega⟩ ⟨by omega, by omega⟩) (fun h13 => ?_) (fun h13 => ?_)
    · skip
      refine lv_iload_n hx hb dX1_lose_24 rfl (lv_at hl 1 rfl) ?_
      refine z_if_lt hx hb 50 dX1_lose_25 (by decide) (C := False) (nI_lt0 (by omega)) (fun h25 => ?_) (fun h25 => ?_)
      · skip
        exact h25.elim
      · skip
        refine lv_iload_n hx hb dX1_lose_28 rfl (lv_at hl 1 rfl) ?_
        refine z_iconst hx hb (nI 5) dX1_lose_29 (by decide) ?_
        refine z_icmp_ge hx hb 50 dX1_lose_30 (by decide) (C := 5 ≤ q) (nIle (by omega) (by omega)) (fun h30 => ?_) (fun h30 => ?_)
        · skip
          exfalso
          omega
        · skip
          refine lv_aload_n hx hb dX1_lose_33 rfl (lv_at hl 0 rfl) ?_
          refine lv_iload_n hx hb dX1_lose_34 rfl (lv_at hl 1 rfl) ?_
          refine z_top (show nI q = zI ((q : Nat) : Int) from zI_n _) ?_
          refine z_put hE fF_X1_2 fP_X1 rfl hZ 0 rfl rfl rfl (Nat.le_of_ble_eq_true rfl) dX1_lose_35 [(d0, .inr (1, [.ref d1, .ref d2, .int (zI ((q : Nat) : Int)), .int (zB df), .int (zB db), .int (zI dc)])), (d1, .inl (cJ, 3000, .inr (.inl dw))), (d2, .inl (cI, 5, .inl (fun x9 => zI (du x9))))] rfl (fun H locs hZ => ?_)
          refine lv_aload_n hx hb dX1_lose_38 rfl (lv_at hl 0 rfl) ?_
          refine z_iconst hx hb (nI 1) dX1_lose_39 (by decide) ?_
          refine z_top (show nI 1 = zB true from rfl) ?_
          refine z_put hE fF_X1_3 fP_X1 rfl hZ 0 rfl (zB_nar _) (zB_fit _) (Nat.le_of_ble_eq_true rfl) dX1_lose_40 [(d0, .inr (1, [.ref d1, .ref d2, .int (zI ((q : Nat) : Int)), .int (zB true), .int (zB db), .int (zI dc)])), (d1, .inl (cJ, 3000, .inr (.inl dw))), (d2, .inl (cI, 5, .inl (fun x9 => zI (du x9))))] rfl (fun H locs hZ => ?_)
          refine lv_aload_n hx hb dX1_lose_43 rfl (lv_at hl 0 rfl) ?_
          refine z_get hE fF_X1_1 hZ 0 rfl (.ref d2) rfl dX1_lose_44 ?_
          refine lv_iload_n hx hb dX1_lose_47 rfl (lv_at hl 1 rfl) ?_
          refine z_iconst hx hb (nI 0) dX1_lose_48 (by decide) ?_
          refine z_top (show nI 0 = zI 0 from zI_n _) ?_
          refine z_iast zI du 0 hE hZ 2 0 rfl rfl (by decide) (by omega) dX1_lose_49 [(d0, .inr (1, [.ref d1, .ref d2, .int (zI ((q : Nat) : Int)), .int (zB true), .int (zB db), .int (zI dc)])), (d1, .inl (cJ, 3000, .inr (.inl dw))), (d2, .inl (cI, 5, .inl (fun x9 => zI ((va_up du q 0) x9))))] rfl (fun H locs hZ => ?_)
          exact z_vret hE hrt9 hlocks hZ (db, ((q : Nat) : Int), true, va_up du q 0) rfl (show (((dn ≠ -1 ∧ dn ≠ (q : Int)) ∧ db = true ∧ ((q : Nat) : Int) = dn ∧ true = df ∧ (va_up du q 0) = du) ∨ ((dn = -1 ∨ dn = (q : Int)) ∧ db = db ∧ ((q : Nat) : Int) = (q : Int) ∧ true = true ∧ (va_up du q 0) = va_up du q 0)) from by first | exact Or.inl ⟨⟨by omega, by omega⟩, rfl, rfl, rfl, rfl⟩ | exact Or.inr ⟨by omega, rfl, rfl, rfl, rfl⟩) rfl dX1_lose_50 (Nat.le_of_ble_eq_true rfl) (Nat.le_of_ble_eq_true rfl)
    · skip
      refine lv_aload_n hx hb dX1_lose_16 rfl (lv_at hl 0 rfl) ?_
      refine z_iconst hx hb (nI 1) dX1_lose_17 (by decide) ?_
      refine z_top (show nI 1 = zB true from rfl) ?_
      refine z_put hE fF_X1_4 fP_X1 rfl hZ 0 rfl (zB_nar _) (zB_fit _) (Nat.le_of_ble_eq_true rfl) dX1_lose_18 [(d0, .inr (1, [.ref d1, .ref d2, .int (zI dn), .int (zB df), .int (zB true), .int (zI dc)])), (d1, .inl (cJ, 3000, .inr (.inl dw))), (d2, .inl (cI, 5, .inl (fun x9 => zI (du x9))))] rfl (fun H locs hZ => ?_)
      refine lv_goto (tgt := 50) hx hb dX1_lose_21 (by decide) ?_
      exact z_vret hE hrt9 hlocks hZ (true, dn, df, du) rfl (show (((dn ≠ -1 ∧ dn ≠ (q : Int)) ∧ true = true ∧ dn = dn ∧ df = df ∧ du = du) ∨ ((dn = -1 ∨ dn = (q : Int)) ∧ true = db ∧ dn = (q : Int) ∧ df = true ∧ du = va_up du q 0)) from by first | exact Or.inl ⟨⟨by omega, by omega⟩, rfl, rfl, rfl, rfl⟩ | exact Or.inr ⟨by omega, rfl, rfl, rfl, rfl⟩) rfl dX1_lose_50 (Nat.le_of_ble_eq_true rfl) (Nat.le_of_ble_eq_true rfl)
set_option maxHeartbeats 1000000 in
set_option maxRecDepth 100000 in
theorem c_X1_renew (l : Launch) (D : va_G) (cI cJ cZ cII cZZ : ClassId) (d0 : Nat) (d1 : Nat) (d2 : Nat) (dw : Nat → Int64) (du : Nat → Int) (dn : Int) (df : Bool) (db : Bool) (dc : Int) (B : Nat → Int64) (hR : DR B dw du dn df) (h0 : 0 ≤ dn) (hf : df = true) :
    zC l yX1_renew cX1_renew 2 none { frames := 0, cells := 0, slots := 0, locals := 0 } D (zT cI cJ cZ cII cZZ) [.ref d0] [(d0, .inr (1, [.ref d1, .ref d2, .int (zI dn), .int (zB df), .int (zB db), .int (zI dc)])), (d1, .inl (cJ, 3000, .inr (.inl dw))), (d2, .inl (cI, 5, .inl (fun x9 => zI (du x9))))] (S := (Nat → Int64)) (fun u => none) (fun u => (DR B u du dn false)) (fun u => [(d0, .inr (1, [.ref d1, .ref d2, .int (zI dn), .int (zB false), .int (zB db), .int (zI dc)])), (d1, .inl (cJ, 3000, .inr (.inl u))), (d2, .inl (cI, 5, .inl (fun x9 => zI (du x9))))]) := by
  refine zC_of (by decide) (Nat.le_of_ble_eq_true rfl) ?_
  intro prg env s mth below meth cde A ls hE hrt9 hlocks hnm hZ hl
  have hx := hE.1
  have hb := hE.2.1
  have hl : lv_has ls 2 [(0, .ref d0)] := hl
  have hn := hR.1
  refine lv_aload_n hx hb dX1_renew_0 rfl (lv_at hl 0 rfl) ?_
  refine z_get hE fF_X1_2 hZ 0 rfl (.int (zI dn)) rfl dX1_renew_1 ?_
  refine z_if_lt hx hb 15 dX1_renew_4 (by decide) (C := dn < 0) (zI_lt0 ⟨by omega, by omega⟩) (fun h4 => ?_) (fun h4 => ?_)
  · skip
    exfalso
    omega
  · skip
    refine lv_aload_n hx hb dX1_renew_7 rfl (lv_at hl 0 rfl) ?_
    refine z_get hE fF_X1_2 hZ 0 rfl (.int (zI dn)) rfl dX1_renew_8 ?_
    refine z_iconst hx hb (nI 5) dX1_renew_11 (by decide) ?_
    refine z_icmp_lt hx hb 16 dX1_renew_12 (by decide) (C := (dn : Int) < 5) (by (try simp only [zI_n]); exact zI_lt ⟨by omega, by omega⟩ ⟨by omega, by omega⟩) (fun h12 => ?_) (fun h12 => ?_)
    · skip
      refine z_iconst hx hb (nI 0) dX1_renew_16 (by decide) ?_
      refine lv_istore_n (lv' := [(1, .int (nI 0)), (0, .ref d0)]) hx hb dX1_renew_17 rfl hl (by decide) rfl (fun ls hl => ?_)
      refine z_loop (σ := Nat × (Nat → Int64)) (fun (i, w) H locs ls => (i ≤ 600) ∧ (∀ j, w j = if dn.toNat * 600 ≤ j ∧ j < dn.toNat * 600 + i then 0 else dw j) ∧ zS D A s.heap H locs [(d0, .inr (1, [.ref d1, .ref d2, .int (zI dn), .int (zB df), .int (zB db), .int (zI dc)])), (d1, .inl (cJ, 3000, .inr (.inl w))), (d2, .inl (cI, 5, .inl (fun x9 => zI (du x9))))] ∧ lv_has ls 2 [(0, .ref d0), (1, .int (nI i))]) (fun (i, w) => 600 - i) [] (0, dw) ⟨by omega, fun j => by rw [if_neg (by omega)], hZ, lv_sub hl [1, 0] (by first | rfl | (simp only [lv_pick]; rfl))⟩ ?_
      intro x H locs ls hI ih18
      obtain ⟨i, w⟩ := x
      obtain ⟨hi, hw, hZ, hl⟩ := hI
      refine lv_iload_n hx hb dX1_renew_18 rfl (lv_at hl 1 rfl) ?_
      refine z_sipush hx hb (nI 600) dX1_renew_19 (by decide) ?_
      refine z_icmp_ge hx hb 47 dX1_renew_22 (by decide) (C := 600 ≤ i) (nIle (by omega) (by omega)) (fun h22 => ?_) (fun h22 => ?_)
      · skip
        refine lv_aload_n hx hb dX1_renew_47 rfl (lv_at hl 0 rfl) ?_
        refine z_iconst hx hb (nI 0) dX1_renew_48 (by decide) ?_
        refine z_top (show nI 0 = zB false from rfl) ?_
        refine z_put hE fF_X1_3 fP_X1 rfl hZ 0 rfl (zB_nar _) (zB_fit _) (Nat.le_of_ble_eq_true rfl) dX1_renew_49 [(d0, .inr (1, [.ref d1, .ref d2, .int (zI dn), .int (zB false), .int (zB db), .int (zI dc)])), (d1, .inl (cJ, 3000, .inr (.inl w))), (d2, .inl (cI, 5, .inl (fun x9 => zI (du x9))))] rfl (fun H locs hZ => ?_)
        exact z_vret hE hrt9 hlocks hZ w rfl (show (DR B w du dn false) from DR_renew hR h0 hf (fun j => by rw [hw j, show i = 600 by omega])) rfl dX1_renew_52 (Nat.le_of_ble_eq_true rfl) (Nat.le_of_ble_eq_true rfl)
      · skip
        refine lv_aload_n hx hb dX1_renew_25 rfl (lv_at hl 0 rfl) ?_
        refine z_get hE fF_X1_0 hZ 0 rfl (.ref d1) rfl dX1_renew_26 ?_
        refine lv_aload_n hx hb dX1_renew_29 rfl (lv_at hl 0 rfl) ?_
        refine z_get hE fF_X1_2 hZ 0 rfl (.int (zI dn)) rfl dX1_renew_30 ?_
        refine z_top (show zI dn = nI dn.toNat from zI_inN (by omega) (by omega)) ?_
        refine z_sipush hx hb (nI 600) dX1_renew_33 (by decide) ?_
        refine z_imul hx hb dX1_renew_36 (z := nI (dn.toNat * 600)) (pk_mul _ _) ?_
        refine lv_iload_n hx hb dX1_renew_37 rfl (lv_at hl 1 rfl) ?_
        refine z_iadd hx hb dX1_renew_38 (z := nI ((dn.toNat * 600) + i)) (nI_add _ _) ?_
        refine lv_lconst (v := 0) hx hb dX1_renew_39 (by decide) ?_
        refine z_last w 0 hE hZ 1 1 rfl rfl (by decide) (by omega) dX1_renew_40 [(d0, .inr (1, [.ref d1, .ref d2, .int (zI dn), .int (zB df), .int (zB db), .int (zI dc)])), (d1, .inl (cJ, 3000, .inr (.inl (va_up w ((dn.toNat * 600) + i) 0)))), (d2, .inl (cI, 5, .inl (fun x9 => zI (du x9))))] rfl (fun H locs hZ => ?_)
        refine lv_iinc (v := nI (i + 1)) (lv' := [(1, .int (nI (i + 1))), (0, .ref d0)]) hx hb dX1_renew_41 hl (k := 1) rfl (nI_add _ _) (by decide) rfl (fun ls hl => ?_)
        refine lv_goto (tgt := 18) hx hb dX1_renew_44 (by decide) ?_
        exact ih18 (i + 1, va_up w ((dn.toNat * 600) + i) 0) _ _ _ ⟨by omega, up_rng (F := fun _ => 0) (by omega) hw rfl, hZ, lv_sub hl [1, 0] (by first | rfl | (simp only [lv_pick]; rfl))⟩ (by (try dsimp only); omega)
    · skip
      exfalso
      omega
set_option maxHeartbeats 1000000 in
set_option maxRecDepth 100000 in
theorem c_X1_restore (l : Launch) (D : va_G) (cI cJ cZ cII cZZ : ClassId) (d0 : Nat) (d1 : Nat) (d2 : Nat) (dw : Nat → Int64) (du : Nat → Int) (dn : Int) (df : Bool) (db : Bool) (dc : Int) (B : Nat → Int64) (n : Nat) (hR : DR B dw du dn df) (h0 : 0 ≤ dn) (hf : df = false) (hn : n < 2 ^ 31) :
    zC l yX1_restore cX1_restore 5 none { frames := 1, cells := 0, slots := 0, locals := 25 } D (zT cI cJ cZ cII cZZ) [.ref d0, .int (nI n)] [(d0, .inr (1, [.ref d1, .ref d2, .int (zI dn), .int (zB df), .int (zB db), .int (zI dc)])), (d1, .inl (cJ, 3000, .inr (.inl dw))), (d2, .inl (cI, 5, .inl (fun x9 => zI (du x9))))] (S := (Nat → Int64) × (Nat → Int) × Int) (fun u => none) (fun u => (DR B u.1 u.2.1 u.2.2 df) ∧ (u.2.2 = if 150 ≤ du dn.toNat + n then -1 else dn) ∧ (u.2.1 = va_up du dn.toNat (if 150 ≤ du dn.toNat + n then 150 else du dn.toNat + n))) (fun u => [(d0, .inr (1, [.ref d1, .ref d2, .int (zI u.2.2), .int (zB df), .int (zB db), .int (zI dc)])), (d1, .inl (cJ, 3000, .inr (.inl u.1))), (d2, .inl (cI, 5, .inl (fun x9 => zI (u.2.1 x9))))]) := by
  refine zC_of (by decide) (Nat.le_of_ble_eq_true rfl) ?_
  intro prg env s mth below meth cde A ls hE hrt9 hlocks hnm hZ hl
  have hx := hE.1
  have hb := hE.2.1
  have hl : lv_has ls 5 [(0, .ref d0), (1, .int (nI n))] := hl
  have hdn := hR.1
  have hus := hR.2.1 dn.toNat (by omega)
  refine lv_aload_n hx hb dX1_restore_0 rfl (lv_at hl 0 rfl) ?_
  refine z_get hE fF_X1_2 hZ 0 rfl (.int (zI dn)) rfl dX1_restore_1 ?_
  refine z_if_lt hx hb 15 dX1_restore_4 (by decide) (C := dn < 0) (zI_lt0 ⟨by omega, by omega⟩) (fun h4 => ?_) (fun h4 => ?_)
  · skip
    exfalso
    omega
  · skip
    refine lv_aload_n hx hb dX1_restore_7 rfl (lv_at hl 0 rfl) ?_
    refine z_get hE fF_X1_2 hZ 0 rfl (.int (zI dn)) rfl dX1_restore_8 ?_
    refine z_iconst hx hb (nI 5) dX1_restore_11 (by decide) ?_
    refine z_icmp_lt hx hb 16 dX1_restore_12 (by decide) (C := (dn : Int) < 5) (by (try simp only [zI_n]); exact zI_lt ⟨by omega, by omega⟩ ⟨by omega, by omega⟩) (fun h12 => ?_) (fun h12 => ?_)
    · skip
      refine lv_aload_n hx hb dX1_restore_16 rfl (lv_at hl 0 rfl) ?_
      refine z_get hE fF_X1_1 hZ 0 rfl (.ref d2) rfl dX1_restore_17 ?_
      refine lv_aload_n hx hb dX1_restore_20 rfl (lv_at hl 0 rfl) ?_
      refine z_get hE fF_X1_2 hZ 0 rfl (.int (zI dn)) rfl dX1_restore_21 ?_
      refine z_top (show zI dn = nI dn.toNat from zI_inN (by omega) (by omega)) ?_
      refine z_iald hE hZ 2 0 rfl rfl (by decide) (by omega) dX1_restore_24 ?_
      refine z_top (show zI (du dn.toNat) = nI ((du dn.toNat).toNat) from zI_inN (by omega) (by omega)) ?_
      refine lv_istore_n (lv' := [(2, .int (nI ((du dn.toNat).toNat))), (0, .ref d0), (1, .int (nI n))]) hx hb dX1_restore_25 rfl hl (by decide) rfl (fun ls hl => ?_)
      refine lv_iload_n hx hb dX1_restore_26 rfl (lv_at hl 0 rfl) ?_
      refine lv_iload_n hx hb dX1_restore_27 rfl (lv_at hl 2 rfl) ?_
      refine z_sipush hx hb (nI 150) dX1_restore_28 (by decide) ?_
      refine lv_iload_n hx hb dX1_restore_31 rfl (lv_at hl 0 rfl) ?_
      refine z_isub hx hb dX1_restore_32 (z := nI (150 - ((du dn.toNat).toNat))) (pk_sub (by omega)) ?_
      refine z_mmin (rest := [.int (nI ((du dn.toNat).toNat))]) hE hl.1 lC_X1_57 (Nat.le_of_ble_eq_true rfl) (Nat.le_of_ble_eq_true rfl) (Nat.le_of_ble_eq_true rfl) (Nat.le_of_ble_eq_true rfl) ((n : Nat) : Int) ((150 - ((du dn.toNat).toNat) : Nat) : Int) (zI_n _) (zI_n _) ⟨by omega, by omega⟩ ⟨by omega, by omega⟩ dX1_restore_33 ?_
      refine z_top (show zI (if ((150 - ((du dn.toNat).toNat) : Nat) : Int) < ((n : Nat) : Int) then ((150 - ((du dn.toNat).toNat) : Nat) : Int) else ((n : Nat) : Int)) = nI (if 150 ≤ du dn.toNat + n then 150 - (du dn.toNat).toNat else n) from by rw [zI_n]; congr 1; split <;> split <;> omega) ?_
      refine z_iadd hx hb dX1_restore_36 (z := nI (((du dn.toNat).toNat) + (if 150 ≤ du dn.toNat + n then 150 - (du dn.toNat).toNat else n))) (nI_add _ _) ?_
      obtain ⟨en, hen⟩ : ∃ en : Nat, en = (du dn.toNat).toNat + (if 150 ≤ du dn.toNat + n then 150 - (du dn.toNat).toNat else n) := ⟨_, rfl⟩
      have hen2 : (en : Int) = if 150 ≤ du dn.toNat + n then 150 else du dn.toNat + n := by rw [hen]; split <;> omega
      have hen3 : en ≤ 150 := by rw [hen]; split <;> omega
      refine z_top (show nI (((du dn.toNat).toNat) + (if 150 ≤ du dn.toNat + n then 150 - (du dn.toNat).toNat else n)) = nI en from by rw [hen]) ?_
      refine lv_istore_n (lv' := [(3, .int (nI en)), (2, .int (nI ((du dn.toNat).toNat))), (0, .ref d0), (1, .int (nI n))]) hx hb dX1_restore_37 rfl hl (by decide) rfl (fun ls hl => ?_)
      refine lv_iload_n hx hb dX1_restore_38 rfl (lv_at hl 1 rfl) ?_
      refine z_iconst hx hb (nI 4) dX1_restore_39 (by decide) ?_
      refine z_imul hx hb dX1_restore_40 (z := nI (((du dn.toNat).toNat) * 4)) (pk_mul _ _) ?_
      refine lv_istore (lv' := [(4, .int (nI (((du dn.toNat).toNat) * 4))), (3, .int (nI en)), (2, .int (nI ((du dn.toNat).toNat))), (0, .ref d0), (1, .int (nI n))]) hx hb dX1_restore_41 hl (by decide) rfl (fun ls hl => ?_)
      refine z_loop (σ := Nat × (Nat → Int64)) (fun (i, w) H locs ls => ((du dn.toNat).toNat * 4 ≤ i ∧ i ≤ en * 4) ∧ (∀ j, w j = if dn.toNat * 600 + (du dn.toNat).toNat * 4 ≤ j ∧ j < dn.toNat * 600 + i then Bd B dn.toNat (j - dn.toNat * 600) else dw j) ∧ zS D A s.heap H locs [(d0, .inr (1, [.ref d1, .ref d2, .int (zI dn), .int (zB df), .int (zB db), .int (zI dc)])), (d1, .inl (cJ, 3000, .inr (.inl w))), (d2, .inl (cI, 5, .inl (fun x9 => zI (du x9))))] ∧ lv_has ls 5 [(0, .ref d0), (1, .int (nI n)), (2, .int (nI ((du dn.toNat).toNat))), (3, .int (nI en)), (4, .int (nI i))]) (fun (i, w) => en * 4 - i) [] (((du dn.toNat).toNat) * 4, dw) ⟨⟨by omega, by rw [hen]; omega⟩, fun j => by rw [if_neg (by omega)], hZ, lv_sub hl [3, 4, 2, 1, 0] (by first | rfl | (simp only [lv_pick]; rfl))⟩ ?_
      intro x H locs ls hI ih43
      obtain ⟨i, w⟩ := x
      obtain ⟨hi, hw, hZ, hl⟩ := hI
      refine lv_iload hx hb dX1_restore_43 (lv_at hl 4 rfl) ?_
      refine lv_iload_n hx hb dX1_restore_45 rfl (lv_at hl 3 rfl) ?_
      refine z_iconst hx hb (nI 4) dX1_restore_46 (by decide) ?_
      refine z_imul hx hb dX1_restore_47 (z := nI (en * 4)) (pk_mul _ _) ?_
      refine z_icmp_ge hx hb 83 dX1_restore_48 (by decide) (C := en * 4 ≤ i) (nIle (by omega) (by omega)) (fun h48 => ?_) (fun h48 => ?_)
      · skip
        refine lv_aload_n hx hb dX1_restore_83 rfl (lv_at hl 0 rfl) ?_
        refine z_get hE fF_X1_1 hZ 0 rfl (.ref d2) rfl dX1_restore_84 ?_
        refine lv_aload_n hx hb dX1_restore_87 rfl (lv_at hl 0 rfl) ?_
        refine z_get hE fF_X1_2 hZ 0 rfl (.int (zI dn)) rfl dX1_restore_88 ?_
        refine z_top (show zI dn = nI dn.toNat from zI_inN (by omega) (by omega)) ?_
        refine lv_iload_n hx hb dX1_restore_91 rfl (lv_at hl 3 rfl) ?_
        refine z_top (show nI en = zI ((en : Nat) : Int) from zI_n _) ?_
        refine z_iast zI du ((en : Nat) : Int) hE hZ 2 0 rfl rfl (by decide) (by omega) dX1_restore_92 [(d0, .inr (1, [.ref d1, .ref d2, .int (zI dn), .int (zB df), .int (zB db), .int (zI dc)])), (d1, .inl (cJ, 3000, .inr (.inl w))), (d2, .inl (cI, 5, .inl (fun x9 => zI ((va_up du dn.toNat ((en : Nat) : Int)) x9))))] rfl (fun H locs hZ => ?_)
        refine lv_iload_n hx hb dX1_restore_93 rfl (lv_at hl 3 rfl) ?_
        refine z_sipush hx hb (nI 150) dX1_restore_94 (by decide) ?_
        refine z_icmp_ne hx hb 105 dX1_restore_97 (by decide) (C := en = 150) (nI_eq (by omega) (by omega)) (fun h97 => ?_) (fun h97 => ?_)
        · skip
          exact z_vret hE hrt9 hlocks hZ (w, va_up du dn.toNat ((en : Nat) : Int), dn) rfl (show (DR B w (va_up du dn.toNat ((en : Nat) : Int)) dn df) ∧ (dn = if 150 ≤ du dn.toNat + n then -1 else dn) ∧ ((va_up du dn.toNat ((en : Nat) : Int)) = va_up du dn.toNat (if 150 ≤ du dn.toNat + n then 150 else du dn.toNat + n)) from ⟨by have q := DR_restore (w := w) hR h0 hf (by rw [hen2]; split <;> omega) hen3 (fun j => by rw [hw j, show i = en * 4 by omega]); first | (rw [if_pos h97] at q; exact q) | (rw [if_neg h97] at q; exact q), by have z := hen2; (try dsimp only); by_cases zz : 150 ≤ du dn.toNat + n <;> simp only [zz, if_true, if_false] at z ⊢ <;> omega, by rw [← hen2]⟩) rfl dX1_restore_105 (Nat.le_of_ble_eq_true rfl) (Nat.le_of_ble_eq_true rfl)
        · skip
          refine lv_aload_n hx hb dX1_restore_100 rfl (lv_at hl 0 rfl) ?_
          refine z_iconst hx hb (zI (-1)) dX1_restore_101 (by decide) ?_
          refine z_put hE fF_X1_2 fP_X1 rfl hZ 0 rfl rfl rfl (Nat.le_of_ble_eq_true rfl) dX1_restore_102 [(d0, .inr (1, [.ref d1, .ref d2, .int (zI (-1)), .int (zB df), .int (zB db), .int (zI dc)])), (d1, .inl (cJ, 3000, .inr (.inl w))), (d2, .inl (cI, 5, .inl (fun x9 => zI ((va_up du dn.toNat ((en : Nat) : Int)) x9))))] rfl (fun H locs hZ => ?_)
          exact z_vret hE hrt9 hlocks hZ (w, va_up du dn.toNat ((en : Nat) : Int), (-1)) rfl (show (DR B w (va_up du dn.toNat ((en : Nat) : Int)) (-1) df) ∧ ((-1) = if 150 ≤ du dn.toNat + n then -1 else dn) ∧ ((va_up du dn.toNat ((en : Nat) : Int)) = va_up du dn.toNat (if 150 ≤ du dn.toNat + n then 150 else du dn.toNat + n)) from ⟨by have q := DR_restore (w := w) hR h0 hf (by rw [hen2]; split <;> omega) hen3 (fun j => by rw [hw j, show i = en * 4 by omega]); first | (rw [if_pos h97] at q; exact q) | (rw [if_neg h97] at q; exact q), by have z := hen2; (try dsimp only); by_cases zz : 150 ≤ du dn.toNat + n <;> simp only [zz, if_true, if_false] at z ⊢ <;> omega, by rw [← hen2]⟩) rfl dX1_restore_105 (Nat.le_of_ble_eq_true rfl) (Nat.le_of_ble_eq_true rfl)
      · skip
        refine lv_aload_n hx hb dX1_restore_51 rfl (lv_at hl 0 rfl) ?_
        refine z_get hE fF_X1_0 hZ 0 rfl (.ref d1) rfl dX1_restore_52 ?_
        refine lv_aload_n hx hb dX1_restore_55 rfl (lv_at hl 0 rfl) ?_
        refine z_get hE fF_X1_2 hZ 0 rfl (.int (zI dn)) rfl dX1_restore_56 ?_
        refine z_top (show zI dn = nI dn.toNat from zI_inN (by omega) (by omega)) ?_
        refine z_sipush hx hb (nI 600) dX1_restore_59 (by decide) ?_
        refine z_imul hx hb dX1_restore_62 (z := nI (dn.toNat * 600)) (pk_mul _ _) ?_
        refine lv_iload hx hb dX1_restore_63 (lv_at hl 4 rfl) ?_
        refine z_iadd hx hb dX1_restore_65 (z := nI ((dn.toNat * 600) + i)) (nI_add _ _) ?_
        refine lv_aload_n hx hb dX1_restore_66 rfl (lv_at hl 0 rfl) ?_
        refine lv_aload_n hx hb dX1_restore_67 rfl (lv_at hl 0 rfl) ?_
        refine z_get hE fF_X1_2 hZ 0 rfl (.int (zI dn)) rfl dX1_restore_68 ?_
        refine z_top (show zI dn = nI dn.toNat from zI_inN (by omega) (by omega)) ?_
        refine lv_iload hx hb dX1_restore_71 (lv_at hl 4 rfl) ?_
        refine z_kV (As := [.int (nI dn.toNat), .int (nI i)]) (rest := [.int (nI ((dn.toNat * 600) + i)), .ref d1]) hE hZ (c_X1_due l D cI cJ cZ cII cZZ d0 d1 d2 w du dn df db dc B dn.toNat i (by omega) (by omega) (DU_mid hR h0 (by omega) hw)) lL_X1_due lC_X1_42 rfl [0, 1, 2] [] [0, 1, 2] [] (fun u => [(d0, .inr (1, [.ref d1, .ref d2, .int (zI dn), .int (zB df), .int (zB db), .int (zI dc)])), (d1, .inl (cJ, 3000, .inr (.inl w))), (d2, .inl (cI, 5, .inl (fun x9 => zI (du x9))))]) 0 rfl rfl rfl (fun _ => rfl) (by decide) ⟨by decide, by decide⟩ 0 0 rfl rfl ⟨by decide, by decide⟩ rfl hl.1 rfl (Nat.le_of_ble_eq_true rfl) dX1_restore_73 (fun u H locs hq9 hZ => ?_)
        have hZ : zS D A s.heap H locs [(d0, .inr (1, [.ref d1, .ref d2, .int (zI dn), .int (zB df), .int (zB db), .int (zI dc)])), (d1, .inl (cJ, 3000, .inr (.inl w))), (d2, .inl (cI, 5, .inl (fun x9 => zI (du x9))))] := hZ
        refine W.eq (g2 := F0 mth 76 ls [.long (Bd B dn.toNat i), .int (nI ((dn.toNat * 600) + i)), .ref d1]) rfl ?_
        refine z_last w (Bd B dn.toNat i) hE hZ 1 1 rfl rfl (by decide) (by omega) dX1_restore_76 [(d0, .inr (1, [.ref d1, .ref d2, .int (zI dn), .int (zB df), .int (zB db), .int (zI dc)])), (d1, .inl (cJ, 3000, .inr (.inl (va_up w ((dn.toNat * 600) + i) (Bd B dn.toNat i))))), (d2, .inl (cI, 5, .inl (fun x9 => zI (du x9))))] rfl (fun H locs hZ => ?_)
        refine lv_iinc (v := nI (i + 1)) (lv' := [(4, .int (nI (i + 1))), (0, .ref d0), (1, .int (nI n)), (2, .int (nI ((du dn.toNat).toNat))), (3, .int (nI en))]) hx hb dX1_restore_77 hl (k := 4) rfl (nI_add _ _) (by decide) rfl (fun ls hl => ?_)
        refine lv_goto (tgt := 43) hx hb dX1_restore_80 (by decide) ?_
        exact ih43 (i + 1, va_up w ((dn.toNat * 600) + i) (Bd B dn.toNat i)) _ _ _ ⟨by omega, up_rng (by omega) hw (by congr 1; omega), hZ, lv_sub hl [1, 2, 3, 4, 0] (by first | rfl | (simp only [lv_pick]; rfl))⟩ (by (try dsimp only); omega)
    · skip
      exfalso
      omega
