set_option maxHeartbeats 1000000 in
set_option maxRecDepth 100000 in
theorem c_X7_block (l : Launch) (D : va_G) (cI cJ cZ cII cZZ : ClassId) (t0 : Nat) (t1 : Nat) (t2 : Nat) (t3 : Nat) (t4 : Nat) (t5 : Nat) (t6 : Nat) (t7 : Nat) (t8 : Nat) (t9 : Nat) (tA : Nat) (tB : Nat) (tC : Nat) (tD : Nat) (tR : Nat → Nat) (tS : Nat → Nat) (e0 : Nat) (eP : Nat → Nat) (eb : Int) (er : Int) (ek : Bool) (es : Nat → Int) (ed : Nat → Nat → Nat) (ec : Nat → Bool) (ew : Nat → Nat → Bool) (lk : Nat → Nat) (lf : Nat → Nat) (lo : Nat → Nat) (lv : Nat → Int64) (le : Nat) (eW : Int) (et : Nat → Nat) (eh : Nat → Nat) (ei : Nat → Int) (eu : Nat → Bool) (em : Nat) (B : Nat → Int64) (d : Int) (b : Int) (w : Int) (d_q : Int32) (b_q : Int32) (w_q : Int32) (hP : RP B eP) (hd : -2147483648 ≤ d ∧ d < 2147483648) (hb1 : -2147483648 ≤ b ∧ b < 2147483648) (hw : -2147483648 ≤ w ∧ w < 2147483648) (hbd : -1 ≤ eb ∧ eb < 5) (hrd : -1 ≤ er ∧ er ≤ 150) (d_h : d_q = zI d) (b_h : b_q = zI b) (w_h : w_q = zI w) :
    zC l yX7_block cX7_block 9 (some .long) { frames := 1, cells := 0, slots := 0, locals := 22 } D (zT cI cJ cZ cII cZZ) [.ref t0, .int (d_q), .int (b_q), .int (w_q)] (WQ cI cJ cZ cII cZZ [] t0 t1 t2 t3 t4 t5 t6 t7 t8 t9 tA tB tC tD tR tS e0 eP eb er ek es ed ec ew lk lf lo lv le eW et eh ei eu em) (S := Nat × Int64) (fun u => some (.long u.2)) (fun u => ((u.1 = 1 ∧ ¬ (0 ≤ d ∧ d < 5 ∧ 0 ≤ b ∧ b < 150 ∧ 0 ≤ w ∧ w < 4)) ∨ (u.1 = 2 ∧ (0 ≤ d ∧ d < 5 ∧ 0 ≤ b ∧ b < 150 ∧ 0 ≤ w ∧ w < 4) ∧ d = eb ∧ er < 0) ∨ (u.1 = 0 ∧ (0 ≤ d ∧ d < 5 ∧ 0 ≤ b ∧ b < 150 ∧ 0 ≤ w ∧ w < 4) ∧ ¬ (d = eb ∧ er < 0) ∧ u.2 = if d = eb ∧ er ≤ b then 0 else Bd B d.toNat (b.toNat * 4 + w.toNat)))) (fun u => (WQ cI cJ cZ cII cZZ [] t0 t1 t2 t3 t4 t5 t6 t7 t8 t9 tA tB tC tD tR tS u.1 eP eb er ek es ed ec ew lk lf lo lv le eW et eh ei eu em)) := by
  refine zC_of (by decide) (Nat.le_of_ble_eq_true rfl) ?_
  intro prg env s mth below meth cde A ls hE hrt9 hlocks hnm hZ hl
  have hx := hE.1
  have hb := hE.2.1
  subst d_h
  subst b_h
  subst w_h
  have hl : lv_has ls 9 [(0, .ref t0), (1, .int (zI d)), (2, .int (zI b)), (3, .int (zI w))] := hl
  refine lv_aload_n hx hb dX7_block_0 rfl (lv_at hl 0 rfl) ?_
  refine lv_iload_n hx hb dX7_block_1 rfl (lv_at hl 1 rfl) ?_
  refine z_if_lt hx hb 30 dX7_block_2 (by decide) (C := d < 0) (zI_lt0 ⟨by omega, by omega⟩) (fun h2 => ?_) (fun h2 => ?_)
  · skip
    have hnk : ¬ (0 ≤ d ∧ d < 5 ∧ 0 ≤ b ∧ b < 150 ∧ 0 ≤ w ∧ w < 4) := by omega
    refine z_iconst hx hb (nI 1) dX7_block_30 (by decide) ?_
    refine lv_goto (tgt := 35) hx hb dX7_block_31 (by decide) ?_
    refine z_iconst hx hb (nI 1) dX7_block_35 (by decide) ?_
    refine z_kVp (As := [.int (nI 1), .int (nI 1)]) (rest := []) hE hZ (c_X7_fails l D cI cJ cZ cII cZZ t0 t1 t2 t3 t4 t5 t6 t7 t8 t9 tA tB tC tD tR tS e0 eP eb er ek es ed ec ew lk lf lo lv le eW et eh ei eu em true 1 ) lL_X7_fails lC_X7_125 rfl [] (List.Perm.refl _) (fun u => (WQ cI cJ cZ cII cZZ [] t0 t1 t2 t3 t4 t5 t6 t7 t8 t9 tA tB tC tD tR tS (if true = true then 1 else 0) eP eb er ek es ed ec ew lk lf lo lv le eW et eh ei eu em)) (fun _ => List.Perm.refl _) 0 rfl ⟨by decide, by decide⟩ 0 0 rfl rfl ⟨by decide, by decide⟩ rfl hl.1 rfl (Nat.le_of_ble_eq_true rfl) dX7_block_36 (fun u H locs hq9 hZ => ?_)
    have hZ : zS D A s.heap H locs (WQ cI cJ cZ cII cZZ [] t0 t1 t2 t3 t4 t5 t6 t7 t8 t9 tA tB tC tD tR tS (if true = true then 1 else 0) eP eb er ek es ed ec ew lk lf lo lv le eW et eh ei eu em) := hZ
    refine W.eq (g2 := F0 mth 39 ls [.int (zB true)]) rfl ?_
    refine z_if_eq hx hb 44 dX7_block_39 (by decide) (C := False) (by rw [zB_0]; simp) (fun h39 => ?_) (fun h39 => ?_)
    · skip
      exact h39.elim
    · skip
      refine lv_lconst (v := 0) hx hb dX7_block_42 (by decide) ?_
      exact z_lret hE hrt9 hlocks hZ ((if true = true then 1 else 0), 0) rfl (show (((if true = true then 1 else 0) = 1 ∧ ¬ (0 ≤ d ∧ d < 5 ∧ 0 ≤ b ∧ b < 150 ∧ 0 ≤ w ∧ w < 4)) ∨ ((if true = true then 1 else 0) = 2 ∧ (0 ≤ d ∧ d < 5 ∧ 0 ≤ b ∧ b < 150 ∧ 0 ≤ w ∧ w < 4) ∧ d = eb ∧ er < 0) ∨ ((if true = true then 1 else 0) = 0 ∧ (0 ≤ d ∧ d < 5 ∧ 0 ≤ b ∧ b < 150 ∧ 0 ≤ w ∧ w < 4) ∧ ¬ (d = eb ∧ er < 0) ∧ 0 = if d = eb ∧ er ≤ b then 0 else Bd B d.toNat (b.toNat * 4 + w.toNat))) from Or.inl ⟨rfl, hnk⟩) rfl dX7_block_43 (Nat.le_of_ble_eq_true rfl) (Nat.le_of_ble_eq_true rfl)
  · skip
    refine lv_iload_n hx hb dX7_block_5 rfl (lv_at hl 1 rfl) ?_
    refine z_iconst hx hb (nI 4) dX7_block_6 (by decide) ?_
    refine z_icmp_gt hx hb 30 dX7_block_7 (by decide) (C := (4 : Int) < d) (by (try simp only [zI_n]); exact zI_lt ⟨by omega, by omega⟩ ⟨by omega, by omega⟩) (fun h7 => ?_) (fun h7 => ?_)
    · skip
      have hnk : ¬ (0 ≤ d ∧ d < 5 ∧ 0 ≤ b ∧ b < 150 ∧ 0 ≤ w ∧ w < 4) := by omega
      refine z_iconst hx hb (nI 1) dX7_block_30 (by decide) ?_
      refine lv_goto (tgt := 35) hx hb dX7_block_31 (by decide) ?_
      refine z_iconst hx hb (nI 1) dX7_block_35 (by decide) ?_
      refine z_kVp (As := [.int (nI 1), .int (nI 1)]) (rest := []) hE hZ (c_X7_fails l D cI cJ cZ cII cZZ t0 t1 t2 t3 t4 t5 t6 t7 t8 t9 tA tB tC tD tR tS e0 eP eb er ek es ed ec ew lk lf lo lv le eW et eh ei eu em true 1 ) lL_X7_fails lC_X7_125 rfl [] (List.Perm.refl _) (fun u => (WQ cI cJ cZ cII cZZ [] t0 t1 t2 t3 t4 t5 t6 t7 t8 t9 tA tB tC tD tR tS (if true = true then 1 else 0) eP eb er ek es ed ec ew lk lf lo lv le eW et eh ei eu em)) (fun _ => List.Perm.refl _) 0 rfl ⟨by decide, by decide⟩ 0 0 rfl rfl ⟨by decide, by decide⟩ rfl hl.1 rfl (Nat.le_of_ble_eq_true rfl) dX7_block_36 (fun u H locs hq9 hZ => ?_)
      have hZ : zS D A s.heap H locs (WQ cI cJ cZ cII cZZ [] t0 t1 t2 t3 t4 t5 t6 t7 t8 t9 tA tB tC tD tR tS (if true = true then 1 else 0) eP eb er ek es ed ec ew lk lf lo lv le eW et eh ei eu em) := hZ
      refine W.eq (g2 := F0 mth 39 ls [.int (zB true)]) rfl ?_
      refine z_if_eq hx hb 44 dX7_block_39 (by decide) (C := False) (by rw [zB_0]; simp) (fun h39 => ?_) (fun h39 => ?_)
      · skip
        exact h39.elim
      · skip
        refine lv_lconst (v := 0) hx hb dX7_block_42 (by decide) ?_
        exact z_lret hE hrt9 hlocks hZ ((if true = true then 1 else 0), 0) rfl (show (((if true = true then 1 else 0) = 1 ∧ ¬ (0 ≤ d ∧ d < 5 ∧ 0 ≤ b ∧ b < 150 ∧ 0 ≤ w ∧ w < 4)) ∨ ((if true = true then 1 else 0) = 2 ∧ (0 ≤ d ∧ d < 5 ∧ 0 ≤ b ∧ b < 150 ∧ 0 ≤ w ∧ w < 4) ∧ d = eb ∧ er < 0) ∨ ((if true = true then 1 else 0) = 0 ∧ (0 ≤ d ∧ d < 5 ∧ 0 ≤ b ∧ b < 150 ∧ 0 ≤ w ∧ w < 4) ∧ ¬ (d = eb ∧ er < 0) ∧ 0 = if d = eb ∧ er ≤ b then 0 else Bd B d.toNat (b.toNat * 4 + w.toNat))) from Or.inl ⟨rfl, hnk⟩) rfl dX7_block_43 (Nat.le_of_ble_eq_true rfl) (Nat.le_of_ble_eq_true rfl)
    · skip
      refine lv_iload_n hx hb dX7_block_10 rfl (lv_at hl 2 rfl) ?_
      refine z_if_lt hx hb 30 dX7_block_11 (by decide) (C := b < 0) (zI_lt0 ⟨by omega, by omega⟩) (fun h11 => ?_) (fun h11 => ?_)
      · skip
        have hnk : ¬ (0 ≤ d ∧ d < 5 ∧ 0 ≤ b ∧ b < 150 ∧ 0 ≤ w ∧ w < 4) := by omega
        refine z_iconst hx hb (nI 1) dX7_block_30 (by decide) ?_
        refine lv_goto (tgt := 35) hx hb dX7_block_31 (by decide) ?_
        refine z_iconst hx hb (nI 1) dX7_block_35 (by decide) ?_
        refine z_kVp (As := [.int (nI 1), .int (nI 1)]) (rest := []) hE hZ (c_X7_fails l D cI cJ cZ cII cZZ t0 t1 t2 t3 t4 t5 t6 t7 t8 t9 tA tB tC tD tR tS e0 eP eb er ek es ed ec ew lk lf lo lv le eW et eh ei eu em true 1 ) lL_X7_fails lC_X7_125 rfl [] (List.Perm.refl _) (fun u => (WQ cI cJ cZ cII cZZ [] t0 t1 t2 t3 t4 t5 t6 t7 t8 t9 tA tB tC tD tR tS (if true = true then 1 else 0) eP eb er ek es ed ec ew lk lf lo lv le eW et eh ei eu em)) (fun _ => List.Perm.refl _) 0 rfl ⟨by decide, by decide⟩ 0 0 rfl rfl ⟨by decide, by decide⟩ rfl hl.1 rfl (Nat.le_of_ble_eq_true rfl) dX7_block_36 (fun u H locs hq9 hZ => ?_)
        have hZ : zS D A s.heap H locs (WQ cI cJ cZ cII cZZ [] t0 t1 t2 t3 t4 t5 t6 t7 t8 t9 tA tB tC tD tR tS (if true = true then 1 else 0) eP eb er ek es ed ec ew lk lf lo lv le eW et eh ei eu em) := hZ
        refine W.eq (g2 := F0 mth 39 ls [.int (zB true)]) rfl ?_
        refine z_if_eq hx hb 44 dX7_block_39 (by decide) (C := False) (by rw [zB_0]; simp) (fun h39 => ?_) (fun h39 => ?_)
        · skip
          exact h39.elim
        · skip
          refine lv_lconst (v := 0) hx hb dX7_block_42 (by decide) ?_
          exact z_lret hE hrt9 hlocks hZ ((if true = true then 1 else 0), 0) rfl (show (((if true = true then 1 else 0) = 1 ∧ ¬ (0 ≤ d ∧ d < 5 ∧ 0 ≤ b ∧ b < 150 ∧ 0 ≤ w ∧ w < 4)) ∨ ((if true = true then 1 else 0) = 2 ∧ (0 ≤ d ∧ d < 5 ∧ 0 ≤ b ∧ b < 150 ∧ 0 ≤ w ∧ w < 4) ∧ d = eb ∧ er < 0) ∨ ((if true = true then 1 else 0) = 0 ∧ (0 ≤ d ∧ d < 5 ∧ 0 ≤ b ∧ b < 150 ∧ 0 ≤ w ∧ w < 4) ∧ ¬ (d = eb ∧ er < 0) ∧ 0 = if d = eb ∧ er ≤ b then 0 else Bd B d.toNat (b.toNat * 4 + w.toNat))) from Or.inl ⟨rfl, hnk⟩) rfl dX7_block_43 (Nat.le_of_ble_eq_true rfl) (Nat.le_of_ble_eq_true rfl)
      · skip
        refine lv_iload_n hx hb dX7_block_14 rfl (lv_at hl 2 rfl) ?_
        refine z_sipush hx hb (nI 150) dX7_block_15 (by decide) ?_
        refine z_icmp_ge hx hb 30 dX7_block_18 (by decide) (C := (150 : Int) ≤ b) (by (try simp only [zI_n]); exact zI_le ⟨by omega, by omega⟩ ⟨by omega, by omega⟩) (fun h18 => ?_) (fun h18 => ?_)
        · skip
          have hnk : ¬ (0 ≤ d ∧ d < 5 ∧ 0 ≤ b ∧ b < 150 ∧ 0 ≤ w ∧ w < 4) := by omega
          refine z_iconst hx hb (nI 1) dX7_block_30 (by decide) ?_
          refine lv_goto (tgt := 35) hx hb dX7_block_31 (by decide) ?_
          refine z_iconst hx hb (nI 1) dX7_block_35 (by decide) ?_
          refine z_kVp (As := [.int (nI 1), .int (nI 1)]) (rest := []) hE hZ (c_X7_fails l D cI cJ cZ cII cZZ t0 t1 t2 t3 t4 t5 t6 t7 t8 t9 tA tB tC tD tR tS e0 eP eb er ek es ed ec ew lk lf lo lv le eW et eh ei eu em true 1 ) lL_X7_fails lC_X7_125 rfl [] (List.Perm.refl _) (fun u => (WQ cI cJ cZ cII cZZ [] t0 t1 t2 t3 t4 t5 t6 t7 t8 t9 tA tB tC tD tR tS (if true = true then 1 else 0) eP eb er ek es ed ec ew lk lf lo lv le eW et eh ei eu em)) (fun _ => List.Perm.refl _) 0 rfl ⟨by decide, by decide⟩ 0 0 rfl rfl ⟨by decide, by decide⟩ rfl hl.1 rfl (Nat.le_of_ble_eq_true rfl) dX7_block_36 (fun u H locs hq9 hZ => ?_)
          have hZ : zS D A s.heap H locs (WQ cI cJ cZ cII cZZ [] t0 t1 t2 t3 t4 t5 t6 t7 t8 t9 tA tB tC tD tR tS (if true = true then 1 else 0) eP eb er ek es ed ec ew lk lf lo lv le eW et eh ei eu em) := hZ
          refine W.eq (g2 := F0 mth 39 ls [.int (zB true)]) rfl ?_
          refine z_if_eq hx hb 44 dX7_block_39 (by decide) (C := False) (by rw [zB_0]; simp) (fun h39 => ?_) (fun h39 => ?_)
          · skip
            exact h39.elim
          · skip
            refine lv_lconst (v := 0) hx hb dX7_block_42 (by decide) ?_
            exact z_lret hE hrt9 hlocks hZ ((if true = true then 1 else 0), 0) rfl (show (((if true = true then 1 else 0) = 1 ∧ ¬ (0 ≤ d ∧ d < 5 ∧ 0 ≤ b ∧ b < 150 ∧ 0 ≤ w ∧ w < 4)) ∨ ((if true = true then 1 else 0) = 2 ∧ (0 ≤ d ∧ d < 5 ∧ 0 ≤ b ∧ b < 150 ∧ 0 ≤ w ∧ w < 4) ∧ d = eb ∧ er < 0) ∨ ((if true = true then 1 else 0) = 0 ∧ (0 ≤ d ∧ d < 5 ∧ 0 ≤ b ∧ b < 150 ∧ 0 ≤ w ∧ w < 4) ∧ ¬ (d = eb ∧ er < 0) ∧ 0 = if d = eb ∧ er ≤ b then 0 else Bd B d.toNat (b.toNat * 4 + w.toNat))) from Or.inl ⟨rfl, hnk⟩) rfl dX7_block_43 (Nat.le_of_ble_eq_true rfl) (Nat.le_of_ble_eq_true rfl)
        · skip
          refine lv_iload_n hx hb dX7_block_21 rfl (lv_at hl 3 rfl) ?_
          refine z_if_lt hx hb 30 dX7_block_22 (by decide) (C := w < 0) (zI_lt0 ⟨by omega, by omega⟩) (fun h22 => ?_) (fun h22 => ?_)
          · skip
            have hnk : ¬ (0 ≤ d ∧ d < 5 ∧ 0 ≤ b ∧ b < 150 ∧ 0 ≤ w ∧ w < 4) := by omega
            refine z_iconst hx hb (nI 1) dX7_block_30 (by decide) ?_
            refine lv_goto (tgt := 35) hx hb dX7_block_31 (by decide) ?_
            refine z_iconst hx hb (nI 1) dX7_block_35 (by decide) ?_
            refine z_kVp (As := [.int (nI 1), .int (nI 1)]) (rest := []) hE hZ (c_X7_fails l D cI cJ cZ cII cZZ t0 t1 t2 t3 t4 t5 t6 t7 t8 t9 tA tB tC tD tR tS e0 eP eb er ek es ed ec ew lk lf lo lv le eW et eh ei eu em true 1 ) lL_X7_fails lC_X7_125 rfl [] (List.Perm.refl _) (fun u => (WQ cI cJ cZ cII cZZ [] t0 t1 t2 t3 t4 t5 t6 t7 t8 t9 tA tB tC tD tR tS (if true = true then 1 else 0) eP eb er ek es ed ec ew lk lf lo lv le eW et eh ei eu em)) (fun _ => List.Perm.refl _) 0 rfl ⟨by decide, by decide⟩ 0 0 rfl rfl ⟨by decide, by decide⟩ rfl hl.1 rfl (Nat.le_of_ble_eq_true rfl) dX7_block_36 (fun u H locs hq9 hZ => ?_)
            have hZ : zS D A s.heap H locs (WQ cI cJ cZ cII cZZ [] t0 t1 t2 t3 t4 t5 t6 t7 t8 t9 tA tB tC tD tR tS (if true = true then 1 else 0) eP eb er ek es ed ec ew lk lf lo lv le eW et eh ei eu em) := hZ
            refine W.eq (g2 := F0 mth 39 ls [.int (zB true)]) rfl ?_
            refine z_if_eq hx hb 44 dX7_block_39 (by decide) (C := False) (by rw [zB_0]; simp) (fun h39 => ?_) (fun h39 => ?_)
            · skip
              exact h39.elim
            · skip
              refine lv_lconst (v := 0) hx hb dX7_block_42 (by decide) ?_
              exact z_lret hE hrt9 hlocks hZ ((if true = true then 1 else 0), 0) rfl (show (((if true = true then 1 else 0) = 1 ∧ ¬ (0 ≤ d ∧ d < 5 ∧ 0 ≤ b ∧ b < 150 ∧ 0 ≤ w ∧ w < 4)) ∨ ((if true = true then 1 else 0) = 2 ∧ (0 ≤ d ∧ d < 5 ∧ 0 ≤ b ∧ b < 150 ∧ 0 ≤ w ∧ w < 4) ∧ d = eb ∧ er < 0) ∨ ((if true = true then 1 else 0) = 0 ∧ (0 ≤ d ∧ d < 5 ∧ 0 ≤ b ∧ b < 150 ∧ 0 ≤ w ∧ w < 4) ∧ ¬ (d = eb ∧ er < 0) ∧ 0 = if d = eb ∧ er ≤ b then 0 else Bd B d.toNat (b.toNat * 4 + w.toNat))) from Or.inl ⟨rfl, hnk⟩) rfl dX7_block_43 (Nat.le_of_ble_eq_true rfl) (Nat.le_of_ble_eq_true rfl)
          · skip
            refine lv_iload_n hx hb dX7_block_25 rfl (lv_at hl 3 rfl) ?_
            refine z_iconst hx hb (nI 3) dX7_block_26 (by decide) ?_
            refine z_icmp_le hx hb 34 dX7_block_27 (by decide) (C := (w : Int) ≤ 3) (by (try simp only [zI_n]); exact zI_le ⟨by omega, by omega⟩ ⟨by omega, by omega⟩) (fun h27 => ?_) (fun h27 => ?_)
            · skip
              have hok : 0 ≤ d ∧ d < 5 ∧ 0 ≤ b ∧ b < 150 ∧ 0 ≤ w ∧ w < 4 := by omega
              refine z_iconst hx hb (nI 0) dX7_block_34 (by decide) ?_
              refine z_iconst hx hb (nI 1) dX7_block_35 (by decide) ?_
              refine z_kVp (As := [.int (nI 0), .int (nI 1)]) (rest := []) hE hZ (c_X7_fails l D cI cJ cZ cII cZZ t0 t1 t2 t3 t4 t5 t6 t7 t8 t9 tA tB tC tD tR tS e0 eP eb er ek es ed ec ew lk lf lo lv le eW et eh ei eu em false 1 ) lL_X7_fails lC_X7_125 rfl [] (List.Perm.refl _) (fun u => (WQ cI cJ cZ cII cZZ [] t0 t1 t2 t3 t4 t5 t6 t7 t8 t9 tA tB tC tD tR tS (if false = true then 1 else 0) eP eb er ek es ed ec ew lk lf lo lv le eW et eh ei eu em)) (fun _ => List.Perm.refl _) 0 rfl ⟨by decide, by decide⟩ 0 0 rfl rfl ⟨by decide, by decide⟩ rfl hl.1 rfl (Nat.le_of_ble_eq_true rfl) dX7_block_36 (fun u H locs hq9 hZ => ?_)
              have hZ : zS D A s.heap H locs (WQ cI cJ cZ cII cZZ [] t0 t1 t2 t3 t4 t5 t6 t7 t8 t9 tA tB tC tD tR tS (if false = true then 1 else 0) eP eb er ek es ed ec ew lk lf lo lv le eW et eh ei eu em) := hZ
              refine W.eq (g2 := F0 mth 39 ls [.int (zB false)]) rfl ?_
              refine z_if_eq hx hb 44 dX7_block_39 (by decide) (C := True) (by rw [zB_0]; simp) (fun h39 => ?_) (fun h39 => ?_)
              · skip
                refine lv_aload_n hx hb dX7_block_44 rfl (lv_at hl 0 rfl) ?_
                refine lv_iload_n hx hb dX7_block_45 rfl (lv_at hl 1 rfl) ?_
                refine lv_aload_n hx hb dX7_block_46 rfl (lv_at hl 0 rfl) ?_
                refine z_get hE fF_X7_2 hZ 0 rfl (.int (zI eb)) rfl dX7_block_47 ?_
                refine z_icmp_ne hx hb 64 dX7_block_50 (by decide) (C := (d : Int) = eb) (by (try simp only [zI_n]); exact zI_eq ⟨by omega, by omega⟩ ⟨by omega, by omega⟩) (fun h50 => ?_) (fun h50 => ?_)
                · skip
                  have hnf : ¬ (d = eb ∧ er < 0) := fun z => h50 z.1
                  refine z_iconst hx hb (nI 0) dX7_block_64 (by decide) ?_
                  refine z_iconst hx hb (nI 2) dX7_block_65 (by decide) ?_
                  refine z_kVp (As := [.int (nI 0), .int (nI 2)]) (rest := []) hE hZ (c_X7_fails l D cI cJ cZ cII cZZ t0 t1 t2 t3 t4 t5 t6 t7 t8 t9 tA tB tC tD tR tS (if false = true then 1 else 0) eP eb er ek es ed ec ew lk lf lo lv le eW et eh ei eu em false 2 ) lL_X7_fails lC_X7_125 rfl [] (List.Perm.refl _) (fun u => (WQ cI cJ cZ cII cZZ [] t0 t1 t2 t3 t4 t5 t6 t7 t8 t9 tA tB tC tD tR tS (if false = true then 2 else 0) eP eb er ek es ed ec ew lk lf lo lv le eW et eh ei eu em)) (fun _ => List.Perm.refl _) 0 rfl ⟨by decide, by decide⟩ 0 0 rfl rfl ⟨by decide, by decide⟩ rfl hl.1 rfl (Nat.le_of_ble_eq_true rfl) dX7_block_66 (fun u H locs hq9 hZ => ?_)
                  have hZ : zS D A s.heap H locs (WQ cI cJ cZ cII cZZ [] t0 t1 t2 t3 t4 t5 t6 t7 t8 t9 tA tB tC tD tR tS (if false = true then 2 else 0) eP eb er ek es ed ec ew lk lf lo lv le eW et eh ei eu em) := hZ
                  refine W.eq (g2 := F0 mth 69 ls [.int (zB false)]) rfl ?_
                  refine z_if_eq hx hb 74 dX7_block_69 (by decide) (C := True) (by rw [zB_0]; simp) (fun h69 => ?_) (fun h69 => ?_)
                  · skip
                    refine lv_iload_n hx hb dX7_block_74 rfl (lv_at hl 1 rfl) ?_
                    refine lv_aload_n hx hb dX7_block_75 rfl (lv_at hl 0 rfl) ?_
                    refine z_get hE fF_X7_2 hZ 0 rfl (.int (zI eb)) rfl dX7_block_76 ?_
                    refine z_icmp_ne hx hb 92 dX7_block_79 (by decide) (C := (d : Int) = eb) (by (try simp only [zI_n]); exact zI_eq ⟨by omega, by omega⟩ ⟨by omega, by omega⟩) (fun h79 => ?_) (fun h79 => ?_)
                    · skip
                      have hnb : ¬ (d = eb ∧ er ≤ b) := fun z => h79 z.1
                      refine lv_lconst (v := 0) hx hb dX7_block_92 (by decide) ?_
                      refine lv_lstore (lv' := [(4, .long 0), (0, .ref t0), (1, .int (zI d)), (2, .int (zI b)), (3, .int (zI w))]) hx hb dX7_block_93 hl (by decide) rfl (fun ls hl => ?_)
                      refine z_bipush hx hb (nI 8) dX7_block_95 (by decide) ?_
                      refine lv_iload_n hx hb dX7_block_97 rfl (lv_at hl 4 rfl) ?_
                      refine z_top (show zI w = nI w.toNat from zI_inN (by omega) (by omega)) ?_
                      refine z_imul hx hb dX7_block_98 (z := nI (8 * w.toNat)) (pk_mul _ _) ?_
                      refine lv_istore (lv' := [(6, .int (nI (8 * w.toNat))), (4, .long 0), (0, .ref t0), (1, .int (zI d)), (2, .int (zI b)), (3, .int (zI w))]) hx hb dX7_block_99 hl (by decide) rfl (fun ls hl => ?_)
                      refine z_loop (σ := Nat × Int64) (fun (k, W) H locs ls => (8 * w.toNat ≤ k ∧ k ≤ 8 * w.toNat + 8) ∧ (W = tw (Bd B d.toNat (b.toNat * 4 + w.toNat)) (k - 8 * w.toNat)) ∧ zS D A s.heap H locs (WQ cI cJ cZ cII cZZ [] t0 t1 t2 t3 t4 t5 t6 t7 t8 t9 tA tB tC tD tR tS (if false = true then 2 else 0) eP eb er ek es ed ec ew lk lf lo lv le eW et eh ei eu em) ∧ lv_has ls 9 [(0, .ref t0), (1, .int (zI d)), (2, .int (zI b)), (3, .int (zI w)), (4, .long W), (6, .int (nI k))]) (fun (k, W) => 8 * w.toNat + 8 - k) [] (8 * w.toNat, 0) ⟨by omega, by rw [Nat.sub_self]; exact (tw_0 _).symm, hZ, lv_sub hl [2, 3, 4, 5, 1, 0] (by first | rfl | (simp only [lv_pick]; rfl))⟩ ?_
                      intro x H locs ls hI ih101
                      obtain ⟨k, W⟩ := x
                      obtain ⟨hk, hW, hZ, hl⟩ := hI
                      refine lv_iload hx hb dX7_block_101 (lv_at hl 5 rfl) ?_
                      refine z_bipush hx hb (nI 8) dX7_block_103 (by decide) ?_
                      refine lv_iload_n hx hb dX7_block_105 rfl (lv_at hl 3 rfl) ?_
                      refine z_top (show zI w = nI w.toNat from zI_inN (by omega) (by omega)) ?_
                      refine z_imul hx hb dX7_block_106 (z := nI (8 * w.toNat)) (pk_mul _ _) ?_
                      refine z_bipush hx hb (nI 8) dX7_block_107 (by decide) ?_
                      refine z_iadd hx hb dX7_block_109 (z := nI ((8 * w.toNat) + 8)) (nI_add _ _) ?_
                      refine z_icmp_ge hx hb 181 dX7_block_110 (by decide) (C := (8 * w.toNat) + 8 ≤ k) (nIle (by omega) (by omega)) (fun h110 => ?_) (fun h110 => ?_)
                      · skip
                        have hk8 : k - 8 * w.toNat = 8 := by omega
                        refine lv_lload hx hb dX7_block_181 (lv_at hl 4 rfl) ?_
                        refine z_topl (show W = (Bd B d.toNat (b.toNat * 4 + w.toNat)) from by rw [hW, hk8, tw_8]) ?_
                        exact z_lret hE hrt9 hlocks hZ ((if false = true then 2 else 0), Bd B d.toNat (b.toNat * 4 + w.toNat)) rfl (show (((if false = true then 2 else 0) = 1 ∧ ¬ (0 ≤ d ∧ d < 5 ∧ 0 ≤ b ∧ b < 150 ∧ 0 ≤ w ∧ w < 4)) ∨ ((if false = true then 2 else 0) = 2 ∧ (0 ≤ d ∧ d < 5 ∧ 0 ≤ b ∧ b < 150 ∧ 0 ≤ w ∧ w < 4) ∧ d = eb ∧ er < 0) ∨ ((if false = true then 2 else 0) = 0 ∧ (0 ≤ d ∧ d < 5 ∧ 0 ≤ b ∧ b < 150 ∧ 0 ≤ w ∧ w < 4) ∧ ¬ (d = eb ∧ er < 0) ∧ (Bd B d.toNat (b.toNat * 4 + w.toNat)) = if d = eb ∧ er ≤ b then 0 else Bd B d.toNat (b.toNat * 4 + w.toNat))) from Or.inr (Or.inr ⟨rfl, hok, hnf, by rw [if_neg hnb]⟩)) rfl dX7_block_183 (Nat.le_of_ble_eq_true rfl) (Nat.le_of_ble_eq_true rfl)
                      · skip
                        refine z_iconst hx hb (nI 0) dX7_block_113 (by decide) ?_
                        refine lv_istore (lv' := [(7, .int (nI 0)), (0, .ref t0), (1, .int (zI d)), (2, .int (zI b)), (3, .int (zI w)), (4, .long W), (6, .int (nI k))]) hx hb dX7_block_114 hl (by decide) rfl (fun ls hl => ?_)
                        refine z_iconst hx hb (nI 0) dX7_block_116 (by decide) ?_
                        refine lv_istore (lv' := [(8, .int (nI 0)), (7, .int (nI 0)), (0, .ref t0), (1, .int (zI d)), (2, .int (zI b)), (3, .int (zI w)), (4, .long W), (6, .int (nI k))]) hx hb dX7_block_117 hl (by decide) rfl (fun ls hl => ?_)
                        refine z_loop (σ := Nat × Nat) (fun (i, vv) H locs ls => (i ≤ 4) ∧ (vv = oc (xw B d.toNat b.toNat w.toNat i) (k - 8 * w.toNat)) ∧ zS D A s.heap H locs (WQ cI cJ cZ cII cZZ [] t0 t1 t2 t3 t4 t5 t6 t7 t8 t9 tA tB tC tD tR tS (if false = true then 2 else 0) eP eb er ek es ed ec ew lk lf lo lv le eW et eh ei eu em) ∧ lv_has ls 9 [(0, .ref t0), (1, .int (zI d)), (2, .int (zI b)), (3, .int (zI w)), (4, .long W), (6, .int (nI k)), (7, .int (nI vv)), (8, .int (nI i))]) (fun (i, vv) => 4 - i) [] (0, 0) ⟨by omega, (oc_0 _).symm, hZ, lv_sub hl [2, 3, 4, 5, 6, 7, 1, 0] (by first | rfl | (simp only [lv_pick]; rfl))⟩ ?_
                        intro x H locs ls hI ih119
                        obtain ⟨i, vv⟩ := x
                        obtain ⟨hi, hv, hZ, hl⟩ := hI
                        refine lv_iload hx hb dX7_block_119 (lv_at hl 7 rfl) ?_
                        refine z_iconst hx hb (nI 4) dX7_block_121 (by decide) ?_
                        refine z_icmp_ge hx hb 164 dX7_block_122 (by decide) (C := 4 ≤ i) (nIle (by omega) (by omega)) (fun h122 => ?_) (fun h122 => ?_)
                        · skip
                          have hi4 : xw B d.toNat b.toNat w.toNat i = Bd B d.toNat (b.toNat * 4 + w.toNat) := by rw [show i = 4 by omega]; exact xw_4 B (by omega) (by omega)
                          refine lv_lload hx hb dX7_block_164 (lv_at hl 4 rfl) ?_
                          refine z_bipush hx hb (nI 8) dX7_block_166 (by decide) ?_
                          refine lv_lshl (v := W <<< ((nI 8).toInt64 &&& 63)) hx hb dX7_block_168 rfl ?_
                          refine lv_iload hx hb dX7_block_169 (lv_at hl 6 rfl) ?_
                          refine lv_i2l (v := (nI vv).toInt64) hx hb dX7_block_171 rfl ?_
                          refine lv_lor hx hb dX7_block_172 ?_
                          refine lv_lstore (lv' := [(4, .long ((W <<< ((nI 8).toInt64 &&& 63)) ||| ((nI vv).toInt64))), (0, .ref t0), (1, .int (zI d)), (2, .int (zI b)), (3, .int (zI w)), (6, .int (nI k)), (7, .int (nI vv)), (8, .int (nI i))]) hx hb dX7_block_173 hl (by decide) rfl (fun ls hl => ?_)
                          refine lv_iinc (v := nI (k + 1)) (lv' := [(6, .int (nI (k + 1))), (4, .long ((W <<< ((nI 8).toInt64 &&& 63)) ||| ((nI vv).toInt64))), (0, .ref t0), (1, .int (zI d)), (2, .int (zI b)), (3, .int (zI w)), (7, .int (nI vv)), (8, .int (nI i))]) hx hb dX7_block_175 hl (k := 5) rfl (nI_add _ _) (by decide) rfl (fun ls hl => ?_)
                          refine lv_goto (tgt := 101) hx hb dX7_block_178 (by decide) ?_
                          exact ih101 (k + 1, (W <<< ((nI 8).toInt64 &&& 63)) ||| ((nI vv).toInt64)) _ _ _ ⟨by omega, by rw [hW, hv, hi4, tw_s _ (by omega), show k + 1 - 8 * w.toNat = k - 8 * w.toNat + 1 by omega], hZ, lv_sub hl [2, 3, 4, 5, 1, 0] (by first | rfl | (simp only [lv_pick]; rfl))⟩ (by (try dsimp only); omega)
                        · skip
                          have hxs : xw B d.toNat b.toNat w.toNat (i + 1) = if d.toNat = 4 ∨ i = d.toNat then xw B d.toNat b.toNat w.toNat i ^^^ B (4 * (4 * b.toNat + i) + w.toNat) else xw B d.toNat b.toNat w.toNat i := rfl
                          refine lv_iload_n hx hb dX7_block_125 rfl (lv_at hl 1 rfl) ?_
                          refine z_iconst hx hb (nI 4) dX7_block_126 (by decide) ?_
                          refine z_icmp_eq hx hb 136 dX7_block_127 (by decide) (C := (d : Int) = 4) (by (try simp only [zI_n]); exact zI_eq ⟨by omega, by omega⟩ ⟨by omega, by omega⟩) (fun h127 => ?_) (fun h127 => ?_)
                          · skip
                            refine lv_iload hx hb dX7_block_136 (lv_at hl 6 rfl) ?_
                            refine lv_aload_n hx hb dX7_block_138 rfl (lv_at hl 0 rfl) ?_
                            refine z_get hE fF_X7_1 hZ 0 rfl (.ref t1) rfl dX7_block_139 ?_
                            refine z_iconst hx hb (nI 4) dX7_block_142 (by decide) ?_
                            refine lv_iload_n hx hb dX7_block_143 rfl (lv_at hl 2 rfl) ?_
                            refine z_top (show zI b = nI b.toNat from zI_inN (by omega) (by omega)) ?_
                            refine z_imul hx hb dX7_block_144 (z := nI (4 * b.toNat)) (pk_mul _ _) ?_
                            refine lv_iload hx hb dX7_block_145 (lv_at hl 7 rfl) ?_
                            refine z_iadd hx hb dX7_block_147 (z := nI ((4 * b.toNat) + i)) (nI_add _ _) ?_
                            refine z_bipush hx hb (nI 32) dX7_block_148 (by decide) ?_
                            refine z_imul hx hb dX7_block_150 (z := nI (((4 * b.toNat) + i) * 32)) (pk_mul _ _) ?_
                            refine lv_iload hx hb dX7_block_151 (lv_at hl 5 rfl) ?_
                            refine z_iadd hx hb dX7_block_153 (z := nI ((((4 * b.toNat) + i) * 32) + k)) (nI_add _ _) ?_
                            refine z_iald hE hZ 1 0 rfl rfl (by decide) (by omega) dX7_block_154 ?_
                            refine z_top (show nI (eP ((((4 * b.toNat) + i) * 32) + k)) = nI (oc (B (4 * (4 * b.toNat + i) + w.toNat)) (k - 8 * w.toNat)) from by rw [hP _ _ (by omega) (by omega)]; unfold po; rw [show k / 8 = w.toNat by omega, show k % 8 = k - 8 * w.toNat by omega]) ?_
                            refine lv_ixor hx hb dX7_block_155 ?_
                            refine z_top (show (nI vv) ^^^ (nI (oc (B (4 * (4 * b.toNat + i) + w.toNat)) (k - 8 * w.toNat))) = nI (vv ^^^ oc (B (4 * (4 * b.toNat + i) + w.toNat)) (k - 8 * w.toNat)) from xor_I) ?_
                            refine lv_istore (lv' := [(7, .int (nI (vv ^^^ oc (B (4 * (4 * b.toNat + i) + w.toNat)) (k - 8 * w.toNat)))), (0, .ref t0), (1, .int (zI d)), (2, .int (zI b)), (3, .int (zI w)), (4, .long W), (6, .int (nI k)), (8, .int (nI i))]) hx hb dX7_block_156 hl (by decide) rfl (fun ls hl => ?_)
                            refine lv_iinc (v := nI (i + 1)) (lv' := [(8, .int (nI (i + 1))), (7, .int (nI (vv ^^^ oc (B (4 * (4 * b.toNat + i) + w.toNat)) (k - 8 * w.toNat)))), (0, .ref t0), (1, .int (zI d)), (2, .int (zI b)), (3, .int (zI w)), (4, .long W), (6, .int (nI k))]) hx hb dX7_block_158 hl (k := 7) rfl (nI_add _ _) (by decide) rfl (fun ls hl => ?_)
                            refine lv_goto (tgt := 119) hx hb dX7_block_161 (by decide) ?_
                            exact ih119 (i + 1, vv ^^^ oc (B (4 * (4 * b.toNat + i) + w.toNat)) (k - 8 * w.toNat)) _ _ _ ⟨by omega, by first | (have z : ¬ (i : Int) = d := h133; have y : ¬ d = 4 := h127; rw [hxs, if_neg (by omega)]; exact hv) | (have z : (i : Int) = d := h133; rw [hxs, if_pos (by omega), ← oc_xor, hv]) | (have z : d = 4 := h127; rw [hxs, if_pos (by omega), ← oc_xor, hv]), hZ, lv_sub hl [2, 3, 4, 5, 6, 7, 1, 0] (by first | rfl | (simp only [lv_pick]; rfl))⟩ (by (try dsimp only); omega)
                          · skip
                            refine lv_iload hx hb dX7_block_130 (lv_at hl 7 rfl) ?_
                            refine lv_iload_n hx hb dX7_block_132 rfl (lv_at hl 1 rfl) ?_
                            refine z_icmp_ne hx hb 158 dX7_block_133 (by decide) (C := (((i : Nat) : Int) : Int) = d) (by (try simp only [zI_n]); exact zI_eq ⟨by omega, by omega⟩ ⟨by omega, by omega⟩) (fun h133 => ?_) (fun h133 => ?_)
                            · skip
                              refine lv_iinc (v := nI (i + 1)) (lv' := [(8, .int (nI (i + 1))), (0, .ref t0), (1, .int (zI d)), (2, .int (zI b)), (3, .int (zI w)), (4, .long W), (6, .int (nI k)), (7, .int (nI vv))]) hx hb dX7_block_158 hl (k := 7) rfl (nI_add _ _) (by decide) rfl (fun ls hl => ?_)
                              refine lv_goto (tgt := 119) hx hb dX7_block_161 (by decide) ?_
                              exact ih119 (i + 1, vv) _ _ _ ⟨by omega, by first | (have z : ¬ (i : Int) = d := h133; have y : ¬ d = 4 := h127; rw [hxs, if_neg (by omega)]; exact hv) | (have z : (i : Int) = d := h133; rw [hxs, if_pos (by omega), ← oc_xor, hv]) | (have z : d = 4 := h127; rw [hxs, if_pos (by omega), ← oc_xor, hv]), hZ, lv_sub hl [1, 2, 3, 4, 5, 6, 7, 0] (by first | rfl | (simp only [lv_pick]; rfl))⟩ (by (try dsimp only); omega)
                            · skip
                              refine lv_iload hx hb dX7_block_136 (lv_at hl 6 rfl) ?_
                              refine lv_aload_n hx hb dX7_block_138 rfl (lv_at hl 0 rfl) ?_
                              refine z_get hE fF_X7_1 hZ 0 rfl (.ref t1) rfl dX7_block_139 ?_
                              refine z_iconst hx hb (nI 4) dX7_block_142 (by decide) ?_
                              refine lv_iload_n hx hb dX7_block_143 rfl (lv_at hl 2 rfl) ?_
                              refine z_top (show zI b = nI b.toNat from zI_inN (by omega) (by omega)) ?_
                              refine z_imul hx hb dX7_block_144 (z := nI (4 * b.toNat)) (pk_mul _ _) ?_
                              refine lv_iload hx hb dX7_block_145 (lv_at hl 7 rfl) ?_
                              refine z_iadd hx hb dX7_block_147 (z := nI ((4 * b.toNat) + i)) (nI_add _ _) ?_
                              refine z_bipush hx hb (nI 32) dX7_block_148 (by decide) ?_
                              refine z_imul hx hb dX7_block_150 (z := nI (((4 * b.toNat) + i) * 32)) (pk_mul _ _) ?_
                              refine lv_iload hx hb dX7_block_151 (lv_at hl 5 rfl) ?_
                              refine z_iadd hx hb dX7_block_153 (z := nI ((((4 * b.toNat) + i) * 32) + k)) (nI_add _ _) ?_
                              refine z_iald hE hZ 1 0 rfl rfl (by decide) (by omega) dX7_block_154 ?_
                              refine z_top (show nI (eP ((((4 * b.toNat) + i) * 32) + k)) = nI (oc (B (4 * (4 * b.toNat + i) + w.toNat)) (k - 8 * w.toNat)) from by rw [hP _ _ (by omega) (by omega)]; unfold po; rw [show k / 8 = w.toNat by omega, show k % 8 = k - 8 * w.toNat by omega]) ?_
                              refine lv_ixor hx hb dX7_block_155 ?_
                              refine z_top (show (nI vv) ^^^ (nI (oc (B (4 * (4 * b.toNat + i) + w.toNat)) (k - 8 * w.toNat))) = nI (vv ^^^ oc (B (4 * (4 * b.toNat + i) + w.toNat)) (k - 8 * w.toNat)) from xor_I) ?_
                              refine lv_istore (lv' := [(7, .int (nI (vv ^^^ oc (B (4 * (4 * b.toNat + i) + w.toNat)) (k - 8 * w.toNat)))), (0, .ref t0), (1, .int (zI d)), (2, .int (zI b)), (3, .int (zI w)), (4, .long W), (6, .int (nI k)), (8, .int (nI i))]) hx hb dX7_block_156 hl (by decide) rfl (fun ls hl => ?_)
                              refine lv_iinc (v := nI (i + 1)) (lv' := [(8, .int (nI (i + 1))), (7, .int (nI (vv ^^^ oc (B (4 * (4 * b.toNat + i) + w.toNat)) (k - 8 * w.toNat)))), (0, .ref t0), (1, .int (zI d)), (2, .int (zI b)), (3, .int (zI w)), (4, .long W), (6, .int (nI k))]) hx hb dX7_block_158 hl (k := 7) rfl (nI_add _ _) (by decide) rfl (fun ls hl => ?_)
                              refine lv_goto (tgt := 119) hx hb dX7_block_161 (by decide) ?_
                              exact ih119 (i + 1, vv ^^^ oc (B (4 * (4 * b.toNat + i) + w.toNat)) (k - 8 * w.toNat)) _ _ _ ⟨by omega, by first | (have z : ¬ (i : Int) = d := h133; have y : ¬ d = 4 := h127; rw [hxs, if_neg (by omega)]; exact hv) | (have z : (i : Int) = d := h133; rw [hxs, if_pos (by omega), ← oc_xor, hv]) | (have z : d = 4 := h127; rw [hxs, if_pos (by omega), ← oc_xor, hv]), hZ, lv_sub hl [2, 3, 4, 5, 6, 7, 1, 0] (by first | rfl | (simp only [lv_pick]; rfl))⟩ (by (try dsimp only); omega)
                    · skip
                      refine lv_iload_n hx hb dX7_block_82 rfl (lv_at hl 2 rfl) ?_
                      refine lv_aload_n hx hb dX7_block_83 rfl (lv_at hl 0 rfl) ?_
                      refine z_get hE fF_X7_3 hZ 0 rfl (.int (zI er)) rfl dX7_block_84 ?_
                      refine z_icmp_lt hx hb 92 dX7_block_87 (by decide) (C := (b : Int) < er) (by (try simp only [zI_n]); exact zI_lt ⟨by omega, by omega⟩ ⟨by omega, by omega⟩) (fun h87 => ?_) (fun h87 => ?_)
                      · skip
                        have hnb : ¬ (d = eb ∧ er ≤ b) := by omega
                        refine lv_lconst (v := 0) hx hb dX7_block_92 (by decide) ?_
                        refine lv_lstore (lv' := [(4, .long 0), (0, .ref t0), (1, .int (zI d)), (2, .int (zI b)), (3, .int (zI w))]) hx hb dX7_block_93 hl (by decide) rfl (fun ls hl => ?_)
                        refine z_bipush hx hb (nI 8) dX7_block_95 (by decide) ?_
                        refine lv_iload_n hx hb dX7_block_97 rfl (lv_at hl 4 rfl) ?_
                        refine z_top (show zI w = nI w.toNat from zI_inN (by omega) (by omega)) ?_
                        refine z_imul hx hb dX7_block_98 (z := nI (8 * w.toNat)) (pk_mul _ _) ?_
                        refine lv_istore (lv' := [(6, .int (nI (8 * w.toNat))), (4, .long 0), (0, .ref t0), (1, .int (zI d)), (2, .int (zI b)), (3, .int (zI w))]) hx hb dX7_block_99 hl (by decide) rfl (fun ls hl => ?_)
                        refine z_loop (σ := Nat × Int64) (fun (k, W) H locs ls => (8 * w.toNat ≤ k ∧ k ≤ 8 * w.toNat + 8) ∧ (W = tw (Bd B d.toNat (b.toNat * 4 + w.toNat)) (k - 8 * w.toNat)) ∧ zS D A s.heap H locs (WQ cI cJ cZ cII cZZ [] t0 t1 t2 t3 t4 t5 t6 t7 t8 t9 tA tB tC tD tR tS (if false = true then 2 else 0) eP eb er ek es ed ec ew lk lf lo lv le eW et eh ei eu em) ∧ lv_has ls 9 [(0, .ref t0), (1, .int (zI d)), (2, .int (zI b)), (3, .int (zI w)), (4, .long W), (6, .int (nI k))]) (fun (k, W) => 8 * w.toNat + 8 - k) [] (8 * w.toNat, 0) ⟨by omega, by rw [Nat.sub_self]; exact (tw_0 _).symm, hZ, lv_sub hl [2, 3, 4, 5, 1, 0] (by first | rfl | (simp only [lv_pick]; rfl))⟩ ?_
                        intro x H locs ls hI ih101
                        obtain ⟨k, W⟩ := x
                        obtain ⟨hk, hW, hZ, hl⟩ := hI
                        refine lv_iload hx hb dX7_block_101 (lv_at hl 5 rfl) ?_
                        refine z_bipush hx hb (nI 8) dX7_block_103 (by decide) ?_
                        refine lv_iload_n hx hb dX7_block_105 rfl (lv_at hl 3 rfl) ?_
                        refine z_top (show zI w = nI w.toNat from zI_inN (by omega) (by omega)) ?_
                        refine z_imul hx hb dX7_block_106 (z := nI (8 * w.toNat)) (pk_mul _ _) ?_
                        refine z_bipush hx hb (nI 8) dX7_block_107 (by decide) ?_
                        refine z_iadd hx hb dX7_block_109 (z := nI ((8 * w.toNat) + 8)) (nI_add _ _) ?_
                        refine z_icmp_ge hx hb 181 dX7_block_110 (by decide) (C := (8 * w.toNat) + 8 ≤ k) (nIle (by omega) (by omega)) (fun h110 => ?_) (fun h110 => ?_)
                        · skip
                          have hk8 : k - 8 * w.toNat = 8 := by omega
                          refine lv_lload hx hb dX7_block_181 (lv_at hl 4 rfl) ?_
                          refine z_topl (show W = (Bd B d.toNat (b.toNat * 4 + w.toNat)) from by rw [hW, hk8, tw_8]) ?_
                          exact z_lret hE hrt9 hlocks hZ ((if false = true then 2 else 0), Bd B d.toNat (b.toNat * 4 + w.toNat)) rfl (show (((if false = true then 2 else 0) = 1 ∧ ¬ (0 ≤ d ∧ d < 5 ∧ 0 ≤ b ∧ b < 150 ∧ 0 ≤ w ∧ w < 4)) ∨ ((if false = true then 2 else 0) = 2 ∧ (0 ≤ d ∧ d < 5 ∧ 0 ≤ b ∧ b < 150 ∧ 0 ≤ w ∧ w < 4) ∧ d = eb ∧ er < 0) ∨ ((if false = true then 2 else 0) = 0 ∧ (0 ≤ d ∧ d < 5 ∧ 0 ≤ b ∧ b < 150 ∧ 0 ≤ w ∧ w < 4) ∧ ¬ (d = eb ∧ er < 0) ∧ (Bd B d.toNat (b.toNat * 4 + w.toNat)) = if d = eb ∧ er ≤ b then 0 else Bd B d.toNat (b.toNat * 4 + w.toNat))) from Or.inr (Or.inr ⟨rfl, hok, hnf, by rw [if_neg hnb]⟩)) rfl dX7_block_183 (Nat.le_of_ble_eq_true rfl) (Nat.le_of_ble_eq_true rfl)
                        · skip
                          refine z_iconst hx hb (nI 0) dX7_block_113 (by decide) ?_
                          refine lv_istore (lv' := [(7, .int (nI 0)), (0, .ref t0), (1, .int (zI d)), (2, .int (zI b)), (3, .int (zI w)), (4, .long W), (6, .int (nI k))]) hx hb dX7_block_114 hl (by decide) rfl (fun ls hl => ?_)
                          refine z_iconst hx hb (nI 0) dX7_block_116 (by decide) ?_
                          refine lv_istore (lv' := [(8, .int (nI 0)), (7, .int (nI 0)), (0, .ref t0), (1, .int (zI d)), (2, .int (zI b)), (3, .int (zI w)), (4, .long W), (6, .int (nI k))]) hx hb dX7_block_117 hl (by decide) rfl (fun ls hl => ?_)
                          refine z_loop (σ := Nat × Nat) (fun (i, vv) H locs ls => (i ≤ 4) ∧ (vv = oc (xw B d.toNat b.toNat w.toNat i) (k - 8 * w.toNat)) ∧ zS D A s.heap H locs (WQ cI cJ cZ cII cZZ [] t0 t1 t2 t3 t4 t5 t6 t7 t8 t9 tA tB tC tD tR tS (if false = true then 2 else 0) eP eb er ek es ed ec ew lk lf lo lv le eW et eh ei eu em) ∧ lv_has ls 9 [(0, .ref t0), (1, .int (zI d)), (2, .int (zI b)), (3, .int (zI w)), (4, .long W), (6, .int (nI k)), (7, .int (nI vv)), (8, .int (nI i))]) (fun (i, vv) => 4 - i) [] (0, 0) ⟨by omega, (oc_0 _).symm, hZ, lv_sub hl [2, 3, 4, 5, 6, 7, 1, 0] (by first | rfl | (simp only [lv_pick]; rfl))⟩ ?_
                          intro x H locs ls hI ih119
                          obtain ⟨i, vv⟩ := x
                          obtain ⟨hi, hv, hZ, hl⟩ := hI
                          refine lv_iload hx hb dX7_block_119 (lv_at hl 7 rfl) ?_
                          refine z_iconst hx hb (nI 4) dX7_block_121 (by decide) ?_
                          refine z_icmp_ge hx hb 164 dX7_block_122 (by decide) (C := 4 ≤ i) (nIle (by omega) (by omega)) (fun h122 => ?_) (fun h122 => ?_)
                          · skip
                            have hi4 : xw B d.toNat b.toNat w.toNat i = Bd B d.toNat (b.toNat * 4 + w.toNat) := by rw [show i = 4 by omega]; exact xw_4 B (by omega) (by omega)
                            refine lv_lload hx hb dX7_block_164 (lv_at hl 4 rfl) ?_
                            refine z_bipush hx hb (nI 8) dX7_block_166 (by decide) ?_
                            refine lv_lshl (v := W <<< ((nI 8).toInt64 &&& 63)) hx hb dX7_block_168 rfl ?_
                            refine lv_iload hx hb dX7_block_169 (lv_at hl 6 rfl) ?_
                            refine lv_i2l (v := (nI vv).toInt64) hx hb dX7_block_171 rfl ?_
                            refine lv_lor hx hb dX7_block_172 ?_
                            refine lv_lstore (lv' := [(4, .long ((W <<< ((nI 8).toInt64 &&& 63)) ||| ((nI vv).toInt64))), (0, .ref t0), (1, .int (zI d)), (2, .int (zI b)), (3, .int (zI w)), (6, .int (nI k)), (7, .int (nI vv)), (8, .int (nI i))]) hx hb dX7_block_173 hl (by decide) rfl (fun ls hl => ?_)
                            refine lv_iinc (v := nI (k + 1)) (lv' := [(6, .int (nI (k + 1))), (4, .long ((W <<< ((nI 8).toInt64 &&& 63)) ||| ((nI vv).toInt64))), (0, .ref t0), (1, .int (zI d)), (2, .int (zI b)), (3, .int (zI w)), (7, .int (nI vv)), (8, .int (nI i))]) hx hb dX7_block_175 hl (k := 5) rfl (nI_add _ _) (by decide) rfl (fun ls hl => ?_)
                            refine lv_goto (tgt := 101) hx hb dX7_block_178 (by decide) ?_
                            exact ih101 (k + 1, (W <<< ((nI 8).toInt64 &&& 63)) ||| ((nI vv).toInt64)) _ _ _ ⟨by omega, by rw [hW, hv, hi4, tw_s _ (by omega), show k + 1 - 8 * w.toNat = k - 8 * w.toNat + 1 by omega], hZ, lv_sub hl [2, 3, 4, 5, 1, 0] (by first | rfl | (simp only [lv_pick]; rfl))⟩ (by (try dsimp only); omega)
                          · skip
                            have hxs : xw B d.toNat b.toNat w.toNat (i + 1) = if d.toNat = 4 ∨ i = d.toNat then xw B d.toNat b.toNat w.toNat i ^^^ B (4 * (4 * b.toNat + i) + w.toNat) else xw B d.toNat b.toNat w.toNat i := rfl
                            refine lv_iload_n hx hb dX7_block_125 rfl (lv_at hl 1 rfl) ?_
                            refine z_iconst hx hb (nI 4) dX7_block_126 (by decide) ?_
                            refine z_icmp_eq hx hb 136 dX7_block_127 (by decide) (C := (d : Int) = 4) (by (try simp only [zI_n]); exact zI_eq ⟨by omega, by omega⟩ ⟨by omega, by omega⟩) (fun h127 => ?_) (fun h127 => ?_)
                            · skip
                              refine lv_iload hx hb dX7_block_136 (lv_at hl 6 rfl) ?_
                              refine lv_aload_n hx hb dX7_block_138 rfl (lv_at hl 0 rfl) ?_
                              refine z_get hE fF_X7_1 hZ 0 rfl (.ref t1) rfl dX7_block_139 ?_
                              refine z_iconst hx hb (nI 4) dX7_block_142 (by decide) ?_
                              refine lv_iload_n hx hb dX7_block_143 rfl (lv_at hl 2 rfl) ?_
                              refine z_top (show zI b = nI b.toNat from zI_inN (by omega) (by omega)) ?_
                              refine z_imul hx hb dX7_block_144 (z := nI (4 * b.toNat)) (pk_mul _ _) ?_
                              refine lv_iload hx hb dX7_block_145 (lv_at hl 7 rfl) ?_
                              refine z_iadd hx hb dX7_block_147 (z := nI ((4 * b.toNat) + i)) (nI_add _ _) ?_
                              refine z_bipush hx hb (nI 32) dX7_block_148 (by decide) ?_
                              refine z_imul hx hb dX7_block_150 (z := nI (((4 * b.toNat) + i) * 32)) (pk_mul _ _) ?_
                              refine lv_iload hx hb dX7_block_151 (lv_at hl 5 rfl) ?_
                              refine z_iadd hx hb dX7_block_153 (z := nI ((((4 * b.toNat) + i) * 32) + k)) (nI_add _ _) ?_
                              refine z_iald hE hZ 1 0 rfl rfl (by decide) (by omega) dX7_block_154 ?_
                              refine z_top (show nI (eP ((((4 * b.toNat) + i) * 32) + k)) = nI (oc (B (4 * (4 * b.toNat + i) + w.toNat)) (k - 8 * w.toNat)) from by rw [hP _ _ (by omega) (by omega)]; unfold po; rw [show k / 8 = w.toNat by omega, show k % 8 = k - 8 * w.toNat by omega]) ?_
                              refine lv_ixor hx hb dX7_block_155 ?_
                              refine z_top (show (nI vv) ^^^ (nI (oc (B (4 * (4 * b.toNat + i) + w.toNat)) (k - 8 * w.toNat))) = nI (vv ^^^ oc (B (4 * (4 * b.toNat + i) + w.toNat)) (k - 8 * w.toNat)) from xor_I) ?_
                              refine lv_istore (lv' := [(7, .int (nI (vv ^^^ oc (B (4 * (4 * b.toNat + i) + w.toNat)) (k - 8 * w.toNat)))), (0, .ref t0), (1, .int (zI d)), (2, .int (zI b)), (3, .int (zI w)), (4, .long W), (6, .int (nI k)), (8, .int (nI i))]) hx hb dX7_block_156 hl (by decide) rfl (fun ls hl => ?_)
                              refine lv_iinc (v := nI (i + 1)) (lv' := [(8, .int (nI (i + 1))), (7, .int (nI (vv ^^^ oc (B (4 * (4 * b.toNat + i) + w.toNat)) (k - 8 * w.toNat)))), (0, .ref t0), (1, .int (zI d)), (2, .int (zI b)), (3, .int (zI w)), (4, .long W), (6, .int (nI k))]) hx hb dX7_block_158 hl (k := 7) rfl (nI_add _ _) (by decide) rfl (fun ls hl => ?_)
                              refine lv_goto (tgt := 119) hx hb dX7_block_161 (by decide) ?_
                              exact ih119 (i + 1, vv ^^^ oc (B (4 * (4 * b.toNat + i) + w.toNat)) (k - 8 * w.toNat)) _ _ _ ⟨by omega, by first | (have z : ¬ (i : Int) = d := h133; have y : ¬ d = 4 := h127; rw [hxs, if_neg (by omega)]; exact hv) | (have z : (i : Int) = d := h133; rw [hxs, if_pos (by omega), ← oc_xor, hv]) | (have z : d = 4 := h127; rw [hxs, if_pos (by omega), ← oc_xor, hv]), hZ, lv_sub hl [2, 3, 4, 5, 6, 7, 1, 0] (by first | rfl | (simp only [lv_pick]; rfl))⟩ (by (try dsimp only); omega)
                            · skip
                              refine lv_iload hx hb dX7_block_130 (lv_at hl 7 rfl) ?_
                              refine lv_iload_n hx hb dX7_block_132 rfl (lv_at hl 1 rfl) ?_
                              refine z_icmp_ne hx hb 158 dX7_block_133 (by decide) (C := (((i : Nat) : Int) : Int) = d) (by (try simp only [zI_n]); exact zI_eq ⟨by omega, by omega⟩ ⟨by omega, by omega⟩) (fun h133 => ?_) (fun h133 => ?_)
                              · skip
                                refine lv_iinc (v := nI (i + 1)) (lv' := [(8, .int (nI (i + 1))), (0, .ref t0), (1, .int (zI d)), (2, .int (zI b)), (3, .int (zI w)), (4, .long W), (6, .int (nI k)), (7, .int (nI vv))]) hx hb dX7_block_158 hl (k := 7) rfl (nI_add _ _) (by decide) rfl (fun ls hl => ?_)
                                refine lv_goto (tgt := 119) hx hb dX7_block_161 (by decide) ?_
                                exact ih119 (i + 1, vv) _ _ _ ⟨by omega, by first | (have z : ¬ (i : Int) = d := h133; have y : ¬ d = 4 := h127; rw [hxs, if_neg (by omega)]; exact hv) | (have z : (i : Int) = d := h133; rw [hxs, if_pos (by omega), ← oc_xor, hv]) | (have z : d = 4 := h127; rw [hxs, if_pos (by omega), ← oc_xor, hv]), hZ, lv_sub hl [1, 2, 3, 4, 5, 6, 7, 0] (by first | rfl | (simp only [lv_pick]; rfl))⟩ (by (try dsimp only); omega)
                              · skip
                                refine lv_iload hx hb dX7_block_136 (lv_at hl 6 rfl) ?_
                                refine lv_aload_n hx hb dX7_block_138 rfl (lv_at hl 0 rfl) ?_
                                refine z_get hE fF_X7_1 hZ 0 rfl (.ref t1) rfl dX7_block_139 ?_
                                refine z_iconst hx hb (nI 4) dX7_block_142 (by decide) ?_
                                refine lv_iload_n hx hb dX7_block_143 rfl (lv_at hl 2 rfl) ?_
                                refine z_top (show zI b = nI b.toNat from zI_inN (by omega) (by omega)) ?_
                                refine z_imul hx hb dX7_block_144 (z := nI (4 * b.toNat)) (pk_mul _ _) ?_
                                refine lv_iload hx hb dX7_block_145 (lv_at hl 7 rfl) ?_
                                refine z_iadd hx hb dX7_block_147 (z := nI ((4 * b.toNat) + i)) (nI_add _ _) ?_
                                refine z_bipush hx hb (nI 32) dX7_block_148 (by decide) ?_
                                refine z_imul hx hb dX7_block_150 (z := nI (((4 * b.toNat) + i) * 32)) (pk_mul _ _) ?_
                                refine lv_iload hx hb dX7_block_151 (lv_at hl 5 rfl) ?_
                                refine z_iadd hx hb dX7_block_153 (z := nI ((((4 * b.toNat) + i) * 32) + k)) (nI_add _ _) ?_
                                refine z_iald hE hZ 1 0 rfl rfl (by decide) (by omega) dX7_block_154 ?_
                                refine z_top (show nI (eP ((((4 * b.toNat) + i) * 32) + k)) = nI (oc (B (4 * (4 * b.toNat + i) + w.toNat)) (k - 8 * w.toNat)) from by rw [hP _ _ (by omega) (by omega)]; unfold po; rw [show k / 8 = w.toNat by omega, show k % 8 = k - 8 * w.toNat by omega]) ?_
                                refine lv_ixor hx hb dX7_block_155 ?_
                                refine z_top (show (nI vv) ^^^ (nI (oc (B (4 * (4 * b.toNat + i) + w.toNat)) (k - 8 * w.toNat))) = nI (vv ^^^ oc (B (4 * (4 * b.toNat + i) + w.toNat)) (k - 8 * w.toNat)) from xor_I) ?_
                                refine lv_istore (lv' := [(7, .int (nI (vv ^^^ oc (B (4 * (4 * b.toNat + i) + w.toNat)) (k - 8 * w.toNat)))), (0, .ref t0), (1, .int (zI d)), (2, .int (zI b)), (3, .int (zI w)), (4, .long W), (6, .int (nI k)), (8, .int (nI i))]) hx hb dX7_block_156 hl (by decide) rfl (fun ls hl => ?_)
                                refine lv_iinc (v := nI (i + 1)) (lv' := [(8, .int (nI (i + 1))), (7, .int (nI (vv ^^^ oc (B (4 * (4 * b.toNat + i) + w.toNat)) (k - 8 * w.toNat)))), (0, .ref t0), (1, .int (zI d)), (2, .int (zI b)), (3, .int (zI w)), (4, .long W), (6, .int (nI k))]) hx hb dX7_block_158 hl (k := 7) rfl (nI_add _ _) (by decide) rfl (fun ls hl => ?_)
                                refine lv_goto (tgt := 119) hx hb dX7_block_161 (by decide) ?_
                                exact ih119 (i + 1, vv ^^^ oc (B (4 * (4 * b.toNat + i) + w.toNat)) (k - 8 * w.toNat)) _ _ _ ⟨by omega, by first | (have z : ¬ (i : Int) = d := h133; have y : ¬ d = 4 := h127; rw [hxs, if_neg (by omega)]; exact hv) | (have z : (i : Int) = d := h133; rw [hxs, if_pos (by omega), ← oc_xor, hv]) | (have z : d = 4 := h127; rw [hxs, if_pos (by omega), ← oc_xor, hv]), hZ, lv_sub hl [2, 3, 4, 5, 6, 7, 1, 0] (by first | rfl | (simp only [lv_pick]; rfl))⟩ (by (try dsimp only); omega)
                      · skip
                        refine lv_lconst (v := 0) hx hb dX7_block_90 (by decide) ?_
                        exact z_lret hE hrt9 hlocks hZ ((if false = true then 2 else 0), 0) rfl (show (((if false = true then 2 else 0) = 1 ∧ ¬ (0 ≤ d ∧ d < 5 ∧ 0 ≤ b ∧ b < 150 ∧ 0 ≤ w ∧ w < 4)) ∨ ((if false = true then 2 else 0) = 2 ∧ (0 ≤ d ∧ d < 5 ∧ 0 ≤ b ∧ b < 150 ∧ 0 ≤ w ∧ w < 4) ∧ d = eb ∧ er < 0) ∨ ((if false = true then 2 else 0) = 0 ∧ (0 ≤ d ∧ d < 5 ∧ 0 ≤ b ∧ b < 150 ∧ 0 ≤ w ∧ w < 4) ∧ ¬ (d = eb ∧ er < 0) ∧ 0 = if d = eb ∧ er ≤ b then 0 else Bd B d.toNat (b.toNat * 4 + w.toNat))) from Or.inr (Or.inr ⟨rfl, hok, hnf, by rw [if_pos (by omega)]⟩)) rfl dX7_block_91 (Nat.le_of_ble_eq_true rfl) (Nat.le_of_ble_eq_true rfl)
                  · skip
                    exact absurd trivial h69
                · skip
                  refine lv_aload_n hx hb dX7_block_53 rfl (lv_at hl 0 rfl) ?_
                  refine z_get hE fF_X7_3 hZ 0 rfl (.int (zI er)) rfl dX7_block_54 ?_
                  refine z_if_ge hx hb 64 dX7_block_57 (by decide) (C := 0 ≤ er) (zI_ge0 ⟨by omega, by omega⟩) (fun h57 => ?_) (fun h57 => ?_)
                  · skip
                    have hnf : ¬ (d = eb ∧ er < 0) := by omega
                    refine z_iconst hx hb (nI 0) dX7_block_64 (by decide) ?_
                    refine z_iconst hx hb (nI 2) dX7_block_65 (by decide) ?_
                    refine z_kVp (As := [.int (nI 0), .int (nI 2)]) (rest := []) hE hZ (c_X7_fails l D cI cJ cZ cII cZZ t0 t1 t2 t3 t4 t5 t6 t7 t8 t9 tA tB tC tD tR tS (if false = true then 1 else 0) eP eb er ek es ed ec ew lk lf lo lv le eW et eh ei eu em false 2 ) lL_X7_fails lC_X7_125 rfl [] (List.Perm.refl _) (fun u => (WQ cI cJ cZ cII cZZ [] t0 t1 t2 t3 t4 t5 t6 t7 t8 t9 tA tB tC tD tR tS (if false = true then 2 else 0) eP eb er ek es ed ec ew lk lf lo lv le eW et eh ei eu em)) (fun _ => List.Perm.refl _) 0 rfl ⟨by decide, by decide⟩ 0 0 rfl rfl ⟨by decide, by decide⟩ rfl hl.1 rfl (Nat.le_of_ble_eq_true rfl) dX7_block_66 (fun u H locs hq9 hZ => ?_)
                    have hZ : zS D A s.heap H locs (WQ cI cJ cZ cII cZZ [] t0 t1 t2 t3 t4 t5 t6 t7 t8 t9 tA tB tC tD tR tS (if false = true then 2 else 0) eP eb er ek es ed ec ew lk lf lo lv le eW et eh ei eu em) := hZ
                    refine W.eq (g2 := F0 mth 69 ls [.int (zB false)]) rfl ?_
                    refine z_if_eq hx hb 74 dX7_block_69 (by decide) (C := True) (by rw [zB_0]; simp) (fun h69 => ?_) (fun h69 => ?_)
                    · skip
                      refine lv_iload_n hx hb dX7_block_74 rfl (lv_at hl 1 rfl) ?_
                      refine lv_aload_n hx hb dX7_block_75 rfl (lv_at hl 0 rfl) ?_
                      refine z_get hE fF_X7_2 hZ 0 rfl (.int (zI eb)) rfl dX7_block_76 ?_
                      refine z_icmp_ne hx hb 92 dX7_block_79 (by decide) (C := (d : Int) = eb) (by (try simp only [zI_n]); exact zI_eq ⟨by omega, by omega⟩ ⟨by omega, by omega⟩) (fun h79 => ?_) (fun h79 => ?_)
                      · skip
                        have hnb : ¬ (d = eb ∧ er ≤ b) := fun z => h79 z.1
                        refine lv_lconst (v := 0) hx hb dX7_block_92 (by decide) ?_
                        refine lv_lstore (lv' := [(4, .long 0), (0, .ref t0), (1, .int (zI d)), (2, .int (zI b)), (3, .int (zI w))]) hx hb dX7_block_93 hl (by decide) rfl (fun ls hl => ?_)
                        refine z_bipush hx hb (nI 8) dX7_block_95 (by decide) ?_
                        refine lv_iload_n hx hb dX7_block_97 rfl (lv_at hl 4 rfl) ?_
                        refine z_top (show zI w = nI w.toNat from zI_inN (by omega) (by omega)) ?_
                        refine z_imul hx hb dX7_block_98 (z := nI (8 * w.toNat)) (pk_mul _ _) ?_
                        refine lv_istore (lv' := [(6, .int (nI (8 * w.toNat))), (4, .long 0), (0, .ref t0), (1, .int (zI d)), (2, .int (zI b)), (3, .int (zI w))]) hx hb dX7_block_99 hl (by decide) rfl (fun ls hl => ?_)
                        refine z_loop (σ := Nat × Int64) (fun (k, W) H locs ls => (8 * w.toNat ≤ k ∧ k ≤ 8 * w.toNat + 8) ∧ (W = tw (Bd B d.toNat (b.toNat * 4 + w.toNat)) (k - 8 * w.toNat)) ∧ zS D A s.heap H locs (WQ cI cJ cZ cII cZZ [] t0 t1 t2 t3 t4 t5 t6 t7 t8 t9 tA tB tC tD tR tS (if false = true then 2 else 0) eP eb er ek es ed ec ew lk lf lo lv le eW et eh ei eu em) ∧ lv_has ls 9 [(0, .ref t0), (1, .int (zI d)), (2, .int (zI b)), (3, .int (zI w)), (4, .long W), (6, .int (nI k))]) (fun (k, W) => 8 * w.toNat + 8 - k) [] (8 * w.toNat, 0) ⟨by omega, by rw [Nat.sub_self]; exact (tw_0 _).symm, hZ, lv_sub hl [2, 3, 4, 5, 1, 0] (by first | rfl | (simp only [lv_pick]; rfl))⟩ ?_
                        intro x H locs ls hI ih101
                        obtain ⟨k, W⟩ := x
                        obtain ⟨hk, hW, hZ, hl⟩ := hI
                        refine lv_iload hx hb dX7_block_101 (lv_at hl 5 rfl) ?_
                        refine z_bipush hx hb (nI 8) dX7_block_103 (by decide) ?_
                        refine lv_iload_n hx hb dX7_block_105 rfl (lv_at hl 3 rfl) ?_
                        refine z_top (show zI w = nI w.toNat from zI_inN (by omega) (by omega)) ?_
                        refine z_imul hx hb dX7_block_106 (z := nI (8 * w.toNat)) (pk_mul _ _) ?_
                        refine z_bipush hx hb (nI 8) dX7_block_107 (by decide) ?_
                        refine z_iadd hx hb dX7_block_109 (z := nI ((8 * w.toNat) + 8)) (nI_add _ _) ?_
                        refine z_icmp_ge hx hb 181 dX7_block_110 (by decide) (C := (8 * w.toNat) + 8 ≤ k) (nIle (by omega) (by omega)) (fun h110 => ?_) (fun h110 => ?_)
                        · skip
                          have hk8 : k - 8 * w.toNat = 8 := by omega
                          refine lv_lload hx hb dX7_block_181 (lv_at hl 4 rfl) ?_
                          refine z_topl (show W = (Bd B d.toNat (b.toNat * 4 + w.toNat)) from by rw [hW, hk8, tw_8]) ?_
                          exact z_lret hE hrt9 hlocks hZ ((if false = true then 2 else 0), Bd B d.toNat (b.toNat * 4 + w.toNat)) rfl (show (((if false = true then 2 else 0) = 1 ∧ ¬ (0 ≤ d ∧ d < 5 ∧ 0 ≤ b ∧ b < 150 ∧ 0 ≤ w ∧ w < 4)) ∨ ((if false = true then 2 else 0) = 2 ∧ (0 ≤ d ∧ d < 5 ∧ 0 ≤ b ∧ b < 150 ∧ 0 ≤ w ∧ w < 4) ∧ d = eb ∧ er < 0) ∨ ((if false = true then 2 else 0) = 0 ∧ (0 ≤ d ∧ d < 5 ∧ 0 ≤ b ∧ b < 150 ∧ 0 ≤ w ∧ w < 4) ∧ ¬ (d = eb ∧ er < 0) ∧ (Bd B d.toNat (b.toNat * 4 + w.toNat)) = if d = eb ∧ er ≤ b then 0 else Bd B d.toNat (b.toNat * 4 + w.toNat))) from Or.inr (Or.inr ⟨rfl, hok, hnf, by rw [if_neg hnb]⟩)) rfl dX7_block_183 (Nat.le_of_ble_eq_true rfl) (Nat.le_of_ble_eq_true rfl)
                        · skip
                          refine z_iconst hx hb (nI 0) dX7_block_113 (by decide) ?_
                          refine lv_istore (lv' := [(7, .int (nI 0)), (0, .ref t0), (1, .int (zI d)), (2, .int (zI b)), (3, .int (zI w)), (4, .long W), (6, .int (nI k))]) hx hb dX7_block_114 hl (by decide) rfl (fun ls hl => ?_)
                          refine z_iconst hx hb (nI 0) dX7_block_116 (by decide) ?_
                          refine lv_istore (lv' := [(8, .int (nI 0)), (7, .int (nI 0)), (0, .ref t0), (1, .int (zI d)), (2, .int (zI b)), (3, .int (zI w)), (4, .long W), (6, .int (nI k))]) hx hb dX7_block_117 hl (by decide) rfl (fun ls hl => ?_)
                          refine z_loop (σ := Nat × Nat) (fun (i, vv) H locs ls => (i ≤ 4) ∧ (vv = oc (xw B d.toNat b.toNat w.toNat i) (k - 8 * w.toNat)) ∧ zS D A s.heap H locs (WQ cI cJ cZ cII cZZ [] t0 t1 t2 t3 t4 t5 t6 t7 t8 t9 tA tB tC tD tR tS (if false = true then 2 else 0) eP eb er ek es ed ec ew lk lf lo lv le eW et eh ei eu em) ∧ lv_has ls 9 [(0, .ref t0), (1, .int (zI d)), (2, .int (zI b)), (3, .int (zI w)), (4, .long W), (6, .int (nI k)), (7, .int (nI vv)), (8, .int (nI i))]) (fun (i, vv) => 4 - i) [] (0, 0) ⟨by omega, (oc_0 _).symm, hZ, lv_sub hl [2, 3, 4, 5, 6, 7, 1, 0] (by first | rfl | (simp only [lv_pick]; rfl))⟩ ?_
                          intro x H locs ls hI ih119
                          obtain ⟨i, vv⟩ := x
                          obtain ⟨hi, hv, hZ, hl⟩ := hI
                          refine lv_iload hx hb dX7_block_119 (lv_at hl 7 rfl) ?_
                          refine z_iconst hx hb (nI 4) dX7_block_121 (by decide) ?_
                          refine z_icmp_ge hx hb 164 dX7_block_122 (by decide) (C := 4 ≤ i) (nIle (by omega) (by omega)) (fun h122 => ?_) (fun h122 => ?_)
                          · skip
                            have hi4 : xw B d.toNat b.toNat w.toNat i = Bd B d.toNat (b.toNat * 4 + w.toNat) := by rw [show i = 4 by omega]; exact xw_4 B (by omega) (by omega)
                            refine lv_lload hx hb dX7_block_164 (lv_at hl 4 rfl) ?_
                            refine z_bipush hx hb (nI 8) dX7_block_166 (by decide) ?_
                            refine lv_lshl (v := W <<< ((nI 8).toInt64 &&& 63)) hx hb dX7_block_168 rfl ?_
                            refine lv_iload hx hb dX7_block_169 (lv_at hl 6 rfl) ?_
                            refine lv_i2l (v := (nI vv).toInt64) hx hb dX7_block_171 rfl ?_
                            refine lv_lor hx hb dX7_block_172 ?_
                            refine lv_lstore (lv' := [(4, .long ((W <<< ((nI 8).toInt64 &&& 63)) ||| ((nI vv).toInt64))), (0, .ref t0), (1, .int (zI d)), (2, .int (zI b)), (3, .int (zI w)), (6, .int (nI k)), (7, .int (nI vv)), (8, .int (nI i))]) hx hb dX7_block_173 hl (by decide) rfl (fun ls hl => ?_)
                            refine lv_iinc (v := nI (k + 1)) (lv' := [(6, .int (nI (k + 1))), (4, .long ((W <<< ((nI 8).toInt64 &&& 63)) ||| ((nI vv).toInt64))), (0, .ref t0), (1, .int (zI d)), (2, .int (zI b)), (3, .int (zI w)), (7, .int (nI vv)), (8, .int (nI i))]) hx hb dX7_block_175 hl (k := 5) rfl (nI_add _ _) (by decide) rfl (fun ls hl => ?_)
                            refine lv_goto (tgt := 101) hx hb dX7_block_178 (by decide) ?_
                            exact ih101 (k + 1, (W <<< ((nI 8).toInt64 &&& 63)) ||| ((nI vv).toInt64)) _ _ _ ⟨by omega, by rw [hW, hv, hi4, tw_s _ (by omega), show k + 1 - 8 * w.toNat = k - 8 * w.toNat + 1 by omega], hZ, lv_sub hl [2, 3, 4, 5, 1, 0] (by first | rfl | (simp only [lv_pick]; rfl))⟩ (by (try dsimp only); omega)
                          · skip
                            have hxs : xw B d.toNat b.toNat w.toNat (i + 1) = if d.toNat = 4 ∨ i = d.toNat then xw B d.toNat b.toNat w.toNat i ^^^ B (4 * (4 * b.toNat + i) + w.toNat) else xw B d.toNat b.toNat w.toNat i := rfl
                            refine lv_iload_n hx hb dX7_block_125 rfl (lv_at hl 1 rfl) ?_
                            refine z_iconst hx hb (nI 4) dX7_block_126 (by decide) ?_
                            refine z_icmp_eq hx hb 136 dX7_block_127 (by decide) (C := (d : Int) = 4) (by (try simp only [zI_n]); exact zI_eq ⟨by omega, by omega⟩ ⟨by omega, by omega⟩) (fun h127 => ?_) (fun h127 => ?_)
                            · skip
                              refine lv_iload hx hb dX7_block_136 (lv_at hl 6 rfl) ?_
                              refine lv_aload_n hx hb dX7_block_138 rfl (lv_at hl 0 rfl) ?_
                              refine z_get hE fF_X7_1 hZ 0 rfl (.ref t1) rfl dX7_block_139 ?_
                              refine z_iconst hx hb (nI 4) dX7_block_142 (by decide) ?_
                              refine lv_iload_n hx hb dX7_block_143 rfl (lv_at hl 2 rfl) ?_
                              refine z_top (show zI b = nI b.toNat from zI_inN (by omega) (by omega)) ?_
                              refine z_imul hx hb dX7_block_144 (z := nI (4 * b.toNat)) (pk_mul _ _) ?_
                              refine lv_iload hx hb dX7_block_145 (lv_at hl 7 rfl) ?_
                              refine z_iadd hx hb dX7_block_147 (z := nI ((4 * b.toNat) + i)) (nI_add _ _) ?_
                              refine z_bipush hx hb (nI 32) dX7_block_148 (by decide) ?_
                              refine z_imul hx hb dX7_block_150 (z := nI (((4 * b.toNat) + i) * 32)) (pk_mul _ _) ?_
                              refine lv_iload hx hb dX7_block_151 (lv_at hl 5 rfl) ?_
                              refine z_iadd hx hb dX7_block_153 (z := nI ((((4 * b.toNat) + i) * 32) + k)) (nI_add _ _) ?_
                              refine z_iald hE hZ 1 0 rfl rfl (by decide) (by omega) dX7_block_154 ?_
                              refine z_top (show nI (eP ((((4 * b.toNat) + i) * 32) + k)) = nI (oc (B (4 * (4 * b.toNat + i) + w.toNat)) (k - 8 * w.toNat)) from by rw [hP _ _ (by omega) (by omega)]; unfold po; rw [show k / 8 = w.toNat by omega, show k % 8 = k - 8 * w.toNat by omega]) ?_
                              refine lv_ixor hx hb dX7_block_155 ?_
                              refine z_top (show (nI vv) ^^^ (nI (oc (B (4 * (4 * b.toNat + i) + w.toNat)) (k - 8 * w.toNat))) = nI (vv ^^^ oc (B (4 * (4 * b.toNat + i) + w.toNat)) (k - 8 * w.toNat)) from xor_I) ?_
                              refine lv_istore (lv' := [(7, .int (nI (vv ^^^ oc (B (4 * (4 * b.toNat + i) + w.toNat)) (k - 8 * w.toNat)))), (0, .ref t0), (1, .int (zI d)), (2, .int (zI b)), (3, .int (zI w)), (4, .long W), (6, .int (nI k)), (8, .int (nI i))]) hx hb dX7_block_156 hl (by decide) rfl (fun ls hl => ?_)
                              refine lv_iinc (v := nI (i + 1)) (lv' := [(8, .int (nI (i + 1))), (7, .int (nI (vv ^^^ oc (B (4 * (4 * b.toNat + i) + w.toNat)) (k - 8 * w.toNat)))), (0, .ref t0), (1, .int (zI d)), (2, .int (zI b)), (3, .int (zI w)), (4, .long W), (6, .int (nI k))]) hx hb dX7_block_158 hl (k := 7) rfl (nI_add _ _) (by decide) rfl (fun ls hl => ?_)
                              refine lv_goto (tgt := 119) hx hb dX7_block_161 (by decide) ?_
                              exact ih119 (i + 1, vv ^^^ oc (B (4 * (4 * b.toNat + i) + w.toNat)) (k - 8 * w.toNat)) _ _ _ ⟨by omega, by first | (have z : ¬ (i : Int) = d := h133; have y : ¬ d = 4 := h127; rw [hxs, if_neg (by omega)]; exact hv) | (have z : (i : Int) = d := h133; rw [hxs, if_pos (by omega), ← oc_xor, hv]) | (have z : d = 4 := h127; rw [hxs, if_pos (by omega), ← oc_xor, hv]), hZ, lv_sub hl [2, 3, 4, 5, 6, 7, 1, 0] (by first | rfl | (simp only [lv_pick]; rfl))⟩ (by (try dsimp only); omega)
                            · skip
                              refine lv_iload hx hb dX7_block_130 (lv_at hl 7 rfl) ?_
                              refine lv_iload_n hx hb dX7_block_132 rfl (lv_at hl 1 rfl) ?_
                              refine z_icmp_ne hx hb 158 dX7_block_133 (by decide) (C := (((i : Nat) : Int) : Int) = d) (by (try simp only [zI_n]); exact zI_eq ⟨by omega, by omega⟩ ⟨by omega, by omega⟩) (fun h133 => ?_) (fun h133 => ?_)
                              · skip
                                refine lv_iinc (v := nI (i + 1)) (lv' := [(8, .int (nI (i + 1))), (0, .ref t0), (1, .int (zI d)), (2, .int (zI b)), (3, .int (zI w)), (4, .long W), (6, .int (nI k)), (7, .int (nI vv))]) hx hb dX7_block_158 hl (k := 7) rfl (nI_add _ _) (by decide) rfl (fun ls hl => ?_)
                                refine lv_goto (tgt := 119) hx hb dX7_block_161 (by decide) ?_
                                exact ih119 (i + 1, vv) _ _ _ ⟨by omega, by first | (have z : ¬ (i : Int) = d := h133; have y : ¬ d = 4 := h127; rw [hxs, if_neg (by omega)]; exact hv) | (have z : (i : Int) = d := h133; rw [hxs, if_pos (by omega), ← oc_xor, hv]) | (have z : d = 4 := h127; rw [hxs, if_pos (by omega), ← oc_xor, hv]), hZ, lv_sub hl [1, 2, 3, 4, 5, 6, 7, 0] (by first | rfl | (simp only [lv_pick]; rfl))⟩ (by (try dsimp only); omega)
                              · skip
                                refine lv_iload hx hb dX7_block_136 (lv_at hl 6 rfl) ?_
                                refine lv_aload_n hx hb dX7_block_138 rfl (lv_at hl 0 rfl) ?_
                                refine z_get hE fF_X7_1 hZ 0 rfl (.ref t1) rfl dX7_block_139 ?_
                                refine z_iconst hx hb (nI 4) dX7_block_142 (by decide) ?_
                                refine lv_iload_n hx hb dX7_block_143 rfl (lv_at hl 2 rfl) ?_
                                refine z_top (show zI b = nI b.toNat from zI_inN (by omega) (by omega)) ?_
                                refine z_imul hx hb dX7_block_144 (z := nI (4 * b.toNat)) (pk_mul _ _) ?_
                                refine lv_iload hx hb dX7_block_145 (lv_at hl 7 rfl) ?_
                                refine z_iadd hx hb dX7_block_147 (z := nI ((4 * b.toNat) + i)) (nI_add _ _) ?_
                                refine z_bipush hx hb (nI 32) dX7_block_148 (by decide) ?_
                                refine z_imul hx hb dX7_block_150 (z := nI (((4 * b.toNat) + i) * 32)) (pk_mul _ _) ?_
                                refine lv_iload hx hb dX7_block_151 (lv_at hl 5 rfl) ?_
                                refine z_iadd hx hb dX7_block_153 (z := nI ((((4 * b.toNat) + i) * 32) + k)) (nI_add _ _) ?_
                                refine z_iald hE hZ 1 0 rfl rfl (by decide) (by omega) dX7_block_154 ?_
                                refine z_top (show nI (eP ((((4 * b.toNat) + i) * 32) + k)) = nI (oc (B (4 * (4 * b.toNat + i) + w.toNat)) (k - 8 * w.toNat)) from by rw [hP _ _ (by omega) (by omega)]; unfold po; rw [show k / 8 = w.toNat by omega, show k % 8 = k - 8 * w.toNat by omega]) ?_
                                refine lv_ixor hx hb dX7_block_155 ?_
                                refine z_top (show (nI vv) ^^^ (nI (oc (B (4 * (4 * b.toNat + i) + w.toNat)) (k - 8 * w.toNat))) = nI (vv ^^^ oc (B (4 * (4 * b.toNat + i) + w.toNat)) (k - 8 * w.toNat)) from xor_I) ?_
                                refine lv_istore (lv' := [(7, .int (nI (vv ^^^ oc (B (4 * (4 * b.toNat + i) + w.toNat)) (k - 8 * w.toNat)))), (0, .ref t0), (1, .int (zI d)), (2, .int (zI b)), (3, .int (zI w)), (4, .long W), (6, .int (nI k)), (8, .int (nI i))]) hx hb dX7_block_156 hl (by decide) rfl (fun ls hl => ?_)
                                refine lv_iinc (v := nI (i + 1)) (lv' := [(8, .int (nI (i + 1))), (7, .int (nI (vv ^^^ oc (B (4 * (4 * b.toNat + i) + w.toNat)) (k - 8 * w.toNat)))), (0, .ref t0), (1, .int (zI d)), (2, .int (zI b)), (3, .int (zI w)), (4, .long W), (6, .int (nI k))]) hx hb dX7_block_158 hl (k := 7) rfl (nI_add _ _) (by decide) rfl (fun ls hl => ?_)
                                refine lv_goto (tgt := 119) hx hb dX7_block_161 (by decide) ?_
                                exact ih119 (i + 1, vv ^^^ oc (B (4 * (4 * b.toNat + i) + w.toNat)) (k - 8 * w.toNat)) _ _ _ ⟨by omega, by first | (have z : ¬ (i : Int) = d := h133; have y : ¬ d = 4 := h127; rw [hxs, if_neg (by omega)]; exact hv) | (have z : (i : Int) = d := h133; rw [hxs, if_pos (by omega), ← oc_xor, hv]) | (have z : d = 4 := h127; rw [hxs, if_pos (by omega), ← oc_xor, hv]), hZ, lv_sub hl [2, 3, 4, 5, 6, 7, 1, 0] (by first | rfl | (simp only [lv_pick]; rfl))⟩ (by (try dsimp only); omega)
                      · skip
                        refine lv_iload_n hx hb dX7_block_82 rfl (lv_at hl 2 rfl) ?_
                        refine lv_aload_n hx hb dX7_block_83 rfl (lv_at hl 0 rfl) ?_
                        refine z_get hE fF_X7_3 hZ 0 rfl (.int (zI er)) rfl dX7_block_84 ?_
                        refine z_icmp_lt hx hb 92 dX7_block_87 (by decide) (C := (b : Int) < er) (by (try simp only [zI_n]); exact zI_lt ⟨by omega, by omega⟩ ⟨by omega, by omega⟩) (fun h87 => ?_) (fun h87 => ?_)
                        · skip
                          have hnb : ¬ (d = eb ∧ er ≤ b) := by omega
                          refine lv_lconst (v := 0) hx hb dX7_block_92 (by decide) ?_
                          refine lv_lstore (lv' := [(4, .long 0), (0, .ref t0), (1, .int (zI d)), (2, .int (zI b)), (3, .int (zI w))]) hx hb dX7_block_93 hl (by decide) rfl (fun ls hl => ?_)
                          refine z_bipush hx hb (nI 8) dX7_block_95 (by decide) ?_
                          refine lv_iload_n hx hb dX7_block_97 rfl (lv_at hl 4 rfl) ?_
                          refine z_top (show zI w = nI w.toNat from zI_inN (by omega) (by omega)) ?_
                          refine z_imul hx hb dX7_block_98 (z := nI (8 * w.toNat)) (pk_mul _ _) ?_
                          refine lv_istore (lv' := [(6, .int (nI (8 * w.toNat))), (4, .long 0), (0, .ref t0), (1, .int (zI d)), (2, .int (zI b)), (3, .int (zI w))]) hx hb dX7_block_99 hl (by decide) rfl (fun ls hl => ?_)
                          refine z_loop (σ := Nat × Int64) (fun (k, W) H locs ls => (8 * w.toNat ≤ k ∧ k ≤ 8 * w.toNat + 8) ∧ (W = tw (Bd B d.toNat (b.toNat * 4 + w.toNat)) (k - 8 * w.toNat)) ∧ zS D A s.heap H locs (WQ cI cJ cZ cII cZZ [] t0 t1 t2 t3 t4 t5 t6 t7 t8 t9 tA tB tC tD tR tS (if false = true then 2 else 0) eP eb er ek es ed ec ew lk lf lo lv le eW et eh ei eu em) ∧ lv_has ls 9 [(0, .ref t0), (1, .int (zI d)), (2, .int (zI b)), (3, .int (zI w)), (4, .long W), (6, .int (nI k))]) (fun (k, W) => 8 * w.toNat + 8 - k) [] (8 * w.toNat, 0) ⟨by omega, by rw [Nat.sub_self]; exact (tw_0 _).symm, hZ, lv_sub hl [2, 3, 4, 5, 1, 0] (by first | rfl | (simp only [lv_pick]; rfl))⟩ ?_
                          intro x H locs ls hI ih101
                          obtain ⟨k, W⟩ := x
                          obtain ⟨hk, hW, hZ, hl⟩ := hI
                          refine lv_iload hx hb dX7_block_101 (lv_at hl 5 rfl) ?_
                          refine z_bipush hx hb (nI 8) dX7_block_103 (by decide) ?_
                          refine lv_iload_n hx hb dX7_block_105 rfl (lv_at hl 3 rfl) ?_
                          refine z_top (show zI w = nI w.toNat from zI_inN (by omega) (by omega)) ?_
                          refine z_imul hx hb dX7_block_106 (z := nI (8 * w.toNat)) (pk_mul _ _) ?_
                          refine z_bipush hx hb (nI 8) dX7_block_107 (by decide) ?_
                          refine z_iadd hx hb dX7_block_109 (z := nI ((8 * w.toNat) + 8)) (nI_add _ _) ?_
                          refine z_icmp_ge hx hb 181 dX7_block_110 (by decide) (C := (8 * w.toNat) + 8 ≤ k) (nIle (by omega) (by omega)) (fun h110 => ?_) (fun h110 => ?_)
                          · skip
                            have hk8 : k - 8 * w.toNat = 8 := by omega
                            refine lv_lload hx hb dX7_block_181 (lv_at hl 4 rfl) ?_
                            refine z_topl (show W = (Bd B d.toNat (b.toNat * 4 + w.toNat)) from by rw [hW, hk8, tw_8]) ?_
                            exact z_lret hE hrt9 hlocks hZ ((if false = true then 2 else 0), Bd B d.toNat (b.toNat * 4 + w.toNat)) rfl (show (((if false = true then 2 else 0) = 1 ∧ ¬ (0 ≤ d ∧ d < 5 ∧ 0 ≤ b ∧ b < 150 ∧ 0 ≤ w ∧ w < 4)) ∨ ((if false = true then 2 else 0) = 2 ∧ (0 ≤ d ∧ d < 5 ∧ 0 ≤ b ∧ b < 150 ∧ 0 ≤ w ∧ w < 4) ∧ d = eb ∧ er < 0) ∨ ((if false = true then 2 else 0) = 0 ∧ (0 ≤ d ∧ d < 5 ∧ 0 ≤ b ∧ b < 150 ∧ 0 ≤ w ∧ w < 4) ∧ ¬ (d = eb ∧ er < 0) ∧ (Bd B d.toNat (b.toNat * 4 + w.toNat)) = if d = eb ∧ er ≤ b then 0 else Bd B d.toNat (b.toNat * 4 + w.toNat))) from Or.inr (Or.inr ⟨rfl, hok, hnf, by rw [if_neg hnb]⟩)) rfl dX7_block_183 (Nat.le_of_ble_eq_true rfl) (Nat.le_of_ble_eq_true rfl)
                          · skip
                            refine z_iconst hx hb (nI 0) dX7_block_113 (by decide) ?_
                            refine lv_istore (lv' := [(7, .int (nI 0)), (0, .ref t0), (1, .int (zI d)), (2, .int (zI b)), (3, .int (zI w)), (4, .long W), (6, .int (nI k))]) hx hb dX7_block_114 hl (by decide) rfl (fun ls hl => ?_)
                            refine z_iconst hx hb (nI 0) dX7_block_116 (by decide) ?_
                            refine lv_istore (lv' := [(8, .int (nI 0)), (7, .int (nI 0)), (0, .ref t0), (1, .int (zI d)), (2, .int (zI b)), (3, .int (zI w)), (4, .long W), (6, .int (nI k))]) hx hb dX7_block_117 hl (by decide) rfl (fun ls hl => ?_)
                            refine z_loop (σ := Nat × Nat) (fun (i, vv) H locs ls => (i ≤ 4) ∧ (vv = oc (xw B d.toNat b.toNat w.toNat i) (k - 8 * w.toNat)) ∧ zS D A s.heap H locs (WQ cI cJ cZ cII cZZ [] t0 t1 t2 t3 t4 t5 t6 t7 t8 t9 tA tB tC tD tR tS (if false = true then 2 else 0) eP eb er ek es ed ec ew lk lf lo lv le eW et eh ei eu em) ∧ lv_has ls 9 [(0, .ref t0), (1, .int (zI d)), (2, .int (zI b)), (3, .int (zI w)), (4, .long W), (6, .int (nI k)), (7, .int (nI vv)), (8, .int (nI i))]) (fun (i, vv) => 4 - i) [] (0, 0) ⟨by omega, (oc_0 _).symm, hZ, lv_sub hl [2, 3, 4, 5, 6, 7, 1, 0] (by first | rfl | (simp only [lv_pick]; rfl))⟩ ?_
                            intro x H locs ls hI ih119
                            obtain ⟨i, vv⟩ := x
                            obtain ⟨hi, hv, hZ, hl⟩ := hI
                            refine lv_iload hx hb dX7_block_119 (lv_at hl 7 rfl) ?_
                            refine z_iconst hx hb (nI 4) dX7_block_121 (by decide) ?_
                            refine z_icmp_ge hx hb 164 dX7_block_122 (by decide) (C := 4 ≤ i) (nIle (by omega) (by omega)) (fun h122 => ?_) (fun h122 => ?_)
                            · skip
                              have hi4 : xw B d.toNat b.toNat w.toNat i = Bd B d.toNat (b.toNat * 4 + w.toNat) := by rw [show i = 4 by omega]; exact xw_4 B (by omega) (by omega)
                              refine lv_lload hx hb dX7_block_164 (lv_at hl 4 rfl) ?_
                              refine z_bipush hx hb (nI 8) dX7_block_166 (by decide) ?_
                              refine lv_lshl (v := W <<< ((nI 8).toInt64 &&& 63)) hx hb dX7_block_168 rfl ?_
                              refine lv_iload hx hb dX7_block_169 (lv_at hl 6 rfl) ?_
                              refine lv_i2l (v := (nI vv).toInt64) hx hb dX7_block_171 rfl ?_
                              refine lv_lor hx hb dX7_block_172 ?_
                              refine lv_lstore (lv' := [(4, .long ((W <<< ((nI 8).toInt64 &&& 63)) ||| ((nI vv).toInt64))), (0, .ref t0), (1, .int (zI d)), (2, .int (zI b)), (3, .int (zI w)), (6, .int (nI k)), (7, .int (nI vv)), (8, .int (nI i))]) hx hb dX7_block_173 hl (by decide) rfl (fun ls hl => ?_)
                              refine lv_iinc (v := nI (k + 1)) (lv' := [(6, .int (nI (k + 1))), (4, .long ((W <<< ((nI 8).toInt64 &&& 63)) ||| ((nI vv).toInt64))), (0, .ref t0), (1, .int (zI d)), (2, .int (zI b)), (3, .int (zI w)), (7, .int (nI vv)), (8, .int (nI i))]) hx hb dX7_block_175 hl (k := 5) rfl (nI_add _ _) (by decide) rfl (fun ls hl => ?_)
                              refine lv_goto (tgt := 101) hx hb dX7_block_178 (by decide) ?_
                              exact ih101 (k + 1, (W <<< ((nI 8).toInt64 &&& 63)) ||| ((nI vv).toInt64)) _ _ _ ⟨by omega, by rw [hW, hv, hi4, tw_s _ (by omega), show k + 1 - 8 * w.toNat = k - 8 * w.toNat + 1 by omega], hZ, lv_sub hl [2, 3, 4, 5, 1, 0] (by first | rfl | (simp only [lv_pick]; rfl))⟩ (by (try dsimp only); omega)
                            · skip
                              have hxs : xw B d.toNat b.toNat w.toNat (i + 1) = if d.toNat = 4 ∨ i = d.toNat then xw B d.toNat b.toNat w.toNat i ^^^ B (4 * (4 * b.toNat + i) + w.toNat) else xw B d.toNat b.toNat w.toNat i := rfl
                              refine lv_iload_n hx hb dX7_block_125 rfl (lv_at hl 1 rfl) ?_
                              refine z_iconst hx hb (nI 4) dX7_block_126 (by decide) ?_
                              refine z_icmp_eq hx hb 136 dX7_block_127 (by decide) (C := (d : Int) = 4) (by (try simp only [zI_n]); exact zI_eq ⟨by omega, by omega⟩ ⟨by omega, by omega⟩) (fun h127 => ?_) (fun h127 => ?_)
                              · skip
                                refine lv_iload hx hb dX7_block_136 (lv_at hl 6 rfl) ?_
                                refine lv_aload_n hx hb dX7_block_138 rfl (lv_at hl 0 rfl) ?_
                                refine z_get hE fF_X7_1 hZ 0 rfl (.ref t1) rfl dX7_block_139 ?_
                                refine z_iconst hx hb (nI 4) dX7_block_142 (by decide) ?_
                                refine lv_iload_n hx hb dX7_block_143 rfl (lv_at hl 2 rfl) ?_
                                refine z_top (show zI b = nI b.toNat from zI_inN (by omega) (by omega)) ?_
                                refine z_imul hx hb dX7_block_144 (z := nI (4 * b.toNat)) (pk_mul _ _) ?_
                                refine lv_iload hx hb dX7_block_145 (lv_at hl 7 rfl) ?_
                                refine z_iadd hx hb dX7_block_147 (z := nI ((4 * b.toNat) + i)) (nI_add _ _) ?_
                                refine z_bipush hx hb (nI 32) dX7_block_148 (by decide) ?_
                                refine z_imul hx hb dX7_block_150 (z := nI (((4 * b.toNat) + i) * 32)) (pk_mul _ _) ?_
                                refine lv_iload hx hb dX7_block_151 (lv_at hl 5 rfl) ?_
                                refine z_iadd hx hb dX7_block_153 (z := nI ((((4 * b.toNat) + i) * 32) + k)) (nI_add _ _) ?_
                                refine z_iald hE hZ 1 0 rfl rfl (by decide) (by omega) dX7_block_154 ?_
                                refine z_top (show nI (eP ((((4 * b.toNat) + i) * 32) + k)) = nI (oc (B (4 * (4 * b.toNat + i) + w.toNat)) (k - 8 * w.toNat)) from by rw [hP _ _ (by omega) (by omega)]; unfold po; rw [show k / 8 = w.toNat by omega, show k % 8 = k - 8 * w.toNat by omega]) ?_
                                refine lv_ixor hx hb dX7_block_155 ?_
                                refine z_top (show (nI vv) ^^^ (nI (oc (B (4 * (4 * b.toNat + i) + w.toNat)) (k - 8 * w.toNat))) = nI (vv ^^^ oc (B (4 * (4 * b.toNat + i) + w.toNat)) (k - 8 * w.toNat)) from xor_I) ?_
                                refine lv_istore (lv' := [(7, .int (nI (vv ^^^ oc (B (4 * (4 * b.toNat + i) + w.toNat)) (k - 8 * w.toNat)))), (0, .ref t0), (1, .int (zI d)), (2, .int (zI b)), (3, .int (zI w)), (4, .long W), (6, .int (nI k)), (8, .int (nI i))]) hx hb dX7_block_156 hl (by decide) rfl (fun ls hl => ?_)
                                refine lv_iinc (v := nI (i + 1)) (lv' := [(8, .int (nI (i + 1))), (7, .int (nI (vv ^^^ oc (B (4 * (4 * b.toNat + i) + w.toNat)) (k - 8 * w.toNat)))), (0, .ref t0), (1, .int (zI d)), (2, .int (zI b)), (3, .int (zI w)), (4, .long W), (6, .int (nI k))]) hx hb dX7_block_158 hl (k := 7) rfl (nI_add _ _) (by decide) rfl (fun ls hl => ?_)
                                refine lv_goto (tgt := 119) hx hb dX7_block_161 (by decide) ?_
                                exact ih119 (i + 1, vv ^^^ oc (B (4 * (4 * b.toNat + i) + w.toNat)) (k - 8 * w.toNat)) _ _ _ ⟨by omega, by first | (have z : ¬ (i : Int) = d := h133; have y : ¬ d = 4 := h127; rw [hxs, if_neg (by omega)]; exact hv) | (have z : (i : Int) = d := h133; rw [hxs, if_pos (by omega), ← oc_xor, hv]) | (have z : d = 4 := h127; rw [hxs, if_pos (by omega), ← oc_xor, hv]), hZ, lv_sub hl [2, 3, 4, 5, 6, 7, 1, 0] (by first | rfl | (simp only [lv_pick]; rfl))⟩ (by (try dsimp only); omega)
                              · skip
                                refine lv_iload hx hb dX7_block_130 (lv_at hl 7 rfl) ?_
                                refine lv_iload_n hx hb dX7_block_132 rfl (lv_at hl 1 rfl) ?_
                                refine z_icmp_ne hx hb 158 dX7_block_133 (by decide) (C := (((i : Nat) : Int) : Int) = d) (by (try simp only [zI_n]); exact zI_eq ⟨by omega, by omega⟩ ⟨by omega, by omega⟩) (fun h133 => ?_) (fun h133 => ?_)
                                · skip
                                  refine lv_iinc (v := nI (i + 1)) (lv' := [(8, .int (nI (i + 1))), (0, .ref t0), (1, .int (zI d)), (2, .int (zI b)), (3, .int (zI w)), (4, .long W), (6, .int (nI k)), (7, .int (nI vv))]) hx hb dX7_block_158 hl (k := 7) rfl (nI_add _ _) (by decide) rfl (fun ls hl => ?_)
                                  refine lv_goto (tgt := 119) hx hb dX7_block_161 (by decide) ?_
                                  exact ih119 (i + 1, vv) _ _ _ ⟨by omega, by first | (have z : ¬ (i : Int) = d := h133; have y : ¬ d = 4 := h127; rw [hxs, if_neg (by omega)]; exact hv) | (have z : (i : Int) = d := h133; rw [hxs, if_pos (by omega), ← oc_xor, hv]) | (have z : d = 4 := h127; rw [hxs, if_pos (by omega), ← oc_xor, hv]), hZ, lv_sub hl [1, 2, 3, 4, 5, 6, 7, 0] (by first | rfl | (simp only [lv_pick]; rfl))⟩ (by (try dsimp only); omega)
                                · skip
                                  refine lv_iload hx hb dX7_block_136 (lv_at hl 6 rfl) ?_
                                  refine lv_aload_n hx hb dX7_block_138 rfl (lv_at hl 0 rfl) ?_
                                  refine z_get hE fF_X7_1 hZ 0 rfl (.ref t1) rfl dX7_block_139 ?_
                                  refine z_iconst hx hb (nI 4) dX7_block_142 (by decide) ?_
                                  refine lv_iload_n hx hb dX7_block_143 rfl (lv_at hl 2 rfl) ?_
                                  refine z_top (show zI b = nI b.toNat from zI_inN (by omega) (by omega)) ?_
                                  refine z_imul hx hb dX7_block_144 (z := nI (4 * b.toNat)) (pk_mul _ _) ?_
                                  refine lv_iload hx hb dX7_block_145 (lv_at hl 7 rfl) ?_
                                  refine z_iadd hx hb dX7_block_147 (z := nI ((4 * b.toNat) + i)) (nI_add _ _) ?_
                                  refine z_bipush hx hb (nI 32) dX7_block_148 (by decide) ?_
                                  refine z_imul hx hb dX7_block_150 (z := nI (((4 * b.toNat) + i) * 32)) (pk_mul _ _) ?_
                                  refine lv_iload hx hb dX7_block_151 (lv_at hl 5 rfl) ?_
                                  refine z_iadd hx hb dX7_block_153 (z := nI ((((4 * b.toNat) + i) * 32) + k)) (nI_add _ _) ?_
                                  refine z_iald hE hZ 1 0 rfl rfl (by decide) (by omega) dX7_block_154 ?_
                                  refine z_top (show nI (eP ((((4 * b.toNat) + i) * 32) + k)) = nI (oc (B (4 * (4 * b.toNat + i) + w.toNat)) (k - 8 * w.toNat)) from by rw [hP _ _ (by omega) (by omega)]; unfold po; rw [show k / 8 = w.toNat by omega, show k % 8 = k - 8 * w.toNat by omega]) ?_
                                  refine lv_ixor hx hb dX7_block_155 ?_
                                  refine z_top (show (nI vv) ^^^ (nI (oc (B (4 * (4 * b.toNat + i) + w.toNat)) (k - 8 * w.toNat))) = nI (vv ^^^ oc (B (4 * (4 * b.toNat + i) + w.toNat)) (k - 8 * w.toNat)) from xor_I) ?_
                                  refine lv_istore (lv' := [(7, .int (nI (vv ^^^ oc (B (4 * (4 * b.toNat + i) + w.toNat)) (k - 8 * w.toNat)))), (0, .ref t0), (1, .int (zI d)), (2, .int (zI b)), (3, .int (zI w)), (4, .long W), (6, .int (nI k)), (8, .int (nI i))]) hx hb dX7_block_156 hl (by decide) rfl (fun ls hl => ?_)
                                  refine lv_iinc (v := nI (i + 1)) (lv' := [(8, .int (nI (i + 1))), (7, .int (nI (vv ^^^ oc (B (4 * (4 * b.toNat + i) + w.toNat)) (k - 8 * w.toNat)))), (0, .ref t0), (1, .int (zI d)), (2, .int (zI b)), (3, .int (zI w)), (4, .long W), (6, .int (nI k))]) hx hb dX7_block_158 hl (k := 7) rfl (nI_add _ _) (by decide) rfl (fun ls hl => ?_)
                                  refine lv_goto (tgt := 119) hx hb dX7_block_161 (by decide) ?_
                                  exact ih119 (i + 1, vv ^^^ oc (B (4 * (4 * b.toNat + i) + w.toNat)) (k - 8 * w.toNat)) _ _ _ ⟨by omega, by first | (have z : ¬ (i : Int) = d := h133; have y : ¬ d = 4 := h127; rw [hxs, if_neg (by omega)]; exact hv) | (have z : (i : Int) = d := h133; rw [hxs, if_pos (by omega), ← oc_xor, hv]) | (have z : d = 4 := h127; rw [hxs, if_pos (by omega), ← oc_xor, hv]), hZ, lv_sub hl [2, 3, 4, 5, 6, 7, 1, 0] (by first | rfl | (simp only [lv_pick]; rfl))⟩ (by (try dsimp only); omega)
                        · skip
                          refine lv_lconst (v := 0) hx hb dX7_block_90 (by decide) ?_
                          exact z_lret hE hrt9 hlocks hZ ((if false = true then 2 else 0), 0) rfl (show (((if false = true then 2 else 0) = 1 ∧ ¬ (0 ≤ d ∧ d < 5 ∧ 0 ≤ b ∧ b < 150 ∧ 0 ≤ w ∧ w < 4)) ∨ ((if false = true then 2 else 0) = 2 ∧ (0 ≤ d ∧ d < 5 ∧ 0 ≤ b ∧ b < 150 ∧ 0 ≤ w ∧ w < 4) ∧ d = eb ∧ er < 0) ∨ ((if false = true then 2 else 0) = 0 ∧ (0 ≤ d ∧ d < 5 ∧ 0 ≤ b ∧ b < 150 ∧ 0 ≤ w ∧ w < 4) ∧ ¬ (d = eb ∧ er < 0) ∧ 0 = if d = eb ∧ er ≤ b then 0 else Bd B d.toNat (b.toNat * 4 + w.toNat))) from Or.inr (Or.inr ⟨rfl, hok, hnf, by rw [if_pos (by omega)]⟩)) rfl dX7_block_91 (Nat.le_of_ble_eq_true rfl) (Nat.le_of_ble_eq_true rfl)
                    · skip
                      exact absurd trivial h69
                  · skip
                    refine z_iconst hx hb (nI 1) dX7_block_60 (by decide) ?_
                    refine lv_goto (tgt := 65) hx hb dX7_block_61 (by decide) ?_
                    refine z_iconst hx hb (nI 2) dX7_block_65 (by decide) ?_
                    refine z_kVp (As := [.int (nI 1), .int (nI 2)]) (rest := []) hE hZ (c_X7_fails l D cI cJ cZ cII cZZ t0 t1 t2 t3 t4 t5 t6 t7 t8 t9 tA tB tC tD tR tS (if false = true then 1 else 0) eP eb er ek es ed ec ew lk lf lo lv le eW et eh ei eu em true 2 ) lL_X7_fails lC_X7_125 rfl [] (List.Perm.refl _) (fun u => (WQ cI cJ cZ cII cZZ [] t0 t1 t2 t3 t4 t5 t6 t7 t8 t9 tA tB tC tD tR tS (if true = true then 2 else 0) eP eb er ek es ed ec ew lk lf lo lv le eW et eh ei eu em)) (fun _ => List.Perm.refl _) 0 rfl ⟨by decide, by decide⟩ 0 0 rfl rfl ⟨by decide, by decide⟩ rfl hl.1 rfl (Nat.le_of_ble_eq_true rfl) dX7_block_66 (fun u H locs hq9 hZ => ?_)
                    have hZ : zS D A s.heap H locs (WQ cI cJ cZ cII cZZ [] t0 t1 t2 t3 t4 t5 t6 t7 t8 t9 tA tB tC tD tR tS (if true = true then 2 else 0) eP eb er ek es ed ec ew lk lf lo lv le eW et eh ei eu em) := hZ
                    refine W.eq (g2 := F0 mth 69 ls [.int (zB true)]) rfl ?_
                    refine z_if_eq hx hb 74 dX7_block_69 (by decide) (C := False) (by rw [zB_0]; simp) (fun h69 => ?_) (fun h69 => ?_)
                    · skip
                      exact h69.elim
                    · skip
                      refine lv_lconst (v := 0) hx hb dX7_block_72 (by decide) ?_
                      exact z_lret hE hrt9 hlocks hZ ((if true = true then 2 else 0), 0) rfl (show (((if true = true then 2 else 0) = 1 ∧ ¬ (0 ≤ d ∧ d < 5 ∧ 0 ≤ b ∧ b < 150 ∧ 0 ≤ w ∧ w < 4)) ∨ ((if true = true then 2 else 0) = 2 ∧ (0 ≤ d ∧ d < 5 ∧ 0 ≤ b ∧ b < 150 ∧ 0 ≤ w ∧ w < 4) ∧ d = eb ∧ er < 0) ∨ ((if true = true then 2 else 0) = 0 ∧ (0 ≤ d ∧ d < 5 ∧ 0 ≤ b ∧ b < 150 ∧ 0 ≤ w ∧ w < 4) ∧ ¬ (d = eb ∧ er < 0) ∧ 0 = if d = eb ∧ er ≤ b then 0 else Bd B d.toNat (b.toNat * 4 + w.toNat))) from Or.inr (Or.inl ⟨rfl, hok, by omega, by omega⟩)) rfl dX7_block_73 (Nat.le_of_ble_eq_true rfl) (Nat.le_of_ble_eq_true rfl)
              · skip
                exact absurd trivial h39
            · skip
              have hnk : ¬ (0 ≤ d ∧ d < 5 ∧ 0 ≤ b ∧ b < 150 ∧ 0 ≤ w ∧ w < 4) := by omega
              refine z_iconst hx hb (nI 1) dX7_block_30 (by decide) ?_
              refine lv_goto (tgt := 35) hx hb dX7_block_31 (by decide) ?_
              refine z_iconst hx hb (nI 1) dX7_block_35 (by decide) ?_
              refine z_kVp (As := [.int (nI 1), .int (nI 1)]) (rest := []) hE hZ (c_X7_fails l D cI cJ cZ cII cZZ t0 t1 t2 t3 t4 t5 t6 t7 t8 t9 tA tB tC tD tR tS e0 eP eb er ek es ed ec ew lk lf lo lv le eW et eh ei eu em true 1 ) lL_X7_fails lC_X7_125 rfl [] (List.Perm.refl _) (fun u => (WQ cI cJ cZ cII cZZ [] t0 t1 t2 t3 t4 t5 t6 t7 t8 t9 tA tB tC tD tR tS (if true = true then 1 else 0) eP eb er ek es ed ec ew lk lf lo lv le eW et eh ei eu em)) (fun _ => List.Perm.refl _) 0 rfl ⟨by decide, by decide⟩ 0 0 rfl rfl ⟨by decide, by decide⟩ rfl hl.1 rfl (Nat.le_of_ble_eq_true rfl) dX7_block_36 (fun u H locs hq9 hZ => ?_)
              have hZ : zS D A s.heap H locs (WQ cI cJ cZ cII cZZ [] t0 t1 t2 t3 t4 t5 t6 t7 t8 t9 tA tB tC tD tR tS (if true = true then 1 else 0) eP eb er ek es ed ec ew lk lf lo lv le eW et eh ei eu em) := hZ
              refine W.eq (g2 := F0 mth 39 ls [.int (zB true)]) rfl ?_
              refine z_if_eq hx hb 44 dX7_block_39 (by decide) (C := False) (by rw [zB_0]; simp) (fun h39 => ?_) (fun h39 => ?_)
              · skip
                exact h39.elim
              · skip
                refine lv_lconst (v := 0) hx hb dX7_block_42 (by decide) ?_
                exact z_lret hE hrt9 hlocks hZ ((if true = true then 1 else 0), 0) rfl (show (((if true = true then 1 else 0) = 1 ∧ ¬ (0 ≤ d ∧ d < 5 ∧ 0 ≤ b ∧ b < 150 ∧ 0 ≤ w ∧ w < 4)) ∨ ((if true = true then 1 else 0) = 2 ∧ (0 ≤ d ∧ d < 5 ∧ 0 ≤ b ∧ b < 150 ∧ 0 ≤ w ∧ w < 4) ∧ d = eb ∧ er < 0) ∨ ((if true = true then 1 else 0) = 0 ∧ (0 ≤ d ∧ d < 5 ∧ 0 ≤ b ∧ b < 150 ∧ 0 ≤ w ∧ w < 4) ∧ ¬ (d = eb ∧ er < 0) ∧ 0 = if d = eb ∧ er ≤ b then 0 else Bd B d.toNat (b.toNat * 4 + w.toNat))) from Or.inl ⟨rfl, hnk⟩) rfl dX7_block_43 (Nat.le_of_ble_eq_true rfl) (Nat.le_of_ble_eq_true rfl)
