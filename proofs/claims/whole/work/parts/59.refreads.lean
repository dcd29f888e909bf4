set_option maxHeartbeats 1000000 in
set_option maxRecDepth 100000 in
theorem c_X7_fail (l : Launch) (D : va_G) (cI cJ cZ cII cZZ : ClassId) (t0 : Nat) (t1 : Nat) (t2 : Nat) (t3 : Nat) (t4 : Nat) (t5 : Nat) (t6 : Nat) (t7 : Nat) (t8 : Nat) (t9 : Nat) (tA : Nat) (tB : Nat) (tC : Nat) (tD : Nat) (tR : Nat → Nat) (tS : Nat → Nat) (e0 : Nat) (eP : Nat → Nat) (eb : Int) (er : Int) (ek : Bool) (es : Nat → Int) (ed : Nat → Nat → Nat) (ec : Nat → Bool) (ew : Nat → Nat → Bool) (lk : Nat → Nat) (lf : Nat → Nat) (lo : Nat → Nat) (lv : Nat → Int64) (le : Nat) (eW : Int) (et : Nat → Nat) (eh : Nat → Nat) (ei : Nat → Int) (eu : Nat → Bool) (em : Nat) (d : Int) (d_q : Int32) (hd : -2147483648 ≤ d ∧ d < 2147483648) (hbd : -1 ≤ eb ∧ eb < 5) (hrd : -1 ≤ er ∧ er ≤ 150) (d_h : d_q = zI d) :
    zC l yX7_fail cX7_fail 2 none { frames := 1, cells := 0, slots := 0, locals := 22 } D (zT cI cJ cZ cII cZZ) [.ref t0, .int (d_q)] (WQ cI cJ cZ cII cZZ [] t0 t1 t2 t3 t4 t5 t6 t7 t8 t9 tA tB tC tD tR tS e0 eP eb er ek es ed ec ew lk lf lo lv le eW et eh ei eu em) (S := Int × Int × Bool × Nat) (fun u => none) (fun u => ((u.2.2.2 = 1 ∧ ¬ (0 ≤ d ∧ d < 5) ∧ u.1 = eb ∧ u.2.1 = er ∧ u.2.2.1 = ek) ∨ (u.2.2.2 = 2 ∧ (0 ≤ d ∧ d < 5) ∧ ek = true ∧ u.1 = eb ∧ u.2.1 = er ∧ u.2.2.1 = ek) ∨ (u.2.2.2 = 0 ∧ (0 ≤ d ∧ d < 5) ∧ ek = false ∧ (((eb ≠ -1 ∧ eb ≠ d) ∧ u.2.2.1 = true ∧ u.1 = eb ∧ u.2.1 = er) ∨ ((eb = -1 ∨ eb = d) ∧ u.2.2.1 = ek ∧ u.1 = d ∧ u.2.1 = -1))))) (fun u => (WQ cI cJ cZ cII cZZ [] t0 t1 t2 t3 t4 t5 t6 t7 t8 t9 tA tB tC tD tR tS u.2.2.2 eP u.1 u.2.1 u.2.2.1 es ed ec ew lk lf lo lv le eW et eh ei eu em)) := by
  refine zC_of (by decide) (Nat.le_of_ble_eq_true rfl) ?_
  intro prg env s mth below meth cde A ls hE hrt9 hlocks hnm hZ hl
  have hx := hE.1
  have hb := hE.2.1
  subst d_h
  have hl : lv_has ls 2 [(0, .ref t0), (1, .int (zI d))] := hl
  refine lv_aload_n hx hb dX7_fail_0 rfl (lv_at hl 0 rfl) ?_
  refine lv_iload_n hx hb dX7_fail_1 rfl (lv_at hl 1 rfl) ?_
  refine z_if_lt hx hb 10 dX7_fail_2 (by decide) (C := d < 0) (zI_lt0 ⟨by omega, by omega⟩) (fun h2 => ?_) (fun h2 => ?_)
  · skip
    have hnk : ¬ (0 ≤ d ∧ d < 5) := by omega
    refine z_iconst hx hb (nI 1) dX7_fail_10 (by decide) ?_
    refine lv_goto (tgt := 15) hx hb dX7_fail_11 (by decide) ?_
    refine z_iconst hx hb (nI 1) dX7_fail_15 (by decide) ?_
    refine z_kVp (As := [.int (nI 1), .int (nI 1)]) (rest := []) hE hZ (c_X7_fails l D cI cJ cZ cII cZZ t0 t1 t2 t3 t4 t5 t6 t7 t8 t9 tA tB tC tD tR tS e0 eP eb er ek es ed ec ew lk lf lo lv le eW et eh ei eu em true 1 ) lL_X7_fails lC_X7_125 rfl [] (List.Perm.refl _) (fun u => (WQ cI cJ cZ cII cZZ [] t0 t1 t2 t3 t4 t5 t6 t7 t8 t9 tA tB tC tD tR tS (if true = true then 1 else 0) eP eb er ek es ed ec ew lk lf lo lv le eW et eh ei eu em)) (fun _ => List.Perm.refl _) 0 rfl ⟨by decide, by decide⟩ 0 0 rfl rfl ⟨by decide, by decide⟩ rfl hl.1 rfl (Nat.le_of_ble_eq_true rfl) dX7_fail_16 (fun u H locs hq9 hZ => ?_)
    have hZ : zS D A s.heap H locs (WQ cI cJ cZ cII cZZ [] t0 t1 t2 t3 t4 t5 t6 t7 t8 t9 tA tB tC tD tR tS (if true = true then 1 else 0) eP eb er ek es ed ec ew lk lf lo lv le eW et eh ei eu em) := hZ
    refine W.eq (g2 := F0 mth 19 ls [.int (zB true)]) rfl ?_
    refine z_if_eq hx hb 23 dX7_fail_19 (by decide) (C := False) (by rw [zB_0]; simp) (fun h19 => ?_) (fun h19 => ?_)
    · skip
      exact h19.elim
    · skip
      exact z_vret hE hrt9 hlocks hZ (eb, er, ek, (if true = true then 1 else 0)) rfl (show (((if true = true then 1 else 0) = 1 ∧ ¬ (0 ≤ d ∧ d < 5) ∧ eb = eb ∧ er = er ∧ ek = ek) ∨ ((if true = true then 1 else 0) = 2 ∧ (0 ≤ d ∧ d < 5) ∧ ek = true ∧ eb = eb ∧ er = er ∧ ek = ek) ∨ ((if true = true then 1 else 0) = 0 ∧ (0 ≤ d ∧ d < 5) ∧ ek = false ∧ (((eb ≠ -1 ∧ eb ≠ d) ∧ ek = true ∧ eb = eb ∧ er = er) ∨ ((eb = -1 ∨ eb = d) ∧ ek = ek ∧ eb = d ∧ er = -1)))) from Or.inl ⟨rfl, hnk, rfl, rfl, rfl⟩) rfl dX7_fail_22 (Nat.le_of_ble_eq_true rfl) (Nat.le_of_ble_eq_true rfl)
  · skip
    refine lv_iload_n hx hb dX7_fail_5 rfl (lv_at hl 1 rfl) ?_
    refine z_iconst hx hb (nI 4) dX7_fail_6 (by decide) ?_
    refine z_icmp_le hx hb 14 dX7_fail_7 (by decide) (C := (d : Int) ≤ 4) (by (try simp only [zI_n]); exact zI_le ⟨by omega, by omega⟩ ⟨by omega, by omega⟩) (fun h7 => ?_) (fun h7 => ?_)
    · skip
      have hok : 0 ≤ d ∧ d < 5 := by omega
      refine z_iconst hx hb (nI 0) dX7_fail_14 (by decide) ?_
      refine z_iconst hx hb (nI 1) dX7_fail_15 (by decide) ?_
      refine z_kVp (As := [.int (nI 0), .int (nI 1)]) (rest := []) hE hZ (c_X7_fails l D cI cJ cZ cII cZZ t0 t1 t2 t3 t4 t5 t6 t7 t8 t9 tA tB tC tD tR tS e0 eP eb er ek es ed ec ew lk lf lo lv le eW et eh ei eu em false 1 ) lL_X7_fails lC_X7_125 rfl [] (List.Perm.refl _) (fun u => (WQ cI cJ cZ cII cZZ [] t0 t1 t2 t3 t4 t5 t6 t7 t8 t9 tA tB tC tD tR tS (if false = true then 1 else 0) eP eb er ek es ed ec ew lk lf lo lv le eW et eh ei eu em)) (fun _ => List.Perm.refl _) 0 rfl ⟨by decide, by decide⟩ 0 0 rfl rfl ⟨by decide, by decide⟩ rfl hl.1 rfl (Nat.le_of_ble_eq_true rfl) dX7_fail_16 (fun u H locs hq9 hZ => ?_)
      have hZ : zS D A s.heap H locs (WQ cI cJ cZ cII cZZ [] t0 t1 t2 t3 t4 t5 t6 t7 t8 t9 tA tB tC tD tR tS (if false = true then 1 else 0) eP eb er ek es ed ec ew lk lf lo lv le eW et eh ei eu em) := hZ
      refine W.eq (g2 := F0 mth 19 ls [.int (zB false)]) rfl ?_
      refine z_if_eq hx hb 23 dX7_fail_19 (by decide) (C := True) (by rw [zB_0]; simp) (fun h19 => ?_) (fun h19 => ?_)
      · skip
        refine lv_aload_n hx hb dX7_fail_23 rfl (lv_at hl 0 rfl) ?_
        refine lv_aload_n hx hb dX7_fail_24 rfl (lv_at hl 0 rfl) ?_
        refine z_get hE fF_X7_4 hZ 0 rfl (.int (zB ek)) rfl dX7_fail_25 ?_
        refine z_iconst hx hb (nI 2) dX7_fail_28 (by decide) ?_
        refine z_kVp (As := [.int (zB ek), .int (nI 2)]) (rest := []) hE hZ (c_X7_fails l D cI cJ cZ cII cZZ t0 t1 t2 t3 t4 t5 t6 t7 t8 t9 tA tB tC tD tR tS (if false = true then 1 else 0) eP eb er ek es ed ec ew lk lf lo lv le eW et eh ei eu em ek 2 ) lL_X7_fails lC_X7_125 rfl [] (List.Perm.refl _) (fun u => (WQ cI cJ cZ cII cZZ [] t0 t1 t2 t3 t4 t5 t6 t7 t8 t9 tA tB tC tD tR tS (if ek = true then 2 else 0) eP eb er ek es ed ec ew lk lf lo lv le eW et eh ei eu em)) (fun _ => List.Perm.refl _) 0 rfl ⟨by decide, by decide⟩ 0 0 rfl rfl ⟨by decide, by decide⟩ rfl hl.1 rfl (Nat.le_of_ble_eq_true rfl) dX7_fail_29 (fun u H locs hq9 hZ => ?_)
        have hZ : zS D A s.heap H locs (WQ cI cJ cZ cII cZZ [] t0 t1 t2 t3 t4 t5 t6 t7 t8 t9 tA tB tC tD tR tS (if ek = true then 2 else 0) eP eb er ek es ed ec ew lk lf lo lv le eW et eh ei eu em) := hZ
        refine W.eq (g2 := F0 mth 32 ls [.int (zB ek)]) rfl ?_
        refine z_if_eq hx hb 36 dX7_fail_32 (by decide) (C := ek = false) (zB_0 _) (fun h32 => ?_) (fun h32 => ?_)
        · skip
          have hbk : ek = false := by simpa using h32
          refine lv_aload_n hx hb dX7_fail_36 rfl (lv_at hl 0 rfl) ?_
          refine z_get hE fF_X7_2 hZ 0 rfl (.int (zI eb)) rfl dX7_fail_37 ?_
          refine z_if_lt hx hb 59 dX7_fail_40 (by decide) (C := eb < 0) (zI_lt0 ⟨by omega, by omega⟩) (fun h40 => ?_) (fun h40 => ?_)
          · skip
            refine lv_aload_n hx hb dX7_fail_59 rfl (lv_at hl 0 rfl) ?_
            refine lv_iload_n hx hb dX7_fail_60 rfl (lv_at hl 1 rfl) ?_
            refine z_put hE fF_X7_2 fP_X7 rfl hZ 0 rfl rfl rfl (Nat.le_of_ble_eq_true rfl) dX7_fail_61 (WQ cI cJ cZ cII cZZ [] t0 t1 t2 t3 t4 t5 t6 t7 t8 t9 tA tB tC tD tR tS (if ek = true then 2 else 0) eP d er ek es ed ec ew lk lf lo lv le eW et eh ei eu em) rfl (fun H locs hZ => ?_)
            refine lv_aload_n hx hb dX7_fail_64 rfl (lv_at hl 0 rfl) ?_
            refine z_iconst hx hb (zI (-1)) dX7_fail_65 (by decide) ?_
            refine z_put hE fF_X7_3 fP_X7 rfl hZ 0 rfl rfl rfl (Nat.le_of_ble_eq_true rfl) dX7_fail_66 (WQ cI cJ cZ cII cZZ [] t0 t1 t2 t3 t4 t5 t6 t7 t8 t9 tA tB tC tD tR tS (if ek = true then 2 else 0) eP d (-1) ek es ed ec ew lk lf lo lv le eW et eh ei eu em) rfl (fun H locs hZ => ?_)
            exact z_vret hE hrt9 hlocks hZ (d, (-1), ek, (if ek = true then 2 else 0)) rfl (show (((if ek = true then 2 else 0) = 1 ∧ ¬ (0 ≤ d ∧ d < 5) ∧ d = eb ∧ (-1) = er ∧ ek = ek) ∨ ((if ek = true then 2 else 0) = 2 ∧ (0 ≤ d ∧ d < 5) ∧ ek = true ∧ d = eb ∧ (-1) = er ∧ ek = ek) ∨ ((if ek = true then 2 else 0) = 0 ∧ (0 ≤ d ∧ d < 5) ∧ ek = false ∧ (((eb ≠ -1 ∧ eb ≠ d) ∧ ek = true ∧ d = eb ∧ (-1) = er) ∨ ((eb = -1 ∨ eb = d) ∧ ek = ek ∧ d = d ∧ (-1) = -1)))) from Or.inr (Or.inr ⟨by rw [if_neg (by rw [hbk]; simp)], hok, hbk, by first | exact Or.inl ⟨by omega, rfl, rfl, rfl⟩ | exact Or.inr ⟨by omega, rfl, rfl, rfl⟩⟩)) rfl dX7_fail_69 (Nat.le_of_ble_eq_true rfl) (Nat.le_of_ble_eq_true rfl)
          · skip
            refine lv_aload_n hx hb dX7_fail_43 rfl (lv_at hl 0 rfl) ?_
            refine z_get hE fF_X7_2 hZ 0 rfl (.int (zI eb)) rfl dX7_fail_44 ?_
            refine lv_iload_n hx hb dX7_fail_47 rfl (lv_at hl 1 rfl) ?_
            refine z_icmp_eq hx hb 59 dX7_fail_48 (by decide) (C := (eb : Int) = d) (by (try simp only [zI_n]); exact zI_eq ⟨by omega, by omega⟩ ⟨by omega, by omega⟩) (fun h48 => ?_) (fun h48 => ?_)
            · skip
              refine lv_aload_n hx hb dX7_fail_59 rfl (lv_at hl 0 rfl) ?_
              refine lv_iload_n hx hb dX7_fail_60 rfl (lv_at hl 1 rfl) ?_
              refine z_put hE fF_X7_2 fP_X7 rfl hZ 0 rfl rfl rfl (Nat.le_of_ble_eq_true rfl) dX7_fail_61 (WQ cI cJ cZ cII cZZ [] t0 t1 t2 t3 t4 t5 t6 t7 t8 t9 tA tB tC tD tR tS (if ek = true then 2 else 0) eP d er ek es ed ec ew lk lf lo lv le eW et eh ei eu em) rfl (fun H locs hZ => ?_)
              refine lv_aload_n hx hb dX7_fail_64 rfl (lv_at hl 0 rfl) ?_
              refine z_iconst hx hb (zI (-1)) dX7_fail_65 (by decide) ?_
              refine z_put hE fF_X7_3 fP_X7 rfl hZ 0 rfl rfl rfl (Nat.le_of_ble_eq_true rfl) dX7_fail_66 (WQ cI cJ cZ cII cZZ [] t0 t1 t2 t3 t4 t5 t6 t7 t8 t9 tA tB tC tD tR tS (if ek = true then 2 else 0) eP d (-1) ek es ed ec ew lk lf lo lv le eW et eh ei eu em) rfl (fun H locs hZ => ?_)
              exact z_vret hE hrt9 hlocks hZ (d, (-1), ek, (if ek = true then 2 else 0)) rfl (show (((if ek = true then 2 else 0) = 1 ∧ ¬ (0 ≤ d ∧ d < 5) ∧ d = eb ∧ (-1) = er ∧ ek = ek) ∨ ((if ek = true then 2 else 0) = 2 ∧ (0 ≤ d ∧ d < 5) ∧ ek = true ∧ d = eb ∧ (-1) = er ∧ ek = ek) ∨ ((if ek = true then 2 else 0) = 0 ∧ (0 ≤ d ∧ d < 5) ∧ ek = false ∧ (((eb ≠ -1 ∧ eb ≠ d) ∧ ek = true ∧ d = eb ∧ (-1) = er) ∨ ((eb = -1 ∨ eb = d) ∧ ek = ek ∧ d = d ∧ (-1) = -1)))) from Or.inr (Or.inr ⟨by rw [if_neg (by rw [hbk]; simp)], hok, hbk, by first | exact Or.inl ⟨by omega, rfl, rfl, rfl⟩ | exact Or.inr ⟨by omega, rfl, rfl, rfl⟩⟩)) rfl dX7_fail_69 (Nat.le_of_ble_eq_true rfl) (Nat.le_of_ble_eq_true rfl)
            · skip
              refine lv_aload_n hx hb dX7_fail_51 rfl (lv_at hl 0 rfl) ?_
              refine z_iconst hx hb (nI 1) dX7_fail_52 (by decide) ?_
              refine z_top (show nI 1 = zB true from rfl) ?_
              refine z_put hE fF_X7_4 fP_X7 rfl hZ 0 rfl (zB_nar _) (zB_fit _) (Nat.le_of_ble_eq_true rfl) dX7_fail_53 (WQ cI cJ cZ cII cZZ [] t0 t1 t2 t3 t4 t5 t6 t7 t8 t9 tA tB tC tD tR tS (if ek = true then 2 else 0) eP eb er true es ed ec ew lk lf lo lv le eW et eh ei eu em) rfl (fun H locs hZ => ?_)
              refine lv_goto (tgt := 69) hx hb dX7_fail_56 (by decide) ?_
              exact z_vret hE hrt9 hlocks hZ (eb, er, true, (if ek = true then 2 else 0)) rfl (show (((if ek = true then 2 else 0) = 1 ∧ ¬ (0 ≤ d ∧ d < 5) ∧ eb = eb ∧ er = er ∧ true = ek) ∨ ((if ek = true then 2 else 0) = 2 ∧ (0 ≤ d ∧ d < 5) ∧ ek = true ∧ eb = eb ∧ er = er ∧ true = ek) ∨ ((if ek = true then 2 else 0) = 0 ∧ (0 ≤ d ∧ d < 5) ∧ ek = false ∧ (((eb ≠ -1 ∧ eb ≠ d) ∧ true = true ∧ eb = eb ∧ er = er) ∨ ((eb = -1 ∨ eb = d) ∧ true = ek ∧ eb = d ∧ er = -1)))) from Or.inr (Or.inr ⟨by rw [if_neg (by rw [hbk]; simp)], hok, hbk, by first | exact Or.inl ⟨by omega, rfl, rfl, rfl⟩ | exact Or.inr ⟨by omega, rfl, rfl, rfl⟩⟩)) rfl dX7_fail_69 (Nat.le_of_ble_eq_true rfl) (Nat.le_of_ble_eq_true rfl)
        · skip
          have hbk : ek = true := by simpa using h32
          exact z_vret hE hrt9 hlocks hZ (eb, er, ek, (if ek = true then 2 else 0)) rfl (show (((if ek = true then 2 else 0) = 1 ∧ ¬ (0 ≤ d ∧ d < 5) ∧ eb = eb ∧ er = er ∧ ek = ek) ∨ ((if ek = true then 2 else 0) = 2 ∧ (0 ≤ d ∧ d < 5) ∧ ek = true ∧ eb = eb ∧ er = er ∧ ek = ek) ∨ ((if ek = true then 2 else 0) = 0 ∧ (0 ≤ d ∧ d < 5) ∧ ek = false ∧ (((eb ≠ -1 ∧ eb ≠ d) ∧ ek = true ∧ eb = eb ∧ er = er) ∨ ((eb = -1 ∨ eb = d) ∧ ek = ek ∧ eb = d ∧ er = -1)))) from Or.inr (Or.inl ⟨by rw [if_pos hbk], hok, hbk, rfl, rfl, rfl⟩)) rfl dX7_fail_35 (Nat.le_of_ble_eq_true rfl) (Nat.le_of_ble_eq_true rfl)
      · skip
        exact absurd trivial h19
    · skip
      have hnk : ¬ (0 ≤ d ∧ d < 5) := by omega
      refine z_iconst hx hb (nI 1) dX7_fail_10 (by decide) ?_
      refine lv_goto (tgt := 15) hx hb dX7_fail_11 (by decide) ?_
      refine z_iconst hx hb (nI 1) dX7_fail_15 (by decide) ?_
      refine z_kVp (As := [.int (nI 1), .int (nI 1)]) (rest := []) hE hZ (c_X7_fails l D cI cJ cZ cII cZZ t0 t1 t2 t3 t4 t5 t6 t7 t8 t9 tA tB tC tD tR tS e0 eP eb er ek es ed ec ew lk lf lo lv le eW et eh ei eu em true 1 ) lL_X7_fails lC_X7_125 rfl [] (List.Perm.refl _) (fun u => (WQ cI cJ cZ cII cZZ [] t0 t1 t2 t3 t4 t5 t6 t7 t8 t9 tA tB tC tD tR tS (if true = true then 1 else 0) eP eb er ek es ed ec ew lk lf lo lv le eW et eh ei eu em)) (fun _ => List.Perm.refl _) 0 rfl ⟨by decide, by decide⟩ 0 0 rfl rfl ⟨by decide, by decide⟩ rfl hl.1 rfl (Nat.le_of_ble_eq_true rfl) dX7_fail_16 (fun u H locs hq9 hZ => ?_)
      have hZ : zS D A s.heap H locs (WQ cI cJ cZ cII cZZ [] t0 t1 t2 t3 t4 t5 t6 t7 t8 t9 tA tB tC tD tR tS (if true = true then 1 else 0) eP eb er ek es ed ec ew lk lf lo lv le eW et eh ei eu em) := hZ
      refine W.eq (g2 := F0 mth 19 ls [.int (zB true)]) rfl ?_
      refine z_if_eq hx hb 23 dX7_fail_19 (by decide) (C := False) (by rw [zB_0]; simp) (fun h19 => ?_) (fun h19 => ?_)
      · skip
        exact h19.elim
      · skip
        exact z_vret hE hrt9 hlocks hZ (eb, er, ek, (if true = true then 1 else 0)) rfl (show (((if true = true then 1 else 0) = 1 ∧ ¬ (0 ≤ d ∧ d < 5) ∧ eb = eb ∧ er = er ∧ ek = ek) ∨ ((if true = true then 1 else 0) = 2 ∧ (0 ≤ d ∧ d < 5) ∧ ek = true ∧ eb = eb ∧ er = er ∧ ek = ek) ∨ ((if true = true then 1 else 0) = 0 ∧ (0 ≤ d ∧ d < 5) ∧ ek = false ∧ (((eb ≠ -1 ∧ eb ≠ d) ∧ ek = true ∧ eb = eb ∧ er = er) ∨ ((eb = -1 ∨ eb = d) ∧ ek = ek ∧ eb = d ∧ er = -1)))) from Or.inl ⟨rfl, hnk, rfl, rfl, rfl⟩) rfl dX7_fail_22 (Nat.le_of_ble_eq_true rfl) (Nat.le_of_ble_eq_true rfl)
set_option maxHeartbeats 1000000 in
set_option maxRecDepth 100000 in
theorem c_X7_replace (l : Launch) (D : va_G) (cI cJ cZ cII cZZ : ClassId) (t0 : Nat) (t1 : Nat) (t2 : Nat) (t3 : Nat) (t4 : Nat) (t5 : Nat) (t6 : Nat) (t7 : Nat) (t8 : Nat) (t9 : Nat) (tA : Nat) (tB : Nat) (tC : Nat) (tD : Nat) (tR : Nat → Nat) (tS : Nat → Nat) (e0 : Nat) (eP : Nat → Nat) (eb : Int) (er : Int) (ek : Bool) (es : Nat → Int) (ed : Nat → Nat → Nat) (ec : Nat → Bool) (ew : Nat → Nat → Bool) (lk : Nat → Nat) (lf : Nat → Nat) (lo : Nat → Nat) (lv : Nat → Int64) (le : Nat) (eW : Int) (et : Nat → Nat) (eh : Nat → Nat) (ei : Nat → Int) (eu : Nat → Bool) (em : Nat)  (hbd : -1 ≤ eb ∧ eb < 5) (hrd : -1 ≤ er ∧ er ≤ 150) :
    zC l yX7_replace cX7_replace 1 none { frames := 1, cells := 0, slots := 0, locals := 22 } D (zT cI cJ cZ cII cZZ) [.ref t0] (WQ cI cJ cZ cII cZZ [] t0 t1 t2 t3 t4 t5 t6 t7 t8 t9 tA tB tC tD tR tS e0 eP eb er ek es ed ec ew lk lf lo lv le eW et eh ei eu em) (S := Int × Nat) (fun u => none) (fun u => ((u.2 = 1 ∧ (ek = true ∨ eb < 0 ∨ 0 ≤ er) ∧ u.1 = er) ∨ (u.2 = 0 ∧ ek = false ∧ 0 ≤ eb ∧ er < 0 ∧ u.1 = 0))) (fun u => (WQ cI cJ cZ cII cZZ [] t0 t1 t2 t3 t4 t5 t6 t7 t8 t9 tA tB tC tD tR tS u.2 eP eb u.1 ek es ed ec ew lk lf lo lv le eW et eh ei eu em)) := by
  refine zC_of (by decide) (Nat.le_of_ble_eq_true rfl) ?_
  intro prg env s mth below meth cde A ls hE hrt9 hlocks hnm hZ hl
  have hx := hE.1
  have hb := hE.2.1
  have hl : lv_has ls 1 [(0, .ref t0)] := hl
  refine lv_aload_n hx hb dX7_replace_0 rfl (lv_at hl 0 rfl) ?_
  refine lv_aload_n hx hb dX7_replace_1 rfl (lv_at hl 0 rfl) ?_
  refine z_get hE fF_X7_4 hZ 0 rfl (.int (zB ek)) rfl dX7_replace_2 ?_
  refine z_if_ne hx hb 22 dX7_replace_5 (by decide) (C := ek = false) (zB_0 _) (fun h5 => ?_) (fun h5 => ?_)
  · skip
    have hnk : ek = true ∨ eb < 0 ∨ 0 ≤ er := Or.inl (by simpa using h5)
    refine z_iconst hx hb (nI 1) dX7_replace_22 (by decide) ?_
    refine lv_goto (tgt := 27) hx hb dX7_replace_23 (by decide) ?_
    refine z_iconst hx hb (nI 1) dX7_replace_27 (by decide) ?_
    refine z_kVp (As := [.int (nI 1), .int (nI 1)]) (rest := []) hE hZ (c_X7_fails l D cI cJ cZ cII cZZ t0 t1 t2 t3 t4 t5 t6 t7 t8 t9 tA tB tC tD tR tS e0 eP eb er ek es ed ec ew lk lf lo lv le eW et eh ei eu em true 1 ) lL_X7_fails lC_X7_125 rfl [] (List.Perm.refl _) (fun u => (WQ cI cJ cZ cII cZZ [] t0 t1 t2 t3 t4 t5 t6 t7 t8 t9 tA tB tC tD tR tS (if true = true then 1 else 0) eP eb er ek es ed ec ew lk lf lo lv le eW et eh ei eu em)) (fun _ => List.Perm.refl _) 0 rfl ⟨by decide, by decide⟩ 0 0 rfl rfl ⟨by decide, by decide⟩ rfl hl.1 rfl (Nat.le_of_ble_eq_true rfl) dX7_replace_28 (fun u H locs hq9 hZ => ?_)
    have hZ : zS D A s.heap H locs (WQ cI cJ cZ cII cZZ [] t0 t1 t2 t3 t4 t5 t6 t7 t8 t9 tA tB tC tD tR tS (if true = true then 1 else 0) eP eb er ek es ed ec ew lk lf lo lv le eW et eh ei eu em) := hZ
    refine W.eq (g2 := F0 mth 31 ls [.int (zB true)]) rfl ?_
    refine z_if_eq hx hb 35 dX7_replace_31 (by decide) (C := False) (by rw [zB_0]; simp) (fun h31 => ?_) (fun h31 => ?_)
    · skip
      exact h31.elim
    · skip
      exact z_vret hE hrt9 hlocks hZ (er, (if true = true then 1 else 0)) rfl (show (((if true = true then 1 else 0) = 1 ∧ (ek = true ∨ eb < 0 ∨ 0 ≤ er) ∧ er = er) ∨ ((if true = true then 1 else 0) = 0 ∧ ek = false ∧ 0 ≤ eb ∧ er < 0 ∧ er = 0)) from Or.inl ⟨rfl, hnk, rfl⟩) rfl dX7_replace_34 (Nat.le_of_ble_eq_true rfl) (Nat.le_of_ble_eq_true rfl)
  · skip
    refine lv_aload_n hx hb dX7_replace_8 rfl (lv_at hl 0 rfl) ?_
    refine z_get hE fF_X7_2 hZ 0 rfl (.int (zI eb)) rfl dX7_replace_9 ?_
    refine z_if_lt hx hb 22 dX7_replace_12 (by decide) (C := eb < 0) (zI_lt0 ⟨by omega, by omega⟩) (fun h12 => ?_) (fun h12 => ?_)
    · skip
      have hnk : ek = true ∨ eb < 0 ∨ 0 ≤ er := Or.inr (Or.inl h12)
      refine z_iconst hx hb (nI 1) dX7_replace_22 (by decide) ?_
      refine lv_goto (tgt := 27) hx hb dX7_replace_23 (by decide) ?_
      refine z_iconst hx hb (nI 1) dX7_replace_27 (by decide) ?_
      refine z_kVp (As := [.int (nI 1), .int (nI 1)]) (rest := []) hE hZ (c_X7_fails l D cI cJ cZ cII cZZ t0 t1 t2 t3 t4 t5 t6 t7 t8 t9 tA tB tC tD tR tS e0 eP eb er ek es ed ec ew lk lf lo lv le eW et eh ei eu em true 1 ) lL_X7_fails lC_X7_125 rfl [] (List.Perm.refl _) (fun u => (WQ cI cJ cZ cII cZZ [] t0 t1 t2 t3 t4 t5 t6 t7 t8 t9 tA tB tC tD tR tS (if true = true then 1 else 0) eP eb er ek es ed ec ew lk lf lo lv le eW et eh ei eu em)) (fun _ => List.Perm.refl _) 0 rfl ⟨by decide, by decide⟩ 0 0 rfl rfl ⟨by decide, by decide⟩ rfl hl.1 rfl (Nat.le_of_ble_eq_true rfl) dX7_replace_28 (fun u H locs hq9 hZ => ?_)
      have hZ : zS D A s.heap H locs (WQ cI cJ cZ cII cZZ [] t0 t1 t2 t3 t4 t5 t6 t7 t8 t9 tA tB tC tD tR tS (if true = true then 1 else 0) eP eb er ek es ed ec ew lk lf lo lv le eW et eh ei eu em) := hZ
      refine W.eq (g2 := F0 mth 31 ls [.int (zB true)]) rfl ?_
      refine z_if_eq hx hb 35 dX7_replace_31 (by decide) (C := False) (by rw [zB_0]; simp) (fun h31 => ?_) (fun h31 => ?_)
      · skip
        exact h31.elim
      · skip
        exact z_vret hE hrt9 hlocks hZ (er, (if true = true then 1 else 0)) rfl (show (((if true = true then 1 else 0) = 1 ∧ (ek = true ∨ eb < 0 ∨ 0 ≤ er) ∧ er = er) ∨ ((if true = true then 1 else 0) = 0 ∧ ek = false ∧ 0 ≤ eb ∧ er < 0 ∧ er = 0)) from Or.inl ⟨rfl, hnk, rfl⟩) rfl dX7_replace_34 (Nat.le_of_ble_eq_true rfl) (Nat.le_of_ble_eq_true rfl)
    · skip
      refine lv_aload_n hx hb dX7_replace_15 rfl (lv_at hl 0 rfl) ?_
      refine z_get hE fF_X7_3 hZ 0 rfl (.int (zI er)) rfl dX7_replace_16 ?_
      refine z_if_lt hx hb 26 dX7_replace_19 (by decide) (C := er < 0) (zI_lt0 ⟨by omega, by omega⟩) (fun h19 => ?_) (fun h19 => ?_)
      · skip
        refine z_iconst hx hb (nI 0) dX7_replace_26 (by decide) ?_
        refine z_iconst hx hb (nI 1) dX7_replace_27 (by decide) ?_
        refine z_kVp (As := [.int (nI 0), .int (nI 1)]) (rest := []) hE hZ (c_X7_fails l D cI cJ cZ cII cZZ t0 t1 t2 t3 t4 t5 t6 t7 t8 t9 tA tB tC tD tR tS e0 eP eb er ek es ed ec ew lk lf lo lv le eW et eh ei eu em false 1 ) lL_X7_fails lC_X7_125 rfl [] (List.Perm.refl _) (fun u => (WQ cI cJ cZ cII cZZ [] t0 t1 t2 t3 t4 t5 t6 t7 t8 t9 tA tB tC tD tR tS (if false = true then 1 else 0) eP eb er ek es ed ec ew lk lf lo lv le eW et eh ei eu em)) (fun _ => List.Perm.refl _) 0 rfl ⟨by decide, by decide⟩ 0 0 rfl rfl ⟨by decide, by decide⟩ rfl hl.1 rfl (Nat.le_of_ble_eq_true rfl) dX7_replace_28 (fun u H locs hq9 hZ => ?_)
        have hZ : zS D A s.heap H locs (WQ cI cJ cZ cII cZZ [] t0 t1 t2 t3 t4 t5 t6 t7 t8 t9 tA tB tC tD tR tS (if false = true then 1 else 0) eP eb er ek es ed ec ew lk lf lo lv le eW et eh ei eu em) := hZ
        refine W.eq (g2 := F0 mth 31 ls [.int (zB false)]) rfl ?_
        refine z_if_eq hx hb 35 dX7_replace_31 (by decide) (C := True) (by rw [zB_0]; simp) (fun h31 => ?_) (fun h31 => ?_)
        · skip
          refine lv_aload_n hx hb dX7_replace_35 rfl (lv_at hl 0 rfl) ?_
          refine z_iconst hx hb (nI 0) dX7_replace_36 (by decide) ?_
          refine z_top (show nI 0 = zI 0 from zI_n _) ?_
          refine z_put hE fF_X7_3 fP_X7 rfl hZ 0 rfl rfl rfl (Nat.le_of_ble_eq_true rfl) dX7_replace_37 (WQ cI cJ cZ cII cZZ [] t0 t1 t2 t3 t4 t5 t6 t7 t8 t9 tA tB tC tD tR tS (if false = true then 1 else 0) eP eb 0 ek es ed ec ew lk lf lo lv le eW et eh ei eu em) rfl (fun H locs hZ => ?_)
          exact z_vret hE hrt9 hlocks hZ (0, (if false = true then 1 else 0)) rfl (show (((if false = true then 1 else 0) = 1 ∧ (ek = true ∨ eb < 0 ∨ 0 ≤ er) ∧ 0 = er) ∨ ((if false = true then 1 else 0) = 0 ∧ ek = false ∧ 0 ≤ eb ∧ er < 0 ∧ 0 = 0)) from Or.inr ⟨rfl, by simpa using h5, by omega, by omega, rfl⟩) rfl dX7_replace_40 (Nat.le_of_ble_eq_true rfl) (Nat.le_of_ble_eq_true rfl)
        · skip
          exact absurd trivial h31
      · skip
        have hnk : ek = true ∨ eb < 0 ∨ 0 ≤ er := Or.inr (Or.inr (by omega))
        refine z_iconst hx hb (nI 1) dX7_replace_22 (by decide) ?_
        refine lv_goto (tgt := 27) hx hb dX7_replace_23 (by decide) ?_
        refine z_iconst hx hb (nI 1) dX7_replace_27 (by decide) ?_
        refine z_kVp (As := [.int (nI 1), .int (nI 1)]) (rest := []) hE hZ (c_X7_fails l D cI cJ cZ cII cZZ t0 t1 t2 t3 t4 t5 t6 t7 t8 t9 tA tB tC tD tR tS e0 eP eb er ek es ed ec ew lk lf lo lv le eW et eh ei eu em true 1 ) lL_X7_fails lC_X7_125 rfl [] (List.Perm.refl _) (fun u => (WQ cI cJ cZ cII cZZ [] t0 t1 t2 t3 t4 t5 t6 t7 t8 t9 tA tB tC tD tR tS (if true = true then 1 else 0) eP eb er ek es ed ec ew lk lf lo lv le eW et eh ei eu em)) (fun _ => List.Perm.refl _) 0 rfl ⟨by decide, by decide⟩ 0 0 rfl rfl ⟨by decide, by decide⟩ rfl hl.1 rfl (Nat.le_of_ble_eq_true rfl) dX7_replace_28 (fun u H locs hq9 hZ => ?_)
        have hZ : zS D A s.heap H locs (WQ cI cJ cZ cII cZZ [] t0 t1 t2 t3 t4 t5 t6 t7 t8 t9 tA tB tC tD tR tS (if true = true then 1 else 0) eP eb er ek es ed ec ew lk lf lo lv le eW et eh ei eu em) := hZ
        refine W.eq (g2 := F0 mth 31 ls [.int (zB true)]) rfl ?_
        refine z_if_eq hx hb 35 dX7_replace_31 (by decide) (C := False) (by rw [zB_0]; simp) (fun h31 => ?_) (fun h31 => ?_)
        · skip
          exact h31.elim
        · skip
          exact z_vret hE hrt9 hlocks hZ (er, (if true = true then 1 else 0)) rfl (show (((if true = true then 1 else 0) = 1 ∧ (ek = true ∨ eb < 0 ∨ 0 ≤ er) ∧ er = er) ∨ ((if true = true then 1 else 0) = 0 ∧ ek = false ∧ 0 ≤ eb ∧ er < 0 ∧ er = 0)) from Or.inl ⟨rfl, hnk, rfl⟩) rfl dX7_replace_34 (Nat.le_of_ble_eq_true rfl) (Nat.le_of_ble_eq_true rfl)
set_option maxHeartbeats 1000000 in
set_option maxRecDepth 100000 in
theorem c_X7_rebuild (l : Launch) (D : va_G) (cI cJ cZ cII cZZ : ClassId) (t0 : Nat) (t1 : Nat) (t2 : Nat) (t3 : Nat) (t4 : Nat) (t5 : Nat) (t6 : Nat) (t7 : Nat) (t8 : Nat) (t9 : Nat) (tA : Nat) (tB : Nat) (tC : Nat) (tD : Nat) (tR : Nat → Nat) (tS : Nat → Nat) (e0 : Nat) (eP : Nat → Nat) (eb : Int) (er : Int) (ek : Bool) (es : Nat → Int) (ed : Nat → Nat → Nat) (ec : Nat → Bool) (ew : Nat → Nat → Bool) (lk : Nat → Nat) (lf : Nat → Nat) (lo : Nat → Nat) (lv : Nat → Int64) (le : Nat) (eW : Int) (et : Nat → Nat) (eh : Nat → Nat) (ei : Nat → Int) (eu : Nat → Bool) (em : Nat) (n : Int) (n_q : Int32) (hn : -2147483648 ≤ n ∧ n < 2147483648) (hbd : -1 ≤ eb ∧ eb < 5) (hrd : -1 ≤ er ∧ er ≤ 150) (n_h : n_q = zI n) :
    zC l yX7_rebuild cX7_rebuild 2 (some .int) { frames := 1, cells := 0, slots := 0, locals := 23 } D (zT cI cJ cZ cII cZZ) [.ref t0, .int (n_q)] (WQ cI cJ cZ cII cZZ [] t0 t1 t2 t3 t4 t5 t6 t7 t8 t9 tA tB tC tD tR tS e0 eP eb er ek es ed ec ew lk lf lo lv le eW et eh ei eu em) (S := Int × Int × Nat × Int) (fun u => some (.int (zI u.2.2.2))) (fun u => ((u.2.2.1 = 1 ∧ n < 0 ∧ u.1 = eb ∧ u.2.1 = er) ∨ (u.2.2.1 = 2 ∧ 0 ≤ n ∧ (ek = true ∨ eb < 0 ∨ er < 0) ∧ u.1 = eb ∧ u.2.1 = er) ∨ (u.2.2.1 = 0 ∧ 0 ≤ n ∧ ek = false ∧ 0 ≤ eb ∧ 0 ≤ er ∧ u.2.1 = (if 150 ≤ er + n then 150 else er + n) ∧ u.1 = (if 150 ≤ er + n then -1 else eb) ∧ u.2.2.2 = (if 150 ≤ er + n then 150 else er + n)))) (fun u => (WQ cI cJ cZ cII cZZ [] t0 t1 t2 t3 t4 t5 t6 t7 t8 t9 tA tB tC tD tR tS u.2.2.1 eP u.1 u.2.1 ek es ed ec ew lk lf lo lv le eW et eh ei eu em)) := by
  refine zC_of (by decide) (Nat.le_of_ble_eq_true rfl) ?_
  intro prg env s mth below meth cde A ls hE hrt9 hlocks hnm hZ hl
  have hx := hE.1
  have hb := hE.2.1
  subst n_h
  have hl : lv_has ls 2 [(0, .ref t0), (1, .int (zI n))] := hl
  refine lv_aload_n hx hb dX7_rebuild_0 rfl (lv_at hl 0 rfl) ?_
  refine lv_iload_n hx hb dX7_rebuild_1 rfl (lv_at hl 1 rfl) ?_
  refine z_if_ge hx hb 9 dX7_rebuild_2 (by decide) (C := 0 ≤ n) (zI_ge0 ⟨by omega, by omega⟩) (fun h2 => ?_) (fun h2 => ?_)
  · skip
    have hn0 : 0 ≤ n := by omega
    refine z_iconst hx hb (nI 0) dX7_rebuild_9 (by decide) ?_
    refine z_iconst hx hb (nI 1) dX7_rebuild_10 (by decide) ?_
    refine z_kVp (As := [.int (nI 0), .int (nI 1)]) (rest := []) hE hZ (c_X7_fails l D cI cJ cZ cII cZZ t0 t1 t2 t3 t4 t5 t6 t7 t8 t9 tA tB tC tD tR tS e0 eP eb er ek es ed ec ew lk lf lo lv le eW et eh ei eu em false 1 ) lL_X7_fails lC_X7_125 rfl [] (List.Perm.refl _) (fun u => (WQ cI cJ cZ cII cZZ [] t0 t1 t2 t3 t4 t5 t6 t7 t8 t9 tA tB tC tD tR tS (if false = true then 1 else 0) eP eb er ek es ed ec ew lk lf lo lv le eW et eh ei eu em)) (fun _ => List.Perm.refl _) 0 rfl ⟨by decide, by decide⟩ 0 0 rfl rfl ⟨by decide, by decide⟩ rfl hl.1 rfl (Nat.le_of_ble_eq_true rfl) dX7_rebuild_11 (fun u H locs hq9 hZ => ?_)
    have hZ : zS D A s.heap H locs (WQ cI cJ cZ cII cZZ [] t0 t1 t2 t3 t4 t5 t6 t7 t8 t9 tA tB tC tD tR tS (if false = true then 1 else 0) eP eb er ek es ed ec ew lk lf lo lv le eW et eh ei eu em) := hZ
    refine W.eq (g2 := F0 mth 14 ls [.int (zB false)]) rfl ?_
    refine z_if_eq hx hb 19 dX7_rebuild_14 (by decide) (C := True) (by rw [zB_0]; simp) (fun h14 => ?_) (fun h14 => ?_)
    · skip
      refine lv_aload_n hx hb dX7_rebuild_19 rfl (lv_at hl 0 rfl) ?_
      refine lv_aload_n hx hb dX7_rebuild_20 rfl (lv_at hl 0 rfl) ?_
      refine z_get hE fF_X7_4 hZ 0 rfl (.int (zB ek)) rfl dX7_rebuild_21 ?_
      refine z_if_ne hx hb 41 dX7_rebuild_24 (by decide) (C := ek = false) (zB_0 _) (fun h24 => ?_) (fun h24 => ?_)
      · skip
        have hnk : ek = true ∨ eb < 0 ∨ er < 0 := Or.inl (by simpa using h24)
        refine z_iconst hx hb (nI 1) dX7_rebuild_41 (by decide) ?_
        refine lv_goto (tgt := 46) hx hb dX7_rebuild_42 (by decide) ?_
        refine z_iconst hx hb (nI 2) dX7_rebuild_46 (by decide) ?_
        refine z_kVp (As := [.int (nI 1), .int (nI 2)]) (rest := []) hE hZ (c_X7_fails l D cI cJ cZ cII cZZ t0 t1 t2 t3 t4 t5 t6 t7 t8 t9 tA tB tC tD tR tS (if false = true then 1 else 0) eP eb er ek es ed ec ew lk lf lo lv le eW et eh ei eu em true 2 ) lL_X7_fails lC_X7_125 rfl [] (List.Perm.refl _) (fun u => (WQ cI cJ cZ cII cZZ [] t0 t1 t2 t3 t4 t5 t6 t7 t8 t9 tA tB tC tD tR tS (if true = true then 2 else 0) eP eb er ek es ed ec ew lk lf lo lv le eW et eh ei eu em)) (fun _ => List.Perm.refl _) 0 rfl ⟨by decide, by decide⟩ 0 0 rfl rfl ⟨by decide, by decide⟩ rfl hl.1 rfl (Nat.le_of_ble_eq_true rfl) dX7_rebuild_47 (fun u H locs hq9 hZ => ?_)
        have hZ : zS D A s.heap H locs (WQ cI cJ cZ cII cZZ [] t0 t1 t2 t3 t4 t5 t6 t7 t8 t9 tA tB tC tD tR tS (if true = true then 2 else 0) eP eb er ek es ed ec ew lk lf lo lv le eW et eh ei eu em) := hZ
        refine W.eq (g2 := F0 mth 50 ls [.int (zB true)]) rfl ?_
        refine z_if_eq hx hb 55 dX7_rebuild_50 (by decide) (C := False) (by rw [zB_0]; simp) (fun h50 => ?_) (fun h50 => ?_)
        · skip
          exact h50.elim
        · skip
          refine z_iconst hx hb (nI 0) dX7_rebuild_53 (by decide) ?_
          refine z_top (show nI 0 = zI 0 from rfl) ?_
          exact z_iret hE hrt9 hlocks hZ (eb, er, (if true = true then 2 else 0), 0) rfl (show (((if true = true then 2 else 0) = 1 ∧ n < 0 ∧ eb = eb ∧ er = er) ∨ ((if true = true then 2 else 0) = 2 ∧ 0 ≤ n ∧ (ek = true ∨ eb < 0 ∨ er < 0) ∧ eb = eb ∧ er = er) ∨ ((if true = true then 2 else 0) = 0 ∧ 0 ≤ n ∧ ek = false ∧ 0 ≤ eb ∧ 0 ≤ er ∧ er = (if 150 ≤ er + n then 150 else er + n) ∧ eb = (if 150 ≤ er + n then -1 else eb) ∧ 0 = (if 150 ≤ er + n then 150 else er + n))) from Or.inr (Or.inl ⟨rfl, hn0, hnk, rfl, rfl⟩)) rfl dX7_rebuild_54 (Nat.le_of_ble_eq_true rfl) (Nat.le_of_ble_eq_true rfl)
      · skip
        refine lv_aload_n hx hb dX7_rebuild_27 rfl (lv_at hl 0 rfl) ?_
        refine z_get hE fF_X7_2 hZ 0 rfl (.int (zI eb)) rfl dX7_rebuild_28 ?_
        refine z_if_lt hx hb 41 dX7_rebuild_31 (by decide) (C := eb < 0) (zI_lt0 ⟨by omega, by omega⟩) (fun h31 => ?_) (fun h31 => ?_)
        · skip
          have hnk : ek = true ∨ eb < 0 ∨ er < 0 := Or.inr (Or.inl h31)
          refine z_iconst hx hb (nI 1) dX7_rebuild_41 (by decide) ?_
          refine lv_goto (tgt := 46) hx hb dX7_rebuild_42 (by decide) ?_
          refine z_iconst hx hb (nI 2) dX7_rebuild_46 (by decide) ?_
          refine z_kVp (As := [.int (nI 1), .int (nI 2)]) (rest := []) hE hZ (c_X7_fails l D cI cJ cZ cII cZZ t0 t1 t2 t3 t4 t5 t6 t7 t8 t9 tA tB tC tD tR tS (if false = true then 1 else 0) eP eb er ek es ed ec ew lk lf lo lv le eW et eh ei eu em true 2 ) lL_X7_fails lC_X7_125 rfl [] (List.Perm.refl _) (fun u => (WQ cI cJ cZ cII cZZ [] t0 t1 t2 t3 t4 t5 t6 t7 t8 t9 tA tB tC tD tR tS (if true = true then 2 else 0) eP eb er ek es ed ec ew lk lf lo lv le eW et eh ei eu em)) (fun _ => List.Perm.refl _) 0 rfl ⟨by decide, by decide⟩ 0 0 rfl rfl ⟨by decide, by decide⟩ rfl hl.1 rfl (Nat.le_of_ble_eq_true rfl) dX7_rebuild_47 (fun u H locs hq9 hZ => ?_)
          have hZ : zS D A s.heap H locs (WQ cI cJ cZ cII cZZ [] t0 t1 t2 t3 t4 t5 t6 t7 t8 t9 tA tB tC tD tR tS (if true = true then 2 else 0) eP eb er ek es ed ec ew lk lf lo lv le eW et eh ei eu em) := hZ
          refine W.eq (g2 := F0 mth 50 ls [.int (zB true)]) rfl ?_
          refine z_if_eq hx hb 55 dX7_rebuild_50 (by decide) (C := False) (by rw [zB_0]; simp) (fun h50 => ?_) (fun h50 => ?_)
          · skip
            exact h50.elim
          · skip
            refine z_iconst hx hb (nI 0) dX7_rebuild_53 (by decide) ?_
            refine z_top (show nI 0 = zI 0 from rfl) ?_
            exact z_iret hE hrt9 hlocks hZ (eb, er, (if true = true then 2 else 0), 0) rfl (show (((if true = true then 2 else 0) = 1 ∧ n < 0 ∧ eb = eb ∧ er = er) ∨ ((if true = true then 2 else 0) = 2 ∧ 0 ≤ n ∧ (ek = true ∨ eb < 0 ∨ er < 0) ∧ eb = eb ∧ er = er) ∨ ((if true = true then 2 else 0) = 0 ∧ 0 ≤ n ∧ ek = false ∧ 0 ≤ eb ∧ 0 ≤ er ∧ er = (if 150 ≤ er + n then 150 else er + n) ∧ eb = (if 150 ≤ er + n then -1 else eb) ∧ 0 = (if 150 ≤ er + n then 150 else er + n))) from Or.inr (Or.inl ⟨rfl, hn0, hnk, rfl, rfl⟩)) rfl dX7_rebuild_54 (Nat.le_of_ble_eq_true rfl) (Nat.le_of_ble_eq_true rfl)
        · skip
          refine lv_aload_n hx hb dX7_rebuild_34 rfl (lv_at hl 0 rfl) ?_
          refine z_get hE fF_X7_3 hZ 0 rfl (.int (zI er)) rfl dX7_rebuild_35 ?_
          refine z_if_ge hx hb 45 dX7_rebuild_38 (by decide) (C := 0 ≤ er) (zI_ge0 ⟨by omega, by omega⟩) (fun h38 => ?_) (fun h38 => ?_)
          · skip
            refine z_iconst hx hb (nI 0) dX7_rebuild_45 (by decide) ?_
            refine z_iconst hx hb (nI 2) dX7_rebuild_46 (by decide) ?_
            refine z_kVp (As := [.int (nI 0), .int (nI 2)]) (rest := []) hE hZ (c_X7_fails l D cI cJ cZ cII cZZ t0 t1 t2 t3 t4 t5 t6 t7 t8 t9 tA tB tC tD tR tS (if false = true then 1 else 0) eP eb er ek es ed ec ew lk lf lo lv le eW et eh ei eu em false 2 ) lL_X7_fails lC_X7_125 rfl [] (List.Perm.refl _) (fun u => (WQ cI cJ cZ cII cZZ [] t0 t1 t2 t3 t4 t5 t6 t7 t8 t9 tA tB tC tD tR tS (if false = true then 2 else 0) eP eb er ek es ed ec ew lk lf lo lv le eW et eh ei eu em)) (fun _ => List.Perm.refl _) 0 rfl ⟨by decide, by decide⟩ 0 0 rfl rfl ⟨by decide, by decide⟩ rfl hl.1 rfl (Nat.le_of_ble_eq_true rfl) dX7_rebuild_47 (fun u H locs hq9 hZ => ?_)
            have hZ : zS D A s.heap H locs (WQ cI cJ cZ cII cZZ [] t0 t1 t2 t3 t4 t5 t6 t7 t8 t9 tA tB tC tD tR tS (if false = true then 2 else 0) eP eb er ek es ed ec ew lk lf lo lv le eW et eh ei eu em) := hZ
            refine W.eq (g2 := F0 mth 50 ls [.int (zB false)]) rfl ?_
            refine z_if_eq hx hb 55 dX7_rebuild_50 (by decide) (C := True) (by rw [zB_0]; simp) (fun h50 => ?_) (fun h50 => ?_)
            · skip
              refine lv_aload_n hx hb dX7_rebuild_55 rfl (lv_at hl 0 rfl) ?_
              refine lv_aload_n hx hb dX7_rebuild_56 rfl (lv_at hl 0 rfl) ?_
              refine z_get hE fF_X7_3 hZ 0 rfl (.int (zI er)) rfl dX7_rebuild_57 ?_
              refine lv_i2l (v := (zI er).toInt64) hx hb dX7_rebuild_60 rfl ?_
              refine lv_iload_n hx hb dX7_rebuild_61 rfl (lv_at hl 1 rfl) ?_
              refine lv_i2l (v := (zI n).toInt64) hx hb dX7_rebuild_62 rfl ?_
              refine lv_ladd hx hb dX7_rebuild_63 ?_
              refine lv_ldc2 (v := 150) hx hb hE.2.2.2.1 (hE.2.2.2.2.1 _ mg819) dX7_rebuild_64 ?_
              refine z_mminl (rest := [.ref t0]) hE hl.1 lC_X7_160 (Nat.le_of_ble_eq_true rfl) (Nat.le_of_ble_eq_true rfl) (Nat.le_of_ble_eq_true rfl) (Nat.le_of_ble_eq_true rfl) dX7_rebuild_67 ?_
              refine lv_l2i (v := (if (150 : Int64) < ((zI er).toInt64) + ((zI n).toInt64) then (150 : Int64) else ((zI er).toInt64) + ((zI n).toInt64)).toInt32) hx hb dX7_rebuild_70 rfl ?_
              refine z_top (show (if (150 : Int64) < ((zI er).toInt64) + ((zI n).toInt64) then (150 : Int64) else ((zI er).toInt64) + ((zI n).toInt64)).toInt32 = zI (if 150 ≤ er + n then 150 else er + n) from min_l ⟨by omega, by omega⟩ ⟨by omega, by omega⟩) ?_
              refine z_put hE fF_X7_3 fP_X7 rfl hZ 0 rfl rfl rfl (Nat.le_of_ble_eq_true rfl) dX7_rebuild_71 (WQ cI cJ cZ cII cZZ [] t0 t1 t2 t3 t4 t5 t6 t7 t8 t9 tA tB tC tD tR tS (if false = true then 2 else 0) eP eb (if 150 ≤ er + n then 150 else er + n) ek es ed ec ew lk lf lo lv le eW et eh ei eu em) rfl (fun H locs hZ => ?_)
              refine lv_aload_n hx hb dX7_rebuild_74 rfl (lv_at hl 0 rfl) ?_
              refine z_get hE fF_X7_3 hZ 0 rfl (.int (zI (if 150 ≤ er + n then 150 else er + n))) rfl dX7_rebuild_75 ?_
              refine z_sipush hx hb (nI 150) dX7_rebuild_78 (by decide) ?_
              refine z_icmp_ne hx hb 89 dX7_rebuild_81 (by decide) (C := (if 150 ≤ er + n then 150 else er + n) = (150 : Int)) (by rw [zI_n]; exact zI_eq ⟨by split <;> omega, by split <;> omega⟩ ⟨by omega, by omega⟩) (fun h81 => ?_) (fun h81 => ?_)
              · skip
                refine lv_aload_n hx hb dX7_rebuild_89 rfl (lv_at hl 0 rfl) ?_
                refine z_get hE fF_X7_3 hZ 0 rfl (.int (zI (if 150 ≤ er + n then 150 else er + n))) rfl dX7_rebuild_90 ?_
                exact z_iret hE hrt9 hlocks hZ (eb, (if 150 ≤ er + n then 150 else er + n), (if false = true then 2 else 0), (if 150 ≤ er + n then 150 else er + n)) rfl (show (((if false = true then 2 else 0) = 1 ∧ n < 0 ∧ eb = eb ∧ (if 150 ≤ er + n then 150 else er + n) = er) ∨ ((if false = true then 2 else 0) = 2 ∧ 0 ≤ n ∧ (ek = true ∨ eb < 0 ∨ er < 0) ∧ eb = eb ∧ (if 150 ≤ er + n then 150 else er + n) = er) ∨ ((if false = true then 2 else 0) = 0 ∧ 0 ≤ n ∧ ek = false ∧ 0 ≤ eb ∧ 0 ≤ er ∧ (if 150 ≤ er + n then 150 else er + n) = (if 150 ≤ er + n then 150 else er + n) ∧ eb = (if 150 ≤ er + n then -1 else eb) ∧ (if 150 ≤ er + n then 150 else er + n) = (if 150 ≤ er + n then 150 else er + n))) from Or.inr (Or.inr ⟨rfl, hn0, by simpa using h24, by omega, by omega, rfl, by first | (have z : ¬ (if 150 ≤ er + n then 150 else er + n) = (150 : Int) := h81; split at z <;> first | (exact absurd rfl z) | (rw [if_neg (by assumption)])) | (have z : (if 150 ≤ er + n then 150 else er + n) = (150 : Int) := h81; split at z <;> first | (rw [if_pos (by assumption)]) | omega), rfl⟩)) rfl dX7_rebuild_93 (Nat.le_of_ble_eq_true rfl) (Nat.le_of_ble_eq_true rfl)
              · skip
                refine lv_aload_n hx hb dX7_rebuild_84 rfl (lv_at hl 0 rfl) ?_
                refine z_iconst hx hb (zI (-1)) dX7_rebuild_85 (by decide) ?_
                refine z_put hE fF_X7_2 fP_X7 rfl hZ 0 rfl rfl rfl (Nat.le_of_ble_eq_true rfl) dX7_rebuild_86 (WQ cI cJ cZ cII cZZ [] t0 t1 t2 t3 t4 t5 t6 t7 t8 t9 tA tB tC tD tR tS (if false = true then 2 else 0) eP (-1) (if 150 ≤ er + n then 150 else er + n) ek es ed ec ew lk lf lo lv le eW et eh ei eu em) rfl (fun H locs hZ => ?_)
                refine lv_aload_n hx hb dX7_rebuild_89 rfl (lv_at hl 0 rfl) ?_
                refine z_get hE fF_X7_3 hZ 0 rfl (.int (zI (if 150 ≤ er + n then 150 else er + n))) rfl dX7_rebuild_90 ?_
                exact z_iret hE hrt9 hlocks hZ ((-1), (if 150 ≤ er + n then 150 else er + n), (if false = true then 2 else 0), (if 150 ≤ er + n then 150 else er + n)) rfl (show (((if false = true then 2 else 0) = 1 ∧ n < 0 ∧ (-1) = eb ∧ (if 150 ≤ er + n then 150 else er + n) = er) ∨ ((if false = true then 2 else 0) = 2 ∧ 0 ≤ n ∧ (ek = true ∨ eb < 0 ∨ er < 0) ∧ (-1) = eb ∧ (if 150 ≤ er + n then 150 else er + n) = er) ∨ ((if false = true then 2 else 0) = 0 ∧ 0 ≤ n ∧ ek = false ∧ 0 ≤ eb ∧ 0 ≤ er ∧ (if 150 ≤ er + n then 150 else er + n) = (if 150 ≤ er + n then 150 else er + n) ∧ (-1) = (if 150 ≤ er + n then -1 else eb) ∧ (if 150 ≤ er + n then 150 else er + n) = (if 150 ≤ er + n then 150 else er + n))) from Or.inr (Or.inr ⟨rfl, hn0, by simpa using h24, by omega, by omega, rfl, by first | (have z : ¬ (if 150 ≤ er + n then 150 else er + n) = (150 : Int) := h81; split at z <;> first | (exact absurd rfl z) | (rw [if_neg (by assumption)])) | (have z : (if 150 ≤ er + n then 150 else er + n) = (150 : Int) := h81; split at z <;> first | (rw [if_pos (by assumption)]) | omega), rfl⟩)) rfl dX7_rebuild_93 (Nat.le_of_ble_eq_true rfl) (Nat.le_of_ble_eq_true rfl)
            · skip
              exact absurd trivial h50
          · skip
            have hnk : ek = true ∨ eb < 0 ∨ er < 0 := Or.inr (Or.inr (by omega))
            refine z_iconst hx hb (nI 1) dX7_rebuild_41 (by decide) ?_
            refine lv_goto (tgt := 46) hx hb dX7_rebuild_42 (by decide) ?_
            refine z_iconst hx hb (nI 2) dX7_rebuild_46 (by decide) ?_
            refine z_kVp (As := [.int (nI 1), .int (nI 2)]) (rest := []) hE hZ (c_X7_fails l D cI cJ cZ cII cZZ t0 t1 t2 t3 t4 t5 t6 t7 t8 t9 tA tB tC tD tR tS (if false = true then 1 else 0) eP eb er ek es ed ec ew lk lf lo lv le eW et eh ei eu em true 2 ) lL_X7_fails lC_X7_125 rfl [] (List.Perm.refl _) (fun u => (WQ cI cJ cZ cII cZZ [] t0 t1 t2 t3 t4 t5 t6 t7 t8 t9 tA tB tC tD tR tS (if true = true then 2 else 0) eP eb er ek es ed ec ew lk lf lo lv le eW et eh ei eu em)) (fun _ => List.Perm.refl _) 0 rfl ⟨by decide, by decide⟩ 0 0 rfl rfl ⟨by decide, by decide⟩ rfl hl.1 rfl (Nat.le_of_ble_eq_true rfl) dX7_rebuild_47 (fun u H locs hq9 hZ => ?_)
            have hZ : zS D A s.heap H locs (WQ cI cJ cZ cII cZZ [] t0 t1 t2 t3 t4 t5 t6 t7 t8 t9 tA tB tC tD tR tS (if true = true then 2 else 0) eP eb er ek es ed ec ew lk lf lo lv le eW et eh ei eu em) := hZ
            refine W.eq (g2 := F0 mth 50 ls [.int (zB true)]) rfl ?_
            refine z_if_eq hx hb 55 dX7_rebuild_50 (by decide) (C := False) (by rw [zB_0]; simp) (fun h50 => ?_) (fun h50 => ?_)
            · skip
              exact h50.elim
            · skip
              refine z_iconst hx hb (nI 0) dX7_rebuild_53 (by decide) ?_
              refine z_top (show nI 0 = zI 0 from rfl) ?_
              exact z_iret hE hrt9 hlocks hZ (eb, er, (if true = true then 2 else 0), 0) rfl (show (((if true = true then 2 else 0) = 1 ∧ n < 0 ∧ eb = eb ∧ er = er) ∨ ((if true = true then 2 else 0) = 2 ∧ 0 ≤ n ∧ (ek = true ∨ eb < 0 ∨ er < 0) ∧ eb = eb ∧ er = er) ∨ ((if true = true then 2 else 0) = 0 ∧ 0 ≤ n ∧ ek = false ∧ 0 ≤ eb ∧ 0 ≤ er ∧ er = (if 150 ≤ er + n then 150 else er + n) ∧ eb = (if 150 ≤ er + n then -1 else eb) ∧ 0 = (if 150 ≤ er + n then 150 else er + n))) from Or.inr (Or.inl ⟨rfl, hn0, hnk, rfl, rfl⟩)) rfl dX7_rebuild_54 (Nat.le_of_ble_eq_true rfl) (Nat.le_of_ble_eq_true rfl)
    · skip
      exact absurd trivial h14
  · skip
    have hn0 : n < 0 := by omega
    refine z_iconst hx hb (nI 1) dX7_rebuild_5 (by decide) ?_
    refine lv_goto (tgt := 10) hx hb dX7_rebuild_6 (by decide) ?_
    refine z_iconst hx hb (nI 1) dX7_rebuild_10 (by decide) ?_
    refine z_kVp (As := [.int (nI 1), .int (nI 1)]) (rest := []) hE hZ (c_X7_fails l D cI cJ cZ cII cZZ t0 t1 t2 t3 t4 t5 t6 t7 t8 t9 tA tB tC tD tR tS e0 eP eb er ek es ed ec ew lk lf lo lv le eW et eh ei eu em true 1 ) lL_X7_fails lC_X7_125 rfl [] (List.Perm.refl _) (fun u => (WQ cI cJ cZ cII cZZ [] t0 t1 t2 t3 t4 t5 t6 t7 t8 t9 tA tB tC tD tR tS (if true = true then 1 else 0) eP eb er ek es ed ec ew lk lf lo lv le eW et eh ei eu em)) (fun _ => List.Perm.refl _) 0 rfl ⟨by decide, by decide⟩ 0 0 rfl rfl ⟨by decide, by decide⟩ rfl hl.1 rfl (Nat.le_of_ble_eq_true rfl) dX7_rebuild_11 (fun u H locs hq9 hZ => ?_)
    have hZ : zS D A s.heap H locs (WQ cI cJ cZ cII cZZ [] t0 t1 t2 t3 t4 t5 t6 t7 t8 t9 tA tB tC tD tR tS (if true = true then 1 else 0) eP eb er ek es ed ec ew lk lf lo lv le eW et eh ei eu em) := hZ
    refine W.eq (g2 := F0 mth 14 ls [.int (zB true)]) rfl ?_
    refine z_if_eq hx hb 19 dX7_rebuild_14 (by decide) (C := False) (by rw [zB_0]; simp) (fun h14 => ?_) (fun h14 => ?_)
    · skip
      exact h14.elim
    · skip
      refine z_iconst hx hb (nI 0) dX7_rebuild_17 (by decide) ?_
      refine z_top (show nI 0 = zI 0 from rfl) ?_
      exact z_iret hE hrt9 hlocks hZ (eb, er, (if true = true then 1 else 0), 0) rfl (show (((if true = true then 1 else 0) = 1 ∧ n < 0 ∧ eb = eb ∧ er = er) ∨ ((if true = true then 1 else 0) = 2 ∧ 0 ≤ n ∧ (ek = true ∨ eb < 0 ∨ er < 0) ∧ eb = eb ∧ er = er) ∨ ((if true = true then 1 else 0) = 0 ∧ 0 ≤ n ∧ ek = false ∧ 0 ≤ eb ∧ 0 ≤ er ∧ er = (if 150 ≤ er + n then 150 else er + n) ∧ eb = (if 150 ≤ er + n then -1 else eb) ∧ 0 = (if 150 ≤ er + n then 150 else er + n))) from Or.inl ⟨rfl, hn0, rfl, rfl⟩) rfl dX7_rebuild_18 (Nat.le_of_ble_eq_true rfl) (Nat.le_of_ble_eq_true rfl)
set_option maxHeartbeats 1000000 in
set_option maxRecDepth 100000 in
theorem c_X7_sizeOf (l : Launch) (D : va_G) (cI cJ cZ cII cZZ : ClassId) (t0 : Nat) (t1 : Nat) (t2 : Nat) (t3 : Nat) (t4 : Nat) (t5 : Nat) (t6 : Nat) (t7 : Nat) (t8 : Nat) (t9 : Nat) (tA : Nat) (tB : Nat) (tC : Nat) (tD : Nat) (tR : Nat → Nat) (tS : Nat → Nat) (e0 : Nat) (eP : Nat → Nat) (eb : Int) (er : Int) (ek : Bool) (es : Nat → Int) (ed : Nat → Nat → Nat) (ec : Nat → Bool) (ew : Nat → Nat → Bool) (lk : Nat → Nat) (lf : Nat → Nat) (lo : Nat → Nat) (lv : Nat → Int64) (le : Nat) (eW : Int) (et : Nat → Nat) (eh : Nat → Nat) (ei : Nat → Int) (eu : Nat → Bool) (em : Nat) (B : Nat → Int64) (ro : Nat → Nat) (ih : Nat → Nat) (iN : Nat) (a : aM) (k : Int) (f : Nat) (k_q : Int32) (hP : RP B eP) (hA : AI B ro ih iN) (hk : -1 ≤ k ∧ k < 5) (hf : f < 32) (k_h : k_q = zI k) :
    zC l yX7_sizeOf cX7_sizeOf 4 (some .int) { frames := 3, cells := 0, slots := 0, locals := 67 } D (zT cI cJ cZ cII cZZ) [.ref t0, .int (k_q), .int (nI f)] (WQ cI cJ cZ cII cZZ [] t0 t1 t2 t3 t4 t5 t6 t7 t8 t9 tA tB tC tD tR tS e0 eP eb er ek es ed ec ew lk lf lo lv le eW et eh ei eu em) (S := Unit) (fun u => some (.int (zI (if k = -1 then es f else szL B (inoO B ih (k + 1).toNat f))))) (fun u => True) (fun u => (WQ cI cJ cZ cII cZZ [] t0 t1 t2 t3 t4 t5 t6 t7 t8 t9 tA tB tC tD tR tS e0 eP eb er ek es ed ec ew lk lf lo lv le eW et eh ei eu em)) := by
  refine zC_of (by decide) (Nat.le_of_ble_eq_true rfl) ?_
  intro prg env s mth below meth cde A ls hE hrt9 hlocks hnm hZ hl
  have hx := hE.1
  have hb := hE.2.1
  subst k_h
  have hl : lv_has ls 4 [(0, .ref t0), (1, .int (zI k)), (2, .int (nI f))] := hl
  refine lv_iload_n hx hb dX7_sizeOf_0 rfl (lv_at hl 1 rfl) ?_
  refine z_if_ge hx hb 11 dX7_sizeOf_1 (by decide) (C := 0 ≤ k) (zI_ge0 ⟨by omega, by omega⟩) (fun h1 => ?_) (fun h1 => ?_)
  · skip
    refine lv_aload_n hx hb dX7_sizeOf_11 rfl (lv_at hl 0 rfl) ?_
    refine lv_iload_n hx hb dX7_sizeOf_12 rfl (lv_at hl 1 rfl) ?_
    refine lv_iload_n hx hb dX7_sizeOf_13 rfl (lv_at hl 2 rfl) ?_
    refine z_kVp (As := [.int (zI k), .int (nI f)]) (rest := []) hE hZ (c_X7_inodeOf l D cI cJ cZ cII cZZ t0 t1 t2 t3 t4 t5 t6 t7 t8 t9 tA tB tC tD tR tS e0 eP eb er ek es ed ec ew lk lf lo lv le eW et eh ei eu em B ro ih iN k f (zI k) (by first | assumption | omega) (hA.2.2) (hA.2.1) (by omega) (hf) (rfl)) lL_X7_inodeOf lC_X7_89 rfl [] (List.Perm.refl _) (fun u => (WQ cI cJ cZ cII cZZ [] t0 t1 t2 t3 t4 t5 t6 t7 t8 t9 tA tB tC tD tR tS e0 eP eb er ek es ed ec ew lk lf lo lv le eW et eh ei eu em)) (fun _ => List.Perm.refl _) 0 rfl ⟨by decide, by decide⟩ 0 0 rfl rfl ⟨by decide, by decide⟩ rfl hl.1 rfl (Nat.le_of_ble_eq_true rfl) dX7_sizeOf_14 (fun u H locs hq9 hZ => ?_)
    have hZ : zS D A s.heap H locs (WQ cI cJ cZ cII cZZ [] t0 t1 t2 t3 t4 t5 t6 t7 t8 t9 tA tB tC tD tR tS e0 eP eb er ek es ed ec ew lk lf lo lv le eW et eh ei eu em) := hZ
    refine W.eq (g2 := F0 mth 17 ls [.int (nI (inoO B ih (k + 1).toNat f))]) rfl ?_
    have hin := inoO_ok hA.1 hA.2.1 (show (k + 1).toNat < 6 by omega) hf
    refine lv_istore_n (lv' := [(3, .int (nI (inoO B ih (k + 1).toNat f))), (0, .ref t0), (1, .int (zI k)), (2, .int (nI f))]) hx hb dX7_sizeOf_17 rfl hl (by decide) rfl (fun ls hl => ?_)
    refine lv_iload_n hx hb dX7_sizeOf_18 rfl (lv_at hl 0 rfl) ?_
    refine z_if_ne hx hb 26 dX7_sizeOf_19 (by decide) (C := inoO B ih (k + 1).toNat f = 0) (nI_eq0 (by rcases hin with z | z <;> omega)) (fun h19 => ?_) (fun h19 => ?_)
    · skip
      refine lv_aload_n hx hb dX7_sizeOf_26 rfl (lv_at hl 1 rfl) ?_
      refine lv_iload_n hx hb dX7_sizeOf_27 rfl (lv_at hl 0 rfl) ?_
      refine z_iconst hx hb (nI 0) dX7_sizeOf_28 (by decide) ?_
      refine z_kVp (As := [.int (nI (inoO B ih (k + 1).toNat f)), .int (nI 0)]) (rest := []) hE hZ (c_X7_two l D cI cJ cZ cII cZZ t0 t1 t2 t3 t4 t5 t6 t7 t8 t9 tA tB tC tD tR tS e0 eP eb er ek es ed ec ew lk lf lo lv le eW et eh ei eu em B (inoO B ih (k + 1).toNat f) 0 0 (by first | assumption | omega) (by rcases hin with z | z <;> omega) (by omega) (rfl)) lL_X7_two lC_X7_82 rfl [] (List.Perm.refl _) (fun u => (WQ cI cJ cZ cII cZZ [] t0 t1 t2 t3 t4 t5 t6 t7 t8 t9 tA tB tC tD tR tS e0 eP eb er ek es ed ec ew lk lf lo lv le eW et eh ei eu em)) (fun _ => List.Perm.refl _) 0 rfl ⟨by decide, by decide⟩ 0 0 rfl rfl ⟨by decide, by decide⟩ rfl hl.1 rfl (Nat.le_of_ble_eq_true rfl) dX7_sizeOf_29 (fun u H locs hq9 hZ => ?_)
      have hZ : zS D A s.heap H locs (WQ cI cJ cZ cII cZZ [] t0 t1 t2 t3 t4 t5 t6 t7 t8 t9 tA tB tC tD tR tS e0 eP eb er ek es ed ec ew lk lf lo lv le eW et eh ei eu em) := hZ
      refine W.eq (g2 := F0 mth 32 ls [.int (nI (num B (inoO B ih (k + 1).toNat f) 0))]) rfl ?_
      refine z_top (show nI (num B (inoO B ih (k + 1).toNat f) 0) = zI (if k = -1 then es f else szL B (inoO B ih (k + 1).toNat f)) from by first | (rw [if_neg (by omega)]; unfold szL; rw [if_pos h19]) | (rw [if_neg (by omega), zI_n]; unfold szL; rw [if_neg h19])) ?_
      exact z_iret hE hrt9 hlocks hZ () rfl trivial rfl dX7_sizeOf_32 (Nat.le_of_ble_eq_true rfl) (Nat.le_of_ble_eq_true rfl)
    · skip
      refine z_iconst hx hb (zI (-1)) dX7_sizeOf_22 (by decide) ?_
      refine lv_goto (tgt := 32) hx hb dX7_sizeOf_23 (by decide) ?_
      refine z_top (show zI (-1) = zI (if k = -1 then es f else szL B (inoO B ih (k + 1).toNat f)) from by first | (rw [if_neg (by omega)]; unfold szL; rw [if_pos h19]) | (rw [if_neg (by omega), zI_n]; unfold szL; rw [if_neg h19])) ?_
      exact z_iret hE hrt9 hlocks hZ () rfl trivial rfl dX7_sizeOf_32 (Nat.le_of_ble_eq_true rfl) (Nat.le_of_ble_eq_true rfl)
  · skip
    refine lv_aload_n hx hb dX7_sizeOf_4 rfl (lv_at hl 0 rfl) ?_
    refine z_get hE fF_X7_5 hZ 0 rfl (.ref t2) rfl dX7_sizeOf_5 ?_
    refine lv_iload_n hx hb dX7_sizeOf_8 rfl (lv_at hl 2 rfl) ?_
    refine z_iald hE hZ 2 0 rfl rfl (by decide) (by omega) dX7_sizeOf_9 ?_
    refine z_top (show zI (es f) = zI (if k = -1 then es f else szL B (inoO B ih (k + 1).toNat f)) from by rw [if_pos (by omega)]) ?_
    exact z_iret hE hrt9 hlocks hZ () rfl trivial rfl dX7_sizeOf_10 (Nat.le_of_ble_eq_true rfl) (Nat.le_of_ble_eq_true rfl)
set_option maxHeartbeats 1000000 in
set_option maxRecDepth 100000 in
theorem c_X7_size (l : Launch) (D : va_G) (cI cJ cZ cII cZZ : ClassId) (t0 : Nat) (t1 : Nat) (t2 : Nat) (t3 : Nat) (t4 : Nat) (t5 : Nat) (t6 : Nat) (t7 : Nat) (t8 : Nat) (t9 : Nat) (tA : Nat) (tB : Nat) (tC : Nat) (tD : Nat) (tR : Nat → Nat) (tS : Nat → Nat) (e0 : Nat) (eP : Nat → Nat) (eb : Int) (er : Int) (ek : Bool) (es : Nat → Int) (ed : Nat → Nat → Nat) (ec : Nat → Bool) (ew : Nat → Nat → Bool) (lk : Nat → Nat) (lf : Nat → Nat) (lo : Nat → Nat) (lv : Nat → Int64) (le : Nat) (eW : Int) (et : Nat → Nat) (eh : Nat → Nat) (ei : Nat → Int) (eu : Nat → Bool) (em : Nat) (B : Nat → Int64) (ro : Nat → Nat) (ih : Nat → Nat) (iN : Nat) (a : aM) (k : Int) (f : Int) (k_q : Int32) (f_q : Int32) (hP : RP B eP) (hA : AI B ro ih iN) (hih : ∀ j, ih j < 65536) (hk : -2147483648 ≤ k ∧ k < 2147483648) (hf : -2147483648 ≤ f ∧ f < 2147483648) (k_h : k_q = zI k) (f_h : f_q = zI f) :
    zC l yX7_size cX7_size 3 (some .int) { frames := 4, cells := 0, slots := 0, locals := 90 } D (zT cI cJ cZ cII cZZ) [.ref t0, .int (k_q), .int (f_q)] (WQ cI cJ cZ cII cZZ [] t0 t1 t2 t3 t4 t5 t6 t7 t8 t9 tA tB tC tD tR tS e0 eP eb er ek es ed ec ew lk lf lo lv le eW et eh ei eu em) (S := Nat × Int) (fun u => some (.int (zI u.2))) (fun u => ((u.1 = 1 ∧ ¬ (0 ≤ f ∧ f < 32 ∧ (k = -1 ∨ hasS ih k = true))) ∨ (u.1 = 2 ∧ (0 ≤ f ∧ f < 32 ∧ (k = -1 ∨ hasS ih k = true)) ∧ ek = true) ∨ (u.1 = 0 ∧ (0 ≤ f ∧ f < 32 ∧ (k = -1 ∨ hasS ih k = true)) ∧ ek = false ∧ u.2 = (if k = -1 then es f.toNat else szL B (inoO B ih (k + 1).toNat f.toNat))))) (fun u => (WQ cI cJ cZ cII cZZ [] t0 t1 t2 t3 t4 t5 t6 t7 t8 t9 tA tB tC tD tR tS u.1 eP eb er ek es ed ec ew lk lf lo lv le eW et eh ei eu em)) := by
  refine zC_of (by decide) (Nat.le_of_ble_eq_true rfl) ?_
  intro prg env s mth below meth cde A ls hE hrt9 hlocks hnm hZ hl
  have hx := hE.1
  have hb := hE.2.1
  subst k_h
  subst f_h
  have hl : lv_has ls 3 [(0, .ref t0), (1, .int (zI k)), (2, .int (zI f))] := hl
  refine lv_aload_n hx hb dX7_size_0 rfl (lv_at hl 0 rfl) ?_
  refine lv_iload_n hx hb dX7_size_1 rfl (lv_at hl 1 rfl) ?_
  refine z_iconst hx hb (zI (-1)) dX7_size_2 (by decide) ?_
  refine z_icmp_lt hx hb 31 dX7_size_3 (by decide) (C := (k : Int) < (-1)) (by (try simp only [zI_n]); exact zI_lt ⟨by omega, by omega⟩ ⟨by omega, by omega⟩) (fun h3 => ?_) (fun h3 => ?_)
  · skip
    have hnk : ¬ (0 ≤ f ∧ f < 32 ∧ (k = -1 ∨ hasS ih k = true)) := fun y => by
            rcases y.2.2 with z | z
            · omega
            · have w := of_decide_eq_true z
              omega
    refine z_iconst hx hb (nI 1) dX7_size_31 (by decide) ?_
    refine lv_goto (tgt := 36) hx hb dX7_size_32 (by decide) ?_
    refine z_iconst hx hb (nI 1) dX7_size_36 (by decide) ?_
    refine z_kVp (As := [.int (nI 1), .int (nI 1)]) (rest := []) hE hZ (c_X7_fails l D cI cJ cZ cII cZZ t0 t1 t2 t3 t4 t5 t6 t7 t8 t9 tA tB tC tD tR tS e0 eP eb er ek es ed ec ew lk lf lo lv le eW et eh ei eu em true 1 ) lL_X7_fails lC_X7_125 rfl [] (List.Perm.refl _) (fun u => (WQ cI cJ cZ cII cZZ [] t0 t1 t2 t3 t4 t5 t6 t7 t8 t9 tA tB tC tD tR tS (if true = true then 1 else 0) eP eb er ek es ed ec ew lk lf lo lv le eW et eh ei eu em)) (fun _ => List.Perm.refl _) 0 rfl ⟨by decide, by decide⟩ 0 0 rfl rfl ⟨by decide, by decide⟩ rfl hl.1 rfl (Nat.le_of_ble_eq_true rfl) dX7_size_37 (fun u H locs hq9 hZ => ?_)
    have hZ : zS D A s.heap H locs (WQ cI cJ cZ cII cZZ [] t0 t1 t2 t3 t4 t5 t6 t7 t8 t9 tA tB tC tD tR tS (if true = true then 1 else 0) eP eb er ek es ed ec ew lk lf lo lv le eW et eh ei eu em) := hZ
    refine W.eq (g2 := F0 mth 40 ls [.int (zB true)]) rfl ?_
    refine z_if_eq hx hb 45 dX7_size_40 (by decide) (C := False) (by rw [zB_0]; simp) (fun h40 => ?_) (fun h40 => ?_)
    · skip
      exact h40.elim
    · skip
      refine z_iconst hx hb (nI 0) dX7_size_43 (by decide) ?_
      refine z_top (show nI 0 = zI 0 from rfl) ?_
      exact z_iret hE hrt9 hlocks hZ ((if true = true then 1 else 0), 0) rfl (show (((if true = true then 1 else 0) = 1 ∧ ¬ (0 ≤ f ∧ f < 32 ∧ (k = -1 ∨ hasS ih k = true))) ∨ ((if true = true then 1 else 0) = 2 ∧ (0 ≤ f ∧ f < 32 ∧ (k = -1 ∨ hasS ih k = true)) ∧ ek = true) ∨ ((if true = true then 1 else 0) = 0 ∧ (0 ≤ f ∧ f < 32 ∧ (k = -1 ∨ hasS ih k = true)) ∧ ek = false ∧ 0 = (if k = -1 then es f.toNat else szL B (inoO B ih (k + 1).toNat f.toNat)))) from Or.inl ⟨rfl, hnk⟩) rfl dX7_size_44 (Nat.le_of_ble_eq_true rfl) (Nat.le_of_ble_eq_true rfl)
  · skip
    refine lv_iload_n hx hb dX7_size_6 rfl (lv_at hl 1 rfl) ?_
    refine z_iconst hx hb (nI 5) dX7_size_7 (by decide) ?_
    refine z_icmp_ge hx hb 31 dX7_size_8 (by decide) (C := (5 : Int) ≤ k) (by (try simp only [zI_n]); exact zI_le ⟨by omega, by omega⟩ ⟨by omega, by omega⟩) (fun h8 => ?_) (fun h8 => ?_)
    · skip
      have hnk : ¬ (0 ≤ f ∧ f < 32 ∧ (k = -1 ∨ hasS ih k = true)) := fun y => by
              rcases y.2.2 with z | z
              · omega
              · have w := of_decide_eq_true z
                omega
      refine z_iconst hx hb (nI 1) dX7_size_31 (by decide) ?_
      refine lv_goto (tgt := 36) hx hb dX7_size_32 (by decide) ?_
      refine z_iconst hx hb (nI 1) dX7_size_36 (by decide) ?_
      refine z_kVp (As := [.int (nI 1), .int (nI 1)]) (rest := []) hE hZ (c_X7_fails l D cI cJ cZ cII cZZ t0 t1 t2 t3 t4 t5 t6 t7 t8 t9 tA tB tC tD tR tS e0 eP eb er ek es ed ec ew lk lf lo lv le eW et eh ei eu em true 1 ) lL_X7_fails lC_X7_125 rfl [] (List.Perm.refl _) (fun u => (WQ cI cJ cZ cII cZZ [] t0 t1 t2 t3 t4 t5 t6 t7 t8 t9 tA tB tC tD tR tS (if true = true then 1 else 0) eP eb er ek es ed ec ew lk lf lo lv le eW et eh ei eu em)) (fun _ => List.Perm.refl _) 0 rfl ⟨by decide, by decide⟩ 0 0 rfl rfl ⟨by decide, by decide⟩ rfl hl.1 rfl (Nat.le_of_ble_eq_true rfl) dX7_size_37 (fun u H locs hq9 hZ => ?_)
      have hZ : zS D A s.heap H locs (WQ cI cJ cZ cII cZZ [] t0 t1 t2 t3 t4 t5 t6 t7 t8 t9 tA tB tC tD tR tS (if true = true then 1 else 0) eP eb er ek es ed ec ew lk lf lo lv le eW et eh ei eu em) := hZ
      refine W.eq (g2 := F0 mth 40 ls [.int (zB true)]) rfl ?_
      refine z_if_eq hx hb 45 dX7_size_40 (by decide) (C := False) (by rw [zB_0]; simp) (fun h40 => ?_) (fun h40 => ?_)
      · skip
        exact h40.elim
      · skip
        refine z_iconst hx hb (nI 0) dX7_size_43 (by decide) ?_
        refine z_top (show nI 0 = zI 0 from rfl) ?_
        exact z_iret hE hrt9 hlocks hZ ((if true = true then 1 else 0), 0) rfl (show (((if true = true then 1 else 0) = 1 ∧ ¬ (0 ≤ f ∧ f < 32 ∧ (k = -1 ∨ hasS ih k = true))) ∨ ((if true = true then 1 else 0) = 2 ∧ (0 ≤ f ∧ f < 32 ∧ (k = -1 ∨ hasS ih k = true)) ∧ ek = true) ∨ ((if true = true then 1 else 0) = 0 ∧ (0 ≤ f ∧ f < 32 ∧ (k = -1 ∨ hasS ih k = true)) ∧ ek = false ∧ 0 = (if k = -1 then es f.toNat else szL B (inoO B ih (k + 1).toNat f.toNat)))) from Or.inl ⟨rfl, hnk⟩) rfl dX7_size_44 (Nat.le_of_ble_eq_true rfl) (Nat.le_of_ble_eq_true rfl)
    · skip
      refine lv_iload_n hx hb dX7_size_11 rfl (lv_at hl 1 rfl) ?_
      refine z_if_lt hx hb 23 dX7_size_12 (by decide) (C := k < 0) (zI_lt0 ⟨by omega, by omega⟩) (fun h12 => ?_) (fun h12 => ?_)
      · skip
        have hkk : k = -1 ∨ hasS ih k = true := Or.inl (by omega)
        refine lv_aload_n hx hb dX7_size_23 rfl (lv_at hl 0 rfl) ?_
        refine lv_iload_n hx hb dX7_size_24 rfl (lv_at hl 2 rfl) ?_
        refine z_kVp (As := [.int (zI f)]) (rest := [.ref t0]) hE hZ (c_X7_noFile l D cI cJ cZ cII cZZ t0 t1 t2 t3 t4 t5 t6 t7 t8 t9 tA tB tC tD tR tS e0 eP eb er ek es ed ec ew lk lf lo lv le eW et eh ei eu em f (zI f) (by first | assumption | omega) (rfl)) lL_X7_noFile lC_X7_122 rfl [] (List.Perm.refl _) (fun u => (WQ cI cJ cZ cII cZZ [] t0 t1 t2 t3 t4 t5 t6 t7 t8 t9 tA tB tC tD tR tS e0 eP eb er ek es ed ec ew lk lf lo lv le eW et eh ei eu em)) (fun _ => List.Perm.refl _) 0 rfl ⟨by decide, by decide⟩ 0 0 rfl rfl ⟨by decide, by decide⟩ rfl hl.1 rfl (Nat.le_of_ble_eq_true rfl) dX7_size_25 (fun u H locs hq9 hZ => ?_)
        have hZ : zS D A s.heap H locs (WQ cI cJ cZ cII cZZ [] t0 t1 t2 t3 t4 t5 t6 t7 t8 t9 tA tB tC tD tR tS e0 eP eb er ek es ed ec ew lk lf lo lv le eW et eh ei eu em) := hZ
        refine W.eq (g2 := F0 mth 28 ls [.int (zB (decide (¬ (0 ≤ f ∧ f < 32)))), .ref t0]) rfl ?_
        refine z_if_eq hx hb 35 dX7_size_28 (by decide) (C := (decide (¬ (0 ≤ f ∧ f < 32))) = false) (zB_0 _) (fun h28 => ?_) (fun h28 => ?_)
        · skip
          have hff : 0 ≤ f ∧ f < 32 := by simpa using h28
          have hok : 0 ≤ f ∧ f < 32 ∧ (k = -1 ∨ hasS ih k = true) := ⟨hff.1, hff.2, hkk⟩
          have hkr := hasS_in hkk
          refine z_iconst hx hb (nI 0) dX7_size_35 (by decide) ?_
          refine z_iconst hx hb (nI 1) dX7_size_36 (by decide) ?_
          refine z_kVp (As := [.int (nI 0), .int (nI 1)]) (rest := []) hE hZ (c_X7_fails l D cI cJ cZ cII cZZ t0 t1 t2 t3 t4 t5 t6 t7 t8 t9 tA tB tC tD tR tS e0 eP eb er ek es ed ec ew lk lf lo lv le eW et eh ei eu em false 1 ) lL_X7_fails lC_X7_125 rfl [] (List.Perm.refl _) (fun u => (WQ cI cJ cZ cII cZZ [] t0 t1 t2 t3 t4 t5 t6 t7 t8 t9 tA tB tC tD tR tS (if false = true then 1 else 0) eP eb er ek es ed ec ew lk lf lo lv le eW et eh ei eu em)) (fun _ => List.Perm.refl _) 0 rfl ⟨by decide, by decide⟩ 0 0 rfl rfl ⟨by decide, by decide⟩ rfl hl.1 rfl (Nat.le_of_ble_eq_true rfl) dX7_size_37 (fun u H locs hq9 hZ => ?_)
          have hZ : zS D A s.heap H locs (WQ cI cJ cZ cII cZZ [] t0 t1 t2 t3 t4 t5 t6 t7 t8 t9 tA tB tC tD tR tS (if false = true then 1 else 0) eP eb er ek es ed ec ew lk lf lo lv le eW et eh ei eu em) := hZ
          refine W.eq (g2 := F0 mth 40 ls [.int (zB false)]) rfl ?_
          refine z_if_eq hx hb 45 dX7_size_40 (by decide) (C := True) (by rw [zB_0]; simp) (fun h40 => ?_) (fun h40 => ?_)
          · skip
            refine lv_aload_n hx hb dX7_size_45 rfl (lv_at hl 0 rfl) ?_
            refine lv_aload_n hx hb dX7_size_46 rfl (lv_at hl 0 rfl) ?_
            refine z_get hE fF_X7_4 hZ 0 rfl (.int (zB ek)) rfl dX7_size_47 ?_
            refine z_iconst hx hb (nI 2) dX7_size_50 (by decide) ?_
            refine z_kVp (As := [.int (zB ek), .int (nI 2)]) (rest := []) hE hZ (c_X7_fails l D cI cJ cZ cII cZZ t0 t1 t2 t3 t4 t5 t6 t7 t8 t9 tA tB tC tD tR tS (if false = true then 1 else 0) eP eb er ek es ed ec ew lk lf lo lv le eW et eh ei eu em ek 2 ) lL_X7_fails lC_X7_125 rfl [] (List.Perm.refl _) (fun u => (WQ cI cJ cZ cII cZZ [] t0 t1 t2 t3 t4 t5 t6 t7 t8 t9 tA tB tC tD tR tS (if ek = true then 2 else 0) eP eb er ek es ed ec ew lk lf lo lv le eW et eh ei eu em)) (fun _ => List.Perm.refl _) 0 rfl ⟨by decide, by decide⟩ 0 0 rfl rfl ⟨by decide, by decide⟩ rfl hl.1 rfl (Nat.le_of_ble_eq_true rfl) dX7_size_51 (fun u H locs hq9 hZ => ?_)
            have hZ : zS D A s.heap H locs (WQ cI cJ cZ cII cZZ [] t0 t1 t2 t3 t4 t5 t6 t7 t8 t9 tA tB tC tD tR tS (if ek = true then 2 else 0) eP eb er ek es ed ec ew lk lf lo lv le eW et eh ei eu em) := hZ
            refine W.eq (g2 := F0 mth 54 ls [.int (zB ek)]) rfl ?_
            refine z_if_eq hx hb 59 dX7_size_54 (by decide) (C := ek = false) (zB_0 _) (fun h54 => ?_) (fun h54 => ?_)
            · skip
              have hbk : ek = false := by simpa using h54
              refine lv_aload_n hx hb dX7_size_59 rfl (lv_at hl 0 rfl) ?_
              refine lv_iload_n hx hb dX7_size_60 rfl (lv_at hl 1 rfl) ?_
              refine lv_iload_n hx hb dX7_size_61 rfl (lv_at hl 2 rfl) ?_
              refine z_top (show zI f = nI f.toNat from zI_inN (by omega) (by omega)) ?_
              refine z_kVp (As := [.int (zI k), .int (nI f.toNat)]) (rest := []) hE hZ (c_X7_sizeOf l D cI cJ cZ cII cZZ t0 t1 t2 t3 t4 t5 t6 t7 t8 t9 tA tB tC tD tR tS (if ek = true then 2 else 0) eP eb er ek es ed ec ew lk lf lo lv le eW et eh ei eu em B ro ih iN a k f.toNat (zI k) (by first | assumption | omega) (hA) (hkr) (by omega) (rfl)) lL_X7_sizeOf lC_X7_164 rfl [] (List.Perm.refl _) (fun u => (WQ cI cJ cZ cII cZZ [] t0 t1 t2 t3 t4 t5 t6 t7 t8 t9 tA tB tC tD tR tS (if ek = true then 2 else 0) eP eb er ek es ed ec ew lk lf lo lv le eW et eh ei eu em)) (fun _ => List.Perm.refl _) 0 rfl ⟨by decide, by decide⟩ 0 0 rfl rfl ⟨by decide, by decide⟩ rfl hl.1 rfl (Nat.le_of_ble_eq_true rfl) dX7_size_62 (fun u H locs hq9 hZ => ?_)
              have hZ : zS D A s.heap H locs (WQ cI cJ cZ cII cZZ [] t0 t1 t2 t3 t4 t5 t6 t7 t8 t9 tA tB tC tD tR tS (if ek = true then 2 else 0) eP eb er ek es ed ec ew lk lf lo lv le eW et eh ei eu em) := hZ
              refine W.eq (g2 := F0 mth 65 ls [.int (zI (if k = -1 then es f.toNat else szL B (inoO B ih (k + 1).toNat f.toNat)))]) rfl ?_
              exact z_iret hE hrt9 hlocks hZ ((if ek = true then 2 else 0), (if k = -1 then es f.toNat else szL B (inoO B ih (k + 1).toNat f.toNat))) rfl (show (((if ek = true then 2 else 0) = 1 ∧ ¬ (0 ≤ f ∧ f < 32 ∧ (k = -1 ∨ hasS ih k = true))) ∨ ((if ek = true then 2 else 0) = 2 ∧ (0 ≤ f ∧ f < 32 ∧ (k = -1 ∨ hasS ih k = true)) ∧ ek = true) ∨ ((if ek = true then 2 else 0) = 0 ∧ (0 ≤ f ∧ f < 32 ∧ (k = -1 ∨ hasS ih k = true)) ∧ ek = false ∧ (if k = -1 then es f.toNat else szL B (inoO B ih (k + 1).toNat f.toNat)) = (if k = -1 then es f.toNat else szL B (inoO B ih (k + 1).toNat f.toNat)))) from Or.inr (Or.inr ⟨by rw [if_neg (by rw [hbk]; simp)], hok, hbk, rfl⟩)) rfl dX7_size_65 (Nat.le_of_ble_eq_true rfl) (Nat.le_of_ble_eq_true rfl)
            · skip
              have hbk : ek = true := by simpa using h54
              refine z_iconst hx hb (nI 0) dX7_size_57 (by decide) ?_
              refine z_top (show nI 0 = zI 0 from rfl) ?_
              exact z_iret hE hrt9 hlocks hZ ((if ek = true then 2 else 0), 0) rfl (show (((if ek = true then 2 else 0) = 1 ∧ ¬ (0 ≤ f ∧ f < 32 ∧ (k = -1 ∨ hasS ih k = true))) ∨ ((if ek = true then 2 else 0) = 2 ∧ (0 ≤ f ∧ f < 32 ∧ (k = -1 ∨ hasS ih k = true)) ∧ ek = true) ∨ ((if ek = true then 2 else 0) = 0 ∧ (0 ≤ f ∧ f < 32 ∧ (k = -1 ∨ hasS ih k = true)) ∧ ek = false ∧ 0 = (if k = -1 then es f.toNat else szL B (inoO B ih (k + 1).toNat f.toNat)))) from Or.inr (Or.inl ⟨by rw [if_pos hbk], hok, hbk⟩)) rfl dX7_size_58 (Nat.le_of_ble_eq_true rfl) (Nat.le_of_ble_eq_true rfl)
          · skip
            exact absurd trivial h40
        · skip
          have hnk : ¬ (0 ≤ f ∧ f < 32 ∧ (k = -1 ∨ hasS ih k = true)) := fun y => by
                  have z : ¬ (0 ≤ f ∧ f < 32) := by simpa using h28
                  exact z ⟨y.1, y.2.1⟩
          refine z_iconst hx hb (nI 1) dX7_size_31 (by decide) ?_
          refine lv_goto (tgt := 36) hx hb dX7_size_32 (by decide) ?_
          refine z_iconst hx hb (nI 1) dX7_size_36 (by decide) ?_
          refine z_kVp (As := [.int (nI 1), .int (nI 1)]) (rest := []) hE hZ (c_X7_fails l D cI cJ cZ cII cZZ t0 t1 t2 t3 t4 t5 t6 t7 t8 t9 tA tB tC tD tR tS e0 eP eb er ek es ed ec ew lk lf lo lv le eW et eh ei eu em true 1 ) lL_X7_fails lC_X7_125 rfl [] (List.Perm.refl _) (fun u => (WQ cI cJ cZ cII cZZ [] t0 t1 t2 t3 t4 t5 t6 t7 t8 t9 tA tB tC tD tR tS (if true = true then 1 else 0) eP eb er ek es ed ec ew lk lf lo lv le eW et eh ei eu em)) (fun _ => List.Perm.refl _) 0 rfl ⟨by decide, by decide⟩ 0 0 rfl rfl ⟨by decide, by decide⟩ rfl hl.1 rfl (Nat.le_of_ble_eq_true rfl) dX7_size_37 (fun u H locs hq9 hZ => ?_)
          have hZ : zS D A s.heap H locs (WQ cI cJ cZ cII cZZ [] t0 t1 t2 t3 t4 t5 t6 t7 t8 t9 tA tB tC tD tR tS (if true = true then 1 else 0) eP eb er ek es ed ec ew lk lf lo lv le eW et eh ei eu em) := hZ
          refine W.eq (g2 := F0 mth 40 ls [.int (zB true)]) rfl ?_
          refine z_if_eq hx hb 45 dX7_size_40 (by decide) (C := False) (by rw [zB_0]; simp) (fun h40 => ?_) (fun h40 => ?_)
          · skip
            exact h40.elim
          · skip
            refine z_iconst hx hb (nI 0) dX7_size_43 (by decide) ?_
            refine z_top (show nI 0 = zI 0 from rfl) ?_
            exact z_iret hE hrt9 hlocks hZ ((if true = true then 1 else 0), 0) rfl (show (((if true = true then 1 else 0) = 1 ∧ ¬ (0 ≤ f ∧ f < 32 ∧ (k = -1 ∨ hasS ih k = true))) ∨ ((if true = true then 1 else 0) = 2 ∧ (0 ≤ f ∧ f < 32 ∧ (k = -1 ∨ hasS ih k = true)) ∧ ek = true) ∨ ((if true = true then 1 else 0) = 0 ∧ (0 ≤ f ∧ f < 32 ∧ (k = -1 ∨ hasS ih k = true)) ∧ ek = false ∧ 0 = (if k = -1 then es f.toNat else szL B (inoO B ih (k + 1).toNat f.toNat)))) from Or.inl ⟨rfl, hnk⟩) rfl dX7_size_44 (Nat.le_of_ble_eq_true rfl) (Nat.le_of_ble_eq_true rfl)
      · skip
        refine lv_aload_n hx hb dX7_size_15 rfl (lv_at hl 0 rfl) ?_
        refine lv_iload_n hx hb dX7_size_16 rfl (lv_at hl 1 rfl) ?_
        refine z_kVp (As := [.int (zI k)]) (rest := [.ref t0]) hE hZ (c_X7_there l D cI cJ cZ cII cZZ t0 t1 t2 t3 t4 t5 t6 t7 t8 t9 tA tB tC tD tR tS e0 eP eb er ek es ed ec ew lk lf lo lv le eW et eh ei eu em B ih iN k (zI k) (by first | assumption | omega) (hA.2.2) (by omega) (hih) (rfl)) lL_X7_there lC_X7_152 rfl [] (List.Perm.refl _) (fun u => (WQ cI cJ cZ cII cZZ [] t0 t1 t2 t3 t4 t5 t6 t7 t8 t9 tA tB tC tD tR tS e0 eP eb er ek es ed ec ew lk lf lo lv le eW et eh ei eu em)) (fun _ => List.Perm.refl _) 0 rfl ⟨by decide, by decide⟩ 0 0 rfl rfl ⟨by decide, by decide⟩ rfl hl.1 rfl (Nat.le_of_ble_eq_true rfl) dX7_size_17 (fun u H locs hq9 hZ => ?_)
        have hZ : zS D A s.heap H locs (WQ cI cJ cZ cII cZZ [] t0 t1 t2 t3 t4 t5 t6 t7 t8 t9 tA tB tC tD tR tS e0 eP eb er ek es ed ec ew lk lf lo lv le eW et eh ei eu em) := hZ
        refine W.eq (g2 := F0 mth 20 ls [.int (zB (hasS ih k)), .ref t0]) rfl ?_
        refine z_if_eq hx hb 31 dX7_size_20 (by decide) (C := (hasS ih k) = false) (zB_0 _) (fun h20 => ?_) (fun h20 => ?_)
        · skip
          have hnk : ¬ (0 ≤ f ∧ f < 32 ∧ (k = -1 ∨ hasS ih k = true)) := fun y => by
                  rcases y.2.2 with z | z
                  · omega
                  · rw [h20] at z; cases z
          refine z_iconst hx hb (nI 1) dX7_size_31 (by decide) ?_
          refine lv_goto (tgt := 36) hx hb dX7_size_32 (by decide) ?_
          refine z_iconst hx hb (nI 1) dX7_size_36 (by decide) ?_
          refine z_kVp (As := [.int (nI 1), .int (nI 1)]) (rest := []) hE hZ (c_X7_fails l D cI cJ cZ cII cZZ t0 t1 t2 t3 t4 t5 t6 t7 t8 t9 tA tB tC tD tR tS e0 eP eb er ek es ed ec ew lk lf lo lv le eW et eh ei eu em true 1 ) lL_X7_fails lC_X7_125 rfl [] (List.Perm.refl _) (fun u => (WQ cI cJ cZ cII cZZ [] t0 t1 t2 t3 t4 t5 t6 t7 t8 t9 tA tB tC tD tR tS (if true = true then 1 else 0) eP eb er ek es ed ec ew lk lf lo lv le eW et eh ei eu em)) (fun _ => List.Perm.refl _) 0 rfl ⟨by decide, by decide⟩ 0 0 rfl rfl ⟨by decide, by decide⟩ rfl hl.1 rfl (Nat.le_of_ble_eq_true rfl) dX7_size_37 (fun u H locs hq9 hZ => ?_)
          have hZ : zS D A s.heap H locs (WQ cI cJ cZ cII cZZ [] t0 t1 t2 t3 t4 t5 t6 t7 t8 t9 tA tB tC tD tR tS (if true = true then 1 else 0) eP eb er ek es ed ec ew lk lf lo lv le eW et eh ei eu em) := hZ
          refine W.eq (g2 := F0 mth 40 ls [.int (zB true)]) rfl ?_
          refine z_if_eq hx hb 45 dX7_size_40 (by decide) (C := False) (by rw [zB_0]; simp) (fun h40 => ?_) (fun h40 => ?_)
          · skip
            exact h40.elim
          · skip
            refine z_iconst hx hb (nI 0) dX7_size_43 (by decide) ?_
            refine z_top (show nI 0 = zI 0 from rfl) ?_
            exact z_iret hE hrt9 hlocks hZ ((if true = true then 1 else 0), 0) rfl (show (((if true = true then 1 else 0) = 1 ∧ ¬ (0 ≤ f ∧ f < 32 ∧ (k = -1 ∨ hasS ih k = true))) ∨ ((if true = true then 1 else 0) = 2 ∧ (0 ≤ f ∧ f < 32 ∧ (k = -1 ∨ hasS ih k = true)) ∧ ek = true) ∨ ((if true = true then 1 else 0) = 0 ∧ (0 ≤ f ∧ f < 32 ∧ (k = -1 ∨ hasS ih k = true)) ∧ ek = false ∧ 0 = (if k = -1 then es f.toNat else szL B (inoO B ih (k + 1).toNat f.toNat)))) from Or.inl ⟨rfl, hnk⟩) rfl dX7_size_44 (Nat.le_of_ble_eq_true rfl) (Nat.le_of_ble_eq_true rfl)
        · skip
          have hkk : k = -1 ∨ hasS ih k = true := Or.inr (by simpa using h20)
          refine lv_aload_n hx hb dX7_size_23 rfl (lv_at hl 0 rfl) ?_
          refine lv_iload_n hx hb dX7_size_24 rfl (lv_at hl 2 rfl) ?_
          refine z_kVp (As := [.int (zI f)]) (rest := [.ref t0]) hE hZ (c_X7_noFile l D cI cJ cZ cII cZZ t0 t1 t2 t3 t4 t5 t6 t7 t8 t9 tA tB tC tD tR tS e0 eP eb er ek es ed ec ew lk lf lo lv le eW et eh ei eu em f (zI f) (by first | assumption | omega) (rfl)) lL_X7_noFile lC_X7_122 rfl [] (List.Perm.refl _) (fun u => (WQ cI cJ cZ cII cZZ [] t0 t1 t2 t3 t4 t5 t6 t7 t8 t9 tA tB tC tD tR tS e0 eP eb er ek es ed ec ew lk lf lo lv le eW et eh ei eu em)) (fun _ => List.Perm.refl _) 0 rfl ⟨by decide, by decide⟩ 0 0 rfl rfl ⟨by decide, by decide⟩ rfl hl.1 rfl (Nat.le_of_ble_eq_true rfl) dX7_size_25 (fun u H locs hq9 hZ => ?_)
          have hZ : zS D A s.heap H locs (WQ cI cJ cZ cII cZZ [] t0 t1 t2 t3 t4 t5 t6 t7 t8 t9 tA tB tC tD tR tS e0 eP eb er ek es ed ec ew lk lf lo lv le eW et eh ei eu em) := hZ
          refine W.eq (g2 := F0 mth 28 ls [.int (zB (decide (¬ (0 ≤ f ∧ f < 32)))), .ref t0]) rfl ?_
          refine z_if_eq hx hb 35 dX7_size_28 (by decide) (C := (decide (¬ (0 ≤ f ∧ f < 32))) = false) (zB_0 _) (fun h28 => ?_) (fun h28 => ?_)
          · skip
            have hff : 0 ≤ f ∧ f < 32 := by simpa using h28
            have hok : 0 ≤ f ∧ f < 32 ∧ (k = -1 ∨ hasS ih k = true) := ⟨hff.1, hff.2, hkk⟩
            have hkr := hasS_in hkk
            refine z_iconst hx hb (nI 0) dX7_size_35 (by decide) ?_
            refine z_iconst hx hb (nI 1) dX7_size_36 (by decide) ?_
            refine z_kVp (As := [.int (nI 0), .int (nI 1)]) (rest := []) hE hZ (c_X7_fails l D cI cJ cZ cII cZZ t0 t1 t2 t3 t4 t5 t6 t7 t8 t9 tA tB tC tD tR tS e0 eP eb er ek es ed ec ew lk lf lo lv le eW et eh ei eu em false 1 ) lL_X7_fails lC_X7_125 rfl [] (List.Perm.refl _) (fun u => (WQ cI cJ cZ cII cZZ [] t0 t1 t2 t3 t4 t5 t6 t7 t8 t9 tA tB tC tD tR tS (if false = true then 1 else 0) eP eb er ek es ed ec ew lk lf lo lv le eW et eh ei eu em)) (fun _ => List.Perm.refl _) 0 rfl ⟨by decide, by decide⟩ 0 0 rfl rfl ⟨by decide, by decide⟩ rfl hl.1 rfl (Nat.le_of_ble_eq_true rfl) dX7_size_37 (fun u H locs hq9 hZ => ?_)
            have hZ : zS D A s.heap H locs (WQ cI cJ cZ cII cZZ [] t0 t1 t2 t3 t4 t5 t6 t7 t8 t9 tA tB tC tD tR tS (if false = true then 1 else 0) eP eb er ek es ed ec ew lk lf lo lv le eW et eh ei eu em) := hZ
            refine W.eq (g2 := F0 mth 40 ls [.int (zB false)]) rfl ?_
            refine z_if_eq hx hb 45 dX7_size_40 (by decide) (C := True) (by rw [zB_0]; simp) (fun h40 => ?_) (fun h40 => ?_)
            · skip
              refine lv_aload_n hx hb dX7_size_45 rfl (lv_at hl 0 rfl) ?_
              refine lv_aload_n hx hb dX7_size_46 rfl (lv_at hl 0 rfl) ?_
              refine z_get hE fF_X7_4 hZ 0 rfl (.int (zB ek)) rfl dX7_size_47 ?_
              refine z_iconst hx hb (nI 2) dX7_size_50 (by decide) ?_
              refine z_kVp (As := [.int (zB ek), .int (nI 2)]) (rest := []) hE hZ (c_X7_fails l D cI cJ cZ cII cZZ t0 t1 t2 t3 t4 t5 t6 t7 t8 t9 tA tB tC tD tR tS (if false = true then 1 else 0) eP eb er ek es ed ec ew lk lf lo lv le eW et eh ei eu em ek 2 ) lL_X7_fails lC_X7_125 rfl [] (List.Perm.refl _) (fun u => (WQ cI cJ cZ cII cZZ [] t0 t1 t2 t3 t4 t5 t6 t7 t8 t9 tA tB tC tD tR tS (if ek = true then 2 else 0) eP eb er ek es ed ec ew lk lf lo lv le eW et eh ei eu em)) (fun _ => List.Perm.refl _) 0 rfl ⟨by decide, by decide⟩ 0 0 rfl rfl ⟨by decide, by decide⟩ rfl hl.1 rfl (Nat.le_of_ble_eq_true rfl) dX7_size_51 (fun u H locs hq9 hZ => ?_)
              have hZ : zS D A s.heap H locs (WQ cI cJ cZ cII cZZ [] t0 t1 t2 t3 t4 t5 t6 t7 t8 t9 tA tB tC tD tR tS (if ek = true then 2 else 0) eP eb er ek es ed ec ew lk lf lo lv le eW et eh ei eu em) := hZ
              refine W.eq (g2 := F0 mth 54 ls [.int (zB ek)]) rfl ?_
              refine z_if_eq hx hb 59 dX7_size_54 (by decide) (C := ek = false) (zB_0 _) (fun h54 => ?_) (fun h54 => ?_)
              · skip
                have hbk : ek = false := by simpa using h54
                refine lv_aload_n hx hb dX7_size_59 rfl (lv_at hl 0 rfl) ?_
                refine lv_iload_n hx hb dX7_size_60 rfl (lv_at hl 1 rfl) ?_
                refine lv_iload_n hx hb dX7_size_61 rfl (lv_at hl 2 rfl) ?_
                refine z_top (show zI f = nI f.toNat from zI_inN (by omega) (by omega)) ?_
                refine z_kVp (As := [.int (zI k), .int (nI f.toNat)]) (rest := []) hE hZ (c_X7_sizeOf l D cI cJ cZ cII cZZ t0 t1 t2 t3 t4 t5 t6 t7 t8 t9 tA tB tC tD tR tS (if ek = true then 2 else 0) eP eb er ek es ed ec ew lk lf lo lv le eW et eh ei eu em B ro ih iN a k f.toNat (zI k) (by first | assumption | omega) (hA) (hkr) (by omega) (rfl)) lL_X7_sizeOf lC_X7_164 rfl [] (List.Perm.refl _) (fun u => (WQ cI cJ cZ cII cZZ [] t0 t1 t2 t3 t4 t5 t6 t7 t8 t9 tA tB tC tD tR tS (if ek = true then 2 else 0) eP eb er ek es ed ec ew lk lf lo lv le eW et eh ei eu em)) (fun _ => List.Perm.refl _) 0 rfl ⟨by decide, by decide⟩ 0 0 rfl rfl ⟨by decide, by decide⟩ rfl hl.1 rfl (Nat.le_of_ble_eq_true rfl) dX7_size_62 (fun u H locs hq9 hZ => ?_)
                have hZ : zS D A s.heap H locs (WQ cI cJ cZ cII cZZ [] t0 t1 t2 t3 t4 t5 t6 t7 t8 t9 tA tB tC tD tR tS (if ek = true then 2 else 0) eP eb er ek es ed ec ew lk lf lo lv le eW et eh ei eu em) := hZ
                refine W.eq (g2 := F0 mth 65 ls [.int (zI (if k = -1 then es f.toNat else szL B (inoO B ih (k + 1).toNat f.toNat)))]) rfl ?_
                exact z_iret hE hrt9 hlocks hZ ((if ek = true then 2 else 0), (if k = -1 then es f.toNat else szL B (inoO B ih (k + 1).toNat f.toNat))) rfl (show (((if ek = true then 2 else 0) = 1 ∧ ¬ (0 ≤ f ∧ f < 32 ∧ (k = -1 ∨ hasS ih k = true))) ∨ ((if ek = true then 2 else 0) = 2 ∧ (0 ≤ f ∧ f < 32 ∧ (k = -1 ∨ hasS ih k = true)) ∧ ek = true) ∨ ((if ek = true then 2 else 0) = 0 ∧ (0 ≤ f ∧ f < 32 ∧ (k = -1 ∨ hasS ih k = true)) ∧ ek = false ∧ (if k = -1 then es f.toNat else szL B (inoO B ih (k + 1).toNat f.toNat)) = (if k = -1 then es f.toNat else szL B (inoO B ih (k + 1).toNat f.toNat)))) from Or.inr (Or.inr ⟨by rw [if_neg (by rw [hbk]; simp)], hok, hbk, rfl⟩)) rfl dX7_size_65 (Nat.le_of_ble_eq_true rfl) (Nat.le_of_ble_eq_true rfl)
              · skip
                have hbk : ek = true := by simpa using h54
                refine z_iconst hx hb (nI 0) dX7_size_57 (by decide) ?_
                refine z_top (show nI 0 = zI 0 from rfl) ?_
                exact z_iret hE hrt9 hlocks hZ ((if ek = true then 2 else 0), 0) rfl (show (((if ek = true then 2 else 0) = 1 ∧ ¬ (0 ≤ f ∧ f < 32 ∧ (k = -1 ∨ hasS ih k = true))) ∨ ((if ek = true then 2 else 0) = 2 ∧ (0 ≤ f ∧ f < 32 ∧ (k = -1 ∨ hasS ih k = true)) ∧ ek = true) ∨ ((if ek = true then 2 else 0) = 0 ∧ (0 ≤ f ∧ f < 32 ∧ (k = -1 ∨ hasS ih k = true)) ∧ ek = false ∧ 0 = (if k = -1 then es f.toNat else szL B (inoO B ih (k + 1).toNat f.toNat)))) from Or.inr (Or.inl ⟨by rw [if_pos hbk], hok, hbk⟩)) rfl dX7_size_58 (Nat.le_of_ble_eq_true rfl) (Nat.le_of_ble_eq_true rfl)
            · skip
              exact absurd trivial h40
          · skip
            have hnk : ¬ (0 ≤ f ∧ f < 32 ∧ (k = -1 ∨ hasS ih k = true)) := fun y => by
                    have z : ¬ (0 ≤ f ∧ f < 32) := by simpa using h28
                    exact z ⟨y.1, y.2.1⟩
            refine z_iconst hx hb (nI 1) dX7_size_31 (by decide) ?_
            refine lv_goto (tgt := 36) hx hb dX7_size_32 (by decide) ?_
            refine z_iconst hx hb (nI 1) dX7_size_36 (by decide) ?_
            refine z_kVp (As := [.int (nI 1), .int (nI 1)]) (rest := []) hE hZ (c_X7_fails l D cI cJ cZ cII cZZ t0 t1 t2 t3 t4 t5 t6 t7 t8 t9 tA tB tC tD tR tS e0 eP eb er ek es ed ec ew lk lf lo lv le eW et eh ei eu em true 1 ) lL_X7_fails lC_X7_125 rfl [] (List.Perm.refl _) (fun u => (WQ cI cJ cZ cII cZZ [] t0 t1 t2 t3 t4 t5 t6 t7 t8 t9 tA tB tC tD tR tS (if true = true then 1 else 0) eP eb er ek es ed ec ew lk lf lo lv le eW et eh ei eu em)) (fun _ => List.Perm.refl _) 0 rfl ⟨by decide, by decide⟩ 0 0 rfl rfl ⟨by decide, by decide⟩ rfl hl.1 rfl (Nat.le_of_ble_eq_true rfl) dX7_size_37 (fun u H locs hq9 hZ => ?_)
            have hZ : zS D A s.heap H locs (WQ cI cJ cZ cII cZZ [] t0 t1 t2 t3 t4 t5 t6 t7 t8 t9 tA tB tC tD tR tS (if true = true then 1 else 0) eP eb er ek es ed ec ew lk lf lo lv le eW et eh ei eu em) := hZ
            refine W.eq (g2 := F0 mth 40 ls [.int (zB true)]) rfl ?_
            refine z_if_eq hx hb 45 dX7_size_40 (by decide) (C := False) (by rw [zB_0]; simp) (fun h40 => ?_) (fun h40 => ?_)
            · skip
              exact h40.elim
            · skip
              refine z_iconst hx hb (nI 0) dX7_size_43 (by decide) ?_
              refine z_top (show nI 0 = zI 0 from rfl) ?_
              exact z_iret hE hrt9 hlocks hZ ((if true = true then 1 else 0), 0) rfl (show (((if true = true then 1 else 0) = 1 ∧ ¬ (0 ≤ f ∧ f < 32 ∧ (k = -1 ∨ hasS ih k = true))) ∨ ((if true = true then 1 else 0) = 2 ∧ (0 ≤ f ∧ f < 32 ∧ (k = -1 ∨ hasS ih k = true)) ∧ ek = true) ∨ ((if true = true then 1 else 0) = 0 ∧ (0 ≤ f ∧ f < 32 ∧ (k = -1 ∨ hasS ih k = true)) ∧ ek = false ∧ 0 = (if k = -1 then es f.toNat else szL B (inoO B ih (k + 1).toNat f.toNat)))) from Or.inl ⟨rfl, hnk⟩) rfl dX7_size_44 (Nat.le_of_ble_eq_true rfl) (Nat.le_of_ble_eq_true rfl)
set_option maxHeartbeats 1000000 in
set_option maxRecDepth 100000 in
theorem c_X7_octet (l : Launch) (D : va_G) (cI cJ cZ cII cZZ : ClassId) (t0 : Nat) (t1 : Nat) (t2 : Nat) (t3 : Nat) (t4 : Nat) (t5 : Nat) (t6 : Nat) (t7 : Nat) (t8 : Nat) (t9 : Nat) (tA : Nat) (tB : Nat) (tC : Nat) (tD : Nat) (tR : Nat → Nat) (tS : Nat → Nat) (e0 : Nat) (eP : Nat → Nat) (eb : Int) (er : Int) (ek : Bool) (es : Nat → Int) (ed : Nat → Nat → Nat) (ec : Nat → Bool) (ew : Nat → Nat → Bool) (lk : Nat → Nat) (lf : Nat → Nat) (lo : Nat → Nat) (lv : Nat → Int64) (le : Nat) (eW : Int) (et : Nat → Nat) (eh : Nat → Nat) (ei : Nat → Int) (eu : Nat → Bool) (em : Nat) (B : Nat → Int64) (ro : Nat → Nat) (ih : Nat → Nat) (iN : Nat) (a : aM) (k : Int) (f : Int) (o : Int) (k_q : Int32) (f_q : Int32) (o_q : Int32) (hP : RP B eP) (hA : AI B ro ih iN) (hih : ∀ j, ih j < 65536) (hM : RM es ed ew ec a) (hMB : MB a) (hk : -2147483648 ≤ k ∧ k < 2147483648) (hf : -2147483648 ≤ f ∧ f < 2147483648) (ho : -2147483648 ≤ o ∧ o < 2147483648) (k_h : k_q = zI k) (f_h : f_q = zI f) (o_h : o_q = zI o) :
    zC l yX7_octet cX7_octet 4 (some .int) { frames := 4, cells := 0, slots := 0, locals := 90 } D (zT cI cJ cZ cII cZZ) [.ref t0, .int (k_q), .int (f_q), .int (o_q)] (WQ cI cJ cZ cII cZZ [] t0 t1 t2 t3 t4 t5 t6 t7 t8 t9 tA tB tC tD tR tS e0 eP eb er ek es ed ec ew lk lf lo lv le eW et eh ei eu em) (S := Nat × Nat) (fun u => some (.int (nI u.2))) (fun u => ((u.1 = 1 ∧ ¬ (0 ≤ f ∧ f < 32 ∧ (k = -1 ∨ hasS ih k = true))) ∨ (u.1 = 2 ∧ (0 ≤ f ∧ f < 32 ∧ (k = -1 ∨ hasS ih k = true)) ∧ ek = true) ∨ (u.1 = 3 ∧ (0 ≤ f ∧ f < 32 ∧ (k = -1 ∨ hasS ih k = true)) ∧ ek = false ∧ ¬ (0 ≤ o ∧ o < (if k = -1 then es f.toNat else szL B (inoO B ih (k + 1).toNat f.toNat)))) ∨ (u.1 = 0 ∧ (0 ≤ f ∧ f < 32 ∧ (k = -1 ∨ hasS ih k = true)) ∧ ek = false ∧ (0 ≤ o ∧ o < (if k = -1 then es f.toNat else szL B (inoO B ih (k + 1).toNat f.toNat))) ∧ u.2 = (if k = -1 then a.2.1 f.toNat o.toNat else po B (num B (inoO B ih (k + 1).toNat f.toNat) (1 + o.toNat / 32)) (o.toNat % 32))))) (fun u => (WQ cI cJ cZ cII cZZ [] t0 t1 t2 t3 t4 t5 t6 t7 t8 t9 tA tB tC tD tR tS u.1 eP eb er ek es ed ec ew lk lf lo lv le eW et eh ei eu em)) := by
  refine zC_of (by decide) (Nat.le_of_ble_eq_true rfl) ?_
  intro prg env s mth below meth cde A ls hE hrt9 hlocks hnm hZ hl
  have hx := hE.1
  have hb := hE.2.1
  subst k_h
  subst f_h
  subst o_h
  have hl : lv_has ls 4 [(0, .ref t0), (1, .int (zI k)), (2, .int (zI f)), (3, .int (zI o))] := hl
  refine lv_aload_n hx hb dX7_octet_0 rfl (lv_at hl 0 rfl) ?_
  refine lv_iload_n hx hb dX7_octet_1 rfl (lv_at hl 1 rfl) ?_
  refine z_iconst hx hb (zI (-1)) dX7_octet_2 (by decide) ?_
  refine z_icmp_lt hx hb 31 dX7_octet_3 (by decide) (C := (k : Int) < (-1)) (by (try simp only [zI_n]); exact zI_lt ⟨by omega, by omega⟩ ⟨by omega, by omega⟩) (fun h3 => ?_) (fun h3 => ?_)
  · skip
    have hnk : ¬ (0 ≤ f ∧ f < 32 ∧ (k = -1 ∨ hasS ih k = true)) := fun y => by
            rcases y.2.2 with z | z
            · omega
            · have w := of_decide_eq_true z
              omega
    refine z_iconst hx hb (nI 1) dX7_octet_31 (by decide) ?_
    refine lv_goto (tgt := 36) hx hb dX7_octet_32 (by decide) ?_
    refine z_iconst hx hb (nI 1) dX7_octet_36 (by decide) ?_
    refine z_kVp (As := [.int (nI 1), .int (nI 1)]) (rest := []) hE hZ (c_X7_fails l D cI cJ cZ cII cZZ t0 t1 t2 t3 t4 t5 t6 t7 t8 t9 tA tB tC tD tR tS e0 eP eb er ek es ed ec ew lk lf lo lv le eW et eh ei eu em true 1 ) lL_X7_fails lC_X7_125 rfl [] (List.Perm.refl _) (fun u => (WQ cI cJ cZ cII cZZ [] t0 t1 t2 t3 t4 t5 t6 t7 t8 t9 tA tB tC tD tR tS (if true = true then 1 else 0) eP eb er ek es ed ec ew lk lf lo lv le eW et eh ei eu em)) (fun _ => List.Perm.refl _) 0 rfl ⟨by decide, by decide⟩ 0 0 rfl rfl ⟨by decide, by decide⟩ rfl hl.1 rfl (Nat.le_of_ble_eq_true rfl) dX7_octet_37 (fun u H locs hq9 hZ => ?_)
    have hZ : zS D A s.heap H locs (WQ cI cJ cZ cII cZZ [] t0 t1 t2 t3 t4 t5 t6 t7 t8 t9 tA tB tC tD tR tS (if true = true then 1 else 0) eP eb er ek es ed ec ew lk lf lo lv le eW et eh ei eu em) := hZ
    refine W.eq (g2 := F0 mth 40 ls [.int (zB true)]) rfl ?_
    refine z_if_eq hx hb 45 dX7_octet_40 (by decide) (C := False) (by rw [zB_0]; simp) (fun h40 => ?_) (fun h40 => ?_)
    · skip
      exact h40.elim
    · skip
      refine z_iconst hx hb (nI 0) dX7_octet_43 (by decide) ?_
      exact z_iret hE hrt9 hlocks hZ ((if true = true then 1 else 0), 0) rfl (show (((if true = true then 1 else 0) = 1 ∧ ¬ (0 ≤ f ∧ f < 32 ∧ (k = -1 ∨ hasS ih k = true))) ∨ ((if true = true then 1 else 0) = 2 ∧ (0 ≤ f ∧ f < 32 ∧ (k = -1 ∨ hasS ih k = true)) ∧ ek = true) ∨ ((if true = true then 1 else 0) = 3 ∧ (0 ≤ f ∧ f < 32 ∧ (k = -1 ∨ hasS ih k = true)) ∧ ek = false ∧ ¬ (0 ≤ o ∧ o < (if k = -1 then es f.toNat else szL B (inoO B ih (k + 1).toNat f.toNat)))) ∨ ((if true = true then 1 else 0) = 0 ∧ (0 ≤ f ∧ f < 32 ∧ (k = -1 ∨ hasS ih k = true)) ∧ ek = false ∧ (0 ≤ o ∧ o < (if k = -1 then es f.toNat else szL B (inoO B ih (k + 1).toNat f.toNat))) ∧ 0 = (if k = -1 then a.2.1 f.toNat o.toNat else po B (num B (inoO B ih (k + 1).toNat f.toNat) (1 + o.toNat / 32)) (o.toNat % 32)))) from Or.inl ⟨rfl, hnk⟩) rfl dX7_octet_44 (Nat.le_of_ble_eq_true rfl) (Nat.le_of_ble_eq_true rfl)
  · skip
    refine lv_iload_n hx hb dX7_octet_6 rfl (lv_at hl 1 rfl) ?_
    refine z_iconst hx hb (nI 5) dX7_octet_7 (by decide) ?_
    refine z_icmp_ge hx hb 31 dX7_octet_8 (by decide) (C := (5 : Int) ≤ k) (by (try simp only [zI_n]); exact zI_le ⟨by omega, by omega⟩ ⟨by omega, by omega⟩) (fun h8 => ?_) (fun h8 => ?_)
    · skip
      have hnk : ¬ (0 ≤ f ∧ f < 32 ∧ (k = -1 ∨ hasS ih k = true)) := fun y => by
              rcases y.2.2 with z | z
              · omega
              · have w := of_decide_eq_true z
                omega
      refine z_iconst hx hb (nI 1) dX7_octet_31 (by decide) ?_
      refine lv_goto (tgt := 36) hx hb dX7_octet_32 (by decide) ?_
      refine z_iconst hx hb (nI 1) dX7_octet_36 (by decide) ?_
      refine z_kVp (As := [.int (nI 1), .int (nI 1)]) (rest := []) hE hZ (c_X7_fails l D cI cJ cZ cII cZZ t0 t1 t2 t3 t4 t5 t6 t7 t8 t9 tA tB tC tD tR tS e0 eP eb er ek es ed ec ew lk lf lo lv le eW et eh ei eu em true 1 ) lL_X7_fails lC_X7_125 rfl [] (List.Perm.refl _) (fun u => (WQ cI cJ cZ cII cZZ [] t0 t1 t2 t3 t4 t5 t6 t7 t8 t9 tA tB tC tD tR tS (if true = true then 1 else 0) eP eb er ek es ed ec ew lk lf lo lv le eW et eh ei eu em)) (fun _ => List.Perm.refl _) 0 rfl ⟨by decide, by decide⟩ 0 0 rfl rfl ⟨by decide, by decide⟩ rfl hl.1 rfl (Nat.le_of_ble_eq_true rfl) dX7_octet_37 (fun u H locs hq9 hZ => ?_)
      have hZ : zS D A s.heap H locs (WQ cI cJ cZ cII cZZ [] t0 t1 t2 t3 t4 t5 t6 t7 t8 t9 tA tB tC tD tR tS (if true = true then 1 else 0) eP eb er ek es ed ec ew lk lf lo lv le eW et eh ei eu em) := hZ
      refine W.eq (g2 := F0 mth 40 ls [.int (zB true)]) rfl ?_
      refine z_if_eq hx hb 45 dX7_octet_40 (by decide) (C := False) (by rw [zB_0]; simp) (fun h40 => ?_) (fun h40 => ?_)
      · skip
        exact h40.elim
      · skip
        refine z_iconst hx hb (nI 0) dX7_octet_43 (by decide) ?_
        exact z_iret hE hrt9 hlocks hZ ((if true = true then 1 else 0), 0) rfl (show (((if true = true then 1 else 0) = 1 ∧ ¬ (0 ≤ f ∧ f < 32 ∧ (k = -1 ∨ hasS ih k = true))) ∨ ((if true = true then 1 else 0) = 2 ∧ (0 ≤ f ∧ f < 32 ∧ (k = -1 ∨ hasS ih k = true)) ∧ ek = true) ∨ ((if true = true then 1 else 0) = 3 ∧ (0 ≤ f ∧ f < 32 ∧ (k = -1 ∨ hasS ih k = true)) ∧ ek = false ∧ ¬ (0 ≤ o ∧ o < (if k = -1 then es f.toNat else szL B (inoO B ih (k + 1).toNat f.toNat)))) ∨ ((if true = true then 1 else 0) = 0 ∧ (0 ≤ f ∧ f < 32 ∧ (k = -1 ∨ hasS ih k = true)) ∧ ek = false ∧ (0 ≤ o ∧ o < (if k = -1 then es f.toNat else szL B (inoO B ih (k + 1).toNat f.toNat))) ∧ 0 = (if k = -1 then a.2.1 f.toNat o.toNat else po B (num B (inoO B ih (k + 1).toNat f.toNat) (1 + o.toNat / 32)) (o.toNat % 32)))) from Or.inl ⟨rfl, hnk⟩) rfl dX7_octet_44 (Nat.le_of_ble_eq_true rfl) (Nat.le_of_ble_eq_true rfl)
    · skip
      refine lv_iload_n hx hb dX7_octet_11 rfl (lv_at hl 1 rfl) ?_
      refine z_if_lt hx hb 23 dX7_octet_12 (by decide) (C := k < 0) (zI_lt0 ⟨by omega, by omega⟩) (fun h12 => ?_) (fun h12 => ?_)
      · skip
        have hkk : k = -1 ∨ hasS ih k = true := Or.inl (by omega)
        refine lv_aload_n hx hb dX7_octet_23 rfl (lv_at hl 0 rfl) ?_
        refine lv_iload_n hx hb dX7_octet_24 rfl (lv_at hl 2 rfl) ?_
        refine z_kVp (As := [.int (zI f)]) (rest := [.ref t0]) hE hZ (c_X7_noFile l D cI cJ cZ cII cZZ t0 t1 t2 t3 t4 t5 t6 t7 t8 t9 tA tB tC tD tR tS e0 eP eb er ek es ed ec ew lk lf lo lv le eW et eh ei eu em f (zI f) (by first | assumption | omega) (rfl)) lL_X7_noFile lC_X7_122 rfl [] (List.Perm.refl _) (fun u => (WQ cI cJ cZ cII cZZ [] t0 t1 t2 t3 t4 t5 t6 t7 t8 t9 tA tB tC tD tR tS e0 eP eb er ek es ed ec ew lk lf lo lv le eW et eh ei eu em)) (fun _ => List.Perm.refl _) 0 rfl ⟨by decide, by decide⟩ 0 0 rfl rfl ⟨by decide, by decide⟩ rfl hl.1 rfl (Nat.le_of_ble_eq_true rfl) dX7_octet_25 (fun u H locs hq9 hZ => ?_)
        have hZ : zS D A s.heap H locs (WQ cI cJ cZ cII cZZ [] t0 t1 t2 t3 t4 t5 t6 t7 t8 t9 tA tB tC tD tR tS e0 eP eb er ek es ed ec ew lk lf lo lv le eW et eh ei eu em) := hZ
        refine W.eq (g2 := F0 mth 28 ls [.int (zB (decide (¬ (0 ≤ f ∧ f < 32)))), .ref t0]) rfl ?_
        refine z_if_eq hx hb 35 dX7_octet_28 (by decide) (C := (decide (¬ (0 ≤ f ∧ f < 32))) = false) (zB_0 _) (fun h28 => ?_) (fun h28 => ?_)
        · skip
          have hff : 0 ≤ f ∧ f < 32 := by simpa using h28
          have hok : 0 ≤ f ∧ f < 32 ∧ (k = -1 ∨ hasS ih k = true) := ⟨hff.1, hff.2, hkk⟩
          have hkr := hasS_in hkk
          refine z_iconst hx hb (nI 0) dX7_octet_35 (by decide) ?_
          refine z_iconst hx hb (nI 1) dX7_octet_36 (by decide) ?_
          refine z_kVp (As := [.int (nI 0), .int (nI 1)]) (rest := []) hE hZ (c_X7_fails l D cI cJ cZ cII cZZ t0 t1 t2 t3 t4 t5 t6 t7 t8 t9 tA tB tC tD tR tS e0 eP eb er ek es ed ec ew lk lf lo lv le eW et eh ei eu em false 1 ) lL_X7_fails lC_X7_125 rfl [] (List.Perm.refl _) (fun u => (WQ cI cJ cZ cII cZZ [] t0 t1 t2 t3 t4 t5 t6 t7 t8 t9 tA tB tC tD tR tS (if false = true then 1 else 0) eP eb er ek es ed ec ew lk lf lo lv le eW et eh ei eu em)) (fun _ => List.Perm.refl _) 0 rfl ⟨by decide, by decide⟩ 0 0 rfl rfl ⟨by decide, by decide⟩ rfl hl.1 rfl (Nat.le_of_ble_eq_true rfl) dX7_octet_37 (fun u H locs hq9 hZ => ?_)
          have hZ : zS D A s.heap H locs (WQ cI cJ cZ cII cZZ [] t0 t1 t2 t3 t4 t5 t6 t7 t8 t9 tA tB tC tD tR tS (if false = true then 1 else 0) eP eb er ek es ed ec ew lk lf lo lv le eW et eh ei eu em) := hZ
          refine W.eq (g2 := F0 mth 40 ls [.int (zB false)]) rfl ?_
          refine z_if_eq hx hb 45 dX7_octet_40 (by decide) (C := True) (by rw [zB_0]; simp) (fun h40 => ?_) (fun h40 => ?_)
          · skip
            refine lv_aload_n hx hb dX7_octet_45 rfl (lv_at hl 0 rfl) ?_
            refine lv_aload_n hx hb dX7_octet_46 rfl (lv_at hl 0 rfl) ?_
            refine z_get hE fF_X7_4 hZ 0 rfl (.int (zB ek)) rfl dX7_octet_47 ?_
            refine z_iconst hx hb (nI 2) dX7_octet_50 (by decide) ?_
            refine z_kVp (As := [.int (zB ek), .int (nI 2)]) (rest := []) hE hZ (c_X7_fails l D cI cJ cZ cII cZZ t0 t1 t2 t3 t4 t5 t6 t7 t8 t9 tA tB tC tD tR tS (if false = true then 1 else 0) eP eb er ek es ed ec ew lk lf lo lv le eW et eh ei eu em ek 2 ) lL_X7_fails lC_X7_125 rfl [] (List.Perm.refl _) (fun u => (WQ cI cJ cZ cII cZZ [] t0 t1 t2 t3 t4 t5 t6 t7 t8 t9 tA tB tC tD tR tS (if ek = true then 2 else 0) eP eb er ek es ed ec ew lk lf lo lv le eW et eh ei eu em)) (fun _ => List.Perm.refl _) 0 rfl ⟨by decide, by decide⟩ 0 0 rfl rfl ⟨by decide, by decide⟩ rfl hl.1 rfl (Nat.le_of_ble_eq_true rfl) dX7_octet_51 (fun u H locs hq9 hZ => ?_)
            have hZ : zS D A s.heap H locs (WQ cI cJ cZ cII cZZ [] t0 t1 t2 t3 t4 t5 t6 t7 t8 t9 tA tB tC tD tR tS (if ek = true then 2 else 0) eP eb er ek es ed ec ew lk lf lo lv le eW et eh ei eu em) := hZ
            refine W.eq (g2 := F0 mth 54 ls [.int (zB ek)]) rfl ?_
            refine z_if_eq hx hb 59 dX7_octet_54 (by decide) (C := ek = false) (zB_0 _) (fun h54 => ?_) (fun h54 => ?_)
            · skip
              have hbk : ek = false := by simpa using h54
              refine lv_aload_n hx hb dX7_octet_59 rfl (lv_at hl 0 rfl) ?_
              refine lv_iload_n hx hb dX7_octet_60 rfl (lv_at hl 3 rfl) ?_
              refine z_if_lt hx hb 74 dX7_octet_61 (by decide) (C := o < 0) (zI_lt0 ⟨by omega, by omega⟩) (fun h61 => ?_) (fun h61 => ?_)
              · skip
                have hno : ¬ (0 ≤ o ∧ o < (if k = -1 then es f.toNat else szL B (inoO B ih (k + 1).toNat f.toNat))) := fun y => by omega
                refine z_iconst hx hb (nI 1) dX7_octet_74 (by decide) ?_
                refine lv_goto (tgt := 79) hx hb dX7_octet_75 (by decide) ?_
                refine z_iconst hx hb (nI 3) dX7_octet_79 (by decide) ?_
                refine z_kVp (As := [.int (nI 1), .int (nI 3)]) (rest := []) hE hZ (c_X7_fails l D cI cJ cZ cII cZZ t0 t1 t2 t3 t4 t5 t6 t7 t8 t9 tA tB tC tD tR tS (if ek = true then 2 else 0) eP eb er ek es ed ec ew lk lf lo lv le eW et eh ei eu em true 3 ) lL_X7_fails lC_X7_125 rfl [] (List.Perm.refl _) (fun u => (WQ cI cJ cZ cII cZZ [] t0 t1 t2 t3 t4 t5 t6 t7 t8 t9 tA tB tC tD tR tS (if true = true then 3 else 0) eP eb er ek es ed ec ew lk lf lo lv le eW et eh ei eu em)) (fun _ => List.Perm.refl _) 0 rfl ⟨by decide, by decide⟩ 0 0 rfl rfl ⟨by decide, by decide⟩ rfl hl.1 rfl (Nat.le_of_ble_eq_true rfl) dX7_octet_80 (fun u H locs hq9 hZ => ?_)
                have hZ : zS D A s.heap H locs (WQ cI cJ cZ cII cZZ [] t0 t1 t2 t3 t4 t5 t6 t7 t8 t9 tA tB tC tD tR tS (if true = true then 3 else 0) eP eb er ek es ed ec ew lk lf lo lv le eW et eh ei eu em) := hZ
                refine W.eq (g2 := F0 mth 83 ls [.int (zB true)]) rfl ?_
                refine z_if_eq hx hb 88 dX7_octet_83 (by decide) (C := False) (by rw [zB_0]; simp) (fun h83 => ?_) (fun h83 => ?_)
                · skip
                  exact h83.elim
                · skip
                  refine z_iconst hx hb (nI 0) dX7_octet_86 (by decide) ?_
                  exact z_iret hE hrt9 hlocks hZ ((if true = true then 3 else 0), 0) rfl (show (((if true = true then 3 else 0) = 1 ∧ ¬ (0 ≤ f ∧ f < 32 ∧ (k = -1 ∨ hasS ih k = true))) ∨ ((if true = true then 3 else 0) = 2 ∧ (0 ≤ f ∧ f < 32 ∧ (k = -1 ∨ hasS ih k = true)) ∧ ek = true) ∨ ((if true = true then 3 else 0) = 3 ∧ (0 ≤ f ∧ f < 32 ∧ (k = -1 ∨ hasS ih k = true)) ∧ ek = false ∧ ¬ (0 ≤ o ∧ o < (if k = -1 then es f.toNat else szL B (inoO B ih (k + 1).toNat f.toNat)))) ∨ ((if true = true then 3 else 0) = 0 ∧ (0 ≤ f ∧ f < 32 ∧ (k = -1 ∨ hasS ih k = true)) ∧ ek = false ∧ (0 ≤ o ∧ o < (if k = -1 then es f.toNat else szL B (inoO B ih (k + 1).toNat f.toNat))) ∧ 0 = (if k = -1 then a.2.1 f.toNat o.toNat else po B (num B (inoO B ih (k + 1).toNat f.toNat) (1 + o.toNat / 32)) (o.toNat % 32)))) from Or.inr (Or.inr (Or.inl ⟨rfl, hok, hbk, hno⟩))) rfl dX7_octet_87 (Nat.le_of_ble_eq_true rfl) (Nat.le_of_ble_eq_true rfl)
              · skip
                refine lv_iload_n hx hb dX7_octet_64 rfl (lv_at hl 3 rfl) ?_
                refine lv_aload_n hx hb dX7_octet_65 rfl (lv_at hl 0 rfl) ?_
                refine lv_iload_n hx hb dX7_octet_66 rfl (lv_at hl 1 rfl) ?_
                refine lv_iload_n hx hb dX7_octet_67 rfl (lv_at hl 2 rfl) ?_
                refine z_top (show zI f = nI f.toNat from zI_inN (by omega) (by omega)) ?_
                refine z_kVp (As := [.int (zI k), .int (nI f.toNat)]) (rest := [.int (zI o), .ref t0]) hE hZ (c_X7_sizeOf l D cI cJ cZ cII cZZ t0 t1 t2 t3 t4 t5 t6 t7 t8 t9 tA tB tC tD tR tS (if ek = true then 2 else 0) eP eb er ek es ed ec ew lk lf lo lv le eW et eh ei eu em B ro ih iN a k f.toNat (zI k) (by first | assumption | omega) (hA) (hkr) (by omega) (rfl)) lL_X7_sizeOf lC_X7_164 rfl [] (List.Perm.refl _) (fun u => (WQ cI cJ cZ cII cZZ [] t0 t1 t2 t3 t4 t5 t6 t7 t8 t9 tA tB tC tD tR tS (if ek = true then 2 else 0) eP eb er ek es ed ec ew lk lf lo lv le eW et eh ei eu em)) (fun _ => List.Perm.refl _) 0 rfl ⟨by decide, by decide⟩ 0 0 rfl rfl ⟨by decide, by decide⟩ rfl hl.1 rfl (Nat.le_of_ble_eq_true rfl) dX7_octet_68 (fun u H locs hq9 hZ => ?_)
                have hZ : zS D A s.heap H locs (WQ cI cJ cZ cII cZZ [] t0 t1 t2 t3 t4 t5 t6 t7 t8 t9 tA tB tC tD tR tS (if ek = true then 2 else 0) eP eb er ek es ed ec ew lk lf lo lv le eW et eh ei eu em) := hZ
                refine W.eq (g2 := F0 mth 71 ls [.int (zI (if k = -1 then es f.toNat else szL B (inoO B ih (k + 1).toNat f.toNat))), .int (zI o), .ref t0]) rfl ?_
                have hsr : -1 ≤ (if k = -1 then es f.toNat else szL B (inoO B ih (k + 1).toNat f.toNat)) ∧ (if k = -1 then es f.toNat else szL B (inoO B ih (k + 1).toNat f.toNat)) ≤ 448 := by
                        by_cases z : k = -1
                        · rw [if_pos z, hM.1 f.toNat (by omega)]; exact hMB.1 f.toNat (by omega)
                        · rw [if_neg z]; exact szL_in hA.1 (inoO_ok hA.1 hA.2.1 (by omega) (by omega))
                refine z_icmp_lt hx hb 78 dX7_octet_71 (by decide) (C := o < (if k = -1 then es f.toNat else szL B (inoO B ih (k + 1).toNat f.toNat))) (zI_lt ⟨by omega, by omega⟩ ⟨by omega, by omega⟩) (fun h71 => ?_) (fun h71 => ?_)
                · skip
                  have hoo : 0 ≤ o ∧ o < (if k = -1 then es f.toNat else szL B (inoO B ih (k + 1).toNat f.toNat)) := ⟨by omega, h71⟩
                  refine z_iconst hx hb (nI 0) dX7_octet_78 (by decide) ?_
                  refine z_iconst hx hb (nI 3) dX7_octet_79 (by decide) ?_
                  refine z_kVp (As := [.int (nI 0), .int (nI 3)]) (rest := []) hE hZ (c_X7_fails l D cI cJ cZ cII cZZ t0 t1 t2 t3 t4 t5 t6 t7 t8 t9 tA tB tC tD tR tS (if ek = true then 2 else 0) eP eb er ek es ed ec ew lk lf lo lv le eW et eh ei eu em false 3 ) lL_X7_fails lC_X7_125 rfl [] (List.Perm.refl _) (fun u => (WQ cI cJ cZ cII cZZ [] t0 t1 t2 t3 t4 t5 t6 t7 t8 t9 tA tB tC tD tR tS (if false = true then 3 else 0) eP eb er ek es ed ec ew lk lf lo lv le eW et eh ei eu em)) (fun _ => List.Perm.refl _) 0 rfl ⟨by decide, by decide⟩ 0 0 rfl rfl ⟨by decide, by decide⟩ rfl hl.1 rfl (Nat.le_of_ble_eq_true rfl) dX7_octet_80 (fun u H locs hq9 hZ => ?_)
                  have hZ : zS D A s.heap H locs (WQ cI cJ cZ cII cZZ [] t0 t1 t2 t3 t4 t5 t6 t7 t8 t9 tA tB tC tD tR tS (if false = true then 3 else 0) eP eb er ek es ed ec ew lk lf lo lv le eW et eh ei eu em) := hZ
                  refine W.eq (g2 := F0 mth 83 ls [.int (zB false)]) rfl ?_
                  refine z_if_eq hx hb 88 dX7_octet_83 (by decide) (C := True) (by rw [zB_0]; simp) (fun h83 => ?_) (fun h83 => ?_)
                  · skip
                    refine lv_iload_n hx hb dX7_octet_88 rfl (lv_at hl 1 rfl) ?_
                    refine z_if_ge hx hb 103 dX7_octet_89 (by decide) (C := 0 ≤ k) (zI_ge0 ⟨by omega, by omega⟩) (fun h89 => ?_) (fun h89 => ?_)
                    · skip
                      have hk1 : ¬ k = -1 := by omega
                      rw [if_neg hk1] at hoo
                      have hin := inoO_ok hA.1 hA.2.1 (show (k + 1).toNat < 6 by omega) (show f.toNat < 32 by omega)
                      have hpl := piece_in hA.1 hin hoo
                      have hsz := szL_in hA.1 hin
                      refine lv_aload_n hx hb dX7_octet_103 rfl (lv_at hl 0 rfl) ?_
                      refine z_get hE fF_X7_1 hZ 0 rfl (.ref t1) rfl dX7_octet_104 ?_
                      refine lv_aload_n hx hb dX7_octet_107 rfl (lv_at hl 0 rfl) ?_
                      refine lv_aload_n hx hb dX7_octet_108 rfl (lv_at hl 0 rfl) ?_
                      refine lv_iload_n hx hb dX7_octet_109 rfl (lv_at hl 1 rfl) ?_
                      refine lv_iload_n hx hb dX7_octet_110 rfl (lv_at hl 2 rfl) ?_
                      refine z_top (show zI f = nI f.toNat from zI_inN (by omega) (by omega)) ?_
                      refine z_kVp (As := [.int (zI k), .int (nI f.toNat)]) (rest := [.ref t0, .ref t1]) hE hZ (c_X7_inodeOf l D cI cJ cZ cII cZZ t0 t1 t2 t3 t4 t5 t6 t7 t8 t9 tA tB tC tD tR tS (if false = true then 3 else 0) eP eb er ek es ed ec ew lk lf lo lv le eW et eh ei eu em B ro ih iN k f.toNat (zI k) (by first | assumption | omega) (hA.2.2) (hA.2.1) (hkr) (by omega) (rfl)) lL_X7_inodeOf lC_X7_89 rfl [] (List.Perm.refl _) (fun u => (WQ cI cJ cZ cII cZZ [] t0 t1 t2 t3 t4 t5 t6 t7 t8 t9 tA tB tC tD tR tS (if false = true then 3 else 0) eP eb er ek es ed ec ew lk lf lo lv le eW et eh ei eu em)) (fun _ => List.Perm.refl _) 0 rfl ⟨by decide, by decide⟩ 0 0 rfl rfl ⟨by decide, by decide⟩ rfl hl.1 rfl (Nat.le_of_ble_eq_true rfl) dX7_octet_111 (fun u H locs hq9 hZ => ?_)
                      have hZ : zS D A s.heap H locs (WQ cI cJ cZ cII cZZ [] t0 t1 t2 t3 t4 t5 t6 t7 t8 t9 tA tB tC tD tR tS (if false = true then 3 else 0) eP eb er ek es ed ec ew lk lf lo lv le eW et eh ei eu em) := hZ
                      refine W.eq (g2 := F0 mth 114 ls [.int (nI (inoO B ih (k + 1).toNat f.toNat)), .ref t0, .ref t1]) rfl ?_
                      refine z_iconst hx hb (nI 2) dX7_octet_114 (by decide) ?_
                      refine z_iconst hx hb (nI 2) dX7_octet_115 (by decide) ?_
                      refine lv_iload_n hx hb dX7_octet_116 rfl (lv_at hl 3 rfl) ?_
                      refine z_top (show zI o = nI o.toNat from zI_inN (by omega) (by omega)) ?_
                      refine z_bipush hx hb (nI 32) dX7_octet_117 (by decide) ?_
                      refine z_idiv hx hb dX7_octet_119 (by omega) (by omega) (by omega) ?_
                      refine z_imul hx hb dX7_octet_120 (z := nI (2 * (o.toNat / 32))) (pk_mul _ _) ?_
                      refine z_iadd hx hb dX7_octet_121 (z := nI (2 + (2 * (o.toNat / 32)))) (nI_add _ _) ?_
                      refine z_kVp (As := [.int (nI (inoO B ih (k + 1).toNat f.toNat)), .int (nI (2 + (2 * (o.toNat / 32))))]) (rest := [.ref t1]) hE hZ (c_X7_two l D cI cJ cZ cII cZZ t0 t1 t2 t3 t4 t5 t6 t7 t8 t9 tA tB tC tD tR tS (if false = true then 3 else 0) eP eb er ek es ed ec ew lk lf lo lv le eW et eh ei eu em B (inoO B ih (k + 1).toNat f.toNat) (2 + (2 * (o.toNat / 32))) (1 + o.toNat / 32) (by first | assumption | omega) (by rcases hin with z | z <;> omega) (by omega) (by omega)) lL_X7_two lC_X7_82 rfl [] (List.Perm.refl _) (fun u => (WQ cI cJ cZ cII cZZ [] t0 t1 t2 t3 t4 t5 t6 t7 t8 t9 tA tB tC tD tR tS (if false = true then 3 else 0) eP eb er ek es ed ec ew lk lf lo lv le eW et eh ei eu em)) (fun _ => List.Perm.refl _) 0 rfl ⟨by decide, by decide⟩ 0 0 rfl rfl ⟨by decide, by decide⟩ rfl hl.1 rfl (Nat.le_of_ble_eq_true rfl) dX7_octet_122 (fun u H locs hq9 hZ => ?_)
                      have hZ : zS D A s.heap H locs (WQ cI cJ cZ cII cZZ [] t0 t1 t2 t3 t4 t5 t6 t7 t8 t9 tA tB tC tD tR tS (if false = true then 3 else 0) eP eb er ek es ed ec ew lk lf lo lv le eW et eh ei eu em) := hZ
                      refine W.eq (g2 := F0 mth 125 ls [.int (nI (num B (inoO B ih (k + 1).toNat f.toNat) (1 + o.toNat / 32))), .ref t1]) rfl ?_
                      refine z_bipush hx hb (nI 32) dX7_octet_125 (by decide) ?_
                      refine z_imul hx hb dX7_octet_127 (z := nI ((num B (inoO B ih (k + 1).toNat f.toNat) (1 + o.toNat / 32)) * 32)) (pk_mul _ _) ?_
                      refine lv_iload_n hx hb dX7_octet_128 rfl (lv_at hl 3 rfl) ?_
                      refine z_top (show zI o = nI o.toNat from zI_inN (by omega) (by omega)) ?_
                      refine z_bipush hx hb (nI 32) dX7_octet_129 (by decide) ?_
                      refine z_irem hx hb dX7_octet_131 (by omega) (by omega) (by omega) ?_
                      refine z_iadd hx hb dX7_octet_132 (z := nI (((num B (inoO B ih (k + 1).toNat f.toNat) (1 + o.toNat / 32)) * 32) + (o.toNat % 32))) (nI_add _ _) ?_
                      refine z_iald hE hZ 1 0 rfl rfl (by decide) (by have := hpl.2; omega) dX7_octet_133 ?_
                      refine z_top (show nI (eP (((num B (inoO B ih (k + 1).toNat f.toNat) (1 + o.toNat / 32)) * 32) + (o.toNat % 32))) = nI (po B (num B (inoO B ih (k + 1).toNat f.toNat) (1 + o.toNat / 32)) (o.toNat % 32)) from by rw [hP _ _ hpl.2 (by omega)]) ?_
                      refine z_top (show nI (po B (num B (inoO B ih (k + 1).toNat f.toNat) (1 + o.toNat / 32)) (o.toNat % 32)) = nI (if k = -1 then a.2.1 f.toNat o.toNat else po B (num B (inoO B ih (k + 1).toNat f.toNat) (1 + o.toNat / 32)) (o.toNat % 32)) from by first | (have z : k = -1 := hk1; rw [if_pos z]) | (have z : ¬ k = -1 := hk1; rw [if_neg z])) ?_
                      exact z_iret hE hrt9 hlocks hZ ((if false = true then 3 else 0), (if k = -1 then a.2.1 f.toNat o.toNat else po B (num B (inoO B ih (k + 1).toNat f.toNat) (1 + o.toNat / 32)) (o.toNat % 32))) rfl (show (((if false = true then 3 else 0) = 1 ∧ ¬ (0 ≤ f ∧ f < 32 ∧ (k = -1 ∨ hasS ih k = true))) ∨ ((if false = true then 3 else 0) = 2 ∧ (0 ≤ f ∧ f < 32 ∧ (k = -1 ∨ hasS ih k = true)) ∧ ek = true) ∨ ((if false = true then 3 else 0) = 3 ∧ (0 ≤ f ∧ f < 32 ∧ (k = -1 ∨ hasS ih k = true)) ∧ ek = false ∧ ¬ (0 ≤ o ∧ o < (if k = -1 then es f.toNat else szL B (inoO B ih (k + 1).toNat f.toNat)))) ∨ ((if false = true then 3 else 0) = 0 ∧ (0 ≤ f ∧ f < 32 ∧ (k = -1 ∨ hasS ih k = true)) ∧ ek = false ∧ (0 ≤ o ∧ o < (if k = -1 then es f.toNat else szL B (inoO B ih (k + 1).toNat f.toNat))) ∧ (if k = -1 then a.2.1 f.toNat o.toNat else po B (num B (inoO B ih (k + 1).toNat f.toNat) (1 + o.toNat / 32)) (o.toNat % 32)) = (if k = -1 then a.2.1 f.toNat o.toNat else po B (num B (inoO B ih (k + 1).toNat f.toNat) (1 + o.toNat / 32)) (o.toNat % 32)))) from Or.inr (Or.inr (Or.inr ⟨rfl, hok, hbk, by first | (have z : k = -1 := hk1; rw [if_pos z]; exact hoo) | (have z : ¬ k = -1 := hk1; rw [if_neg z]; exact hoo), rfl⟩))) rfl dX7_octet_134 (Nat.le_of_ble_eq_true rfl) (Nat.le_of_ble_eq_true rfl)
                    · skip
                      have hk1 : k = -1 := by omega
                      rw [if_pos hk1] at hoo
                      have hoa : o < a.1 f.toNat := by rw [← hM.1 f.toNat (by omega)]; exact hoo.2
                      have hbf := hMB.1 f.toNat (by omega)
                      refine lv_aload_n hx hb dX7_octet_92 rfl (lv_at hl 0 rfl) ?_
                      refine z_get hE fF_X7_6 hZ 0 rfl (.ref t3) rfl dX7_octet_93 ?_
                      refine lv_iload_n hx hb dX7_octet_96 rfl (lv_at hl 2 rfl) ?_
                      refine z_top (show zI f = nI f.toNat from zI_inN (by omega) (by omega)) ?_
                      refine z_aald hE hZ 3 3 rfl rfl (by decide) (by omega) (tR f.toNat) (if_pos (by omega)) dX7_octet_97 ?_
                      refine lv_iload_n hx hb dX7_octet_98 rfl (lv_at hl 3 rfl) ?_
                      refine z_top (show zI o = nI o.toNat from zI_inN (by omega) (by omega)) ?_
                      refine z_riald hE hZ 0 rfl (by decide) (i := f.toNat) (j := o.toNat) (by omega) (by omega) dX7_octet_99 ?_
                      refine z_top (show nI (ed f.toNat o.toNat) = nI (a.2.1 f.toNat o.toNat) from by rw [hM.2.1 f.toNat o.toNat (by omega) (by omega)]) ?_
                      refine lv_goto (tgt := 134) hx hb dX7_octet_100 (by decide) ?_
                      refine z_top (show nI (a.2.1 f.toNat o.toNat) = nI (if k = -1 then a.2.1 f.toNat o.toNat else po B (num B (inoO B ih (k + 1).toNat f.toNat) (1 + o.toNat / 32)) (o.toNat % 32)) from by first | (have z : k = -1 := hk1; rw [if_pos z]) | (have z : ¬ k = -1 := hk1; rw [if_neg z])) ?_
                      exact z_iret hE hrt9 hlocks hZ ((if false = true then 3 else 0), (if k = -1 then a.2.1 f.toNat o.toNat else po B (num B (inoO B ih (k + 1).toNat f.toNat) (1 + o.toNat / 32)) (o.toNat % 32))) rfl (show (((if false = true then 3 else 0) = 1 ∧ ¬ (0 ≤ f ∧ f < 32 ∧ (k = -1 ∨ hasS ih k = true))) ∨ ((if false = true then 3 else 0) = 2 ∧ (0 ≤ f ∧ f < 32 ∧ (k = -1 ∨ hasS ih k = true)) ∧ ek = true) ∨ ((if false = true then 3 else 0) = 3 ∧ (0 ≤ f ∧ f < 32 ∧ (k = -1 ∨ hasS ih k = true)) ∧ ek = false ∧ ¬ (0 ≤ o ∧ o < (if k = -1 then es f.toNat else szL B (inoO B ih (k + 1).toNat f.toNat)))) ∨ ((if false = true then 3 else 0) = 0 ∧ (0 ≤ f ∧ f < 32 ∧ (k = -1 ∨ hasS ih k = true)) ∧ ek = false ∧ (0 ≤ o ∧ o < (if k = -1 then es f.toNat else szL B (inoO B ih (k + 1).toNat f.toNat))) ∧ (if k = -1 then a.2.1 f.toNat o.toNat else po B (num B (inoO B ih (k + 1).toNat f.toNat) (1 + o.toNat / 32)) (o.toNat % 32)) = (if k = -1 then a.2.1 f.toNat o.toNat else po B (num B (inoO B ih (k + 1).toNat f.toNat) (1 + o.toNat / 32)) (o.toNat % 32)))) from Or.inr (Or.inr (Or.inr ⟨rfl, hok, hbk, by first | (have z : k = -1 := hk1; rw [if_pos z]; exact hoo) | (have z : ¬ k = -1 := hk1; rw [if_neg z]; exact hoo), rfl⟩))) rfl dX7_octet_134 (Nat.le_of_ble_eq_true rfl) (Nat.le_of_ble_eq_true rfl)
                  · skip
                    exact absurd trivial h83
                · skip
                  have hno : ¬ (0 ≤ o ∧ o < (if k = -1 then es f.toNat else szL B (inoO B ih (k + 1).toNat f.toNat))) := fun y => h71 y.2
                  refine z_iconst hx hb (nI 1) dX7_octet_74 (by decide) ?_
                  refine lv_goto (tgt := 79) hx hb dX7_octet_75 (by decide) ?_
                  refine z_iconst hx hb (nI 3) dX7_octet_79 (by decide) ?_
                  refine z_kVp (As := [.int (nI 1), .int (nI 3)]) (rest := []) hE hZ (c_X7_fails l D cI cJ cZ cII cZZ t0 t1 t2 t3 t4 t5 t6 t7 t8 t9 tA tB tC tD tR tS (if ek = true then 2 else 0) eP eb er ek es ed ec ew lk lf lo lv le eW et eh ei eu em true 3 ) lL_X7_fails lC_X7_125 rfl [] (List.Perm.refl _) (fun u => (WQ cI cJ cZ cII cZZ [] t0 t1 t2 t3 t4 t5 t6 t7 t8 t9 tA tB tC tD tR tS (if true = true then 3 else 0) eP eb er ek es ed ec ew lk lf lo lv le eW et eh ei eu em)) (fun _ => List.Perm.refl _) 0 rfl ⟨by decide, by decide⟩ 0 0 rfl rfl ⟨by decide, by decide⟩ rfl hl.1 rfl (Nat.le_of_ble_eq_true rfl) dX7_octet_80 (fun u H locs hq9 hZ => ?_)
                  have hZ : zS D A s.heap H locs (WQ cI cJ cZ cII cZZ [] t0 t1 t2 t3 t4 t5 t6 t7 t8 t9 tA tB tC tD tR tS (if true = true then 3 else 0) eP eb er ek es ed ec ew lk lf lo lv le eW et eh ei eu em) := hZ
                  refine W.eq (g2 := F0 mth 83 ls [.int (zB true)]) rfl ?_
                  refine z_if_eq hx hb 88 dX7_octet_83 (by decide) (C := False) (by rw [zB_0]; simp) (fun h83 => ?_) (fun h83 => ?_)
                  · skip
                    exact h83.elim
                  · skip
                    refine z_iconst hx hb (nI 0) dX7_octet_86 (by decide) ?_
                    exact z_iret hE hrt9 hlocks hZ ((if true = true then 3 else 0), 0) rfl (show (((if true = true then 3 else 0) = 1 ∧ ¬ (0 ≤ f ∧ f < 32 ∧ (k = -1 ∨ hasS ih k = true))) ∨ ((if true = true then 3 else 0) = 2 ∧ (0 ≤ f ∧ f < 32 ∧ (k = -1 ∨ hasS ih k = true)) ∧ ek = true) ∨ ((if true = true then 3 else 0) = 3 ∧ (0 ≤ f ∧ f < 32 ∧ (k = -1 ∨ hasS ih k = true)) ∧ ek = false ∧ ¬ (0 ≤ o ∧ o < (if k = -1 then es f.toNat else szL B (inoO B ih (k + 1).toNat f.toNat)))) ∨ ((if true = true then 3 else 0) = 0 ∧ (0 ≤ f ∧ f < 32 ∧ (k = -1 ∨ hasS ih k = true)) ∧ ek = false ∧ (0 ≤ o ∧ o < (if k = -1 then es f.toNat else szL B (inoO B ih (k + 1).toNat f.toNat))) ∧ 0 = (if k = -1 then a.2.1 f.toNat o.toNat else po B (num B (inoO B ih (k + 1).toNat f.toNat) (1 + o.toNat / 32)) (o.toNat % 32)))) from Or.inr (Or.inr (Or.inl ⟨rfl, hok, hbk, hno⟩))) rfl dX7_octet_87 (Nat.le_of_ble_eq_true rfl) (Nat.le_of_ble_eq_true rfl)
            · skip
              have hbk : ek = true := by simpa using h54
              refine z_iconst hx hb (nI 0) dX7_octet_57 (by decide) ?_
              exact z_iret hE hrt9 hlocks hZ ((if ek = true then 2 else 0), 0) rfl (show (((if ek = true then 2 else 0) = 1 ∧ ¬ (0 ≤ f ∧ f < 32 ∧ (k = -1 ∨ hasS ih k = true))) ∨ ((if ek = true then 2 else 0) = 2 ∧ (0 ≤ f ∧ f < 32 ∧ (k = -1 ∨ hasS ih k = true)) ∧ ek = true) ∨ ((if ek = true then 2 else 0) = 3 ∧ (0 ≤ f ∧ f < 32 ∧ (k = -1 ∨ hasS ih k = true)) ∧ ek = false ∧ ¬ (0 ≤ o ∧ o < (if k = -1 then es f.toNat else szL B (inoO B ih (k + 1).toNat f.toNat)))) ∨ ((if ek = true then 2 else 0) = 0 ∧ (0 ≤ f ∧ f < 32 ∧ (k = -1 ∨ hasS ih k = true)) ∧ ek = false ∧ (0 ≤ o ∧ o < (if k = -1 then es f.toNat else szL B (inoO B ih (k + 1).toNat f.toNat))) ∧ 0 = (if k = -1 then a.2.1 f.toNat o.toNat else po B (num B (inoO B ih (k + 1).toNat f.toNat) (1 + o.toNat / 32)) (o.toNat % 32)))) from Or.inr (Or.inl ⟨by rw [if_pos hbk], hok, hbk⟩)) rfl dX7_octet_58 (Nat.le_of_ble_eq_true rfl) (Nat.le_of_ble_eq_true rfl)
          · skip
            exact absurd trivial h40
        · skip
          have hnk : ¬ (0 ≤ f ∧ f < 32 ∧ (k = -1 ∨ hasS ih k = true)) := fun y => by
                  have z : ¬ (0 ≤ f ∧ f < 32) := by simpa using h28
                  exact z ⟨y.1, y.2.1⟩
          refine z_iconst hx hb (nI 1) dX7_octet_31 (by decide) ?_
          refine lv_goto (tgt := 36) hx hb dX7_octet_32 (by decide) ?_
          refine z_iconst hx hb (nI 1) dX7_octet_36 (by decide) ?_
          refine z_kVp (As := [.int (nI 1), .int (nI 1)]) (rest := []) hE hZ (c_X7_fails l D cI cJ cZ cII cZZ t0 t1 t2 t3 t4 t5 t6 t7 t8 t9 tA tB tC tD tR tS e0 eP eb er ek es ed ec ew lk lf lo lv le eW et eh ei eu em true 1 ) lL_X7_fails lC_X7_125 rfl [] (List.Perm.refl _) (fun u => (WQ cI cJ cZ cII cZZ [] t0 t1 t2 t3 t4 t5 t6 t7 t8 t9 tA tB tC tD tR tS (if true = true then 1 else 0) eP eb er ek es ed ec ew lk lf lo lv le eW et eh ei eu em)) (fun _ => List.Perm.refl _) 0 rfl ⟨by decide, by decide⟩ 0 0 rfl rfl ⟨by decide, by decide⟩ rfl hl.1 rfl (Nat.le_of_ble_eq_true rfl) dX7_octet_37 (fun u H locs hq9 hZ => ?_)
          have hZ : zS D A s.heap H locs (WQ cI cJ cZ cII cZZ [] t0 t1 t2 t3 t4 t5 t6 t7 t8 t9 tA tB tC tD tR tS (if true = true then 1 else 0) eP eb er ek es ed ec ew lk lf lo lv le eW et eh ei eu em) := hZ
          refine W.eq (g2 := F0 mth 40 ls [.int (zB true)]) rfl ?_
          refine z_if_eq hx hb 45 dX7_octet_40 (by decide) (C := False) (by rw [zB_0]; simp) (fun h40 => ?_) (fun h40 => ?_)
          · skip
            exact h40.elim
          · skip
            refine z_iconst hx hb (nI 0) dX7_octet_43 (by decide) ?_
            exact z_iret hE hrt9 hlocks hZ ((if true = true then 1 else 0), 0) rfl (show (((if true = true then 1 else 0) = 1 ∧ ¬ (0 ≤ f ∧ f < 32 ∧ (k = -1 ∨ hasS ih k = true))) ∨ ((if true = true then 1 else 0) = 2 ∧ (0 ≤ f ∧ f < 32 ∧ (k = -1 ∨ hasS ih k = true)) ∧ ek = true) ∨ ((if true = true then 1 else 0) = 3 ∧ (0 ≤ f ∧ f < 32 ∧ (k = -1 ∨ hasS ih k = true)) ∧ ek = false ∧ ¬ (0 ≤ o ∧ o < (if k = -1 then es f.toNat else szL B (inoO B ih (k + 1).toNat f.toNat)))) ∨ ((if true = true then 1 else 0) = 0 ∧ (0 ≤ f ∧ f < 32 ∧ (k = -1 ∨ hasS ih k = true)) ∧ ek = false ∧ (0 ≤ o ∧ o < (if k = -1 then es f.toNat else szL B (inoO B ih (k + 1).toNat f.toNat))) ∧ 0 = (if k = -1 then a.2.1 f.toNat o.toNat else po B (num B (inoO B ih (k + 1).toNat f.toNat) (1 + o.toNat / 32)) (o.toNat % 32)))) from Or.inl ⟨rfl, hnk⟩) rfl dX7_octet_44 (Nat.le_of_ble_eq_true rfl) (Nat.le_of_ble_eq_true rfl)
      · skip
        refine lv_aload_n hx hb dX7_octet_15 rfl (lv_at hl 0 rfl) ?_
        refine lv_iload_n hx hb dX7_octet_16 rfl (lv_at hl 1 rfl) ?_
        refine z_kVp (As := [.int (zI k)]) (rest := [.ref t0]) hE hZ (c_X7_there l D cI cJ cZ cII cZZ t0 t1 t2 t3 t4 t5 t6 t7 t8 t9 tA tB tC tD tR tS e0 eP eb er ek es ed ec ew lk lf lo lv le eW et eh ei eu em B ih iN k (zI k) (by first | assumption | omega) (hA.2.2) (by omega) (hih) (rfl)) lL_X7_there lC_X7_152 rfl [] (List.Perm.refl _) (fun u => (WQ cI cJ cZ cII cZZ [] t0 t1 t2 t3 t4 t5 t6 t7 t8 t9 tA tB tC tD tR tS e0 eP eb er ek es ed ec ew lk lf lo lv le eW et eh ei eu em)) (fun _ => List.Perm.refl _) 0 rfl ⟨by decide, by decide⟩ 0 0 rfl rfl ⟨by decide, by decide⟩ rfl hl.1 rfl (Nat.le_of_ble_eq_true rfl) dX7_octet_17 (fun u H locs hq9 hZ => ?_)
        have hZ : zS D A s.heap H locs (WQ cI cJ cZ cII cZZ [] t0 t1 t2 t3 t4 t5 t6 t7 t8 t9 tA tB tC tD tR tS e0 eP eb er ek es ed ec ew lk lf lo lv le eW et eh ei eu em) := hZ
        refine W.eq (g2 := F0 mth 20 ls [.int (zB (hasS ih k)), .ref t0]) rfl ?_
        refine z_if_eq hx hb 31 dX7_octet_20 (by decide) (C := (hasS ih k) = false) (zB_0 _) (fun h20 => ?_) (fun h20 => ?_)
        · skip
          have hnk : ¬ (0 ≤ f ∧ f < 32 ∧ (k = -1 ∨ hasS ih k = true)) := fun y => by
                  rcases y.2.2 with z | z
                  · omega
                  · rw [h20] at z; cases z
          refine z_iconst hx hb (nI 1) dX7_octet_31 (by decide) ?_
          refine lv_goto (tgt := 36) hx hb dX7_octet_32 (by decide) ?_
          refine z_iconst hx hb (nI 1) dX7_octet_36 (by decide) ?_
          refine z_kVp (As := [.int (nI 1), .int (nI 1)]) (rest := []) hE hZ (c_X7_fails l D cI cJ cZ cII cZZ t0 t1 t2 t3 t4 t5 t6 t7 t8 t9 tA tB tC tD tR tS e0 eP eb er ek es ed ec ew lk lf lo lv le eW et eh ei eu em true 1 ) lL_X7_fails lC_X7_125 rfl [] (List.Perm.refl _) (fun u => (WQ cI cJ cZ cII cZZ [] t0 t1 t2 t3 t4 t5 t6 t7 t8 t9 tA tB tC tD tR tS (if true = true then 1 else 0) eP eb er ek es ed ec ew lk lf lo lv le eW et eh ei eu em)) (fun _ => List.Perm.refl _) 0 rfl ⟨by decide, by decide⟩ 0 0 rfl rfl ⟨by decide, by decide⟩ rfl hl.1 rfl (Nat.le_of_ble_eq_true rfl) dX7_octet_37 (fun u H locs hq9 hZ => ?_)
          have hZ : zS D A s.heap H locs (WQ cI cJ cZ cII cZZ [] t0 t1 t2 t3 t4 t5 t6 t7 t8 t9 tA tB tC tD tR tS (if true = true then 1 else 0) eP eb er ek es ed ec ew lk lf lo lv le eW et eh ei eu em) := hZ
          refine W.eq (g2 := F0 mth 40 ls [.int (zB true)]) rfl ?_
          refine z_if_eq hx hb 45 dX7_octet_40 (by decide) (C := False) (by rw [zB_0]; simp) (fun h40 => ?_) (fun h40 => ?_)
          · skip
            exact h40.elim
          · skip
            refine z_iconst hx hb (nI 0) dX7_octet_43 (by decide) ?_
            exact z_iret hE hrt9 hlocks hZ ((if true = true then 1 else 0), 0) rfl (show (((if true = true then 1 else 0) = 1 ∧ ¬ (0 ≤ f ∧ f < 32 ∧ (k = -1 ∨ hasS ih k = true))) ∨ ((if true = true then 1 else 0) = 2 ∧ (0 ≤ f ∧ f < 32 ∧ (k = -1 ∨ hasS ih k = true)) ∧ ek = true) ∨ ((if true = true then 1 else 0) = 3 ∧ (0 ≤ f ∧ f < 32 ∧ (k = -1 ∨ hasS ih k = true)) ∧ ek = false ∧ ¬ (0 ≤ o ∧ o < (if k = -1 then es f.toNat else szL B (inoO B ih (k + 1).toNat f.toNat)))) ∨ ((if true = true then 1 else 0) = 0 ∧ (0 ≤ f ∧ f < 32 ∧ (k = -1 ∨ hasS ih k = true)) ∧ ek = false ∧ (0 ≤ o ∧ o < (if k = -1 then es f.toNat else szL B (inoO B ih (k + 1).toNat f.toNat))) ∧ 0 = (if k = -1 then a.2.1 f.toNat o.toNat else po B (num B (inoO B ih (k + 1).toNat f.toNat) (1 + o.toNat / 32)) (o.toNat % 32)))) from Or.inl ⟨rfl, hnk⟩) rfl dX7_octet_44 (Nat.le_of_ble_eq_true rfl) (Nat.le_of_ble_eq_true rfl)
        · skip
          have hkk : k = -1 ∨ hasS ih k = true := Or.inr (by simpa using h20)
          refine lv_aload_n hx hb dX7_octet_23 rfl (lv_at hl 0 rfl) ?_
          refine lv_iload_n hx hb dX7_octet_24 rfl (lv_at hl 2 rfl) ?_
          refine z_kVp (As := [.int (zI f)]) (rest := [.ref t0]) hE hZ (c_X7_noFile l D cI cJ cZ cII cZZ t0 t1 t2 t3 t4 t5 t6 t7 t8 t9 tA tB tC tD tR tS e0 eP eb er ek es ed ec ew lk lf lo lv le eW et eh ei eu em f (zI f) (by first | assumption | omega) (rfl)) lL_X7_noFile lC_X7_122 rfl [] (List.Perm.refl _) (fun u => (WQ cI cJ cZ cII cZZ [] t0 t1 t2 t3 t4 t5 t6 t7 t8 t9 tA tB tC tD tR tS e0 eP eb er ek es ed ec ew lk lf lo lv le eW et eh ei eu em)) (fun _ => List.Perm.refl _) 0 rfl ⟨by decide, by decide⟩ 0 0 rfl rfl ⟨by decide, by decide⟩ rfl hl.1 rfl (Nat.le_of_ble_eq_true rfl) dX7_octet_25 (fun u H locs hq9 hZ => ?_)
          have hZ : zS D A s.heap H locs (WQ cI cJ cZ cII cZZ [] t0 t1 t2 t3 t4 t5 t6 t7 t8 t9 tA tB tC tD tR tS e0 eP eb er ek es ed ec ew lk lf lo lv le eW et eh ei eu em) := hZ
          refine W.eq (g2 := F0 mth 28 ls [.int (zB (decide (¬ (0 ≤ f ∧ f < 32)))), .ref t0]) rfl ?_
          refine z_if_eq hx hb 35 dX7_octet_28 (by decide) (C := (decide (¬ (0 ≤ f ∧ f < 32))) = false) (zB_0 _) (fun h28 => ?_) (fun h28 => ?_)
          · skip
            have hff : 0 ≤ f ∧ f < 32 := by simpa using h28
            have hok : 0 ≤ f ∧ f < 32 ∧ (k = -1 ∨ hasS ih k = true) := ⟨hff.1, hff.2, hkk⟩
            have hkr := hasS_in hkk
            refine z_iconst hx hb (nI 0) dX7_octet_35 (by decide) ?_
            refine z_iconst hx hb (nI 1) dX7_octet_36 (by decide) ?_
            refine z_kVp (As := [.int (nI 0), .int (nI 1)]) (rest := []) hE hZ (c_X7_fails l D cI cJ cZ cII cZZ t0 t1 t2 t3 t4 t5 t6 t7 t8 t9 tA tB tC tD tR tS e0 eP eb er ek es ed ec ew lk lf lo lv le eW et eh ei eu em false 1 ) lL_X7_fails lC_X7_125 rfl [] (List.Perm.refl _) (fun u => (WQ cI cJ cZ cII cZZ [] t0 t1 t2 t3 t4 t5 t6 t7 t8 t9 tA tB tC tD tR tS (if false = true then 1 else 0) eP eb er ek es ed ec ew lk lf lo lv le eW et eh ei eu em)) (fun _ => List.Perm.refl _) 0 rfl ⟨by decide, by decide⟩ 0 0 rfl rfl ⟨by decide, by decide⟩ rfl hl.1 rfl (Nat.le_of_ble_eq_true rfl) dX7_octet_37 (fun u H locs hq9 hZ => ?_)
            have hZ : zS D A s.heap H locs (WQ cI cJ cZ cII cZZ [] t0 t1 t2 t3 t4 t5 t6 t7 t8 t9 tA tB tC tD tR tS (if false = true then 1 else 0) eP eb er ek es ed ec ew lk lf lo lv le eW et eh ei eu em) := hZ
            refine W.eq (g2 := F0 mth 40 ls [.int (zB false)]) rfl ?_
            refine z_if_eq hx hb 45 dX7_octet_40 (by decide) (C := True) (by rw [zB_0]; simp) (fun h40 => ?_) (fun h40 => ?_)
            · skip
              refine lv_aload_n hx hb dX7_octet_45 rfl (lv_at hl 0 rfl) ?_
              refine lv_aload_n hx hb dX7_octet_46 rfl (lv_at hl 0 rfl) ?_
              refine z_get hE fF_X7_4 hZ 0 rfl (.int (zB ek)) rfl dX7_octet_47 ?_
              refine z_iconst hx hb (nI 2) dX7_octet_50 (by decide) ?_
              refine z_kVp (As := [.int (zB ek), .int (nI 2)]) (rest := []) hE hZ (c_X7_fails l D cI cJ cZ cII cZZ t0 t1 t2 t3 t4 t5 t6 t7 t8 t9 tA tB tC tD tR tS (if false = true then 1 else 0) eP eb er ek es ed ec ew lk lf lo lv le eW et eh ei eu em ek 2 ) lL_X7_fails lC_X7_125 rfl [] (List.Perm.refl _) (fun u => (WQ cI cJ cZ cII cZZ [] t0 t1 t2 t3 t4 t5 t6 t7 t8 t9 tA tB tC tD tR tS (if ek = true then 2 else 0) eP eb er ek es ed ec ew lk lf lo lv le eW et eh ei eu em)) (fun _ => List.Perm.refl _) 0 rfl ⟨by decide, by decide⟩ 0 0 rfl rfl ⟨by decide, by decide⟩ rfl hl.1 rfl (Nat.le_of_ble_eq_true rfl) dX7_octet_51 (fun u H locs hq9 hZ => ?_)
              have hZ : zS D A s.heap H locs (WQ cI cJ cZ cII cZZ [] t0 t1 t2 t3 t4 t5 t6 t7 t8 t9 tA tB tC tD tR tS (if ek = true then 2 else 0) eP eb er ek es ed ec ew lk lf lo lv le eW et eh ei eu em) := hZ
              refine W.eq (g2 := F0 mth 54 ls [.int (zB ek)]) rfl ?_
              refine z_if_eq hx hb 59 dX7_octet_54 (by decide) (C := ek = false) (zB_0 _) (fun h54 => ?_) (fun h54 => ?_)
              · skip
                have hbk : ek = false := by simpa using h54
                refine lv_aload_n hx hb dX7_octet_59 rfl (lv_at hl 0 rfl) ?_
                refine lv_iload_n hx hb dX7_octet_60 rfl (lv_at hl 3 rfl) ?_
                refine z_if_lt hx hb 74 dX7_octet_61 (by decide) (C := o < 0) (zI_lt0 ⟨by omega, by omega⟩) (fun h61 => ?_) (fun h61 => ?_)
                · skip
                  have hno : ¬ (0 ≤ o ∧ o < (if k = -1 then es f.toNat else szL B (inoO B ih (k + 1).toNat f.toNat))) := fun y => by omega
                  refine z_iconst hx hb (nI 1) dX7_octet_74 (by decide) ?_
                  refine lv_goto (tgt := 79) hx hb dX7_octet_75 (by decide) ?_
                  refine z_iconst hx hb (nI 3) dX7_octet_79 (by decide) ?_
                  refine z_kVp (As := [.int (nI 1), .int (nI 3)]) (rest := []) hE hZ (c_X7_fails l D cI cJ cZ cII cZZ t0 t1 t2 t3 t4 t5 t6 t7 t8 t9 tA tB tC tD tR tS (if ek = true then 2 else 0) eP eb er ek es ed ec ew lk lf lo lv le eW et eh ei eu em true 3 ) lL_X7_fails lC_X7_125 rfl [] (List.Perm.refl _) (fun u => (WQ cI cJ cZ cII cZZ [] t0 t1 t2 t3 t4 t5 t6 t7 t8 t9 tA tB tC tD tR tS (if true = true then 3 else 0) eP eb er ek es ed ec ew lk lf lo lv le eW et eh ei eu em)) (fun _ => List.Perm.refl _) 0 rfl ⟨by decide, by decide⟩ 0 0 rfl rfl ⟨by decide, by decide⟩ rfl hl.1 rfl (Nat.le_of_ble_eq_true rfl) dX7_octet_80 (fun u H locs hq9 hZ => ?_)
                  have hZ : zS D A s.heap H locs (WQ cI cJ cZ cII cZZ [] t0 t1 t2 t3 t4 t5 t6 t7 t8 t9 tA tB tC tD tR tS (if true = true then 3 else 0) eP eb er ek es ed ec ew lk lf lo lv le eW et eh ei eu em) := hZ
                  refine W.eq (g2 := F0 mth 83 ls [.int (zB true)]) rfl ?_
                  refine z_if_eq hx hb 88 dX7_octet_83 (by decide) (C := False) (by rw [zB_0]; simp) (fun h83 => ?_) (fun h83 => ?_)
                  · skip
                    exact h83.elim
                  · skip
                    refine z_iconst hx hb (nI 0) dX7_octet_86 (by decide) ?_
                    exact z_iret hE hrt9 hlocks hZ ((if true = true then 3 else 0), 0) rfl (show (((if true = true then 3 else 0) = 1 ∧ ¬ (0 ≤ f ∧ f < 32 ∧ (k = -1 ∨ hasS ih k = true))) ∨ ((if true = true then 3 else 0) = 2 ∧ (0 ≤ f ∧ f < 32 ∧ (k = -1 ∨ hasS ih k = true)) ∧ ek = true) ∨ ((if true = true then 3 else 0) = 3 ∧ (0 ≤ f ∧ f < 32 ∧ (k = -1 ∨ hasS ih k = true)) ∧ ek = false ∧ ¬ (0 ≤ o ∧ o < (if k = -1 then es f.toNat else szL B (inoO B ih (k + 1).toNat f.toNat)))) ∨ ((if true = true then 3 else 0) = 0 ∧ (0 ≤ f ∧ f < 32 ∧ (k = -1 ∨ hasS ih k = true)) ∧ ek = false ∧ (0 ≤ o ∧ o < (if k = -1 then es f.toNat else szL B (inoO B ih (k + 1).toNat f.toNat))) ∧ 0 = (if k = -1 then a.2.1 f.toNat o.toNat else po B (num B (inoO B ih (k + 1).toNat f.toNat) (1 + o.toNat / 32)) (o.toNat % 32)))) from Or.inr (Or.inr (Or.inl ⟨rfl, hok, hbk, hno⟩))) rfl dX7_octet_87 (Nat.le_of_ble_eq_true rfl) (Nat.le_of_ble_eq_true rfl)
                · skip
                  refine lv_iload_n hx hb dX7_octet_64 rfl (lv_at hl 3 rfl) ?_
                  refine lv_aload_n hx hb dX7_octet_65 rfl (lv_at hl 0 rfl) ?_
                  refine lv_iload_n hx hb dX7_octet_66 rfl (lv_at hl 1 rfl) ?_
                  refine lv_iload_n hx hb dX7_octet_67 rfl (lv_at hl 2 rfl) ?_
                  refine z_top (show zI f = nI f.toNat from zI_inN (by omega) (by omega)) ?_
                  refine z_kVp (As := [.int (zI k), .int (nI f.toNat)]) (rest := [.int (zI o), .ref t0]) hE hZ (c_X7_sizeOf l D cI cJ cZ cII cZZ t0 t1 t2 t3 t4 t5 t6 t7 t8 t9 tA tB tC tD tR tS (if ek = true then 2 else 0) eP eb er ek es ed ec ew lk lf lo lv le eW et eh ei eu em B ro ih iN a k f.toNat (zI k) (by first | assumption | omega) (hA) (hkr) (by omega) (rfl)) lL_X7_sizeOf lC_X7_164 rfl [] (List.Perm.refl _) (fun u => (WQ cI cJ cZ cII cZZ [] t0 t1 t2 t3 t4 t5 t6 t7 t8 t9 tA tB tC tD tR tS (if ek = true then 2 else 0) eP eb er ek es ed ec ew lk lf lo lv le eW et eh ei eu em)) (fun _ => List.Perm.refl _) 0 rfl ⟨by decide, by decide⟩ 0 0 rfl rfl ⟨by decide, by decide⟩ rfl hl.1 rfl (Nat.le_of_ble_eq_true rfl) dX7_octet_68 (fun u H locs hq9 hZ => ?_)
                  have hZ : zS D A s.heap H locs (WQ cI cJ cZ cII cZZ [] t0 t1 t2 t3 t4 t5 t6 t7 t8 t9 tA tB tC tD tR tS (if ek = true then 2 else 0) eP eb er ek es ed ec ew lk lf lo lv le eW et eh ei eu em) := hZ
                  refine W.eq (g2 := F0 mth 71 ls [.int (zI (if k = -1 then es f.toNat else szL B (inoO B ih (k + 1).toNat f.toNat))), .int (zI o), .ref t0]) rfl ?_
                  have hsr : -1 ≤ (if k = -1 then es f.toNat else szL B (inoO B ih (k + 1).toNat f.toNat)) ∧ (if k = -1 then es f.toNat else szL B (inoO B ih (k + 1).toNat f.toNat)) ≤ 448 := by
                          by_cases z : k = -1
                          · rw [if_pos z, hM.1 f.toNat (by omega)]; exact hMB.1 f.toNat (by omega)
                          · rw [if_neg z]; exact szL_in hA.1 (inoO_ok hA.1 hA.2.1 (by omega) (by omega))
                  refine z_icmp_lt hx hb 78 dX7_octet_71 (by decide) (C := o < (if k = -1 then es f.toNat else szL B (inoO B ih (k + 1).toNat f.toNat))) (zI_lt ⟨by omega, by omega⟩ ⟨by omega, by omega⟩) (fun h71 => ?_) (fun h71 => ?_)
                  · skip
                    have hoo : 0 ≤ o ∧ o < (if k = -1 then es f.toNat else szL B (inoO B ih (k + 1).toNat f.toNat)) := ⟨by omega, h71⟩
                    refine z_iconst hx hb (nI 0) dX7_octet_78 (by decide) ?_
                    refine z_iconst hx hb (nI 3) dX7_octet_79 (by decide) ?_
                    refine z_kVp (As := [.int (nI 0), .int (nI 3)]) (rest := []) hE hZ (c_X7_fails l D cI cJ cZ cII cZZ t0 t1 t2 t3 t4 t5 t6 t7 t8 t9 tA tB tC tD tR tS (if ek = true then 2 else 0) eP eb er ek es ed ec ew lk lf lo lv le eW et eh ei eu em false 3 ) lL_X7_fails lC_X7_125 rfl [] (List.Perm.refl _) (fun u => (WQ cI cJ cZ cII cZZ [] t0 t1 t2 t3 t4 t5 t6 t7 t8 t9 tA tB tC tD tR tS (if false = true then 3 else 0) eP eb er ek es ed ec ew lk lf lo lv le eW et eh ei eu em)) (fun _ => List.Perm.refl _) 0 rfl ⟨by decide, by decide⟩ 0 0 rfl rfl ⟨by decide, by decide⟩ rfl hl.1 rfl (Nat.le_of_ble_eq_true rfl) dX7_octet_80 (fun u H locs hq9 hZ => ?_)
                    have hZ : zS D A s.heap H locs (WQ cI cJ cZ cII cZZ [] t0 t1 t2 t3 t4 t5 t6 t7 t8 t9 tA tB tC tD tR tS (if false = true then 3 else 0) eP eb er ek es ed ec ew lk lf lo lv le eW et eh ei eu em) := hZ
                    refine W.eq (g2 := F0 mth 83 ls [.int (zB false)]) rfl ?_
                    refine z_if_eq hx hb 88 dX7_octet_83 (by decide) (C := True) (by rw [zB_0]; simp) (fun h83 => ?_) (fun h83 => ?_)
                    · skip
                      refine lv_iload_n hx hb dX7_octet_88 rfl (lv_at hl 1 rfl) ?_
                      refine z_if_ge hx hb 103 dX7_octet_89 (by decide) (C := 0 ≤ k) (zI_ge0 ⟨by omega, by omega⟩) (fun h89 => ?_) (fun h89 => ?_)
                      · skip
                        have hk1 : ¬ k = -1 := by omega
                        rw [if_neg hk1] at hoo
                        have hin := inoO_ok hA.1 hA.2.1 (show (k + 1).toNat < 6 by omega) (show f.toNat < 32 by omega)
                        have hpl := piece_in hA.1 hin hoo
                        have hsz := szL_in hA.1 hin
                        refine lv_aload_n hx hb dX7_octet_103 rfl (lv_at hl 0 rfl) ?_
                        refine z_get hE fF_X7_1 hZ 0 rfl (.ref t1) rfl dX7_octet_104 ?_
                        refine lv_aload_n hx hb dX7_octet_107 rfl (lv_at hl 0 rfl) ?_
                        refine lv_aload_n hx hb dX7_octet_108 rfl (lv_at hl 0 rfl) ?_
                        refine lv_iload_n hx hb dX7_octet_109 rfl (lv_at hl 1 rfl) ?_
                        refine lv_iload_n hx hb dX7_octet_110 rfl (lv_at hl 2 rfl) ?_
                        refine z_top (show zI f = nI f.toNat from zI_inN (by omega) (by omega)) ?_
                        refine z_kVp (As := [.int (zI k), .int (nI f.toNat)]) (rest := [.ref t0, .ref t1]) hE hZ (c_X7_inodeOf l D cI cJ cZ cII cZZ t0 t1 t2 t3 t4 t5 t6 t7 t8 t9 tA tB tC tD tR tS (if false = true then 3 else 0) eP eb er ek es ed ec ew lk lf lo lv le eW et eh ei eu em B ro ih iN k f.toNat (zI k) (by first | assumption | omega) (hA.2.2) (hA.2.1) (hkr) (by omega) (rfl)) lL_X7_inodeOf lC_X7_89 rfl [] (List.Perm.refl _) (fun u => (WQ cI cJ cZ cII cZZ [] t0 t1 t2 t3 t4 t5 t6 t7 t8 t9 tA tB tC tD tR tS (if false = true then 3 else 0) eP eb er ek es ed ec ew lk lf lo lv le eW et eh ei eu em)) (fun _ => List.Perm.refl _) 0 rfl ⟨by decide, by decide⟩ 0 0 rfl rfl ⟨by decide, by decide⟩ rfl hl.1 rfl (Nat.le_of_ble_eq_true rfl) dX7_octet_111 (fun u H locs hq9 hZ => ?_)
                        have hZ : zS D A s.heap H locs (WQ cI cJ cZ cII cZZ [] t0 t1 t2 t3 t4 t5 t6 t7 t8 t9 tA tB tC tD tR tS (if false = true then 3 else 0) eP eb er ek es ed ec ew lk lf lo lv le eW et eh ei eu em) := hZ
                        refine W.eq (g2 := F0 mth 114 ls [.int (nI (inoO B ih (k + 1).toNat f.toNat)), .ref t0, .ref t1]) rfl ?_
                        refine z_iconst hx hb (nI 2) dX7_octet_114 (by decide) ?_
                        refine z_iconst hx hb (nI 2) dX7_octet_115 (by decide) ?_
                        refine lv_iload_n hx hb dX7_octet_116 rfl (lv_at hl 3 rfl) ?_
                        refine z_top (show zI o = nI o.toNat from zI_inN (by omega) (by omega)) ?_
                        refine z_bipush hx hb (nI 32) dX7_octet_117 (by decide) ?_
                        refine z_idiv hx hb dX7_octet_119 (by omega) (by omega) (by omega) ?_
                        refine z_imul hx hb dX7_octet_120 (z := nI (2 * (o.toNat / 32))) (pk_mul _ _) ?_
                        refine z_iadd hx hb dX7_octet_121 (z := nI (2 + (2 * (o.toNat / 32)))) (nI_add _ _) ?_
                        refine z_kVp (As := [.int (nI (inoO B ih (k + 1).toNat f.toNat)), .int (nI (2 + (2 * (o.toNat / 32))))]) (rest := [.ref t1]) hE hZ (c_X7_two l D cI cJ cZ cII cZZ t0 t1 t2 t3 t4 t5 t6 t7 t8 t9 tA tB tC tD tR tS (if false = true then 3 else 0) eP eb er ek es ed ec ew lk lf lo lv le eW et eh ei eu em B (inoO B ih (k + 1).toNat f.toNat) (2 + (2 * (o.toNat / 32))) (1 + o.toNat / 32) (by first | assumption | omega) (by rcases hin with z | z <;> omega) (by omega) (by omega)) lL_X7_two lC_X7_82 rfl [] (List.Perm.refl _) (fun u => (WQ cI cJ cZ cII cZZ [] t0 t1 t2 t3 t4 t5 t6 t7 t8 t9 tA tB tC tD tR tS (if false = true then 3 else 0) eP eb er ek es ed ec ew lk lf lo lv le eW et eh ei eu em)) (fun _ => List.Perm.refl _) 0 rfl ⟨by decide, by decide⟩ 0 0 rfl rfl ⟨by decide, by decide⟩ rfl hl.1 rfl (Nat.le_of_ble_eq_true rfl) dX7_octet_122 (fun u H locs hq9 hZ => ?_)
                        have hZ : zS D A s.heap H locs (WQ cI cJ cZ cII cZZ [] t0 t1 t2 t3 t4 t5 t6 t7 t8 t9 tA tB tC tD tR tS (if false = true then 3 else 0) eP eb er ek es ed ec ew lk lf lo lv le eW et eh ei eu em) := hZ
                        refine W.eq (g2 := F0 mth 125 ls [.int (nI (num B (inoO B ih (k + 1).toNat f.toNat) (1 + o.toNat / 32))), .ref t1]) rfl ?_
                        refine z_bipush hx hb (nI 32) dX7_octet_125 (by decide) ?_
                        refine z_imul hx hb dX7_octet_127 (z := nI ((num B (inoO B ih (k + 1).toNat f.toNat) (1 + o.toNat / 32)) * 32)) (pk_mul _ _) ?_
                        refine lv_iload_n hx hb dX7_octet_128 rfl (lv_at hl 3 rfl) ?_
                        refine z_top (show zI o = nI o.toNat from zI_inN (by omega) (by omega)) ?_
                        refine z_bipush hx hb (nI 32) dX7_octet_129 (by decide) ?_
                        refine z_irem hx hb dX7_octet_131 (by omega) (by omega) (by omega) ?_
                        refine z_iadd hx hb dX7_octet_132 (z := nI (((num B (inoO B ih (k + 1).toNat f.toNat) (1 + o.toNat / 32)) * 32) + (o.toNat % 32))) (nI_add _ _) ?_
                        refine z_iald hE hZ 1 0 rfl rfl (by decide) (by have := hpl.2; omega) dX7_octet_133 ?_
                        refine z_top (show nI (eP (((num B (inoO B ih (k + 1).toNat f.toNat) (1 + o.toNat / 32)) * 32) + (o.toNat % 32))) = nI (po B (num B (inoO B ih (k + 1).toNat f.toNat) (1 + o.toNat / 32)) (o.toNat % 32)) from by rw [hP _ _ hpl.2 (by omega)]) ?_
                        refine z_top (show nI (po B (num B (inoO B ih (k + 1).toNat f.toNat) (1 + o.toNat / 32)) (o.toNat % 32)) = nI (if k = -1 then a.2.1 f.toNat o.toNat else po B (num B (inoO B ih (k + 1).toNat f.toNat) (1 + o.toNat / 32)) (o.toNat % 32)) from by first | (have z : k = -1 := hk1; rw [if_pos z]) | (have z : ¬ k = -1 := hk1; rw [if_neg z])) ?_
                        exact z_iret hE hrt9 hlocks hZ ((if false = true then 3 else 0), (if k = -1 then a.2.1 f.toNat o.toNat else po B (num B (inoO B ih (k + 1).toNat f.toNat) (1 + o.toNat / 32)) (o.toNat % 32))) rfl (show (((if false = true then 3 else 0) = 1 ∧ ¬ (0 ≤ f ∧ f < 32 ∧ (k = -1 ∨ hasS ih k = true))) ∨ ((if false = true then 3 else 0) = 2 ∧ (0 ≤ f ∧ f < 32 ∧ (k = -1 ∨ hasS ih k = true)) ∧ ek = true) ∨ ((if false = true then 3 else 0) = 3 ∧ (0 ≤ f ∧ f < 32 ∧ (k = -1 ∨ hasS ih k = true)) ∧ ek = false ∧ ¬ (0 ≤ o ∧ o < (if k = -1 then es f.toNat else szL B (inoO B ih (k + 1).toNat f.toNat)))) ∨ ((if false = true then 3 else 0) = 0 ∧ (0 ≤ f ∧ f < 32 ∧ (k = -1 ∨ hasS ih k = true)) ∧ ek = false ∧ (0 ≤ o ∧ o < (if k = -1 then es f.toNat else szL B (inoO B ih (k + 1).toNat f.toNat))) ∧ (if k = -1 then a.2.1 f.toNat o.toNat else po B (num B (inoO B ih (k + 1).toNat f.toNat) (1 + o.toNat / 32)) (o.toNat % 32)) = (if k = -1 then a.2.1 f.toNat o.toNat else po B (num B (inoO B ih (k + 1).toNat f.toNat) (1 + o.toNat / 32)) (o.toNat % 32)))) from Or.inr (Or.inr (Or.inr ⟨rfl, hok, hbk, by first | (have z : k = -1 := hk1; rw [if_pos z]; exact hoo) | (have z : ¬ k = -1 := hk1; rw [if_neg z]; exact hoo), rfl⟩))) rfl dX7_octet_134 (Nat.le_of_ble_eq_true rfl) (Nat.le_of_ble_eq_true rfl)
                      · skip
                        have hk1 : k = -1 := by omega
                        rw [if_pos hk1] at hoo
                        have hoa : o < a.1 f.toNat := by rw [← hM.1 f.toNat (by omega)]; exact hoo.2
                        have hbf := hMB.1 f.toNat (by omega)
                        refine lv_aload_n hx hb dX7_octet_92 rfl (lv_at hl 0 rfl) ?_
                        refine z_get hE fF_X7_6 hZ 0 rfl (.ref t3) rfl dX7_octet_93 ?_
                        refine lv_iload_n hx hb dX7_octet_96 rfl (lv_at hl 2 rfl) ?_
                        refine z_top (show zI f = nI f.toNat from zI_inN (by omega) (by omega)) ?_
                        refine z_aald hE hZ 3 3 rfl rfl (by decide) (by omega) (tR f.toNat) (if_pos (by omega)) dX7_octet_97 ?_
                        refine lv_iload_n hx hb dX7_octet_98 rfl (lv_at hl 3 rfl) ?_
                        refine z_top (show zI o = nI o.toNat from zI_inN (by omega) (by omega)) ?_
                        refine z_riald hE hZ 0 rfl (by decide) (i := f.toNat) (j := o.toNat) (by omega) (by omega) dX7_octet_99 ?_
                        refine z_top (show nI (ed f.toNat o.toNat) = nI (a.2.1 f.toNat o.toNat) from by rw [hM.2.1 f.toNat o.toNat (by omega) (by omega)]) ?_
                        refine lv_goto (tgt := 134) hx hb dX7_octet_100 (by decide) ?_
                        refine z_top (show nI (a.2.1 f.toNat o.toNat) = nI (if k = -1 then a.2.1 f.toNat o.toNat else po B (num B (inoO B ih (k + 1).toNat f.toNat) (1 + o.toNat / 32)) (o.toNat % 32)) from by first | (have z : k = -1 := hk1; rw [if_pos z]) | (have z : ¬ k = -1 := hk1; rw [if_neg z])) ?_
                        exact z_iret hE hrt9 hlocks hZ ((if false = true then 3 else 0), (if k = -1 then a.2.1 f.toNat o.toNat else po B (num B (inoO B ih (k + 1).toNat f.toNat) (1 + o.toNat / 32)) (o.toNat % 32))) rfl (show (((if false = true then 3 else 0) = 1 ∧ ¬ (0 ≤ f ∧ f < 32 ∧ (k = -1 ∨ hasS ih k = true))) ∨ ((if false = true then 3 else 0) = 2 ∧ (0 ≤ f ∧ f < 32 ∧ (k = -1 ∨ hasS ih k = true)) ∧ ek = true) ∨ ((if false = true then 3 else 0) = 3 ∧ (0 ≤ f ∧ f < 32 ∧ (k = -1 ∨ hasS ih k = true)) ∧ ek = false ∧ ¬ (0 ≤ o ∧ o < (if k = -1 then es f.toNat else szL B (inoO B ih (k + 1).toNat f.toNat)))) ∨ ((if false = true then 3 else 0) = 0 ∧ (0 ≤ f ∧ f < 32 ∧ (k = -1 ∨ hasS ih k = true)) ∧ ek = false ∧ (0 ≤ o ∧ o < (if k = -1 then es f.toNat else szL B (inoO B ih (k + 1).toNat f.toNat))) ∧ (if k = -1 then a.2.1 f.toNat o.toNat else po B (num B (inoO B ih (k + 1).toNat f.toNat) (1 + o.toNat / 32)) (o.toNat % 32)) = (if k = -1 then a.2.1 f.toNat o.toNat else po B (num B (inoO B ih (k + 1).toNat f.toNat) (1 + o.toNat / 32)) (o.toNat % 32)))) from Or.inr (Or.inr (Or.inr ⟨rfl, hok, hbk, by first | (have z : k = -1 := hk1; rw [if_pos z]; exact hoo) | (have z : ¬ k = -1 := hk1; rw [if_neg z]; exact hoo), rfl⟩))) rfl dX7_octet_134 (Nat.le_of_ble_eq_true rfl) (Nat.le_of_ble_eq_true rfl)
                    · skip
                      exact absurd trivial h83
                  · skip
                    have hno : ¬ (0 ≤ o ∧ o < (if k = -1 then es f.toNat else szL B (inoO B ih (k + 1).toNat f.toNat))) := fun y => h71 y.2
                    refine z_iconst hx hb (nI 1) dX7_octet_74 (by decide) ?_
                    refine lv_goto (tgt := 79) hx hb dX7_octet_75 (by decide) ?_
                    refine z_iconst hx hb (nI 3) dX7_octet_79 (by decide) ?_
                    refine z_kVp (As := [.int (nI 1), .int (nI 3)]) (rest := []) hE hZ (c_X7_fails l D cI cJ cZ cII cZZ t0 t1 t2 t3 t4 t5 t6 t7 t8 t9 tA tB tC tD tR tS (if ek = true then 2 else 0) eP eb er ek es ed ec ew lk lf lo lv le eW et eh ei eu em true 3 ) lL_X7_fails lC_X7_125 rfl [] (List.Perm.refl _) (fun u => (WQ cI cJ cZ cII cZZ [] t0 t1 t2 t3 t4 t5 t6 t7 t8 t9 tA tB tC tD tR tS (if true = true then 3 else 0) eP eb er ek es ed ec ew lk lf lo lv le eW et eh ei eu em)) (fun _ => List.Perm.refl _) 0 rfl ⟨by decide, by decide⟩ 0 0 rfl rfl ⟨by decide, by decide⟩ rfl hl.1 rfl (Nat.le_of_ble_eq_true rfl) dX7_octet_80 (fun u H locs hq9 hZ => ?_)
                    have hZ : zS D A s.heap H locs (WQ cI cJ cZ cII cZZ [] t0 t1 t2 t3 t4 t5 t6 t7 t8 t9 tA tB tC tD tR tS (if true = true then 3 else 0) eP eb er ek es ed ec ew lk lf lo lv le eW et eh ei eu em) := hZ
                    refine W.eq (g2 := F0 mth 83 ls [.int (zB true)]) rfl ?_
                    refine z_if_eq hx hb 88 dX7_octet_83 (by decide) (C := False) (by rw [zB_0]; simp) (fun h83 => ?_) (fun h83 => ?_)
                    · skip
                      exact h83.elim
                    · skip
                      refine z_iconst hx hb (nI 0) dX7_octet_86 (by decide) ?_
                      exact z_iret hE hrt9 hlocks hZ ((if true = true then 3 else 0), 0) rfl (show (((if true = true then 3 else 0) = 1 ∧ ¬ (0 ≤ f ∧ f < 32 ∧ (k = -1 ∨ hasS ih k = true))) ∨ ((if true = true then 3 else 0) = 2 ∧ (0 ≤ f ∧ f < 32 ∧ (k = -1 ∨ hasS ih k = true)) ∧ ek = true) ∨ ((if true = true then 3 else 0) = 3 ∧ (0 ≤ f ∧ f < 32 ∧ (k = -1 ∨ hasS ih k = true)) ∧ ek = false ∧ ¬ (0 ≤ o ∧ o < (if k = -1 then es f.toNat else szL B (inoO B ih (k + 1).toNat f.toNat)))) ∨ ((if true = true then 3 else 0) = 0 ∧ (0 ≤ f ∧ f < 32 ∧ (k = -1 ∨ hasS ih k = true)) ∧ ek = false ∧ (0 ≤ o ∧ o < (if k = -1 then es f.toNat else szL B (inoO B ih (k + 1).toNat f.toNat))) ∧ 0 = (if k = -1 then a.2.1 f.toNat o.toNat else po B (num B (inoO B ih (k + 1).toNat f.toNat) (1 + o.toNat / 32)) (o.toNat % 32)))) from Or.inr (Or.inr (Or.inl ⟨rfl, hok, hbk, hno⟩))) rfl dX7_octet_87 (Nat.le_of_ble_eq_true rfl) (Nat.le_of_ble_eq_true rfl)
              · skip
                have hbk : ek = true := by simpa using h54
                refine z_iconst hx hb (nI 0) dX7_octet_57 (by decide) ?_
                exact z_iret hE hrt9 hlocks hZ ((if ek = true then 2 else 0), 0) rfl (show (((if ek = true then 2 else 0) = 1 ∧ ¬ (0 ≤ f ∧ f < 32 ∧ (k = -1 ∨ hasS ih k = true))) ∨ ((if ek = true then 2 else 0) = 2 ∧ (0 ≤ f ∧ f < 32 ∧ (k = -1 ∨ hasS ih k = true)) ∧ ek = true) ∨ ((if ek = true then 2 else 0) = 3 ∧ (0 ≤ f ∧ f < 32 ∧ (k = -1 ∨ hasS ih k = true)) ∧ ek = false ∧ ¬ (0 ≤ o ∧ o < (if k = -1 then es f.toNat else szL B (inoO B ih (k + 1).toNat f.toNat)))) ∨ ((if ek = true then 2 else 0) = 0 ∧ (0 ≤ f ∧ f < 32 ∧ (k = -1 ∨ hasS ih k = true)) ∧ ek = false ∧ (0 ≤ o ∧ o < (if k = -1 then es f.toNat else szL B (inoO B ih (k + 1).toNat f.toNat))) ∧ 0 = (if k = -1 then a.2.1 f.toNat o.toNat else po B (num B (inoO B ih (k + 1).toNat f.toNat) (1 + o.toNat / 32)) (o.toNat % 32)))) from Or.inr (Or.inl ⟨by rw [if_pos hbk], hok, hbk⟩)) rfl dX7_octet_58 (Nat.le_of_ble_eq_true rfl) (Nat.le_of_ble_eq_true rfl)
            · skip
              exact absurd trivial h40
          · skip
            have hnk : ¬ (0 ≤ f ∧ f < 32 ∧ (k = -1 ∨ hasS ih k = true)) := fun y => by
                    have z : ¬ (0 ≤ f ∧ f < 32) := by simpa using h28
                    exact z ⟨y.1, y.2.1⟩
            refine z_iconst hx hb (nI 1) dX7_octet_31 (by decide) ?_
            refine lv_goto (tgt := 36) hx hb dX7_octet_32 (by decide) ?_
            refine z_iconst hx hb (nI 1) dX7_octet_36 (by decide) ?_
            refine z_kVp (As := [.int (nI 1), .int (nI 1)]) (rest := []) hE hZ (c_X7_fails l D cI cJ cZ cII cZZ t0 t1 t2 t3 t4 t5 t6 t7 t8 t9 tA tB tC tD tR tS e0 eP eb er ek es ed ec ew lk lf lo lv le eW et eh ei eu em true 1 ) lL_X7_fails lC_X7_125 rfl [] (List.Perm.refl _) (fun u => (WQ cI cJ cZ cII cZZ [] t0 t1 t2 t3 t4 t5 t6 t7 t8 t9 tA tB tC tD tR tS (if true = true then 1 else 0) eP eb er ek es ed ec ew lk lf lo lv le eW et eh ei eu em)) (fun _ => List.Perm.refl _) 0 rfl ⟨by decide, by decide⟩ 0 0 rfl rfl ⟨by decide, by decide⟩ rfl hl.1 rfl (Nat.le_of_ble_eq_true rfl) dX7_octet_37 (fun u H locs hq9 hZ => ?_)
            have hZ : zS D A s.heap H locs (WQ cI cJ cZ cII cZZ [] t0 t1 t2 t3 t4 t5 t6 t7 t8 t9 tA tB tC tD tR tS (if true = true then 1 else 0) eP eb er ek es ed ec ew lk lf lo lv le eW et eh ei eu em) := hZ
            refine W.eq (g2 := F0 mth 40 ls [.int (zB true)]) rfl ?_
            refine z_if_eq hx hb 45 dX7_octet_40 (by decide) (C := False) (by rw [zB_0]; simp) (fun h40 => ?_) (fun h40 => ?_)
            · skip
              exact h40.elim
            · skip
              refine z_iconst hx hb (nI 0) dX7_octet_43 (by decide) ?_
              exact z_iret hE hrt9 hlocks hZ ((if true = true then 1 else 0), 0) rfl (show (((if true = true then 1 else 0) = 1 ∧ ¬ (0 ≤ f ∧ f < 32 ∧ (k = -1 ∨ hasS ih k = true))) ∨ ((if true = true then 1 else 0) = 2 ∧ (0 ≤ f ∧ f < 32 ∧ (k = -1 ∨ hasS ih k = true)) ∧ ek = true) ∨ ((if true = true then 1 else 0) = 3 ∧ (0 ≤ f ∧ f < 32 ∧ (k = -1 ∨ hasS ih k = true)) ∧ ek = false ∧ ¬ (0 ≤ o ∧ o < (if k = -1 then es f.toNat else szL B (inoO B ih (k + 1).toNat f.toNat)))) ∨ ((if true = true then 1 else 0) = 0 ∧ (0 ≤ f ∧ f < 32 ∧ (k = -1 ∨ hasS ih k = true)) ∧ ek = false ∧ (0 ≤ o ∧ o < (if k = -1 then es f.toNat else szL B (inoO B ih (k + 1).toNat f.toNat))) ∧ 0 = (if k = -1 then a.2.1 f.toNat o.toNat else po B (num B (inoO B ih (k + 1).toNat f.toNat) (1 + o.toNat / 32)) (o.toNat % 32)))) from Or.inl ⟨rfl, hnk⟩) rfl dX7_octet_44 (Nat.le_of_ble_eq_true rfl) (Nat.le_of_ble_eq_true rfl)
set_option maxHeartbeats 1000000 in
set_option maxRecDepth 100000 in
theorem c_X7_count (l : Launch) (D : va_G) (cI cJ cZ cII cZZ : ClassId) (t0 : Nat) (t1 : Nat) (t2 : Nat) (t3 : Nat) (t4 : Nat) (t5 : Nat) (t6 : Nat) (t7 : Nat) (t8 : Nat) (t9 : Nat) (tA : Nat) (tB : Nat) (tC : Nat) (tD : Nat) (tR : Nat → Nat) (tS : Nat → Nat) (e0 : Nat) (eP : Nat → Nat) (eb : Int) (er : Int) (ek : Bool) (es : Nat → Int) (ed : Nat → Nat → Nat) (ec : Nat → Bool) (ew : Nat → Nat → Bool) (lk : Nat → Nat) (lf : Nat → Nat) (lo : Nat → Nat) (lv : Nat → Int64) (le : Nat) (eW : Int) (et : Nat → Nat) (eh : Nat → Nat) (ei : Nat → Int) (eu : Nat → Bool) (em : Nat) (B : Nat → Int64) (ro : Nat → Nat) (ih : Nat → Nat) (iN : Nat) (uv : Nat → Bool) (w : Int) (w_q : Int32) (hP : RP B eP) (hA : AI B ro ih iN) (hN : iN + 1 < 2 ^ 31) (hu : ∀ p, p < 600 → (uv p = true ↔ UA B ih 12 p)) (hs9 : ∀ f, f < 32 → -1 ≤ es f ∧ es f ≤ 448) (hw : -2147483648 ≤ w ∧ w < 2147483648) (hbd : -1 ≤ eb ∧ eb < 5) (hrd : -1 ≤ er ∧ er ≤ 150) (w_h : w_q = zI w) :
    zC l yX7_count cX7_count 4 (some .int) { frames := 4, cells := 0, slots := 0, locals := 91 } D (zT cI cJ cZ cII cZZ) [.ref t0, .int (w_q)] (WQ cI cJ cZ cII cZZ [] t0 t1 t2 t3 t4 t5 t6 t7 t8 t9 tA tB tC tD tR tS e0 eP eb er ek es ed ec ew lk lf lo lv le eW et eh ei eu em) (S := (Nat → Bool) × Nat × Int) (fun u => some (.int (zI u.2.2))) (fun u => ((u.2.1 = 1 ∧ ¬ (0 ≤ w ∧ w < 8)) ∨ (u.2.1 = 0 ∧ (0 ≤ w ∧ w < 8) ∧ u.2.2 = cnt8 w (iN : Int) (fc uv 600 : Int) (le : Int) eW eb (if eb < 0 then 150 else (if er < 0 then 0 else er)) (if ek then 1 else 0) (cntF es 32 : Int)))) (fun u => (WQ cI cJ cZ cII cZZ [] t0 t1 t2 t3 t4 t5 t6 t7 t8 t9 tA tB tC tD tR tS u.2.1 eP eb er ek es ed ec ew lk lf lo lv le eW et eh ei u.1 em)) := by
  refine zC_of (by decide) (Nat.le_of_ble_eq_true rfl) ?_
  intro prg env s mth below meth cde A ls hE hrt9 hlocks hnm hZ hl
  have hx := hE.1
  have hb := hE.2.1
  subst w_h
  have hl : lv_has ls 4 [(0, .ref t0), (1, .int (zI w))] := hl
  refine lv_aload_n hx hb dX7_count_0 rfl (lv_at hl 0 rfl) ?_
  refine lv_iload_n hx hb dX7_count_1 rfl (lv_at hl 1 rfl) ?_
  refine z_if_lt hx hb 11 dX7_count_2 (by decide) (C := w < 0) (zI_lt0 ⟨by omega, by omega⟩) (fun h2 => ?_) (fun h2 => ?_)
  · skip
    have hnk : ¬ (0 ≤ w ∧ w < 8) := by omega
    refine z_iconst hx hb (nI 1) dX7_count_11 (by decide) ?_
    refine lv_goto (tgt := 16) hx hb dX7_count_12 (by decide) ?_
    refine z_iconst hx hb (nI 1) dX7_count_16 (by decide) ?_
    refine z_kVp (As := [.int (nI 1), .int (nI 1)]) (rest := []) hE hZ (c_X7_fails l D cI cJ cZ cII cZZ t0 t1 t2 t3 t4 t5 t6 t7 t8 t9 tA tB tC tD tR tS e0 eP eb er ek es ed ec ew lk lf lo lv le eW et eh ei eu em true 1 ) lL_X7_fails lC_X7_125 rfl [] (List.Perm.refl _) (fun u => (WQ cI cJ cZ cII cZZ [] t0 t1 t2 t3 t4 t5 t6 t7 t8 t9 tA tB tC tD tR tS (if true = true then 1 else 0) eP eb er ek es ed ec ew lk lf lo lv le eW et eh ei eu em)) (fun _ => List.Perm.refl _) 0 rfl ⟨by decide, by decide⟩ 0 0 rfl rfl ⟨by decide, by decide⟩ rfl hl.1 rfl (Nat.le_of_ble_eq_true rfl) dX7_count_17 (fun u H locs hq9 hZ => ?_)
    have hZ : zS D A s.heap H locs (WQ cI cJ cZ cII cZZ [] t0 t1 t2 t3 t4 t5 t6 t7 t8 t9 tA tB tC tD tR tS (if true = true then 1 else 0) eP eb er ek es ed ec ew lk lf lo lv le eW et eh ei eu em) := hZ
    refine W.eq (g2 := F0 mth 20 ls [.int (zB true)]) rfl ?_
    refine z_if_eq hx hb 25 dX7_count_20 (by decide) (C := False) (by rw [zB_0]; simp) (fun h20 => ?_) (fun h20 => ?_)
    · skip
      exact h20.elim
    · skip
      refine z_iconst hx hb (nI 0) dX7_count_23 (by decide) ?_
      refine z_top (show nI 0 = zI 0 from rfl) ?_
      exact z_iret hE hrt9 hlocks hZ (eu, (if true = true then 1 else 0), 0) rfl (show (((if true = true then 1 else 0) = 1 ∧ ¬ (0 ≤ w ∧ w < 8)) ∨ ((if true = true then 1 else 0) = 0 ∧ (0 ≤ w ∧ w < 8) ∧ 0 = cnt8 w (iN : Int) (fc uv 600 : Int) (le : Int) eW eb (if eb < 0 then 150 else (if er < 0 then 0 else er)) (if ek then 1 else 0) (cntF es 32 : Int))) from Or.inl ⟨rfl, hnk⟩) rfl dX7_count_24 (Nat.le_of_ble_eq_true rfl) (Nat.le_of_ble_eq_true rfl)
  · skip
    refine lv_iload_n hx hb dX7_count_5 rfl (lv_at hl 1 rfl) ?_
    refine z_bipush hx hb (nI 7) dX7_count_6 (by decide) ?_
    refine z_icmp_le hx hb 15 dX7_count_8 (by decide) (C := (w : Int) ≤ 7) (by (try simp only [zI_n]); exact zI_le ⟨by omega, by omega⟩ ⟨by omega, by omega⟩) (fun h8 => ?_) (fun h8 => ?_)
    · skip
      have hok : 0 ≤ w ∧ w < 8 := by omega
      refine z_iconst hx hb (nI 0) dX7_count_15 (by decide) ?_
      refine z_iconst hx hb (nI 1) dX7_count_16 (by decide) ?_
      refine z_kVp (As := [.int (nI 0), .int (nI 1)]) (rest := []) hE hZ (c_X7_fails l D cI cJ cZ cII cZZ t0 t1 t2 t3 t4 t5 t6 t7 t8 t9 tA tB tC tD tR tS e0 eP eb er ek es ed ec ew lk lf lo lv le eW et eh ei eu em false 1 ) lL_X7_fails lC_X7_125 rfl [] (List.Perm.refl _) (fun u => (WQ cI cJ cZ cII cZZ [] t0 t1 t2 t3 t4 t5 t6 t7 t8 t9 tA tB tC tD tR tS (if false = true then 1 else 0) eP eb er ek es ed ec ew lk lf lo lv le eW et eh ei eu em)) (fun _ => List.Perm.refl _) 0 rfl ⟨by decide, by decide⟩ 0 0 rfl rfl ⟨by decide, by decide⟩ rfl hl.1 rfl (Nat.le_of_ble_eq_true rfl) dX7_count_17 (fun u H locs hq9 hZ => ?_)
      have hZ : zS D A s.heap H locs (WQ cI cJ cZ cII cZZ [] t0 t1 t2 t3 t4 t5 t6 t7 t8 t9 tA tB tC tD tR tS (if false = true then 1 else 0) eP eb er ek es ed ec ew lk lf lo lv le eW et eh ei eu em) := hZ
      refine W.eq (g2 := F0 mth 20 ls [.int (zB false)]) rfl ?_
      refine z_if_eq hx hb 25 dX7_count_20 (by decide) (C := True) (by rw [zB_0]; simp) (fun h20 => ?_) (fun h20 => ?_)
      · skip
        refine z_iconst hx hb (nI 0) dX7_count_25 (by decide) ?_
        refine lv_istore_n (lv' := [(2, .int (nI 0)), (0, .ref t0), (1, .int (zI w))]) hx hb dX7_count_26 rfl hl (by decide) rfl (fun ls hl => ?_)
        refine lv_iload_n hx hb dX7_count_27 rfl (lv_at hl 2 rfl) ?_
        refine z_iconst hx hb (nI 1) dX7_count_28 (by decide) ?_
        refine z_icmp_ne hx hb 65 dX7_count_29 (by decide) (C := (w : Int) = 1) (by (try simp only [zI_n]); exact zI_eq ⟨by omega, by omega⟩ ⟨by omega, by omega⟩) (fun h29 => ?_) (fun h29 => ?_)
        · skip
          refine z_iconst hx hb (nI 0) dX7_count_65 (by decide) ?_
          refine lv_istore_n (lv' := [(3, .int (nI 0)), (2, .int (nI 0)), (0, .ref t0), (1, .int (zI w))]) hx hb dX7_count_66 rfl hl (by decide) rfl (fun ls hl => ?_)
          refine z_loop (σ := Nat × Nat) (fun (f, n) H locs ls => (f ≤ 32) ∧ (n = cntF es f) ∧ zS D A s.heap H locs (WQ cI cJ cZ cII cZZ [] t0 t1 t2 t3 t4 t5 t6 t7 t8 t9 tA tB tC tD tR tS (if false = true then 1 else 0) eP eb er ek es ed ec ew lk lf lo lv le eW et eh ei eu em) ∧ lv_has ls 4 [(0, .ref t0), (1, .int (zI w)), (2, .int (nI n)), (3, .int (nI f))]) (fun (f, n) => 32 - f) [] (0, 0) ⟨by omega, rfl, hZ, lv_sub hl [2, 3, 1, 0] (by first | rfl | (simp only [lv_pick]; rfl))⟩ ?_
          intro x H locs ls hI ih67
          obtain ⟨f, n⟩ := x
          obtain ⟨hf, hn2, hZ, hl⟩ := hI
          refine lv_iload_n hx hb dX7_count_67 rfl (lv_at hl 3 rfl) ?_
          refine z_bipush hx hb (nI 32) dX7_count_68 (by decide) ?_
          refine z_icmp_ge hx hb 91 dX7_count_70 (by decide) (C := 32 ≤ f) (nIle (by omega) (by omega)) (fun h70 => ?_) (fun h70 => ?_)
          · skip
            refine lv_iload_n hx hb dX7_count_91 rfl (lv_at hl 1 rfl) ?_
            have htS : (zI w).toInt = w := by first | rw [zI_toInt ⟨by omega, by omega⟩] | rw [zI_n, zI_toInt ⟨by omega, by omega⟩]
            rcases (show w < 0 ∨ 6 < w ∨ w = 0 ∨ w = 1 ∨ w = 2 ∨ w = 3 ∨ w = 4 ∨ w = 5 ∨ w = 6 by omega) with hS | hS | hS | hS | hS | hS | hS | hS | hS
            · refine lv_tableOut (tgt := 191) hx hb dX7_count_92 (by rw [htS]; omega) (by decide) ?_
              refine lv_iload_n hx hb dX7_count_191 rfl (lv_at hl 2 rfl) ?_
              refine z_top (show nI n = zI (cnt8 w (iN : Int) (fc uv 600 : Int) (le : Int) eW eb (if eb < 0 then 150 else (if er < 0 then 0 else er)) (if ek then 1 else 0) (cntF es 32 : Int)) from by rw [zI_n, hn2, show f = 32 by omega]; congr 1; unfold cnt8; rw [if_neg (by omega), if_neg (by omega), if_neg (by omega), if_neg (by omega), if_neg (by omega), if_neg (by omega), if_neg (by omega)]) ?_
              exact z_iret hE hrt9 hlocks hZ (eu, (if false = true then 1 else 0), cnt8 w (iN : Int) (fc uv 600 : Int) (le : Int) eW eb (if eb < 0 then 150 else (if er < 0 then 0 else er)) (if ek then 1 else 0) (cntF es 32 : Int)) rfl (show (((if false = true then 1 else 0) = 1 ∧ ¬ (0 ≤ w ∧ w < 8)) ∨ ((if false = true then 1 else 0) = 0 ∧ (0 ≤ w ∧ w < 8) ∧ (cnt8 w (iN : Int) (fc uv 600 : Int) (le : Int) eW eb (if eb < 0 then 150 else (if er < 0 then 0 else er)) (if ek then 1 else 0) (cntF es 32 : Int)) = cnt8 w (iN : Int) (fc uv 600 : Int) (le : Int) eW eb (if eb < 0 then 150 else (if er < 0 then 0 else er)) (if ek then 1 else 0) (cntF es 32 : Int))) from Or.inr ⟨rfl, hok, rfl⟩) rfl dX7_count_192 (Nat.le_of_ble_eq_true rfl) (Nat.le_of_ble_eq_true rfl)
            · refine lv_tableOut (tgt := 191) hx hb dX7_count_92 (by rw [htS]; omega) (by decide) ?_
              refine lv_iload_n hx hb dX7_count_191 rfl (lv_at hl 2 rfl) ?_
              refine z_top (show nI n = zI (cnt8 w (iN : Int) (fc uv 600 : Int) (le : Int) eW eb (if eb < 0 then 150 else (if er < 0 then 0 else er)) (if ek then 1 else 0) (cntF es 32 : Int)) from by rw [zI_n, hn2, show f = 32 by omega]; congr 1; unfold cnt8; rw [if_neg (by omega), if_neg (by omega), if_neg (by omega), if_neg (by omega), if_neg (by omega), if_neg (by omega), if_neg (by omega)]) ?_
              exact z_iret hE hrt9 hlocks hZ (eu, (if false = true then 1 else 0), cnt8 w (iN : Int) (fc uv 600 : Int) (le : Int) eW eb (if eb < 0 then 150 else (if er < 0 then 0 else er)) (if ek then 1 else 0) (cntF es 32 : Int)) rfl (show (((if false = true then 1 else 0) = 1 ∧ ¬ (0 ≤ w ∧ w < 8)) ∨ ((if false = true then 1 else 0) = 0 ∧ (0 ≤ w ∧ w < 8) ∧ (cnt8 w (iN : Int) (fc uv 600 : Int) (le : Int) eW eb (if eb < 0 then 150 else (if er < 0 then 0 else er)) (if ek then 1 else 0) (cntF es 32 : Int)) = cnt8 w (iN : Int) (fc uv 600 : Int) (le : Int) eW eb (if eb < 0 then 150 else (if er < 0 then 0 else er)) (if ek then 1 else 0) (cntF es 32 : Int))) from Or.inr ⟨rfl, hok, rfl⟩) rfl dX7_count_192 (Nat.le_of_ble_eq_true rfl) (Nat.le_of_ble_eq_true rfl)
            · refine lv_tableIn (off := 44) (tgt := 136) hx hb dX7_count_92 (by rw [htS]; omega) (by rw [htS]; omega) (by rw [htS, hS]; rfl) (by decide) ?_
              refine lv_aload_n hx hb dX7_count_136 rfl (lv_at hl 0 rfl) ?_
              refine z_kVp (As := []) (rest := []) hE hZ (c_X7_number l D cI cJ cZ cII cZZ t0 t1 t2 t3 t4 t5 t6 t7 t8 t9 tA tB tC tD tR tS (if false = true then 1 else 0) eP eb er ek es ed ec ew lk lf lo lv le eW et eh ei eu em B ro ih iN (by first | assumption | omega) (hA) (by omega)) lL_X7_number lC_X7_145 rfl [] (List.Perm.refl _) (fun u => (WQ cI cJ cZ cII cZZ [] t0 t1 t2 t3 t4 t5 t6 t7 t8 t9 tA tB tC tD tR tS (if false = true then 1 else 0) eP eb er ek es ed ec ew lk lf lo lv le eW et eh ei eu em)) (fun _ => List.Perm.refl _) 0 rfl ⟨by decide, by decide⟩ 0 0 rfl rfl ⟨by decide, by decide⟩ rfl hl.1 rfl (Nat.le_of_ble_eq_true rfl) dX7_count_137 (fun u H locs hq9 hZ => ?_)
              have hZ : zS D A s.heap H locs (WQ cI cJ cZ cII cZZ [] t0 t1 t2 t3 t4 t5 t6 t7 t8 t9 tA tB tC tD tR tS (if false = true then 1 else 0) eP eb er ek es ed ec ew lk lf lo lv le eW et eh ei eu em) := hZ
              refine W.eq (g2 := F0 mth 140 ls [.int (nI iN)]) rfl ?_
              refine z_top (show nI iN = zI (cnt8 w (iN : Int) (fc uv 600 : Int) (le : Int) eW eb (if eb < 0 then 150 else (if er < 0 then 0 else er)) (if ek then 1 else 0) (cntF es 32 : Int)) from by subst hS; first | rfl | (rw [zI_n]; rfl)) ?_
              exact z_iret hE hrt9 hlocks hZ (eu, (if false = true then 1 else 0), cnt8 w (iN : Int) (fc uv 600 : Int) (le : Int) eW eb (if eb < 0 then 150 else (if er < 0 then 0 else er)) (if ek then 1 else 0) (cntF es 32 : Int)) rfl (show (((if false = true then 1 else 0) = 1 ∧ ¬ (0 ≤ w ∧ w < 8)) ∨ ((if false = true then 1 else 0) = 0 ∧ (0 ≤ w ∧ w < 8) ∧ (cnt8 w (iN : Int) (fc uv 600 : Int) (le : Int) eW eb (if eb < 0 then 150 else (if er < 0 then 0 else er)) (if ek then 1 else 0) (cntF es 32 : Int)) = cnt8 w (iN : Int) (fc uv 600 : Int) (le : Int) eW eb (if eb < 0 then 150 else (if er < 0 then 0 else er)) (if ek then 1 else 0) (cntF es 32 : Int))) from Or.inr ⟨rfl, hok, rfl⟩) rfl dX7_count_140 (Nat.le_of_ble_eq_true rfl) (Nat.le_of_ble_eq_true rfl)
            · refine lv_tableIn (off := 99) (tgt := 191) hx hb dX7_count_92 (by rw [htS]; omega) (by rw [htS]; omega) (by rw [htS, hS]; rfl) (by decide) ?_
              exfalso
              omega
            · refine lv_tableIn (off := 49) (tgt := 141) hx hb dX7_count_92 (by rw [htS]; omega) (by rw [htS]; omega) (by rw [htS, hS]; rfl) (by decide) ?_
              refine lv_aload_n hx hb dX7_count_141 rfl (lv_at hl 0 rfl) ?_
              refine z_get hE fF_X7_13 hZ 0 rfl (.int (nI le)) rfl dX7_count_142 ?_
              refine z_top (show nI le = zI (cnt8 w (iN : Int) (fc uv 600 : Int) (le : Int) eW eb (if eb < 0 then 150 else (if er < 0 then 0 else er)) (if ek then 1 else 0) (cntF es 32 : Int)) from by subst hS; first | rfl | (rw [zI_n]; rfl)) ?_
              exact z_iret hE hrt9 hlocks hZ (eu, (if false = true then 1 else 0), cnt8 w (iN : Int) (fc uv 600 : Int) (le : Int) eW eb (if eb < 0 then 150 else (if er < 0 then 0 else er)) (if ek then 1 else 0) (cntF es 32 : Int)) rfl (show (((if false = true then 1 else 0) = 1 ∧ ¬ (0 ≤ w ∧ w < 8)) ∨ ((if false = true then 1 else 0) = 0 ∧ (0 ≤ w ∧ w < 8) ∧ (cnt8 w (iN : Int) (fc uv 600 : Int) (le : Int) eW eb (if eb < 0 then 150 else (if er < 0 then 0 else er)) (if ek then 1 else 0) (cntF es 32 : Int)) = cnt8 w (iN : Int) (fc uv 600 : Int) (le : Int) eW eb (if eb < 0 then 150 else (if er < 0 then 0 else er)) (if ek then 1 else 0) (cntF es 32 : Int))) from Or.inr ⟨rfl, hok, rfl⟩) rfl dX7_count_145 (Nat.le_of_ble_eq_true rfl) (Nat.le_of_ble_eq_true rfl)
            · refine lv_tableIn (off := 54) (tgt := 146) hx hb dX7_count_92 (by rw [htS]; omega) (by rw [htS]; omega) (by rw [htS, hS]; rfl) (by decide) ?_
              refine lv_aload_n hx hb dX7_count_146 rfl (lv_at hl 0 rfl) ?_
              refine z_get hE fF_X7_14 hZ 0 rfl (.int (zI eW)) rfl dX7_count_147 ?_
              refine z_top (show zI eW = zI (cnt8 w (iN : Int) (fc uv 600 : Int) (le : Int) eW eb (if eb < 0 then 150 else (if er < 0 then 0 else er)) (if ek then 1 else 0) (cntF es 32 : Int)) from by subst hS; first | rfl | (rw [zI_n]; rfl)) ?_
              exact z_iret hE hrt9 hlocks hZ (eu, (if false = true then 1 else 0), cnt8 w (iN : Int) (fc uv 600 : Int) (le : Int) eW eb (if eb < 0 then 150 else (if er < 0 then 0 else er)) (if ek then 1 else 0) (cntF es 32 : Int)) rfl (show (((if false = true then 1 else 0) = 1 ∧ ¬ (0 ≤ w ∧ w < 8)) ∨ ((if false = true then 1 else 0) = 0 ∧ (0 ≤ w ∧ w < 8) ∧ (cnt8 w (iN : Int) (fc uv 600 : Int) (le : Int) eW eb (if eb < 0 then 150 else (if er < 0 then 0 else er)) (if ek then 1 else 0) (cntF es 32 : Int)) = cnt8 w (iN : Int) (fc uv 600 : Int) (le : Int) eW eb (if eb < 0 then 150 else (if er < 0 then 0 else er)) (if ek then 1 else 0) (cntF es 32 : Int))) from Or.inr ⟨rfl, hok, rfl⟩) rfl dX7_count_150 (Nat.le_of_ble_eq_true rfl) (Nat.le_of_ble_eq_true rfl)
            · refine lv_tableIn (off := 59) (tgt := 151) hx hb dX7_count_92 (by rw [htS]; omega) (by rw [htS]; omega) (by rw [htS, hS]; rfl) (by decide) ?_
              refine lv_aload_n hx hb dX7_count_151 rfl (lv_at hl 0 rfl) ?_
              refine z_get hE fF_X7_2 hZ 0 rfl (.int (zI eb)) rfl dX7_count_152 ?_
              refine z_top (show zI eb = zI (cnt8 w (iN : Int) (fc uv 600 : Int) (le : Int) eW eb (if eb < 0 then 150 else (if er < 0 then 0 else er)) (if ek then 1 else 0) (cntF es 32 : Int)) from by subst hS; first | rfl | (rw [zI_n]; rfl)) ?_
              exact z_iret hE hrt9 hlocks hZ (eu, (if false = true then 1 else 0), cnt8 w (iN : Int) (fc uv 600 : Int) (le : Int) eW eb (if eb < 0 then 150 else (if er < 0 then 0 else er)) (if ek then 1 else 0) (cntF es 32 : Int)) rfl (show (((if false = true then 1 else 0) = 1 ∧ ¬ (0 ≤ w ∧ w < 8)) ∨ ((if false = true then 1 else 0) = 0 ∧ (0 ≤ w ∧ w < 8) ∧ (cnt8 w (iN : Int) (fc uv 600 : Int) (le : Int) eW eb (if eb < 0 then 150 else (if er < 0 then 0 else er)) (if ek then 1 else 0) (cntF es 32 : Int)) = cnt8 w (iN : Int) (fc uv 600 : Int) (le : Int) eW eb (if eb < 0 then 150 else (if er < 0 then 0 else er)) (if ek then 1 else 0) (cntF es 32 : Int))) from Or.inr ⟨rfl, hok, rfl⟩) rfl dX7_count_155 (Nat.le_of_ble_eq_true rfl) (Nat.le_of_ble_eq_true rfl)
            · refine lv_tableIn (off := 64) (tgt := 156) hx hb dX7_count_92 (by rw [htS]; omega) (by rw [htS]; omega) (by rw [htS, hS]; rfl) (by decide) ?_
              refine lv_aload_n hx hb dX7_count_156 rfl (lv_at hl 0 rfl) ?_
              refine z_get hE fF_X7_2 hZ 0 rfl (.int (zI eb)) rfl dX7_count_157 ?_
              refine z_if_ge hx hb 169 dX7_count_160 (by decide) (C := 0 ≤ eb) (zI_ge0 ⟨by omega, by omega⟩) (fun h160 => ?_) (fun h160 => ?_)
              · skip
                refine lv_aload_n hx hb dX7_count_169 rfl (lv_at hl 0 rfl) ?_
                refine z_get hE fF_X7_3 hZ 0 rfl (.int (zI er)) rfl dX7_count_170 ?_
                refine z_iconst hx hb (nI 0) dX7_count_173 (by decide) ?_
                refine z_mmax (rest := []) hE hl.1 lC_X7_92 (Nat.le_of_ble_eq_true rfl) (Nat.le_of_ble_eq_true rfl) (Nat.le_of_ble_eq_true rfl) (Nat.le_of_ble_eq_true rfl) er 0 rfl (zI_n _) ⟨by omega, by omega⟩ ⟨by omega, by omega⟩ dX7_count_174 ?_
                refine z_top (show zI (if er < 0 then 0 else er) = zI (cnt8 w (iN : Int) (fc uv 600 : Int) (le : Int) eW eb (if eb < 0 then 150 else (if er < 0 then 0 else er)) (if ek then 1 else 0) (cntF es 32 : Int)) from by first | (have z : 0 ≤ eb := h160; subst hS; show _ = zI (if eb < 0 then 150 else (if er < 0 then 0 else er)); rw [if_neg (show ¬ eb < 0 by omega)]) | (have z : ¬ 0 ≤ eb := h160; subst hS; show _ = zI (if eb < 0 then 150 else (if er < 0 then 0 else er)); rw [if_pos (show eb < 0 by omega)]; rfl)) ?_
                exact z_iret hE hrt9 hlocks hZ (eu, (if false = true then 1 else 0), cnt8 w (iN : Int) (fc uv 600 : Int) (le : Int) eW eb (if eb < 0 then 150 else (if er < 0 then 0 else er)) (if ek then 1 else 0) (cntF es 32 : Int)) rfl (show (((if false = true then 1 else 0) = 1 ∧ ¬ (0 ≤ w ∧ w < 8)) ∨ ((if false = true then 1 else 0) = 0 ∧ (0 ≤ w ∧ w < 8) ∧ (cnt8 w (iN : Int) (fc uv 600 : Int) (le : Int) eW eb (if eb < 0 then 150 else (if er < 0 then 0 else er)) (if ek then 1 else 0) (cntF es 32 : Int)) = cnt8 w (iN : Int) (fc uv 600 : Int) (le : Int) eW eb (if eb < 0 then 150 else (if er < 0 then 0 else er)) (if ek then 1 else 0) (cntF es 32 : Int))) from Or.inr ⟨rfl, hok, rfl⟩) rfl dX7_count_177 (Nat.le_of_ble_eq_true rfl) (Nat.le_of_ble_eq_true rfl)
              · skip
                refine z_sipush hx hb (nI 150) dX7_count_163 (by decide) ?_
                refine lv_goto (tgt := 177) hx hb dX7_count_166 (by decide) ?_
                refine z_top (show nI 150 = zI (cnt8 w (iN : Int) (fc uv 600 : Int) (le : Int) eW eb (if eb < 0 then 150 else (if er < 0 then 0 else er)) (if ek then 1 else 0) (cntF es 32 : Int)) from by first | (have z : 0 ≤ eb := h160; subst hS; show _ = zI (if eb < 0 then 150 else (if er < 0 then 0 else er)); rw [if_neg (show ¬ eb < 0 by omega)]) | (have z : ¬ 0 ≤ eb := h160; subst hS; show _ = zI (if eb < 0 then 150 else (if er < 0 then 0 else er)); rw [if_pos (show eb < 0 by omega)]; rfl)) ?_
                exact z_iret hE hrt9 hlocks hZ (eu, (if false = true then 1 else 0), cnt8 w (iN : Int) (fc uv 600 : Int) (le : Int) eW eb (if eb < 0 then 150 else (if er < 0 then 0 else er)) (if ek then 1 else 0) (cntF es 32 : Int)) rfl (show (((if false = true then 1 else 0) = 1 ∧ ¬ (0 ≤ w ∧ w < 8)) ∨ ((if false = true then 1 else 0) = 0 ∧ (0 ≤ w ∧ w < 8) ∧ (cnt8 w (iN : Int) (fc uv 600 : Int) (le : Int) eW eb (if eb < 0 then 150 else (if er < 0 then 0 else er)) (if ek then 1 else 0) (cntF es 32 : Int)) = cnt8 w (iN : Int) (fc uv 600 : Int) (le : Int) eW eb (if eb < 0 then 150 else (if er < 0 then 0 else er)) (if ek then 1 else 0) (cntF es 32 : Int))) from Or.inr ⟨rfl, hok, rfl⟩) rfl dX7_count_177 (Nat.le_of_ble_eq_true rfl) (Nat.le_of_ble_eq_true rfl)
            · refine lv_tableIn (off := 86) (tgt := 178) hx hb dX7_count_92 (by rw [htS]; omega) (by rw [htS]; omega) (by rw [htS, hS]; rfl) (by decide) ?_
              refine lv_aload_n hx hb dX7_count_178 rfl (lv_at hl 0 rfl) ?_
              refine z_get hE fF_X7_4 hZ 0 rfl (.int (zB ek)) rfl dX7_count_179 ?_
              refine z_if_eq hx hb 189 dX7_count_182 (by decide) (C := ek = false) (zB_0 _) (fun h182 => ?_) (fun h182 => ?_)
              · skip
                refine z_iconst hx hb (nI 0) dX7_count_189 (by decide) ?_
                refine z_top (show nI 0 = zI (cnt8 w (iN : Int) (fc uv 600 : Int) (le : Int) eW eb (if eb < 0 then 150 else (if er < 0 then 0 else er)) (if ek then 1 else 0) (cntF es 32 : Int)) from by subst hS; first | (show nI 0 = zI (if ek then 1 else 0); rw [h182]; rfl) | (show nI 1 = zI (if ek then 1 else 0); rw [show ek = true by simpa using h182]; rfl)) ?_
                exact z_iret hE hrt9 hlocks hZ (eu, (if false = true then 1 else 0), cnt8 w (iN : Int) (fc uv 600 : Int) (le : Int) eW eb (if eb < 0 then 150 else (if er < 0 then 0 else er)) (if ek then 1 else 0) (cntF es 32 : Int)) rfl (show (((if false = true then 1 else 0) = 1 ∧ ¬ (0 ≤ w ∧ w < 8)) ∨ ((if false = true then 1 else 0) = 0 ∧ (0 ≤ w ∧ w < 8) ∧ (cnt8 w (iN : Int) (fc uv 600 : Int) (le : Int) eW eb (if eb < 0 then 150 else (if er < 0 then 0 else er)) (if ek then 1 else 0) (cntF es 32 : Int)) = cnt8 w (iN : Int) (fc uv 600 : Int) (le : Int) eW eb (if eb < 0 then 150 else (if er < 0 then 0 else er)) (if ek then 1 else 0) (cntF es 32 : Int))) from Or.inr ⟨rfl, hok, rfl⟩) rfl dX7_count_190 (Nat.le_of_ble_eq_true rfl) (Nat.le_of_ble_eq_true rfl)
              · skip
                refine z_iconst hx hb (nI 1) dX7_count_185 (by decide) ?_
                refine lv_goto (tgt := 190) hx hb dX7_count_186 (by decide) ?_
                refine z_top (show nI 1 = zI (cnt8 w (iN : Int) (fc uv 600 : Int) (le : Int) eW eb (if eb < 0 then 150 else (if er < 0 then 0 else er)) (if ek then 1 else 0) (cntF es 32 : Int)) from by subst hS; first | (show nI 0 = zI (if ek then 1 else 0); rw [h182]; rfl) | (show nI 1 = zI (if ek then 1 else 0); rw [show ek = true by simpa using h182]; rfl)) ?_
                exact z_iret hE hrt9 hlocks hZ (eu, (if false = true then 1 else 0), cnt8 w (iN : Int) (fc uv 600 : Int) (le : Int) eW eb (if eb < 0 then 150 else (if er < 0 then 0 else er)) (if ek then 1 else 0) (cntF es 32 : Int)) rfl (show (((if false = true then 1 else 0) = 1 ∧ ¬ (0 ≤ w ∧ w < 8)) ∨ ((if false = true then 1 else 0) = 0 ∧ (0 ≤ w ∧ w < 8) ∧ (cnt8 w (iN : Int) (fc uv 600 : Int) (le : Int) eW eb (if eb < 0 then 150 else (if er < 0 then 0 else er)) (if ek then 1 else 0) (cntF es 32 : Int)) = cnt8 w (iN : Int) (fc uv 600 : Int) (le : Int) eW eb (if eb < 0 then 150 else (if er < 0 then 0 else er)) (if ek then 1 else 0) (cntF es 32 : Int))) from Or.inr ⟨rfl, hok, rfl⟩) rfl dX7_count_190 (Nat.le_of_ble_eq_true rfl) (Nat.le_of_ble_eq_true rfl)
          · skip
            have hcs : cntF es (f + 1) = if es f = -1 then cntF es f else cntF es f + 1 := rfl
            have hcl := cntF_le es f
            have hs8 := hs9 f (by omega)
            refine lv_aload_n hx hb dX7_count_73 rfl (lv_at hl 0 rfl) ?_
            refine z_get hE fF_X7_5 hZ 0 rfl (.ref t2) rfl dX7_count_74 ?_
            refine lv_iload_n hx hb dX7_count_77 rfl (lv_at hl 3 rfl) ?_
            refine z_iald hE hZ 2 0 rfl rfl (by decide) (by omega) dX7_count_78 ?_
            refine z_if_lt hx hb 85 dX7_count_79 (by decide) (C := es f < 0) (zI_lt0 ⟨by omega, by omega⟩) (fun h79 => ?_) (fun h79 => ?_)
            · skip
              refine lv_iinc (v := nI (f + 1)) (lv' := [(3, .int (nI (f + 1))), (0, .ref t0), (1, .int (zI w)), (2, .int (nI n))]) hx hb dX7_count_85 hl (k := 3) rfl (nI_add _ _) (by decide) rfl (fun ls hl => ?_)
              refine lv_goto (tgt := 67) hx hb dX7_count_88 (by decide) ?_
              exact ih67 (f + 1, n) _ _ _ ⟨by omega, by first | (have z : es f < 0 := h79; rw [hcs, if_pos (by omega)]; exact hn2) | (have z : ¬ es f < 0 := h79; rw [hcs, if_neg (by omega), hn2]), hZ, lv_sub hl [1, 2, 3, 0] (by first | rfl | (simp only [lv_pick]; rfl))⟩ (by (try dsimp only); omega)
            · skip
              refine lv_iinc (v := nI (n + 1)) (lv' := [(2, .int (nI (n + 1))), (0, .ref t0), (1, .int (zI w)), (3, .int (nI f))]) hx hb dX7_count_82 hl (k := 2) rfl (nI_add _ _) (by decide) rfl (fun ls hl => ?_)
              refine lv_iinc (v := nI (f + 1)) (lv' := [(3, .int (nI (f + 1))), (2, .int (nI (n + 1))), (0, .ref t0), (1, .int (zI w))]) hx hb dX7_count_85 hl (k := 3) rfl (nI_add _ _) (by decide) rfl (fun ls hl => ?_)
              refine lv_goto (tgt := 67) hx hb dX7_count_88 (by decide) ?_
              exact ih67 (f + 1, n + 1) _ _ _ ⟨by omega, by first | (have z : es f < 0 := h79; rw [hcs, if_pos (by omega)]; exact hn2) | (have z : ¬ es f < 0 := h79; rw [hcs, if_neg (by omega), hn2]), hZ, lv_sub hl [2, 3, 1, 0] (by first | rfl | (simp only [lv_pick]; rfl))⟩ (by (try dsimp only); omega)
        · skip
          refine lv_aload_n hx hb dX7_count_32 rfl (lv_at hl 1 rfl) ?_
          refine z_kVp (As := []) (rest := []) hE hZ (c_X7_free l D cI cJ cZ cII cZZ t0 t1 t2 t3 t4 t5 t6 t7 t8 t9 tA tB tC tD tR tS (if false = true then 1 else 0) eP eb er ek es ed ec ew lk lf lo lv le eW et eh ei eu em B ro ih iN (by first | assumption | omega) (hA)) lL_X7_free lC_X7_132 rfl [] (List.Perm.refl _) (fun u => (WQ cI cJ cZ cII cZZ [] t0 t1 t2 t3 t4 t5 t6 t7 t8 t9 tA tB tC tD tR tS (if false = true then 1 else 0) eP eb er ek es ed ec ew lk lf lo lv le eW et eh ei u em)) (fun _ => List.Perm.refl _) 0 rfl ⟨by decide, by decide⟩ 0 0 rfl rfl ⟨by decide, by decide⟩ rfl hl.1 rfl (Nat.le_of_ble_eq_true rfl) dX7_count_33 (fun u H locs hq9 hZ => ?_)
          obtain ⟨eu1_33, hu9⟩ : ∃ z, z = u := ⟨u, rfl⟩
          subst hu9
          have hq_33 := hq9
          have hq_33 : ∀ p, p < 600 → (eu1_33 p = true ↔ UA B ih 12 p) := hq_33
          have hZ : zS D A s.heap H locs (WQ cI cJ cZ cII cZZ [] t0 t1 t2 t3 t4 t5 t6 t7 t8 t9 tA tB tC tD tR tS (if false = true then 1 else 0) eP eb er ek es ed ec ew lk lf lo lv le eW et eh ei eu1_33 em) := hZ
          refine W.eq (g2 := F0 mth 36 ls []) rfl ?_
          refine z_iconst hx hb (nI 0) dX7_count_36 (by decide) ?_
          refine lv_istore_n (lv' := [(3, .int (nI 0)), (2, .int (nI 0)), (0, .ref t0), (1, .int (zI w))]) hx hb dX7_count_37 rfl hl (by decide) rfl (fun ls hl => ?_)
          refine z_loop (σ := Nat × Nat) (fun (p, n) H locs ls => (p ≤ 600) ∧ (n = fc eu1_33 p) ∧ zS D A s.heap H locs (WQ cI cJ cZ cII cZZ [] t0 t1 t2 t3 t4 t5 t6 t7 t8 t9 tA tB tC tD tR tS (if false = true then 1 else 0) eP eb er ek es ed ec ew lk lf lo lv le eW et eh ei eu1_33 em) ∧ lv_has ls 4 [(0, .ref t0), (1, .int (zI w)), (2, .int (nI n)), (3, .int (nI p))]) (fun (p, n) => 600 - p) [] (0, 0) ⟨by omega, rfl, hZ, lv_sub hl [2, 3, 1, 0] (by first | rfl | (simp only [lv_pick]; rfl))⟩ ?_
          intro x H locs ls hI ih38
          obtain ⟨p, n⟩ := x
          obtain ⟨hp, hn1, hZ, hl⟩ := hI
          refine lv_iload_n hx hb dX7_count_38 rfl (lv_at hl 3 rfl) ?_
          refine z_sipush hx hb (nI 600) dX7_count_39 (by decide) ?_
          refine z_icmp_ge hx hb 63 dX7_count_42 (by decide) (C := 600 ≤ p) (nIle (by omega) (by omega)) (fun h42 => ?_) (fun h42 => ?_)
          · skip
            refine lv_iload_n hx hb dX7_count_63 rfl (lv_at hl 2 rfl) ?_
            refine z_top (show nI n = zI (cnt8 w (iN : Int) (fc uv 600 : Int) (le : Int) eW eb (if eb < 0 then 150 else (if er < 0 then 0 else er)) (if ek then 1 else 0) (cntF es 32 : Int)) from by rw [zI_n, hn1, show p = 600 by omega, fc_congr 600 (fun p hp => (hq_33 p hp).trans (hu p hp).symm)]; congr 1; unfold cnt8; rw [if_neg (by omega), if_pos (by omega)]) ?_
            exact z_iret hE hrt9 hlocks hZ (eu1_33, (if false = true then 1 else 0), cnt8 w (iN : Int) (fc uv 600 : Int) (le : Int) eW eb (if eb < 0 then 150 else (if er < 0 then 0 else er)) (if ek then 1 else 0) (cntF es 32 : Int)) rfl (show (((if false = true then 1 else 0) = 1 ∧ ¬ (0 ≤ w ∧ w < 8)) ∨ ((if false = true then 1 else 0) = 0 ∧ (0 ≤ w ∧ w < 8) ∧ (cnt8 w (iN : Int) (fc uv 600 : Int) (le : Int) eW eb (if eb < 0 then 150 else (if er < 0 then 0 else er)) (if ek then 1 else 0) (cntF es 32 : Int)) = cnt8 w (iN : Int) (fc uv 600 : Int) (le : Int) eW eb (if eb < 0 then 150 else (if er < 0 then 0 else er)) (if ek then 1 else 0) (cntF es 32 : Int))) from Or.inr ⟨rfl, hok, rfl⟩) rfl dX7_count_64 (Nat.le_of_ble_eq_true rfl) (Nat.le_of_ble_eq_true rfl)
          · skip
            have hfl := fc_le eu1_33 p
            have hfs : fc eu1_33 (p + 1) = fc eu1_33 p + (if eu1_33 p then 0 else 1) := rfl
            refine lv_aload_n hx hb dX7_count_45 rfl (lv_at hl 0 rfl) ?_
            refine z_get hE fF_X7_18 hZ 0 rfl (.ref tD) rfl dX7_count_46 ?_
            refine lv_iload_n hx hb dX7_count_49 rfl (lv_at hl 3 rfl) ?_
            refine z_zald hE hZ 13 2 rfl rfl (by decide) (by omega) dX7_count_50 ?_
            refine z_if_ne hx hb 57 dX7_count_51 (by decide) (C := (eu1_33 p) = false) (zB_0 _) (fun h51 => ?_) (fun h51 => ?_)
            · skip
              refine lv_iinc (v := nI (p + 1)) (lv' := [(3, .int (nI (p + 1))), (0, .ref t0), (1, .int (zI w)), (2, .int (nI n))]) hx hb dX7_count_57 hl (k := 3) rfl (nI_add _ _) (by decide) rfl (fun ls hl => ?_)
              refine lv_goto (tgt := 38) hx hb dX7_count_60 (by decide) ?_
              exact ih38 (p + 1, n) _ _ _ ⟨by omega, by first | (have z : ¬ eu1_33 p = false := h51; rw [hfs, if_pos (by simpa using z)]; exact hn1) | (have z : eu1_33 p = false := h51; rw [hfs, if_neg (by rw [z]; simp), hn1]), hZ, lv_sub hl [1, 2, 3, 0] (by first | rfl | (simp only [lv_pick]; rfl))⟩ (by (try dsimp only); omega)
            · skip
              refine lv_iinc (v := nI (n + 1)) (lv' := [(2, .int (nI (n + 1))), (0, .ref t0), (1, .int (zI w)), (3, .int (nI p))]) hx hb dX7_count_54 hl (k := 2) rfl (nI_add _ _) (by decide) rfl (fun ls hl => ?_)
              refine lv_iinc (v := nI (p + 1)) (lv' := [(3, .int (nI (p + 1))), (2, .int (nI (n + 1))), (0, .ref t0), (1, .int (zI w))]) hx hb dX7_count_57 hl (k := 3) rfl (nI_add _ _) (by decide) rfl (fun ls hl => ?_)
              refine lv_goto (tgt := 38) hx hb dX7_count_60 (by decide) ?_
              exact ih38 (p + 1, n + 1) _ _ _ ⟨by omega, by first | (have z : ¬ eu1_33 p = false := h51; rw [hfs, if_pos (by simpa using z)]; exact hn1) | (have z : eu1_33 p = false := h51; rw [hfs, if_neg (by rw [z]; simp), hn1]), hZ, lv_sub hl [2, 3, 1, 0] (by first | rfl | (simp only [lv_pick]; rfl))⟩ (by (try dsimp only); omega)
      · skip
        exact absurd trivial h20
    · skip
      have hnk : ¬ (0 ≤ w ∧ w < 8) := by omega
      refine z_iconst hx hb (nI 1) dX7_count_11 (by decide) ?_
      refine lv_goto (tgt := 16) hx hb dX7_count_12 (by decide) ?_
      refine z_iconst hx hb (nI 1) dX7_count_16 (by decide) ?_
      refine z_kVp (As := [.int (nI 1), .int (nI 1)]) (rest := []) hE hZ (c_X7_fails l D cI cJ cZ cII cZZ t0 t1 t2 t3 t4 t5 t6 t7 t8 t9 tA tB tC tD tR tS e0 eP eb er ek es ed ec ew lk lf lo lv le eW et eh ei eu em true 1 ) lL_X7_fails lC_X7_125 rfl [] (List.Perm.refl _) (fun u => (WQ cI cJ cZ cII cZZ [] t0 t1 t2 t3 t4 t5 t6 t7 t8 t9 tA tB tC tD tR tS (if true = true then 1 else 0) eP eb er ek es ed ec ew lk lf lo lv le eW et eh ei eu em)) (fun _ => List.Perm.refl _) 0 rfl ⟨by decide, by decide⟩ 0 0 rfl rfl ⟨by decide, by decide⟩ rfl hl.1 rfl (Nat.le_of_ble_eq_true rfl) dX7_count_17 (fun u H locs hq9 hZ => ?_)
      have hZ : zS D A s.heap H locs (WQ cI cJ cZ cII cZZ [] t0 t1 t2 t3 t4 t5 t6 t7 t8 t9 tA tB tC tD tR tS (if true = true then 1 else 0) eP eb er ek es ed ec ew lk lf lo lv le eW et eh ei eu em) := hZ
      refine W.eq (g2 := F0 mth 20 ls [.int (zB true)]) rfl ?_
      refine z_if_eq hx hb 25 dX7_count_20 (by decide) (C := False) (by rw [zB_0]; simp) (fun h20 => ?_) (fun h20 => ?_)
      · skip
        exact h20.elim
      · skip
        refine z_iconst hx hb (nI 0) dX7_count_23 (by decide) ?_
        refine z_top (show nI 0 = zI 0 from rfl) ?_
        exact z_iret hE hrt9 hlocks hZ (eu, (if true = true then 1 else 0), 0) rfl (show (((if true = true then 1 else 0) = 1 ∧ ¬ (0 ≤ w ∧ w < 8)) ∨ ((if true = true then 1 else 0) = 0 ∧ (0 ≤ w ∧ w < 8) ∧ 0 = cnt8 w (iN : Int) (fc uv 600 : Int) (le : Int) eW eb (if eb < 0 then 150 else (if er < 0 then 0 else er)) (if ek then 1 else 0) (cntF es 32 : Int))) from Or.inl ⟨rfl, hnk⟩) rfl dX7_count_24 (Nat.le_of_ble_eq_true rfl) (Nat.le_of_ble_eq_true rfl)
set_option maxHeartbeats 1000000 in
set_option maxRecDepth 100000 in
theorem c_X7_begin (l : Launch) (D : va_G) (cI cJ cZ cII cZZ : ClassId) (t0 : Nat) (t1 : Nat) (t2 : Nat) (t3 : Nat) (t4 : Nat) (t5 : Nat) (t6 : Nat) (t7 : Nat) (t8 : Nat) (t9 : Nat) (tA : Nat) (tB : Nat) (tC : Nat) (tD : Nat) (tR : Nat → Nat) (tS : Nat → Nat) (e0 : Nat) (eP : Nat → Nat) (eb : Int) (er : Int) (ek : Bool) (es : Nat → Int) (ed : Nat → Nat → Nat) (ec : Nat → Bool) (ew : Nat → Nat → Bool) (lk : Nat → Nat) (lf : Nat → Nat) (lo : Nat → Nat) (lv : Nat → Int64) (le : Nat) (eW : Int) (et : Nat → Nat) (eh : Nat → Nat) (ei : Nat → Int) (eu : Nat → Bool) (em : Nat)   :
    zC l yX7_begin cX7_begin 2 none { frames := 1, cells := 0, slots := 0, locals := 23 } D (zT cI cJ cZ cII cZZ) [.ref t0] (WQ cI cJ cZ cII cZZ [] t0 t1 t2 t3 t4 t5 t6 t7 t8 t9 tA tB tC tD tR tS e0 eP eb er ek es ed ec ew lk lf lo lv le eW et eh ei eu em) (S := (Nat → Nat) × (Nat → Int) × (Nat → Bool) × (Nat → Nat → Bool)) (fun u => none) (fun u => (RP (fun _ => 0) u.1) ∧ (RM u.2.1 ed u.2.2.2 u.2.2.1 (lodA (fun _ => 0) (fun _ => 0)))) (fun u => (WQ cI cJ cZ cII cZZ [] t0 t1 t2 t3 t4 t5 t6 t7 t8 t9 tA tB tC tD tR tS 0 u.1 (-1) 150 false u.2.1 ed u.2.2.1 u.2.2.2 lk lf lo lv 0 0 et eh ei eu em)) := by
  refine zC_of (by decide) (Nat.le_of_ble_eq_true rfl) ?_
  intro prg env s mth below meth cde A ls hE hrt9 hlocks hnm hZ hl
  have hx := hE.1
  have hb := hE.2.1
  have hl : lv_has ls 2 [(0, .ref t0)] := hl
  refine lv_aload_n hx hb dX7_begin_0 rfl (lv_at hl 0 rfl) ?_
  refine z_iconst hx hb (nI 0) dX7_begin_1 (by decide) ?_
  refine z_put hE fF_X7_0 fP_X7 rfl hZ 0 rfl rfl rfl (Nat.le_of_ble_eq_true rfl) dX7_begin_2 (WQ cI cJ cZ cII cZZ [] t0 t1 t2 t3 t4 t5 t6 t7 t8 t9 tA tB tC tD tR tS 0 eP eb er ek es ed ec ew lk lf lo lv le eW et eh ei eu em) rfl (fun H locs hZ => ?_)
  refine z_iconst hx hb (nI 0) dX7_begin_5 (by decide) ?_
  refine lv_istore_n (lv' := [(1, .int (nI 0)), (0, .ref t0)]) hx hb dX7_begin_6 rfl hl (by decide) rfl (fun ls hl => ?_)
  refine z_loop (σ := Nat × (Nat → Nat)) (fun (i, wP) H locs ls => (i ≤ 19200) ∧ (∀ k, k < i → wP k = 0) ∧ zS D A s.heap H locs (WQ cI cJ cZ cII cZZ [] t0 t1 t2 t3 t4 t5 t6 t7 t8 t9 tA tB tC tD tR tS 0 wP eb er ek es ed ec ew lk lf lo lv le eW et eh ei eu em) ∧ lv_has ls 2 [(0, .ref t0), (1, .int (nI i))]) (fun (i, wP) => 19200 - i) [] (0, eP) ⟨by omega, fun k h => absurd h (Nat.not_lt_zero k), hZ, lv_sub hl [1, 0] (by first | rfl | (simp only [lv_pick]; rfl))⟩ ?_
  intro x H locs ls hI ih7
  obtain ⟨i, wP⟩ := x
  obtain ⟨hi, hw, hZ, hl⟩ := hI
  refine lv_iload_n hx hb dX7_begin_7 rfl (lv_at hl 1 rfl) ?_
  refine z_sipush hx hb (nI 19200) dX7_begin_8 (by decide) ?_
  refine z_icmp_ge hx hb 27 dX7_begin_11 (by decide) (C := 19200 ≤ i) (nIle (by omega) (by omega)) (fun h11 => ?_) (fun h11 => ?_)
  · skip
    refine lv_aload_n hx hb dX7_begin_27 rfl (lv_at hl 0 rfl) ?_
    refine z_iconst hx hb (zI (-1)) dX7_begin_28 (by decide) ?_
    refine z_put hE fF_X7_2 fP_X7 rfl hZ 0 rfl rfl rfl (Nat.le_of_ble_eq_true rfl) dX7_begin_29 (WQ cI cJ cZ cII cZZ [] t0 t1 t2 t3 t4 t5 t6 t7 t8 t9 tA tB tC tD tR tS 0 wP (-1) er ek es ed ec ew lk lf lo lv le eW et eh ei eu em) rfl (fun H locs hZ => ?_)
    refine lv_aload_n hx hb dX7_begin_32 rfl (lv_at hl 0 rfl) ?_
    refine z_sipush hx hb (nI 150) dX7_begin_33 (by decide) ?_
    refine z_top (show nI 150 = zI 150 from zI_n _) ?_
    refine z_put hE fF_X7_3 fP_X7 rfl hZ 0 rfl rfl rfl (Nat.le_of_ble_eq_true rfl) dX7_begin_36 (WQ cI cJ cZ cII cZZ [] t0 t1 t2 t3 t4 t5 t6 t7 t8 t9 tA tB tC tD tR tS 0 wP (-1) 150 ek es ed ec ew lk lf lo lv le eW et eh ei eu em) rfl (fun H locs hZ => ?_)
    refine lv_aload_n hx hb dX7_begin_39 rfl (lv_at hl 0 rfl) ?_
    refine z_iconst hx hb (nI 0) dX7_begin_40 (by decide) ?_
    refine z_top (show nI 0 = zB false from rfl) ?_
    refine z_put hE fF_X7_4 fP_X7 rfl hZ 0 rfl (zB_nar _) (zB_fit _) (Nat.le_of_ble_eq_true rfl) dX7_begin_41 (WQ cI cJ cZ cII cZZ [] t0 t1 t2 t3 t4 t5 t6 t7 t8 t9 tA tB tC tD tR tS 0 wP (-1) 150 false es ed ec ew lk lf lo lv le eW et eh ei eu em) rfl (fun H locs hZ => ?_)
    refine z_iconst hx hb (nI 0) dX7_begin_44 (by decide) ?_
    refine lv_istore_n (lv' := [(1, .int (nI 0)), (0, .ref t0)]) hx hb dX7_begin_45 rfl hl (by decide) rfl (fun ls hl => ?_)
    refine z_loop (σ := Nat × (Nat → Int) × (Nat → Bool) × (Nat → Nat → Bool)) (fun (f, xs, xc, xw) H locs ls => (f ≤ 32) ∧ (∀ g, g < f → xs g = -1) ∧ (∀ g, g < f → xc g = false) ∧ (∀ g q, g < f → q < 14 → xw g q = false) ∧ zS D A s.heap H locs (WQ cI cJ cZ cII cZZ [] t0 t1 t2 t3 t4 t5 t6 t7 t8 t9 tA tB tC tD tR tS 0 wP (-1) 150 false xs ed xc xw lk lf lo lv le eW et eh ei eu em) ∧ lv_has ls 2 [(0, .ref t0), (1, .int (nI f))]) (fun (f, xs, xc, xw) => 32 - f) [] (0, es, ec, ew) ⟨by omega, fun k h => absurd h (Nat.not_lt_zero k), fun k h => absurd h (Nat.not_lt_zero k), fun k q h => absurd h (Nat.not_lt_zero k), hZ, lv_sub hl [1, 0] (by first | rfl | (simp only [lv_pick]; rfl))⟩ ?_
    intro x H locs ls hI ih46
    obtain ⟨f, xs, xc, xw⟩ := x
    obtain ⟨hf, h1, h2, h3, hZ, hl⟩ := hI
    refine lv_iload_n hx hb dX7_begin_46 rfl (lv_at hl 1 rfl) ?_
    refine z_bipush hx hb (nI 32) dX7_begin_47 (by decide) ?_
    refine z_icmp_ge hx hb 64 dX7_begin_49 (by decide) (C := 32 ≤ f) (nIle (by omega) (by omega)) (fun h49 => ?_) (fun h49 => ?_)
    · skip
      refine lv_aload_n hx hb dX7_begin_64 rfl (lv_at hl 0 rfl) ?_
      refine z_iconst hx hb (nI 0) dX7_begin_65 (by decide) ?_
      refine z_put hE fF_X7_13 fP_X7 rfl hZ 0 rfl rfl rfl (Nat.le_of_ble_eq_true rfl) dX7_begin_66 (WQ cI cJ cZ cII cZZ [] t0 t1 t2 t3 t4 t5 t6 t7 t8 t9 tA tB tC tD tR tS 0 wP (-1) 150 false xs ed xc xw lk lf lo lv 0 eW et eh ei eu em) rfl (fun H locs hZ => ?_)
      refine lv_aload_n hx hb dX7_begin_69 rfl (lv_at hl 0 rfl) ?_
      refine z_iconst hx hb (nI 0) dX7_begin_70 (by decide) ?_
      refine z_top (show nI 0 = zI 0 from zI_n _) ?_
      refine z_put hE fF_X7_14 fP_X7 rfl hZ 0 rfl rfl rfl (Nat.le_of_ble_eq_true rfl) dX7_begin_71 (WQ cI cJ cZ cII cZZ [] t0 t1 t2 t3 t4 t5 t6 t7 t8 t9 tA tB tC tD tR tS 0 wP (-1) 150 false xs ed xc xw lk lf lo lv 0 0 et eh ei eu em) rfl (fun H locs hZ => ?_)
      exact z_vret hE hrt9 hlocks hZ (wP, xs, xc, xw) rfl (show (RP (fun _ => 0) wP) ∧ (RM xs ed xw xc (lodA (fun _ => 0) (fun _ => 0))) from ⟨fun p k hp hk => by rw [hw _ (by omega)]; exact (oc_0 _).symm, ⟨fun g hg => by rw [h1 g (by omega)]; exact lod_0.symm, (fun g k hg hk => by rw [lod_0] at hk; omega), fun g q hg hq => h3 g q (by omega) hq, fun g hg => h2 g (by omega)⟩⟩) rfl dX7_begin_74 (Nat.le_of_ble_eq_true rfl) (Nat.le_of_ble_eq_true rfl)
    · skip
      refine lv_aload_n hx hb dX7_begin_52 rfl (lv_at hl 0 rfl) ?_
      refine lv_iload_n hx hb dX7_begin_53 rfl (lv_at hl 1 rfl) ?_
      refine z_iconst hx hb (zI (-1)) dX7_begin_54 (by decide) ?_
      refine z_kVp (As := [.int (nI f), .int (zI (-1))]) (rest := []) hE hZ (c_X7_forget l D cI cJ cZ cII cZZ t0 t1 t2 t3 t4 t5 t6 t7 t8 t9 tA tB tC tD tR tS 0 wP (-1) 150 false xs ed xc xw lk lf lo lv le eW et eh ei eu em f (-1) (by omega)) lL_X7_forget lC_X7_72 rfl [] (List.Perm.refl _) (fun u => (WQ cI cJ cZ cII cZZ [] t0 t1 t2 t3 t4 t5 t6 t7 t8 t9 tA tB tC tD tR tS 0 wP (-1) 150 false (va_up xs f (-1)) ed (va_up xc f false) u lk lf lo lv le eW et eh ei eu em)) (fun _ => List.Perm.refl _) 0 rfl ⟨by decide, by decide⟩ 0 0 rfl rfl ⟨by decide, by decide⟩ rfl hl.1 rfl (Nat.le_of_ble_eq_true rfl) dX7_begin_55 (fun u H locs hq9 hZ => ?_)
      obtain ⟨ew1_55, hu9⟩ : ∃ z, z = u := ⟨u, rfl⟩
      subst hu9
      have hq_55 := hq9
      have hq_55 : ∀ g q, q < 14 → ew1_55 g q = if g = f then false else xw g q := hq_55
      have hZ : zS D A s.heap H locs (WQ cI cJ cZ cII cZZ [] t0 t1 t2 t3 t4 t5 t6 t7 t8 t9 tA tB tC tD tR tS 0 wP (-1) 150 false (va_up xs f (-1)) ed (va_up xc f false) ew1_55 lk lf lo lv le eW et eh ei eu em) := hZ
      refine W.eq (g2 := F0 mth 58 ls []) rfl ?_
      refine lv_iinc (v := nI (f + 1)) (lv' := [(1, .int (nI (f + 1))), (0, .ref t0)]) hx hb dX7_begin_58 hl (k := 1) rfl (nI_add _ _) (by decide) rfl (fun ls hl => ?_)
      refine lv_goto (tgt := 46) hx hb dX7_begin_61 (by decide) ?_
      exact ih46 (f + 1, va_up xs f (-1), va_up xc f false, ew1_55) _ _ _ ⟨by omega, fun k h => by unfold va_up; split; rfl; exact h1 k (by omega), fun k h => by unfold va_up; split; rfl; exact h2 k (by omega), fun k q h hq => by rw [hq_55 k q hq]; split; rfl; exact h3 k q (by omega) hq, hZ, lv_sub hl [1, 0] (by first | rfl | (simp only [lv_pick]; rfl))⟩ (by (try dsimp only); omega)
  · skip
    refine lv_aload_n hx hb dX7_begin_14 rfl (lv_at hl 0 rfl) ?_
    refine z_get hE fF_X7_1 hZ 0 rfl (.ref t1) rfl dX7_begin_15 ?_
    refine lv_iload_n hx hb dX7_begin_18 rfl (lv_at hl 1 rfl) ?_
    refine z_iconst hx hb (nI 0) dX7_begin_19 (by decide) ?_
    refine z_iast nI wP 0 hE hZ 1 0 rfl rfl (by decide) (by omega) dX7_begin_20 (WQ cI cJ cZ cII cZZ [] t0 t1 t2 t3 t4 t5 t6 t7 t8 t9 tA tB tC tD tR tS 0 (va_up wP i 0) eb er ek es ed ec ew lk lf lo lv le eW et eh ei eu em) rfl (fun H locs hZ => ?_)
    refine lv_iinc (v := nI (i + 1)) (lv' := [(1, .int (nI (i + 1))), (0, .ref t0)]) hx hb dX7_begin_21 hl (k := 1) rfl (nI_add _ _) (by decide) rfl (fun ls hl => ?_)
    refine lv_goto (tgt := 7) hx hb dX7_begin_24 (by decide) ?_
    exact ih7 (i + 1, va_up wP i 0) _ _ _ ⟨by omega, fun k h => by unfold va_up; split; rfl; exact hw k (by omega), hZ, lv_sub hl [1, 0] (by first | rfl | (simp only [lv_pick]; rfl))⟩ (by (try dsimp only); omega)
