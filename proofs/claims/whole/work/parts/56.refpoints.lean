set_option maxHeartbeats 1000000 in
set_option maxRecDepth 100000 in
theorem c_X7_point (l : Launch) (D : va_G) (cI cJ cZ cII cZZ : ClassId) (t0 : Nat) (t1 : Nat) (t2 : Nat) (t3 : Nat) (t4 : Nat) (t5 : Nat) (t6 : Nat) (t7 : Nat) (t8 : Nat) (t9 : Nat) (tA : Nat) (tB : Nat) (tC : Nat) (tD : Nat) (tR : Nat → Nat) (tS : Nat → Nat) (e0 : Nat) (eP : Nat → Nat) (eb : Int) (er : Int) (ek : Bool) (es : Nat → Int) (ed : Nat → Nat → Nat) (ec : Nat → Bool) (ew : Nat → Nat → Bool) (lk : Nat → Nat) (lf : Nat → Nat) (lo : Nat → Nat) (lv : Nat → Int64) (le : Nat) (eW : Int) (et : Nat → Nat) (eh : Nat → Nat) (ei : Nat → Int) (eu : Nat → Bool) (em : Nat) (B : Nat → Int64) (ro : Nat → Nat) (ih : Nat → Nat) (iN : Nat) (uv : Nat → Bool) (a : aM) (hP : RP B eP) (hA : AI B ro ih iN) (hN : iN + 1 < 2 ^ 31) (hM : RM es ed ew ec a) (hLO : LOK lk lf lo lv le (lodA B ih)) (hae : a = aRun lk lf lo lv (lodA B ih) le) (hu : ∀ p, p < 600 → (uv p = true ↔ UA B ih 12 p)) :
    zC l yX7_point cX7_point 1 (some .int) { frames := 5, cells := 2, slots := 16, locals := 116 } D (zT cI cJ cZ cII cZZ) [.ref t0] (WQ cI cJ cZ cII cZZ [] t0 t1 t2 t3 t4 t5 t6 t7 t8 t9 tA tB tC tD tR tS e0 eP eb er ek es ed ec ew lk lf lo lv le eW et eh ei eu em) (S := (Nat → Nat) × (Nat → Int) × (Nat → Nat → Nat) × (Nat → Bool) × (Nat → Nat → Bool) × (Nat → Nat) × (Nat → Nat) × (Nat → Nat) × (Nat → Int64) × Nat × Int × (Nat → Nat) × (Nat → Nat) × (Nat → Int) × (Nat → Bool) × Nat × Nat × Nat) (fun u => some (.int (nI u.2.2.2.2.2.2.2.2.2.2.2.2.2.2.2.2.2))) (fun u => ((u.2.2.2.2.2.2.2.2.2.2.2.2.2.2.2.2.1 = 1 ∧ ek = true ∧ RT B ih lk lf lo lv le eW u.1 u.2.1 u.2.2.1 u.2.2.2.1 u.2.2.2.2.1 u.2.2.2.2.2.1 u.2.2.2.2.2.2.1 u.2.2.2.2.2.2.2.1 u.2.2.2.2.2.2.2.2.1 u.2.2.2.2.2.2.2.2.2.1 u.2.2.2.2.2.2.2.2.2.2.1) ∨ (u.2.2.2.2.2.2.2.2.2.2.2.2.2.2.2.2.1 = 2 ∧ ek = false ∧ fc uv 600 < (plY B ih uv a).1.length ∧ RT B ih lk lf lo lv le eW u.1 u.2.1 u.2.2.1 u.2.2.2.1 u.2.2.2.2.1 u.2.2.2.2.2.1 u.2.2.2.2.2.2.1 u.2.2.2.2.2.2.2.1 u.2.2.2.2.2.2.2.2.1 u.2.2.2.2.2.2.2.2.2.1 u.2.2.2.2.2.2.2.2.2.2.1) ∨ (u.2.2.2.2.2.2.2.2.2.2.2.2.2.2.2.2.1 = 0 ∧ ek = false ∧ (plY B ih uv a).1.length ≤ fc uv 600 ∧ u.2.2.2.2.2.2.2.2.2.2.2.2.2.2.2.2.2 = iN + 1 ∧ RT (app B (plL B ih iN uv a)) (plY B ih uv a).2 lk lf lo lv 0 (eW + ((plL B ih iN uv a).length : Int)) u.1 u.2.1 u.2.2.1 u.2.2.2.1 u.2.2.2.2.1 u.2.2.2.2.2.1 u.2.2.2.2.2.2.1 u.2.2.2.2.2.2.2.1 u.2.2.2.2.2.2.2.2.1 u.2.2.2.2.2.2.2.2.2.1 u.2.2.2.2.2.2.2.2.2.2.1))) (fun u => (WQ cI cJ cZ cII cZZ [] t0 t1 t2 t3 t4 t5 t6 t7 t8 t9 tA tB tC tD tR tS u.2.2.2.2.2.2.2.2.2.2.2.2.2.2.2.2.1 u.1 eb er ek u.2.1 u.2.2.1 u.2.2.2.1 u.2.2.2.2.1 u.2.2.2.2.2.1 u.2.2.2.2.2.2.1 u.2.2.2.2.2.2.2.1 u.2.2.2.2.2.2.2.2.1 u.2.2.2.2.2.2.2.2.2.1 u.2.2.2.2.2.2.2.2.2.2.1 u.2.2.2.2.2.2.2.2.2.2.2.1 u.2.2.2.2.2.2.2.2.2.2.2.2.1 u.2.2.2.2.2.2.2.2.2.2.2.2.2.1 u.2.2.2.2.2.2.2.2.2.2.2.2.2.2.1 u.2.2.2.2.2.2.2.2.2.2.2.2.2.2.2.1)) := by
  refine zC_of (by decide) (Nat.le_of_ble_eq_true rfl) ?_
  intro prg env s mth below meth cde A ls hE hrt9 hlocks hnm hZ hl
  have hx := hE.1
  have hb := hE.2.1
  have hl : lv_has ls 1 [(0, .ref t0)] := hl
  have hl40 := hLO.1
  have haw : AW B ih a := by rw [hae]; exact hA.aw hLO
  have hu0 : uv 0 = true := (hu 0 (by omega)).mpr (Or.inl rfl)
  refine lv_aload_n hx hb dX7_point_0 rfl (lv_at hl 0 rfl) ?_
  refine lv_aload_n hx hb dX7_point_1 rfl (lv_at hl 0 rfl) ?_
  refine z_get hE fF_X7_4 hZ 0 rfl (.int (zB ek)) rfl dX7_point_2 ?_
  refine z_iconst hx hb (nI 1) dX7_point_5 (by decide) ?_
  refine z_kVp (As := [.int (zB ek), .int (nI 1)]) (rest := []) hE hZ (c_X7_fails l D cI cJ cZ cII cZZ t0 t1 t2 t3 t4 t5 t6 t7 t8 t9 tA tB tC tD tR tS e0 eP eb er ek es ed ec ew lk lf lo lv le eW et eh ei eu em ek 1 ) lL_X7_fails lC_X7_125 rfl [] (List.Perm.refl _) (fun u => (WQ cI cJ cZ cII cZZ [] t0 t1 t2 t3 t4 t5 t6 t7 t8 t9 tA tB tC tD tR tS (if ek = true then 1 else 0) eP eb er ek es ed ec ew lk lf lo lv le eW et eh ei eu em)) (fun _ => List.Perm.refl _) 0 rfl ⟨by decide, by decide⟩ 0 0 rfl rfl ⟨by decide, by decide⟩ rfl hl.1 rfl (Nat.le_of_ble_eq_true rfl) dX7_point_6 (fun u H locs hq9 hZ => ?_)
  have hZ : zS D A s.heap H locs (WQ cI cJ cZ cII cZZ [] t0 t1 t2 t3 t4 t5 t6 t7 t8 t9 tA tB tC tD tR tS (if ek = true then 1 else 0) eP eb er ek es ed ec ew lk lf lo lv le eW et eh ei eu em) := hZ
  refine W.eq (g2 := F0 mth 9 ls [.int (zB ek)]) rfl ?_
  refine z_if_eq hx hb 14 dX7_point_9 (by decide) (C := ek = false) (zB_0 _) (fun h9 => ?_) (fun h9 => ?_)
  · skip
    have hbk : ek = false := by simpa using h9
    refine lv_aload_n hx hb dX7_point_14 rfl (lv_at hl 0 rfl) ?_
    refine lv_aload_n hx hb dX7_point_15 rfl (lv_at hl 0 rfl) ?_
    refine z_kVp (As := []) (rest := [.ref t0]) hE hZ (c_X7_plan l D cI cJ cZ cII cZZ t0 t1 t2 t3 t4 t5 t6 t7 t8 t9 tA tB tC tD tR tS (if ek = true then 1 else 0) eP eb er ek es ed ec ew lk lf lo lv le eW et eh ei eu em B ro ih iN uv a (hP) (hA) (hN) (hM) (haw) (hu)) lL_X7_plan lC_X7_107 rfl [] (List.Perm.refl _) (fun u => (WQ cI cJ cZ cII cZZ [] t0 t1 t2 t3 t4 t5 t6 t7 t8 t9 tA tB tC tD tR tS (if ek = true then 1 else 0) eP eb er ek es ed ec ew lk lf lo lv le eW u.1 u.2.1 u.2.2.1 u.2.2.2.1 u.2.2.2.2)) (fun _ => List.Perm.refl _) 0 rfl ⟨by decide, by decide⟩ 2 16 rfl rfl ⟨by decide, by decide⟩ rfl hl.1 rfl (Nat.le_of_ble_eq_true rfl) dX7_point_16 (fun u H locs hq9 hZ => ?_)
    obtain ⟨et1_16, eh1_16, ei1_16, eu1_16, em1_16⟩ := u
    have hq_16 := hq9
    have hq_16 : (plY B ih uv a).1.length ≤ fc uv 600 → PLN (plL B ih iN uv a) et1_16 eh1_16 ∧ em1_16 = (plL B ih iN uv a).length := hq_16
    have hZ : zS D A s.heap H locs (WQ cI cJ cZ cII cZZ [] t0 t1 t2 t3 t4 t5 t6 t7 t8 t9 tA tB tC tD tR tS (if ek = true then 1 else 0) eP eb er ek es ed ec ew lk lf lo lv le eW et1_16 eh1_16 ei1_16 eu1_16 em1_16) := hZ
    refine W.eq (g2 := F0 mth 19 ls [.int (zB (decide ((plY B ih uv a).1.length ≤ fc uv 600))), .ref t0]) rfl ?_
    refine z_if_ne hx hb 26 dX7_point_19 (by decide) (C := (decide ((plY B ih uv a).1.length ≤ fc uv 600)) = false) (zB_0 _) (fun h19 => ?_) (fun h19 => ?_)
    · skip
      have hft : (plY B ih uv a).1.length ≤ fc uv 600 := by simpa using h19
      have hpl := hq_16 hft
      have hf0 : fc uv 600 ≤ 599 := fc0 hu0 599
      refine z_iconst hx hb (nI 0) dX7_point_26 (by decide) ?_
      refine z_iconst hx hb (nI 2) dX7_point_27 (by decide) ?_
      refine z_kVp (As := [.int (nI 0), .int (nI 2)]) (rest := []) hE hZ (c_X7_fails l D cI cJ cZ cII cZZ t0 t1 t2 t3 t4 t5 t6 t7 t8 t9 tA tB tC tD tR tS (if ek = true then 1 else 0) eP eb er ek es ed ec ew lk lf lo lv le eW et1_16 eh1_16 ei1_16 eu1_16 em1_16 false 2 ) lL_X7_fails lC_X7_125 rfl [] (List.Perm.refl _) (fun u => (WQ cI cJ cZ cII cZZ [] t0 t1 t2 t3 t4 t5 t6 t7 t8 t9 tA tB tC tD tR tS (if false = true then 2 else 0) eP eb er ek es ed ec ew lk lf lo lv le eW et1_16 eh1_16 ei1_16 eu1_16 em1_16)) (fun _ => List.Perm.refl _) 0 rfl ⟨by decide, by decide⟩ 2 16 rfl rfl ⟨by decide, by decide⟩ rfl hl.1 rfl (Nat.le_of_ble_eq_true rfl) dX7_point_28 (fun u H locs hq9 hZ => ?_)
      have hZ : zS D A s.heap H locs (WQ cI cJ cZ cII cZZ [] t0 t1 t2 t3 t4 t5 t6 t7 t8 t9 tA tB tC tD tR tS (if false = true then 2 else 0) eP eb er ek es ed ec ew lk lf lo lv le eW et1_16 eh1_16 ei1_16 eu1_16 em1_16) := hZ
      refine W.eq (g2 := F0 mth 31 ls [.int (zB false)]) rfl ?_
      refine z_if_eq hx hb 36 dX7_point_31 (by decide) (C := True) (by rw [zB_0]; simp) (fun h31 => ?_) (fun h31 => ?_)
      · skip
        refine lv_aload_n hx hb dX7_point_36 rfl (lv_at hl 0 rfl) ?_
        refine lv_aload_n hx hb dX7_point_37 rfl (lv_at hl 0 rfl) ?_
        refine z_get hE fF_X7_19 hZ 0 rfl (.int (nI em1_16)) rfl dX7_point_38 ?_
        refine z_kVp (As := [.int (nI em1_16)]) (rest := []) hE hZ (c_X7_commit l D cI cJ cZ cII cZZ t0 t1 t2 t3 t4 t5 t6 t7 t8 t9 tA tB tC tD tR tS (if false = true then 2 else 0) eP eb er ek es ed ec ew lk lf lo lv le eW et1_16 eh1_16 ei1_16 eu1_16 em1_16 B a (plL B ih iN uv a) ((em1_16 : Nat) : Int) (nI em1_16) (hP) (hM) (by have z1 := hpl.2; rw [plL_len] at z1; omega) (hpl.1) (⟨hpl.2, by rw [plL_len] at hpl; omega⟩) (plL_lt haw.1 hu0 hft) (zI_n _)) lL_X7_commit lC_X7_114 rfl [] (List.Perm.refl _) (fun u => (WQ cI cJ cZ cII cZZ [] t0 t1 t2 t3 t4 t5 t6 t7 t8 t9 tA tB tC tD tR tS (if false = true then 2 else 0) u.1 eb er ek u.2.1 ed u.2.2.1 u.2.2.2.1 lk lf lo lv u.2.2.2.2.1 u.2.2.2.2.2 et1_16 eh1_16 ei1_16 eu1_16 em1_16)) (fun _ => List.Perm.refl _) 0 rfl ⟨by decide, by decide⟩ 2 16 rfl rfl ⟨by decide, by decide⟩ rfl hl.1 rfl (Nat.le_of_ble_eq_true rfl) dX7_point_41 (fun u H locs hq9 hZ => ?_)
        obtain ⟨eP1_41, es1_41, ec1_41, ew1_41, le1_41, eW1_41⟩ := u
        obtain ⟨hq_41, hq2_41, hq3_41, hq4_41⟩ := hq9
        have hq_41 : RP (app B ((plL B ih iN uv a).take ((em1_16 : Nat) : Int).toNat)) eP1_41 := hq_41
        have hq2_41 : eW1_41 = eW + ((min (plL B ih iN uv a).length ((em1_16 : Nat) : Int).toNat : Nat) : Int) := hq2_41
        have hq3_41 : (em1_16 : Int) ≤ ((em1_16 : Nat) : Int) → le1_41 = 0 ∧ RM es1_41 ed ew1_41 ec1_41 (a.1, a.2.1, fun _ _ => false, fun _ => false) := hq3_41
        have hq4_41 : ((em1_16 : Nat) : Int) < (em1_16 : Int) → le1_41 = le := hq4_41
        have hZ : zS D A s.heap H locs (WQ cI cJ cZ cII cZZ [] t0 t1 t2 t3 t4 t5 t6 t7 t8 t9 tA tB tC tD tR tS (if false = true then 2 else 0) eP1_41 eb er ek es1_41 ed ec1_41 ew1_41 lk lf lo lv le1_41 eW1_41 et1_16 eh1_16 ei1_16 eu1_16 em1_16) := hZ
        refine W.eq (g2 := F0 mth 44 ls [.int (zB (decide ((em1_16 : Int) ≤ ((em1_16 : Nat) : Int))))]) rfl ?_
        obtain ⟨hle0, hRM0⟩ := hq3_41 (Int.le_refl _)
        obtain ⟨ro2, hp1, hp2, hp3, hp4⟩ := point_ok hA haw hu hft hN
        have hRM1 := RM_E hRM0 hp2
        have hz1 := hpl.2
        rw [Int.toNat_natCast, List.take_of_length_le (by omega)] at hq_41
        rw [Int.toNat_natCast, hz1, Nat.min_self] at hq2_41
        refine lv_pop hx hb dX7_point_44 rfl ?_
        refine lv_aload_n hx hb dX7_point_45 rfl (lv_at hl 0 rfl) ?_
        refine z_kVp (As := []) (rest := []) hE hZ (c_X7_number l D cI cJ cZ cII cZZ t0 t1 t2 t3 t4 t5 t6 t7 t8 t9 tA tB tC tD tR tS (if false = true then 2 else 0) eP1_41 eb er ek es1_41 ed ec1_41 ew1_41 lk lf lo lv le1_41 eW1_41 et1_16 eh1_16 ei1_16 eu1_16 em1_16 (app B (plL B ih iN uv a)) ro2 ((plY B ih uv a).2) (iN + 1) (hq_41) (hp1) (hN)) lL_X7_number lC_X7_145 rfl [] (List.Perm.refl _) (fun u => (WQ cI cJ cZ cII cZZ [] t0 t1 t2 t3 t4 t5 t6 t7 t8 t9 tA tB tC tD tR tS (if false = true then 2 else 0) eP1_41 eb er ek es1_41 ed ec1_41 ew1_41 lk lf lo lv le1_41 eW1_41 et1_16 eh1_16 ei1_16 eu1_16 em1_16)) (fun _ => List.Perm.refl _) 0 rfl ⟨by decide, by decide⟩ 2 16 rfl rfl ⟨by decide, by decide⟩ rfl hl.1 rfl (Nat.le_of_ble_eq_true rfl) dX7_point_46 (fun u H locs hq9 hZ => ?_)
        have hZ : zS D A s.heap H locs (WQ cI cJ cZ cII cZZ [] t0 t1 t2 t3 t4 t5 t6 t7 t8 t9 tA tB tC tD tR tS (if false = true then 2 else 0) eP1_41 eb er ek es1_41 ed ec1_41 ew1_41 lk lf lo lv le1_41 eW1_41 et1_16 eh1_16 ei1_16 eu1_16 em1_16) := hZ
        refine W.eq (g2 := F0 mth 49 ls [.int (nI (iN + 1))]) rfl ?_
        exact z_iret hE hrt9 hlocks hZ (eP1_41, es1_41, ed, ec1_41, ew1_41, lk, lf, lo, lv, le1_41, eW1_41, et1_16, eh1_16, ei1_16, eu1_16, em1_16, (if false = true then 2 else 0), iN + 1) rfl (show (((if false = true then 2 else 0) = 1 ∧ ek = true ∧ RT B ih lk lf lo lv le eW eP1_41 es1_41 ed ec1_41 ew1_41 lk lf lo lv le1_41 eW1_41) ∨ ((if false = true then 2 else 0) = 2 ∧ ek = false ∧ fc uv 600 < (plY B ih uv a).1.length ∧ RT B ih lk lf lo lv le eW eP1_41 es1_41 ed ec1_41 ew1_41 lk lf lo lv le1_41 eW1_41) ∨ ((if false = true then 2 else 0) = 0 ∧ ek = false ∧ (plY B ih uv a).1.length ≤ fc uv 600 ∧ (iN + 1) = iN + 1 ∧ RT (app B (plL B ih iN uv a)) (plY B ih uv a).2 lk lf lo lv 0 (eW + ((plL B ih iN uv a).length : Int)) eP1_41 es1_41 ed ec1_41 ew1_41 lk lf lo lv le1_41 eW1_41)) from Or.inr (Or.inr ⟨rfl, hbk, hft, rfl, hq_41, hRM1, rfl, rfl, rfl, rfl, hle0, hq2_41⟩)) rfl dX7_point_49 (Nat.le_of_ble_eq_true rfl) (Nat.le_of_ble_eq_true rfl)
      · skip
        exact absurd trivial h31
    · skip
      have hft : ¬ (plY B ih uv a).1.length ≤ fc uv 600 := by simpa using h19
      refine z_iconst hx hb (nI 1) dX7_point_22 (by decide) ?_
      refine lv_goto (tgt := 27) hx hb dX7_point_23 (by decide) ?_
      refine z_iconst hx hb (nI 2) dX7_point_27 (by decide) ?_
      refine z_kVp (As := [.int (nI 1), .int (nI 2)]) (rest := []) hE hZ (c_X7_fails l D cI cJ cZ cII cZZ t0 t1 t2 t3 t4 t5 t6 t7 t8 t9 tA tB tC tD tR tS (if ek = true then 1 else 0) eP eb er ek es ed ec ew lk lf lo lv le eW et1_16 eh1_16 ei1_16 eu1_16 em1_16 true 2 ) lL_X7_fails lC_X7_125 rfl [] (List.Perm.refl _) (fun u => (WQ cI cJ cZ cII cZZ [] t0 t1 t2 t3 t4 t5 t6 t7 t8 t9 tA tB tC tD tR tS (if true = true then 2 else 0) eP eb er ek es ed ec ew lk lf lo lv le eW et1_16 eh1_16 ei1_16 eu1_16 em1_16)) (fun _ => List.Perm.refl _) 0 rfl ⟨by decide, by decide⟩ 2 16 rfl rfl ⟨by decide, by decide⟩ rfl hl.1 rfl (Nat.le_of_ble_eq_true rfl) dX7_point_28 (fun u H locs hq9 hZ => ?_)
      have hZ : zS D A s.heap H locs (WQ cI cJ cZ cII cZZ [] t0 t1 t2 t3 t4 t5 t6 t7 t8 t9 tA tB tC tD tR tS (if true = true then 2 else 0) eP eb er ek es ed ec ew lk lf lo lv le eW et1_16 eh1_16 ei1_16 eu1_16 em1_16) := hZ
      refine W.eq (g2 := F0 mth 31 ls [.int (zB true)]) rfl ?_
      refine z_if_eq hx hb 36 dX7_point_31 (by decide) (C := False) (by rw [zB_0]; simp) (fun h31 => ?_) (fun h31 => ?_)
      · skip
        exact h31.elim
      · skip
        refine z_iconst hx hb (nI 0) dX7_point_34 (by decide) ?_
        exact z_iret hE hrt9 hlocks hZ (eP, es, ed, ec, ew, lk, lf, lo, lv, le, eW, et1_16, eh1_16, ei1_16, eu1_16, em1_16, (if true = true then 2 else 0), 0) rfl (show (((if true = true then 2 else 0) = 1 ∧ ek = true ∧ RT B ih lk lf lo lv le eW eP es ed ec ew lk lf lo lv le eW) ∨ ((if true = true then 2 else 0) = 2 ∧ ek = false ∧ fc uv 600 < (plY B ih uv a).1.length ∧ RT B ih lk lf lo lv le eW eP es ed ec ew lk lf lo lv le eW) ∨ ((if true = true then 2 else 0) = 0 ∧ ek = false ∧ (plY B ih uv a).1.length ≤ fc uv 600 ∧ 0 = iN + 1 ∧ RT (app B (plL B ih iN uv a)) (plY B ih uv a).2 lk lf lo lv 0 (eW + ((plL B ih iN uv a).length : Int)) eP es ed ec ew lk lf lo lv le eW)) from Or.inr (Or.inl ⟨rfl, hbk, by omega, ⟨hP, by rw [← hae]; exact hM, rfl, rfl, rfl, rfl, rfl, rfl⟩⟩)) rfl dX7_point_35 (Nat.le_of_ble_eq_true rfl) (Nat.le_of_ble_eq_true rfl)
  · skip
    have hbk : ek = true := by simpa using h9
    refine z_iconst hx hb (nI 0) dX7_point_12 (by decide) ?_
    exact z_iret hE hrt9 hlocks hZ (eP, es, ed, ec, ew, lk, lf, lo, lv, le, eW, et, eh, ei, eu, em, (if ek = true then 1 else 0), 0) rfl (show (((if ek = true then 1 else 0) = 1 ∧ ek = true ∧ RT B ih lk lf lo lv le eW eP es ed ec ew lk lf lo lv le eW) ∨ ((if ek = true then 1 else 0) = 2 ∧ ek = false ∧ fc uv 600 < (plY B ih uv a).1.length ∧ RT B ih lk lf lo lv le eW eP es ed ec ew lk lf lo lv le eW) ∨ ((if ek = true then 1 else 0) = 0 ∧ ek = false ∧ (plY B ih uv a).1.length ≤ fc uv 600 ∧ 0 = iN + 1 ∧ RT (app B (plL B ih iN uv a)) (plY B ih uv a).2 lk lf lo lv 0 (eW + ((plL B ih iN uv a).length : Int)) eP es ed ec ew lk lf lo lv le eW)) from Or.inl ⟨by rw [if_pos hbk], hbk, ⟨hP, by rw [← hae]; exact hM, rfl, rfl, rfl, rfl, rfl, rfl⟩⟩) rfl dX7_point_13 (Nat.le_of_ble_eq_true rfl) (Nat.le_of_ble_eq_true rfl)
set_option maxHeartbeats 1000000 in
set_option maxRecDepth 100000 in
theorem c_X7_info (l : Launch) (D : va_G) (cI cJ cZ cII cZZ : ClassId) (t0 : Nat) (t1 : Nat) (t2 : Nat) (t3 : Nat) (t4 : Nat) (t5 : Nat) (t6 : Nat) (t7 : Nat) (t8 : Nat) (t9 : Nat) (tA : Nat) (tB : Nat) (tC : Nat) (tD : Nat) (tR : Nat → Nat) (tS : Nat → Nat) (e0 : Nat) (eP : Nat → Nat) (eb : Int) (er : Int) (ek : Bool) (es : Nat → Int) (ed : Nat → Nat → Nat) (ec : Nat → Bool) (ew : Nat → Nat → Bool) (lk : Nat → Nat) (lf : Nat → Nat) (lo : Nat → Nat) (lv : Nat → Int64) (le : Nat) (eW : Int) (et : Nat → Nat) (eh : Nat → Nat) (ei : Nat → Int) (eu : Nat → Bool) (em : Nat) (B : Nat → Int64) (ro : Nat → Nat) (ih : Nat → Nat) (iN : Nat) (k : Nat) (x : Nat) (y : Nat) (hP : RP B eP) (hA : AI B ro ih iN) (hN : iN < 2 ^ 31) (hk : k < 5) (hx1 : x < 65536) (hy : y < 65536) (hb1 : ∀ j, va_up (va_up ih ((k + 1) * 2) x) ((k + 1) * 2 + 1) y j < 65536) :
    zC l yX7_info cX7_info 5 none { frames := 0, cells := 0, slots := 0, locals := 0 } D (zT cI cJ cZ cII cZZ) [.ref t0, .int (nI k), .int (nI x), .int (nI y)] (WQ cI cJ cZ cII cZZ [] t0 t1 t2 t3 t4 t5 t6 t7 t8 t9 tA tB tC tD tR tS e0 eP eb er ek es ed ec ew lk lf lo lv le eW et eh ei eu em) (S := (Nat → Nat)) (fun u => none) (fun u => (RP (inB B iN (va_up (va_up ih ((k + 1) * 2) x) ((k + 1) * 2 + 1) y)) u)) (fun u => (WQ cI cJ cZ cII cZZ [] t0 t1 t2 t3 t4 t5 t6 t7 t8 t9 tA tB tC tD tR tS e0 u eb er ek es ed ec ew lk lf lo lv le (eW + 1) et eh ei eu em)) := by
  refine zC_of (by decide) (Nat.le_of_ble_eq_true rfl) ?_
  intro prg env s mth below meth cde A ls hE hrt9 hlocks hnm hZ hl
  have hx := hE.1
  have hb := hE.2.1
  have hl : lv_has ls 5 [(0, .ref t0), (1, .int (nI k)), (2, .int (nI x)), (3, .int (nI y))] := hl
  refine z_bipush hx hb (nI 8) dX7_info_0 (by decide) ?_
  refine z_iconst hx hb (nI 4) dX7_info_2 (by decide) ?_
  refine lv_iload_n hx hb dX7_info_3 rfl (lv_at hl 1 rfl) ?_
  refine z_imul hx hb dX7_info_4 (z := nI (4 * k)) (pk_mul _ _) ?_
  refine z_iadd hx hb dX7_info_5 (z := nI (8 + (4 * k))) (nI_add _ _) ?_
  refine lv_istore (lv' := [(4, .int (nI (8 + (4 * k)))), (0, .ref t0), (1, .int (nI k)), (2, .int (nI x)), (3, .int (nI y))]) hx hb dX7_info_6 hl (by decide) rfl (fun ls hl => ?_)
  refine lv_aload_n hx hb dX7_info_8 rfl (lv_at hl 1 rfl) ?_
  refine z_get hE fF_X7_1 hZ 0 rfl (.ref t1) rfl dX7_info_9 ?_
  refine lv_iload hx hb dX7_info_12 (lv_at hl 0 rfl) ?_
  refine lv_iload_n hx hb dX7_info_14 rfl (lv_at hl 3 rfl) ?_
  refine z_bipush hx hb (nI 8) dX7_info_15 (by decide) ?_
  refine lv_ishr hx hb dX7_info_17 ?_
  refine z_top (show (nI x) >>> ((nI 8) &&& 31) = nI (x / 256) from pk_shrN (by omega) _ 8 (by decide)) ?_
  refine z_iast nI eP (x / 256) hE hZ 1 0 rfl rfl (by decide) (by omega) dX7_info_18 (WQ cI cJ cZ cII cZZ [] t0 t1 t2 t3 t4 t5 t6 t7 t8 t9 tA tB tC tD tR tS e0 (va_up eP (8 + (4 * k)) (x / 256)) eb er ek es ed ec ew lk lf lo lv le eW et eh ei eu em) rfl (fun H locs hZ => ?_)
  refine lv_aload_n hx hb dX7_info_19 rfl (lv_at hl 1 rfl) ?_
  refine z_get hE fF_X7_1 hZ 0 rfl (.ref t1) rfl dX7_info_20 ?_
  refine lv_iload hx hb dX7_info_23 (lv_at hl 0 rfl) ?_
  refine z_iconst hx hb (nI 1) dX7_info_25 (by decide) ?_
  refine z_iadd hx hb dX7_info_26 (z := nI ((8 + (4 * k)) + 1)) (nI_add _ _) ?_
  refine lv_iload_n hx hb dX7_info_27 rfl (lv_at hl 3 rfl) ?_
  refine z_sipush hx hb (nI 255) dX7_info_28 (by decide) ?_
  refine lv_iand hx hb dX7_info_31 ?_
  refine z_top (show (nI x) &&& (nI 255) = nI (x % 256) from pk_andN (by omega) 8 (by decide)) ?_
  refine z_iast nI (va_up eP (8 + (4 * k)) (x / 256)) (x % 256) hE hZ 1 0 rfl rfl (by decide) (by omega) dX7_info_32 (WQ cI cJ cZ cII cZZ [] t0 t1 t2 t3 t4 t5 t6 t7 t8 t9 tA tB tC tD tR tS e0 (va_up (va_up eP (8 + (4 * k)) (x / 256)) ((8 + (4 * k)) + 1) (x % 256)) eb er ek es ed ec ew lk lf lo lv le eW et eh ei eu em) rfl (fun H locs hZ => ?_)
  refine lv_aload_n hx hb dX7_info_33 rfl (lv_at hl 1 rfl) ?_
  refine z_get hE fF_X7_1 hZ 0 rfl (.ref t1) rfl dX7_info_34 ?_
  refine lv_iload hx hb dX7_info_37 (lv_at hl 0 rfl) ?_
  refine z_iconst hx hb (nI 2) dX7_info_39 (by decide) ?_
  refine z_iadd hx hb dX7_info_40 (z := nI ((8 + (4 * k)) + 2)) (nI_add _ _) ?_
  refine lv_iload_n hx hb dX7_info_41 rfl (lv_at hl 4 rfl) ?_
  refine z_bipush hx hb (nI 8) dX7_info_42 (by decide) ?_
  refine lv_ishr hx hb dX7_info_44 ?_
  refine z_top (show (nI y) >>> ((nI 8) &&& 31) = nI (y / 256) from pk_shrN (by omega) _ 8 (by decide)) ?_
  refine z_iast nI (va_up (va_up eP (8 + (4 * k)) (x / 256)) ((8 + (4 * k)) + 1) (x % 256)) (y / 256) hE hZ 1 0 rfl rfl (by decide) (by omega) dX7_info_45 (WQ cI cJ cZ cII cZZ [] t0 t1 t2 t3 t4 t5 t6 t7 t8 t9 tA tB tC tD tR tS e0 (va_up (va_up (va_up eP (8 + (4 * k)) (x / 256)) ((8 + (4 * k)) + 1) (x % 256)) ((8 + (4 * k)) + 2) (y / 256)) eb er ek es ed ec ew lk lf lo lv le eW et eh ei eu em) rfl (fun H locs hZ => ?_)
  refine lv_aload_n hx hb dX7_info_46 rfl (lv_at hl 1 rfl) ?_
  refine z_get hE fF_X7_1 hZ 0 rfl (.ref t1) rfl dX7_info_47 ?_
  refine lv_iload hx hb dX7_info_50 (lv_at hl 0 rfl) ?_
  refine z_iconst hx hb (nI 3) dX7_info_52 (by decide) ?_
  refine z_iadd hx hb dX7_info_53 (z := nI ((8 + (4 * k)) + 3)) (nI_add _ _) ?_
  refine lv_iload_n hx hb dX7_info_54 rfl (lv_at hl 4 rfl) ?_
  refine z_sipush hx hb (nI 255) dX7_info_55 (by decide) ?_
  refine lv_iand hx hb dX7_info_58 ?_
  refine z_top (show (nI y) &&& (nI 255) = nI (y % 256) from pk_andN (by omega) 8 (by decide)) ?_
  refine z_iast nI (va_up (va_up (va_up eP (8 + (4 * k)) (x / 256)) ((8 + (4 * k)) + 1) (x % 256)) ((8 + (4 * k)) + 2) (y / 256)) (y % 256) hE hZ 1 0 rfl rfl (by decide) (by omega) dX7_info_59 (WQ cI cJ cZ cII cZZ [] t0 t1 t2 t3 t4 t5 t6 t7 t8 t9 tA tB tC tD tR tS e0 (va_up (va_up (va_up (va_up eP (8 + (4 * k)) (x / 256)) ((8 + (4 * k)) + 1) (x % 256)) ((8 + (4 * k)) + 2) (y / 256)) ((8 + (4 * k)) + 3) (y % 256)) eb er ek es ed ec ew lk lf lo lv le eW et eh ei eu em) rfl (fun H locs hZ => ?_)
  refine lv_aload_n hx hb dX7_info_60 rfl (lv_at hl 1 rfl) ?_
  refine lv_dup hx hb dX7_info_61 rfl ?_
  refine z_get hE fF_X7_14 hZ 0 rfl (.int (zI eW)) rfl dX7_info_62 ?_
  refine z_iconst hx hb (nI 1) dX7_info_65 (by decide) ?_
  refine z_iadd hx hb dX7_info_66 (z := zI (eW + 1)) (by (try simp only [zI_n]); exact zI_add _ _) ?_
  refine z_put hE fF_X7_14 fP_X7 rfl hZ 0 rfl rfl rfl (Nat.le_of_ble_eq_true rfl) dX7_info_67 (WQ cI cJ cZ cII cZZ [] t0 t1 t2 t3 t4 t5 t6 t7 t8 t9 tA tB tC tD tR tS e0 (va_up (va_up (va_up (va_up eP (8 + (4 * k)) (x / 256)) ((8 + (4 * k)) + 1) (x % 256)) ((8 + (4 * k)) + 2) (y / 256)) ((8 + (4 * k)) + 3) (y % 256)) eb er ek es ed ec ew lk lf lo lv le (eW + 1) et eh ei eu em) rfl (fun H locs hZ => ?_)
  exact z_vret hE hrt9 hlocks hZ (va_up (va_up (va_up (va_up eP (8 + (4 * k)) (x / 256)) ((8 + (4 * k)) + 1) (x % 256)) ((8 + (4 * k)) + 2) (y / 256)) ((8 + (4 * k)) + 3) (y % 256)) rfl (show (RP (inB B iN (va_up (va_up ih ((k + 1) * 2) x) ((k + 1) * 2 + 1) y)) (va_up (va_up (va_up (va_up eP (8 + (4 * k)) (x / 256)) ((8 + (4 * k)) + 1) (x % 256)) ((8 + (4 * k)) + 2) (y / 256)) ((8 + (4 * k)) + 3) (y % 256))) from RP_info hA hN hP hk hx1 hy hb1 rfl) rfl dX7_info_70 (Nat.le_of_ble_eq_true rfl) (Nat.le_of_ble_eq_true rfl)
set_option maxHeartbeats 1000000 in
set_option maxRecDepth 100000 in
theorem c_X7_snapshot (l : Launch) (D : va_G) (cI cJ cZ cII cZZ : ClassId) (t0 : Nat) (t1 : Nat) (t2 : Nat) (t3 : Nat) (t4 : Nat) (t5 : Nat) (t6 : Nat) (t7 : Nat) (t8 : Nat) (t9 : Nat) (tA : Nat) (tB : Nat) (tC : Nat) (tD : Nat) (tR : Nat → Nat) (tS : Nat → Nat) (e0 : Nat) (eP : Nat → Nat) (eb : Int) (er : Int) (ek : Bool) (es : Nat → Int) (ed : Nat → Nat → Nat) (ec : Nat → Bool) (ew : Nat → Nat → Bool) (lk : Nat → Nat) (lf : Nat → Nat) (lo : Nat → Nat) (lv : Nat → Int64) (le : Nat) (eW : Int) (et : Nat → Nat) (eh : Nat → Nat) (ei : Nat → Int) (eu : Nat → Bool) (em : Nat) (B : Nat → Int64) (ro : Nat → Nat) (ih : Nat → Nat) (iN : Nat) (uv : Nat → Bool) (a : aM) (k : Int) (k_q : Int32) (hP : RP B eP) (hA : AI B ro ih iN) (hN : iN + 1 < 2 ^ 31) (hM : RM es ed ew ec a) (hLO : LOK lk lf lo lv le (lodA B ih)) (hae : a = aRun lk lf lo lv (lodA B ih) le) (hu : ∀ p, p < 600 → (uv p = true ↔ UA B ih 12 p)) (hk : -2147483648 ≤ k ∧ k < 2147483648) (hih : ∀ j, ih j < 65536) (k_h : k_q = zI k) :
    zC l yX7_snapshot cX7_snapshot 2 none { frames := 5, cells := 2, slots := 16, locals := 116 } D (zT cI cJ cZ cII cZZ) [.ref t0, .int (k_q)] (WQ cI cJ cZ cII cZZ [] t0 t1 t2 t3 t4 t5 t6 t7 t8 t9 tA tB tC tD tR tS e0 eP eb er ek es ed ec ew lk lf lo lv le eW et eh ei eu em) (S := (Nat → Nat) × (Nat → Int) × (Nat → Nat → Nat) × (Nat → Bool) × (Nat → Nat → Bool) × (Nat → Nat) × (Nat → Nat) × (Nat → Nat) × (Nat → Int64) × Nat × Int × (Nat → Nat) × (Nat → Nat) × (Nat → Int) × (Nat → Bool) × Nat × Nat) (fun u => none) (fun u => ((u.2.2.2.2.2.2.2.2.2.2.2.2.2.2.2.2 = 1 ∧ ¬ (0 ≤ k ∧ k < 5) ∧ RT B ih lk lf lo lv le eW u.1 u.2.1 u.2.2.1 u.2.2.2.1 u.2.2.2.2.1 u.2.2.2.2.2.1 u.2.2.2.2.2.2.1 u.2.2.2.2.2.2.2.1 u.2.2.2.2.2.2.2.2.1 u.2.2.2.2.2.2.2.2.2.1 u.2.2.2.2.2.2.2.2.2.2.1) ∨ (u.2.2.2.2.2.2.2.2.2.2.2.2.2.2.2.2 = 2 ∧ (0 ≤ k ∧ k < 5) ∧ ek = true ∧ RT B ih lk lf lo lv le eW u.1 u.2.1 u.2.2.1 u.2.2.2.1 u.2.2.2.2.1 u.2.2.2.2.2.1 u.2.2.2.2.2.2.1 u.2.2.2.2.2.2.2.1 u.2.2.2.2.2.2.2.2.1 u.2.2.2.2.2.2.2.2.2.1 u.2.2.2.2.2.2.2.2.2.2.1) ∨ (u.2.2.2.2.2.2.2.2.2.2.2.2.2.2.2.2 = 3 ∧ (0 ≤ k ∧ k < 5) ∧ ek = false ∧ fc uv 600 < (plY B ih uv a).1.length ∧ RT B ih lk lf lo lv le eW u.1 u.2.1 u.2.2.1 u.2.2.2.1 u.2.2.2.2.1 u.2.2.2.2.2.1 u.2.2.2.2.2.2.1 u.2.2.2.2.2.2.2.1 u.2.2.2.2.2.2.2.2.1 u.2.2.2.2.2.2.2.2.2.1 u.2.2.2.2.2.2.2.2.2.2.1) ∨ (u.2.2.2.2.2.2.2.2.2.2.2.2.2.2.2.2 = 0 ∧ (0 ≤ k ∧ k < 5) ∧ ek = false ∧ (plY B ih uv a).1.length ≤ fc uv 600 ∧ RT (inB (app B (plL B ih iN uv a)) (iN + 1) (va_up (va_up (plY B ih uv a).2 ((k.toNat + 1) * 2) ((plY B ih uv a).2 0)) ((k.toNat + 1) * 2 + 1) ((plY B ih uv a).2 1))) (va_up (va_up (plY B ih uv a).2 ((k.toNat + 1) * 2) ((plY B ih uv a).2 0)) ((k.toNat + 1) * 2 + 1) ((plY B ih uv a).2 1)) lk lf lo lv 0 (eW + ((plL B ih iN uv a).length : Int) + 1) u.1 u.2.1 u.2.2.1 u.2.2.2.1 u.2.2.2.2.1 u.2.2.2.2.2.1 u.2.2.2.2.2.2.1 u.2.2.2.2.2.2.2.1 u.2.2.2.2.2.2.2.2.1 u.2.2.2.2.2.2.2.2.2.1 u.2.2.2.2.2.2.2.2.2.2.1))) (fun u => (WQ cI cJ cZ cII cZZ [] t0 t1 t2 t3 t4 t5 t6 t7 t8 t9 tA tB tC tD tR tS u.2.2.2.2.2.2.2.2.2.2.2.2.2.2.2.2 u.1 eb er ek u.2.1 u.2.2.1 u.2.2.2.1 u.2.2.2.2.1 u.2.2.2.2.2.1 u.2.2.2.2.2.2.1 u.2.2.2.2.2.2.2.1 u.2.2.2.2.2.2.2.2.1 u.2.2.2.2.2.2.2.2.2.1 u.2.2.2.2.2.2.2.2.2.2.1 u.2.2.2.2.2.2.2.2.2.2.2.1 u.2.2.2.2.2.2.2.2.2.2.2.2.1 u.2.2.2.2.2.2.2.2.2.2.2.2.2.1 u.2.2.2.2.2.2.2.2.2.2.2.2.2.2.1 u.2.2.2.2.2.2.2.2.2.2.2.2.2.2.2.1)) := by
  refine zC_of (by decide) (Nat.le_of_ble_eq_true rfl) ?_
  intro prg env s mth below meth cde A ls hE hrt9 hlocks hnm hZ hl
  have hx := hE.1
  have hb := hE.2.1
  subst k_h
  have hl : lv_has ls 2 [(0, .ref t0), (1, .int (zI k))] := hl
  have hl40 := hLO.1
  have haw : AW B ih a := by rw [hae]; exact hA.aw hLO
  have hu0 : uv 0 = true := (hu 0 (by omega)).mpr (Or.inl rfl)
  refine lv_aload_n hx hb dX7_snapshot_0 rfl (lv_at hl 0 rfl) ?_
  refine lv_iload_n hx hb dX7_snapshot_1 rfl (lv_at hl 1 rfl) ?_
  refine z_if_lt hx hb 10 dX7_snapshot_2 (by decide) (C := k < 0) (zI_lt0 ⟨by omega, by omega⟩) (fun h2 => ?_) (fun h2 => ?_)
  · skip
    have hnk : ¬ (0 ≤ k ∧ k < 5) := by omega
    refine z_iconst hx hb (nI 1) dX7_snapshot_10 (by decide) ?_
    refine lv_goto (tgt := 15) hx hb dX7_snapshot_11 (by decide) ?_
    refine z_iconst hx hb (nI 1) dX7_snapshot_15 (by decide) ?_
    refine z_kVp (As := [.int (nI 1), .int (nI 1)]) (rest := []) hE hZ (c_X7_fails l D cI cJ cZ cII cZZ t0 t1 t2 t3 t4 t5 t6 t7 t8 t9 tA tB tC tD tR tS e0 eP eb er ek es ed ec ew lk lf lo lv le eW et eh ei eu em true 1 ) lL_X7_fails lC_X7_125 rfl [] (List.Perm.refl _) (fun u => (WQ cI cJ cZ cII cZZ [] t0 t1 t2 t3 t4 t5 t6 t7 t8 t9 tA tB tC tD tR tS (if true = true then 1 else 0) eP eb er ek es ed ec ew lk lf lo lv le eW et eh ei eu em)) (fun _ => List.Perm.refl _) 0 rfl ⟨by decide, by decide⟩ 0 0 rfl rfl ⟨by decide, by decide⟩ rfl hl.1 rfl (Nat.le_of_ble_eq_true rfl) dX7_snapshot_16 (fun u H locs hq9 hZ => ?_)
    have hZ : zS D A s.heap H locs (WQ cI cJ cZ cII cZZ [] t0 t1 t2 t3 t4 t5 t6 t7 t8 t9 tA tB tC tD tR tS (if true = true then 1 else 0) eP eb er ek es ed ec ew lk lf lo lv le eW et eh ei eu em) := hZ
    refine W.eq (g2 := F0 mth 19 ls [.int (zB true)]) rfl ?_
    refine z_if_eq hx hb 23 dX7_snapshot_19 (by decide) (C := False) (by rw [zB_0]; simp) (fun h19 => ?_) (fun h19 => ?_)
    · skip
      exact h19.elim
    · skip
      exact z_vret hE hrt9 hlocks hZ (eP, es, ed, ec, ew, lk, lf, lo, lv, le, eW, et, eh, ei, eu, em, (if true = true then 1 else 0)) rfl (show (((if true = true then 1 else 0) = 1 ∧ ¬ (0 ≤ k ∧ k < 5) ∧ RT B ih lk lf lo lv le eW eP es ed ec ew lk lf lo lv le eW) ∨ ((if true = true then 1 else 0) = 2 ∧ (0 ≤ k ∧ k < 5) ∧ ek = true ∧ RT B ih lk lf lo lv le eW eP es ed ec ew lk lf lo lv le eW) ∨ ((if true = true then 1 else 0) = 3 ∧ (0 ≤ k ∧ k < 5) ∧ ek = false ∧ fc uv 600 < (plY B ih uv a).1.length ∧ RT B ih lk lf lo lv le eW eP es ed ec ew lk lf lo lv le eW) ∨ ((if true = true then 1 else 0) = 0 ∧ (0 ≤ k ∧ k < 5) ∧ ek = false ∧ (plY B ih uv a).1.length ≤ fc uv 600 ∧ RT (inB (app B (plL B ih iN uv a)) (iN + 1) (va_up (va_up (plY B ih uv a).2 ((k.toNat + 1) * 2) ((plY B ih uv a).2 0)) ((k.toNat + 1) * 2 + 1) ((plY B ih uv a).2 1))) (va_up (va_up (plY B ih uv a).2 ((k.toNat + 1) * 2) ((plY B ih uv a).2 0)) ((k.toNat + 1) * 2 + 1) ((plY B ih uv a).2 1)) lk lf lo lv 0 (eW + ((plL B ih iN uv a).length : Int) + 1) eP es ed ec ew lk lf lo lv le eW)) from Or.inl ⟨rfl, hnk, ⟨hP, by rw [← hae]; exact hM, rfl, rfl, rfl, rfl, rfl, rfl⟩⟩) rfl dX7_snapshot_22 (Nat.le_of_ble_eq_true rfl) (Nat.le_of_ble_eq_true rfl)
  · skip
    refine lv_iload_n hx hb dX7_snapshot_5 rfl (lv_at hl 1 rfl) ?_
    refine z_iconst hx hb (nI 5) dX7_snapshot_6 (by decide) ?_
    refine z_icmp_lt hx hb 14 dX7_snapshot_7 (by decide) (C := (k : Int) < 5) (by (try simp only [zI_n]); exact zI_lt ⟨by omega, by omega⟩ ⟨by omega, by omega⟩) (fun h7 => ?_) (fun h7 => ?_)
    · skip
      have hok : 0 ≤ k ∧ k < 5 := by omega
      refine z_iconst hx hb (nI 0) dX7_snapshot_14 (by decide) ?_
      refine z_iconst hx hb (nI 1) dX7_snapshot_15 (by decide) ?_
      refine z_kVp (As := [.int (nI 0), .int (nI 1)]) (rest := []) hE hZ (c_X7_fails l D cI cJ cZ cII cZZ t0 t1 t2 t3 t4 t5 t6 t7 t8 t9 tA tB tC tD tR tS e0 eP eb er ek es ed ec ew lk lf lo lv le eW et eh ei eu em false 1 ) lL_X7_fails lC_X7_125 rfl [] (List.Perm.refl _) (fun u => (WQ cI cJ cZ cII cZZ [] t0 t1 t2 t3 t4 t5 t6 t7 t8 t9 tA tB tC tD tR tS (if false = true then 1 else 0) eP eb er ek es ed ec ew lk lf lo lv le eW et eh ei eu em)) (fun _ => List.Perm.refl _) 0 rfl ⟨by decide, by decide⟩ 0 0 rfl rfl ⟨by decide, by decide⟩ rfl hl.1 rfl (Nat.le_of_ble_eq_true rfl) dX7_snapshot_16 (fun u H locs hq9 hZ => ?_)
      have hZ : zS D A s.heap H locs (WQ cI cJ cZ cII cZZ [] t0 t1 t2 t3 t4 t5 t6 t7 t8 t9 tA tB tC tD tR tS (if false = true then 1 else 0) eP eb er ek es ed ec ew lk lf lo lv le eW et eh ei eu em) := hZ
      refine W.eq (g2 := F0 mth 19 ls [.int (zB false)]) rfl ?_
      refine z_if_eq hx hb 23 dX7_snapshot_19 (by decide) (C := True) (by rw [zB_0]; simp) (fun h19 => ?_) (fun h19 => ?_)
      · skip
        refine lv_aload_n hx hb dX7_snapshot_23 rfl (lv_at hl 0 rfl) ?_
        refine lv_aload_n hx hb dX7_snapshot_24 rfl (lv_at hl 0 rfl) ?_
        refine z_get hE fF_X7_4 hZ 0 rfl (.int (zB ek)) rfl dX7_snapshot_25 ?_
        refine z_iconst hx hb (nI 2) dX7_snapshot_28 (by decide) ?_
        refine z_kVp (As := [.int (zB ek), .int (nI 2)]) (rest := []) hE hZ (c_X7_fails l D cI cJ cZ cII cZZ t0 t1 t2 t3 t4 t5 t6 t7 t8 t9 tA tB tC tD tR tS (if false = true then 1 else 0) eP eb er ek es ed ec ew lk lf lo lv le eW et eh ei eu em ek 2 ) lL_X7_fails lC_X7_125 rfl [] (List.Perm.refl _) (fun u => (WQ cI cJ cZ cII cZZ [] t0 t1 t2 t3 t4 t5 t6 t7 t8 t9 tA tB tC tD tR tS (if ek = true then 2 else 0) eP eb er ek es ed ec ew lk lf lo lv le eW et eh ei eu em)) (fun _ => List.Perm.refl _) 0 rfl ⟨by decide, by decide⟩ 0 0 rfl rfl ⟨by decide, by decide⟩ rfl hl.1 rfl (Nat.le_of_ble_eq_true rfl) dX7_snapshot_29 (fun u H locs hq9 hZ => ?_)
        have hZ : zS D A s.heap H locs (WQ cI cJ cZ cII cZZ [] t0 t1 t2 t3 t4 t5 t6 t7 t8 t9 tA tB tC tD tR tS (if ek = true then 2 else 0) eP eb er ek es ed ec ew lk lf lo lv le eW et eh ei eu em) := hZ
        refine W.eq (g2 := F0 mth 32 ls [.int (zB ek)]) rfl ?_
        refine z_if_eq hx hb 36 dX7_snapshot_32 (by decide) (C := ek = false) (zB_0 _) (fun h32 => ?_) (fun h32 => ?_)
        · skip
          have hbk : ek = false := by simpa using h32
          refine lv_aload_n hx hb dX7_snapshot_36 rfl (lv_at hl 0 rfl) ?_
          refine lv_aload_n hx hb dX7_snapshot_37 rfl (lv_at hl 0 rfl) ?_
          refine z_kVp (As := []) (rest := [.ref t0]) hE hZ (c_X7_plan l D cI cJ cZ cII cZZ t0 t1 t2 t3 t4 t5 t6 t7 t8 t9 tA tB tC tD tR tS (if ek = true then 2 else 0) eP eb er ek es ed ec ew lk lf lo lv le eW et eh ei eu em B ro ih iN uv a (hP) (hA) (hN) (hM) (haw) (hu)) lL_X7_plan lC_X7_107 rfl [] (List.Perm.refl _) (fun u => (WQ cI cJ cZ cII cZZ [] t0 t1 t2 t3 t4 t5 t6 t7 t8 t9 tA tB tC tD tR tS (if ek = true then 2 else 0) eP eb er ek es ed ec ew lk lf lo lv le eW u.1 u.2.1 u.2.2.1 u.2.2.2.1 u.2.2.2.2)) (fun _ => List.Perm.refl _) 0 rfl ⟨by decide, by decide⟩ 2 16 rfl rfl ⟨by decide, by decide⟩ rfl hl.1 rfl (Nat.le_of_ble_eq_true rfl) dX7_snapshot_38 (fun u H locs hq9 hZ => ?_)
          obtain ⟨et1_38, eh1_38, ei1_38, eu1_38, em1_38⟩ := u
          have hq_38 := hq9
          have hq_38 : (plY B ih uv a).1.length ≤ fc uv 600 → PLN (plL B ih iN uv a) et1_38 eh1_38 ∧ em1_38 = (plL B ih iN uv a).length := hq_38
          have hZ : zS D A s.heap H locs (WQ cI cJ cZ cII cZZ [] t0 t1 t2 t3 t4 t5 t6 t7 t8 t9 tA tB tC tD tR tS (if ek = true then 2 else 0) eP eb er ek es ed ec ew lk lf lo lv le eW et1_38 eh1_38 ei1_38 eu1_38 em1_38) := hZ
          refine W.eq (g2 := F0 mth 41 ls [.int (zB (decide ((plY B ih uv a).1.length ≤ fc uv 600))), .ref t0]) rfl ?_
          refine z_if_ne hx hb 48 dX7_snapshot_41 (by decide) (C := (decide ((plY B ih uv a).1.length ≤ fc uv 600)) = false) (zB_0 _) (fun h41 => ?_) (fun h41 => ?_)
          · skip
            have hft : (plY B ih uv a).1.length ≤ fc uv 600 := by simpa using h41
            have hpl := hq_38 hft
            have hf0 : fc uv 600 ≤ 599 := fc0 hu0 599
            refine z_iconst hx hb (nI 0) dX7_snapshot_48 (by decide) ?_
            refine z_iconst hx hb (nI 3) dX7_snapshot_49 (by decide) ?_
            refine z_kVp (As := [.int (nI 0), .int (nI 3)]) (rest := []) hE hZ (c_X7_fails l D cI cJ cZ cII cZZ t0 t1 t2 t3 t4 t5 t6 t7 t8 t9 tA tB tC tD tR tS (if ek = true then 2 else 0) eP eb er ek es ed ec ew lk lf lo lv le eW et1_38 eh1_38 ei1_38 eu1_38 em1_38 false 3 ) lL_X7_fails lC_X7_125 rfl [] (List.Perm.refl _) (fun u => (WQ cI cJ cZ cII cZZ [] t0 t1 t2 t3 t4 t5 t6 t7 t8 t9 tA tB tC tD tR tS (if false = true then 3 else 0) eP eb er ek es ed ec ew lk lf lo lv le eW et1_38 eh1_38 ei1_38 eu1_38 em1_38)) (fun _ => List.Perm.refl _) 0 rfl ⟨by decide, by decide⟩ 2 16 rfl rfl ⟨by decide, by decide⟩ rfl hl.1 rfl (Nat.le_of_ble_eq_true rfl) dX7_snapshot_50 (fun u H locs hq9 hZ => ?_)
            have hZ : zS D A s.heap H locs (WQ cI cJ cZ cII cZZ [] t0 t1 t2 t3 t4 t5 t6 t7 t8 t9 tA tB tC tD tR tS (if false = true then 3 else 0) eP eb er ek es ed ec ew lk lf lo lv le eW et1_38 eh1_38 ei1_38 eu1_38 em1_38) := hZ
            refine W.eq (g2 := F0 mth 53 ls [.int (zB false)]) rfl ?_
            refine z_if_eq hx hb 57 dX7_snapshot_53 (by decide) (C := True) (by rw [zB_0]; simp) (fun h53 => ?_) (fun h53 => ?_)
            · skip
              refine lv_aload_n hx hb dX7_snapshot_57 rfl (lv_at hl 0 rfl) ?_
              refine lv_aload_n hx hb dX7_snapshot_58 rfl (lv_at hl 0 rfl) ?_
              refine z_get hE fF_X7_19 hZ 0 rfl (.int (nI em1_38)) rfl dX7_snapshot_59 ?_
              refine z_kVp (As := [.int (nI em1_38)]) (rest := []) hE hZ (c_X7_commit l D cI cJ cZ cII cZZ t0 t1 t2 t3 t4 t5 t6 t7 t8 t9 tA tB tC tD tR tS (if false = true then 3 else 0) eP eb er ek es ed ec ew lk lf lo lv le eW et1_38 eh1_38 ei1_38 eu1_38 em1_38 B a (plL B ih iN uv a) ((em1_38 : Nat) : Int) (nI em1_38) (hP) (hM) (by have z1 := hpl.2; rw [plL_len] at z1; omega) (hpl.1) (⟨hpl.2, by rw [plL_len] at hpl; omega⟩) (plL_lt haw.1 hu0 hft) (zI_n _)) lL_X7_commit lC_X7_114 rfl [] (List.Perm.refl _) (fun u => (WQ cI cJ cZ cII cZZ [] t0 t1 t2 t3 t4 t5 t6 t7 t8 t9 tA tB tC tD tR tS (if false = true then 3 else 0) u.1 eb er ek u.2.1 ed u.2.2.1 u.2.2.2.1 lk lf lo lv u.2.2.2.2.1 u.2.2.2.2.2 et1_38 eh1_38 ei1_38 eu1_38 em1_38)) (fun _ => List.Perm.refl _) 0 rfl ⟨by decide, by decide⟩ 2 16 rfl rfl ⟨by decide, by decide⟩ rfl hl.1 rfl (Nat.le_of_ble_eq_true rfl) dX7_snapshot_62 (fun u H locs hq9 hZ => ?_)
              obtain ⟨eP1_62, es1_62, ec1_62, ew1_62, le1_62, eW1_62⟩ := u
              obtain ⟨hq_62, hq2_62, hq3_62, hq4_62⟩ := hq9
              have hq_62 : RP (app B ((plL B ih iN uv a).take ((em1_38 : Nat) : Int).toNat)) eP1_62 := hq_62
              have hq2_62 : eW1_62 = eW + ((min (plL B ih iN uv a).length ((em1_38 : Nat) : Int).toNat : Nat) : Int) := hq2_62
              have hq3_62 : (em1_38 : Int) ≤ ((em1_38 : Nat) : Int) → le1_62 = 0 ∧ RM es1_62 ed ew1_62 ec1_62 (a.1, a.2.1, fun _ _ => false, fun _ => false) := hq3_62
              have hq4_62 : ((em1_38 : Nat) : Int) < (em1_38 : Int) → le1_62 = le := hq4_62
              have hZ : zS D A s.heap H locs (WQ cI cJ cZ cII cZZ [] t0 t1 t2 t3 t4 t5 t6 t7 t8 t9 tA tB tC tD tR tS (if false = true then 3 else 0) eP1_62 eb er ek es1_62 ed ec1_62 ew1_62 lk lf lo lv le1_62 eW1_62 et1_38 eh1_38 ei1_38 eu1_38 em1_38) := hZ
              refine W.eq (g2 := F0 mth 65 ls [.int (zB (decide ((em1_38 : Int) ≤ ((em1_38 : Nat) : Int))))]) rfl ?_
              obtain ⟨hle0, hRM0⟩ := hq3_62 (Int.le_refl _)
              obtain ⟨ro2, hp1, hp2, hp3, hp4⟩ := point_ok hA haw hu hft hN
              have hRM1 := RM_E hRM0 hp2
              have hz1 := hpl.2
              rw [Int.toNat_natCast, List.take_of_length_le (by omega)] at hq_62
              rw [Int.toNat_natCast, hz1, Nat.min_self] at hq2_62
              have hyl := plY_lt hA haw.1 hu0 hft
              have hy2 := fun q (h : 2 ≤ q) => (pH_all (fR uv) a (plX B ih uv a).2.2 ((plX B ih uv a).1, ih) 2).2.2.2.1 q (Or.inl h)
              refine lv_pop hx hb dX7_snapshot_65 rfl ?_
              refine lv_aload_n hx hb dX7_snapshot_66 rfl (lv_at hl 0 rfl) ?_
              refine lv_iload_n hx hb dX7_snapshot_67 rfl (lv_at hl 1 rfl) ?_
              refine z_top (show zI k = nI k.toNat from zI_inN (by omega) (by omega)) ?_
              refine lv_aload_n hx hb dX7_snapshot_68 rfl (lv_at hl 0 rfl) ?_
              refine z_iconst hx hb (zI (-1)) dX7_snapshot_69 (by decide) ?_
              refine z_iconst hx hb (nI 0) dX7_snapshot_70 (by decide) ?_
              refine z_kVp (As := [.int (zI (-1)), .int (nI 0)]) (rest := [.int (nI k.toNat), .ref t0]) hE hZ (c_X7_half l D cI cJ cZ cII cZZ t0 t1 t2 t3 t4 t5 t6 t7 t8 t9 tA tB tC tD tR tS (if false = true then 3 else 0) eP1_62 eb er ek es1_62 ed ec1_62 ew1_62 lk lf lo lv le1_62 eW1_62 et1_38 eh1_38 ei1_38 eu1_38 em1_38 (app B (plL B ih iN uv a)) ((plY B ih uv a).2) (iN + 1) (-1 : Int) 0 (zI (-1)) (hq_62) (hp1.2.2) (by omega) (by omega) (rfl)) lL_X7_half lC_X7_86 rfl [] (List.Perm.refl _) (fun u => (WQ cI cJ cZ cII cZZ [] t0 t1 t2 t3 t4 t5 t6 t7 t8 t9 tA tB tC tD tR tS (if false = true then 3 else 0) eP1_62 eb er ek es1_62 ed ec1_62 ew1_62 lk lf lo lv le1_62 eW1_62 et1_38 eh1_38 ei1_38 eu1_38 em1_38)) (fun _ => List.Perm.refl _) 0 rfl ⟨by decide, by decide⟩ 2 16 rfl rfl ⟨by decide, by decide⟩ rfl hl.1 rfl (Nat.le_of_ble_eq_true rfl) dX7_snapshot_71 (fun u H locs hq9 hZ => ?_)
              have hZ : zS D A s.heap H locs (WQ cI cJ cZ cII cZZ [] t0 t1 t2 t3 t4 t5 t6 t7 t8 t9 tA tB tC tD tR tS (if false = true then 3 else 0) eP1_62 eb er ek es1_62 ed ec1_62 ew1_62 lk lf lo lv le1_62 eW1_62 et1_38 eh1_38 ei1_38 eu1_38 em1_38) := hZ
              refine W.eq (g2 := F0 mth 74 ls [.int (nI (((plY B ih uv a).2) (((-1 : Int) + 1).toNat * 2 + 0))), .int (nI k.toNat), .ref t0]) rfl ?_
              refine z_top (show nI (((plY B ih uv a).2) (((-1 : Int) + 1).toNat * 2 + 0)) = nI ((plY B ih uv a).2 0) from rfl) ?_
              refine lv_aload_n hx hb dX7_snapshot_74 rfl (lv_at hl 0 rfl) ?_
              refine z_iconst hx hb (zI (-1)) dX7_snapshot_75 (by decide) ?_
              refine z_iconst hx hb (nI 1) dX7_snapshot_76 (by decide) ?_
              refine z_kVp (As := [.int (zI (-1)), .int (nI 1)]) (rest := [.int (nI ((plY B ih uv a).2 0)), .int (nI k.toNat), .ref t0]) hE hZ (c_X7_half l D cI cJ cZ cII cZZ t0 t1 t2 t3 t4 t5 t6 t7 t8 t9 tA tB tC tD tR tS (if false = true then 3 else 0) eP1_62 eb er ek es1_62 ed ec1_62 ew1_62 lk lf lo lv le1_62 eW1_62 et1_38 eh1_38 ei1_38 eu1_38 em1_38 (app B (plL B ih iN uv a)) ((plY B ih uv a).2) (iN + 1) (-1 : Int) 1 (zI (-1)) (hq_62) (hp1.2.2) (by omega) (by omega) (rfl)) lL_X7_half lC_X7_86 rfl [] (List.Perm.refl _) (fun u => (WQ cI cJ cZ cII cZZ [] t0 t1 t2 t3 t4 t5 t6 t7 t8 t9 tA tB tC tD tR tS (if false = true then 3 else 0) eP1_62 eb er ek es1_62 ed ec1_62 ew1_62 lk lf lo lv le1_62 eW1_62 et1_38 eh1_38 ei1_38 eu1_38 em1_38)) (fun _ => List.Perm.refl _) 0 rfl ⟨by decide, by decide⟩ 2 16 rfl rfl ⟨by decide, by decide⟩ rfl hl.1 rfl (Nat.le_of_ble_eq_true rfl) dX7_snapshot_77 (fun u H locs hq9 hZ => ?_)
              have hZ : zS D A s.heap H locs (WQ cI cJ cZ cII cZZ [] t0 t1 t2 t3 t4 t5 t6 t7 t8 t9 tA tB tC tD tR tS (if false = true then 3 else 0) eP1_62 eb er ek es1_62 ed ec1_62 ew1_62 lk lf lo lv le1_62 eW1_62 et1_38 eh1_38 ei1_38 eu1_38 em1_38) := hZ
              refine W.eq (g2 := F0 mth 80 ls [.int (nI (((plY B ih uv a).2) (((-1 : Int) + 1).toNat * 2 + 1))), .int (nI ((plY B ih uv a).2 0)), .int (nI k.toNat), .ref t0]) rfl ?_
              refine z_top (show nI (((plY B ih uv a).2) (((-1 : Int) + 1).toNat * 2 + 1)) = nI ((plY B ih uv a).2 1) from rfl) ?_
              refine z_kVp (As := [.int (nI k.toNat), .int (nI ((plY B ih uv a).2 0)), .int (nI ((plY B ih uv a).2 1))]) (rest := []) hE hZ (c_X7_info l D cI cJ cZ cII cZZ t0 t1 t2 t3 t4 t5 t6 t7 t8 t9 tA tB tC tD tR tS (if false = true then 3 else 0) eP1_62 eb er ek es1_62 ed ec1_62 ew1_62 lk lf lo lv le1_62 eW1_62 et1_38 eh1_38 ei1_38 eu1_38 em1_38 (app B (plL B ih iN uv a)) ro2 ((plY B ih uv a).2) (iN + 1) k.toNat ((plY B ih uv a).2 0) ((plY B ih uv a).2 1) (hq_62) (hp1) (hN) (by omega) (by have := hyl 0 (by omega); omega) (by have := hyl 1 (by omega); omega) (sn_b hyl hy2 hih (k.toNat))) lL_X7_info lC_X7_148 rfl [] (List.Perm.refl _) (fun u => (WQ cI cJ cZ cII cZZ [] t0 t1 t2 t3 t4 t5 t6 t7 t8 t9 tA tB tC tD tR tS (if false = true then 3 else 0) u eb er ek es1_62 ed ec1_62 ew1_62 lk lf lo lv le1_62 (eW1_62 + 1) et1_38 eh1_38 ei1_38 eu1_38 em1_38)) (fun _ => List.Perm.refl _) 0 rfl ⟨by decide, by decide⟩ 2 16 rfl rfl ⟨by decide, by decide⟩ rfl hl.1 rfl (Nat.le_of_ble_eq_true rfl) dX7_snapshot_80 (fun u H locs hq9 hZ => ?_)
              obtain ⟨eP1_80, hu9⟩ : ∃ z, z = u := ⟨u, rfl⟩
              subst hu9
              have hq_80 := hq9
              have hq_80 : RP (inB (app B (plL B ih iN uv a)) (iN + 1) (va_up (va_up ((plY B ih uv a).2) ((k.toNat + 1) * 2) ((plY B ih uv a).2 0)) ((k.toNat + 1) * 2 + 1) ((plY B ih uv a).2 1))) eP1_80 := hq_80
              have hZ : zS D A s.heap H locs (WQ cI cJ cZ cII cZZ [] t0 t1 t2 t3 t4 t5 t6 t7 t8 t9 tA tB tC tD tR tS (if false = true then 3 else 0) eP1_80 eb er ek es1_62 ed ec1_62 ew1_62 lk lf lo lv le1_62 (eW1_62 + 1) et1_38 eh1_38 ei1_38 eu1_38 em1_38) := hZ
              refine W.eq (g2 := F0 mth 83 ls []) rfl ?_
              exact z_vret hE hrt9 hlocks hZ (eP1_80, es1_62, ed, ec1_62, ew1_62, lk, lf, lo, lv, le1_62, eW1_62 + 1, et1_38, eh1_38, ei1_38, eu1_38, em1_38, (if false = true then 3 else 0)) rfl (show (((if false = true then 3 else 0) = 1 ∧ ¬ (0 ≤ k ∧ k < 5) ∧ RT B ih lk lf lo lv le eW eP1_80 es1_62 ed ec1_62 ew1_62 lk lf lo lv le1_62 (eW1_62 + 1)) ∨ ((if false = true then 3 else 0) = 2 ∧ (0 ≤ k ∧ k < 5) ∧ ek = true ∧ RT B ih lk lf lo lv le eW eP1_80 es1_62 ed ec1_62 ew1_62 lk lf lo lv le1_62 (eW1_62 + 1)) ∨ ((if false = true then 3 else 0) = 3 ∧ (0 ≤ k ∧ k < 5) ∧ ek = false ∧ fc uv 600 < (plY B ih uv a).1.length ∧ RT B ih lk lf lo lv le eW eP1_80 es1_62 ed ec1_62 ew1_62 lk lf lo lv le1_62 (eW1_62 + 1)) ∨ ((if false = true then 3 else 0) = 0 ∧ (0 ≤ k ∧ k < 5) ∧ ek = false ∧ (plY B ih uv a).1.length ≤ fc uv 600 ∧ RT (inB (app B (plL B ih iN uv a)) (iN + 1) (va_up (va_up (plY B ih uv a).2 ((k.toNat + 1) * 2) ((plY B ih uv a).2 0)) ((k.toNat + 1) * 2 + 1) ((plY B ih uv a).2 1))) (va_up (va_up (plY B ih uv a).2 ((k.toNat + 1) * 2) ((plY B ih uv a).2 0)) ((k.toNat + 1) * 2 + 1) ((plY B ih uv a).2 1)) lk lf lo lv 0 (eW + ((plL B ih iN uv a).length : Int) + 1) eP1_80 es1_62 ed ec1_62 ew1_62 lk lf lo lv le1_62 (eW1_62 + 1))) from Or.inr (Or.inr (Or.inr ⟨rfl, hok, hbk, hft, hq_80, RM_E hRM1 (info_lod hp1 (by rw [vn (by omega), vn (by omega)]) (by rw [vn (by omega), vn (by omega)])), rfl, rfl, rfl, rfl, hle0, by rw [hq2_62]⟩))) rfl dX7_snapshot_83 (Nat.le_of_ble_eq_true rfl) (Nat.le_of_ble_eq_true rfl)
            · skip
              exact absurd trivial h53
          · skip
            have hft : ¬ (plY B ih uv a).1.length ≤ fc uv 600 := by simpa using h41
            refine z_iconst hx hb (nI 1) dX7_snapshot_44 (by decide) ?_
            refine lv_goto (tgt := 49) hx hb dX7_snapshot_45 (by decide) ?_
            refine z_iconst hx hb (nI 3) dX7_snapshot_49 (by decide) ?_
            refine z_kVp (As := [.int (nI 1), .int (nI 3)]) (rest := []) hE hZ (c_X7_fails l D cI cJ cZ cII cZZ t0 t1 t2 t3 t4 t5 t6 t7 t8 t9 tA tB tC tD tR tS (if ek = true then 2 else 0) eP eb er ek es ed ec ew lk lf lo lv le eW et1_38 eh1_38 ei1_38 eu1_38 em1_38 true 3 ) lL_X7_fails lC_X7_125 rfl [] (List.Perm.refl _) (fun u => (WQ cI cJ cZ cII cZZ [] t0 t1 t2 t3 t4 t5 t6 t7 t8 t9 tA tB tC tD tR tS (if true = true then 3 else 0) eP eb er ek es ed ec ew lk lf lo lv le eW et1_38 eh1_38 ei1_38 eu1_38 em1_38)) (fun _ => List.Perm.refl _) 0 rfl ⟨by decide, by decide⟩ 2 16 rfl rfl ⟨by decide, by decide⟩ rfl hl.1 rfl (Nat.le_of_ble_eq_true rfl) dX7_snapshot_50 (fun u H locs hq9 hZ => ?_)
            have hZ : zS D A s.heap H locs (WQ cI cJ cZ cII cZZ [] t0 t1 t2 t3 t4 t5 t6 t7 t8 t9 tA tB tC tD tR tS (if true = true then 3 else 0) eP eb er ek es ed ec ew lk lf lo lv le eW et1_38 eh1_38 ei1_38 eu1_38 em1_38) := hZ
            refine W.eq (g2 := F0 mth 53 ls [.int (zB true)]) rfl ?_
            refine z_if_eq hx hb 57 dX7_snapshot_53 (by decide) (C := False) (by rw [zB_0]; simp) (fun h53 => ?_) (fun h53 => ?_)
            · skip
              exact h53.elim
            · skip
              exact z_vret hE hrt9 hlocks hZ (eP, es, ed, ec, ew, lk, lf, lo, lv, le, eW, et1_38, eh1_38, ei1_38, eu1_38, em1_38, (if true = true then 3 else 0)) rfl (show (((if true = true then 3 else 0) = 1 ∧ ¬ (0 ≤ k ∧ k < 5) ∧ RT B ih lk lf lo lv le eW eP es ed ec ew lk lf lo lv le eW) ∨ ((if true = true then 3 else 0) = 2 ∧ (0 ≤ k ∧ k < 5) ∧ ek = true ∧ RT B ih lk lf lo lv le eW eP es ed ec ew lk lf lo lv le eW) ∨ ((if true = true then 3 else 0) = 3 ∧ (0 ≤ k ∧ k < 5) ∧ ek = false ∧ fc uv 600 < (plY B ih uv a).1.length ∧ RT B ih lk lf lo lv le eW eP es ed ec ew lk lf lo lv le eW) ∨ ((if true = true then 3 else 0) = 0 ∧ (0 ≤ k ∧ k < 5) ∧ ek = false ∧ (plY B ih uv a).1.length ≤ fc uv 600 ∧ RT (inB (app B (plL B ih iN uv a)) (iN + 1) (va_up (va_up (plY B ih uv a).2 ((k.toNat + 1) * 2) ((plY B ih uv a).2 0)) ((k.toNat + 1) * 2 + 1) ((plY B ih uv a).2 1))) (va_up (va_up (plY B ih uv a).2 ((k.toNat + 1) * 2) ((plY B ih uv a).2 0)) ((k.toNat + 1) * 2 + 1) ((plY B ih uv a).2 1)) lk lf lo lv 0 (eW + ((plL B ih iN uv a).length : Int) + 1) eP es ed ec ew lk lf lo lv le eW)) from Or.inr (Or.inr (Or.inl ⟨rfl, hok, hbk, by omega, ⟨hP, by rw [← hae]; exact hM, rfl, rfl, rfl, rfl, rfl, rfl⟩⟩))) rfl dX7_snapshot_56 (Nat.le_of_ble_eq_true rfl) (Nat.le_of_ble_eq_true rfl)
        · skip
          have hbk : ek = true := by simpa using h32
          exact z_vret hE hrt9 hlocks hZ (eP, es, ed, ec, ew, lk, lf, lo, lv, le, eW, et, eh, ei, eu, em, (if ek = true then 2 else 0)) rfl (show (((if ek = true then 2 else 0) = 1 ∧ ¬ (0 ≤ k ∧ k < 5) ∧ RT B ih lk lf lo lv le eW eP es ed ec ew lk lf lo lv le eW) ∨ ((if ek = true then 2 else 0) = 2 ∧ (0 ≤ k ∧ k < 5) ∧ ek = true ∧ RT B ih lk lf lo lv le eW eP es ed ec ew lk lf lo lv le eW) ∨ ((if ek = true then 2 else 0) = 3 ∧ (0 ≤ k ∧ k < 5) ∧ ek = false ∧ fc uv 600 < (plY B ih uv a).1.length ∧ RT B ih lk lf lo lv le eW eP es ed ec ew lk lf lo lv le eW) ∨ ((if ek = true then 2 else 0) = 0 ∧ (0 ≤ k ∧ k < 5) ∧ ek = false ∧ (plY B ih uv a).1.length ≤ fc uv 600 ∧ RT (inB (app B (plL B ih iN uv a)) (iN + 1) (va_up (va_up (plY B ih uv a).2 ((k.toNat + 1) * 2) ((plY B ih uv a).2 0)) ((k.toNat + 1) * 2 + 1) ((plY B ih uv a).2 1))) (va_up (va_up (plY B ih uv a).2 ((k.toNat + 1) * 2) ((plY B ih uv a).2 0)) ((k.toNat + 1) * 2 + 1) ((plY B ih uv a).2 1)) lk lf lo lv 0 (eW + ((plL B ih iN uv a).length : Int) + 1) eP es ed ec ew lk lf lo lv le eW)) from Or.inr (Or.inl ⟨by rw [if_pos hbk], hok, hbk, ⟨hP, by rw [← hae]; exact hM, rfl, rfl, rfl, rfl, rfl, rfl⟩⟩)) rfl dX7_snapshot_35 (Nat.le_of_ble_eq_true rfl) (Nat.le_of_ble_eq_true rfl)
      · skip
        exact absurd trivial h19
    · skip
      have hnk : ¬ (0 ≤ k ∧ k < 5) := by omega
      refine z_iconst hx hb (nI 1) dX7_snapshot_10 (by decide) ?_
      refine lv_goto (tgt := 15) hx hb dX7_snapshot_11 (by decide) ?_
      refine z_iconst hx hb (nI 1) dX7_snapshot_15 (by decide) ?_
      refine z_kVp (As := [.int (nI 1), .int (nI 1)]) (rest := []) hE hZ (c_X7_fails l D cI cJ cZ cII cZZ t0 t1 t2 t3 t4 t5 t6 t7 t8 t9 tA tB tC tD tR tS e0 eP eb er ek es ed ec ew lk lf lo lv le eW et eh ei eu em true 1 ) lL_X7_fails lC_X7_125 rfl [] (List.Perm.refl _) (fun u => (WQ cI cJ cZ cII cZZ [] t0 t1 t2 t3 t4 t5 t6 t7 t8 t9 tA tB tC tD tR tS (if true = true then 1 else 0) eP eb er ek es ed ec ew lk lf lo lv le eW et eh ei eu em)) (fun _ => List.Perm.refl _) 0 rfl ⟨by decide, by decide⟩ 0 0 rfl rfl ⟨by decide, by decide⟩ rfl hl.1 rfl (Nat.le_of_ble_eq_true rfl) dX7_snapshot_16 (fun u H locs hq9 hZ => ?_)
      have hZ : zS D A s.heap H locs (WQ cI cJ cZ cII cZZ [] t0 t1 t2 t3 t4 t5 t6 t7 t8 t9 tA tB tC tD tR tS (if true = true then 1 else 0) eP eb er ek es ed ec ew lk lf lo lv le eW et eh ei eu em) := hZ
      refine W.eq (g2 := F0 mth 19 ls [.int (zB true)]) rfl ?_
      refine z_if_eq hx hb 23 dX7_snapshot_19 (by decide) (C := False) (by rw [zB_0]; simp) (fun h19 => ?_) (fun h19 => ?_)
      · skip
        exact h19.elim
      · skip
        exact z_vret hE hrt9 hlocks hZ (eP, es, ed, ec, ew, lk, lf, lo, lv, le, eW, et, eh, ei, eu, em, (if true = true then 1 else 0)) rfl (show (((if true = true then 1 else 0) = 1 ∧ ¬ (0 ≤ k ∧ k < 5) ∧ RT B ih lk lf lo lv le eW eP es ed ec ew lk lf lo lv le eW) ∨ ((if true = true then 1 else 0) = 2 ∧ (0 ≤ k ∧ k < 5) ∧ ek = true ∧ RT B ih lk lf lo lv le eW eP es ed ec ew lk lf lo lv le eW) ∨ ((if true = true then 1 else 0) = 3 ∧ (0 ≤ k ∧ k < 5) ∧ ek = false ∧ fc uv 600 < (plY B ih uv a).1.length ∧ RT B ih lk lf lo lv le eW eP es ed ec ew lk lf lo lv le eW) ∨ ((if true = true then 1 else 0) = 0 ∧ (0 ≤ k ∧ k < 5) ∧ ek = false ∧ (plY B ih uv a).1.length ≤ fc uv 600 ∧ RT (inB (app B (plL B ih iN uv a)) (iN + 1) (va_up (va_up (plY B ih uv a).2 ((k.toNat + 1) * 2) ((plY B ih uv a).2 0)) ((k.toNat + 1) * 2 + 1) ((plY B ih uv a).2 1))) (va_up (va_up (plY B ih uv a).2 ((k.toNat + 1) * 2) ((plY B ih uv a).2 0)) ((k.toNat + 1) * 2 + 1) ((plY B ih uv a).2 1)) lk lf lo lv 0 (eW + ((plL B ih iN uv a).length : Int) + 1) eP es ed ec ew lk lf lo lv le eW)) from Or.inl ⟨rfl, hnk, ⟨hP, by rw [← hae]; exact hM, rfl, rfl, rfl, rfl, rfl, rfl⟩⟩) rfl dX7_snapshot_22 (Nat.le_of_ble_eq_true rfl) (Nat.le_of_ble_eq_true rfl)
set_option maxHeartbeats 1000000 in
set_option maxRecDepth 100000 in
theorem c_X7_drop (l : Launch) (D : va_G) (cI cJ cZ cII cZZ : ClassId) (t0 : Nat) (t1 : Nat) (t2 : Nat) (t3 : Nat) (t4 : Nat) (t5 : Nat) (t6 : Nat) (t7 : Nat) (t8 : Nat) (t9 : Nat) (tA : Nat) (tB : Nat) (tC : Nat) (tD : Nat) (tR : Nat → Nat) (tS : Nat → Nat) (e0 : Nat) (eP : Nat → Nat) (eb : Int) (er : Int) (ek : Bool) (es : Nat → Int) (ed : Nat → Nat → Nat) (ec : Nat → Bool) (ew : Nat → Nat → Bool) (lk : Nat → Nat) (lf : Nat → Nat) (lo : Nat → Nat) (lv : Nat → Int64) (le : Nat) (eW : Int) (et : Nat → Nat) (eh : Nat → Nat) (ei : Nat → Int) (eu : Nat → Bool) (em : Nat) (B : Nat → Int64) (ro : Nat → Nat) (ih : Nat → Nat) (iN : Nat) (a : aM) (k : Int) (k_q : Int32) (hP : RP B eP) (hA : AI B ro ih iN) (hN : iN + 1 < 2 ^ 31) (hM : RM es ed ew ec a) (hLO : LOK lk lf lo lv le (lodA B ih)) (hae : a = aRun lk lf lo lv (lodA B ih) le) (hk : -2147483648 ≤ k ∧ k < 2147483648) (hih : ∀ j, ih j < 65536) (k_h : k_q = zI k) :
    zC l yX7_drop cX7_drop 2 none { frames := 3, cells := 0, slots := 0, locals := 65 } D (zT cI cJ cZ cII cZZ) [.ref t0, .int (k_q)] (WQ cI cJ cZ cII cZZ [] t0 t1 t2 t3 t4 t5 t6 t7 t8 t9 tA tB tC tD tR tS e0 eP eb er ek es ed ec ew lk lf lo lv le eW et eh ei eu em) (S := (Nat → Nat) × (Nat → Int) × (Nat → Nat → Nat) × (Nat → Bool) × (Nat → Nat → Bool) × (Nat → Nat) × (Nat → Nat) × (Nat → Nat) × (Nat → Int64) × Nat × Int × (Nat → Nat) × (Nat → Nat) × (Nat → Int) × (Nat → Bool) × Nat × Nat) (fun u => none) (fun u => ((u.2.2.2.2.2.2.2.2.2.2.2.2.2.2.2.2 = 1 ∧ ¬ (hasS ih k = true) ∧ RT B ih lk lf lo lv le eW u.1 u.2.1 u.2.2.1 u.2.2.2.1 u.2.2.2.2.1 u.2.2.2.2.2.1 u.2.2.2.2.2.2.1 u.2.2.2.2.2.2.2.1 u.2.2.2.2.2.2.2.2.1 u.2.2.2.2.2.2.2.2.2.1 u.2.2.2.2.2.2.2.2.2.2.1) ∨ (u.2.2.2.2.2.2.2.2.2.2.2.2.2.2.2.2 = 2 ∧ hasS ih k = true ∧ ek = true ∧ RT B ih lk lf lo lv le eW u.1 u.2.1 u.2.2.1 u.2.2.2.1 u.2.2.2.2.1 u.2.2.2.2.2.1 u.2.2.2.2.2.2.1 u.2.2.2.2.2.2.2.1 u.2.2.2.2.2.2.2.2.1 u.2.2.2.2.2.2.2.2.2.1 u.2.2.2.2.2.2.2.2.2.2.1) ∨ (u.2.2.2.2.2.2.2.2.2.2.2.2.2.2.2.2 = 0 ∧ hasS ih k = true ∧ ek = false ∧ RT (inB B iN (va_up (va_up ih ((k.toNat + 1) * 2) 0) ((k.toNat + 1) * 2 + 1) 0)) (va_up (va_up ih ((k.toNat + 1) * 2) 0) ((k.toNat + 1) * 2 + 1) 0) lk lf lo lv le (eW + 1) u.1 u.2.1 u.2.2.1 u.2.2.2.1 u.2.2.2.2.1 u.2.2.2.2.2.1 u.2.2.2.2.2.2.1 u.2.2.2.2.2.2.2.1 u.2.2.2.2.2.2.2.2.1 u.2.2.2.2.2.2.2.2.2.1 u.2.2.2.2.2.2.2.2.2.2.1))) (fun u => (WQ cI cJ cZ cII cZZ [] t0 t1 t2 t3 t4 t5 t6 t7 t8 t9 tA tB tC tD tR tS u.2.2.2.2.2.2.2.2.2.2.2.2.2.2.2.2 u.1 eb er ek u.2.1 u.2.2.1 u.2.2.2.1 u.2.2.2.2.1 u.2.2.2.2.2.1 u.2.2.2.2.2.2.1 u.2.2.2.2.2.2.2.1 u.2.2.2.2.2.2.2.2.1 u.2.2.2.2.2.2.2.2.2.1 u.2.2.2.2.2.2.2.2.2.2.1 u.2.2.2.2.2.2.2.2.2.2.2.1 u.2.2.2.2.2.2.2.2.2.2.2.2.1 u.2.2.2.2.2.2.2.2.2.2.2.2.2.1 u.2.2.2.2.2.2.2.2.2.2.2.2.2.2.1 u.2.2.2.2.2.2.2.2.2.2.2.2.2.2.2.1)) := by
  refine zC_of (by decide) (Nat.le_of_ble_eq_true rfl) ?_
  intro prg env s mth below meth cde A ls hE hrt9 hlocks hnm hZ hl
  have hx := hE.1
  have hb := hE.2.1
  subst k_h
  have hl : lv_has ls 2 [(0, .ref t0), (1, .int (zI k))] := hl
  refine lv_aload_n hx hb dX7_drop_0 rfl (lv_at hl 0 rfl) ?_
  refine lv_iload_n hx hb dX7_drop_1 rfl (lv_at hl 1 rfl) ?_
  refine z_if_lt hx hb 18 dX7_drop_2 (by decide) (C := k < 0) (zI_lt0 ⟨by omega, by omega⟩) (fun h2 => ?_) (fun h2 => ?_)
  · skip
    have hnk : ¬ hasS ih k = true := fun z => by
            have y := of_decide_eq_true z
            omega
    refine z_iconst hx hb (nI 1) dX7_drop_18 (by decide) ?_
    refine lv_goto (tgt := 23) hx hb dX7_drop_19 (by decide) ?_
    refine z_iconst hx hb (nI 1) dX7_drop_23 (by decide) ?_
    refine z_kVp (As := [.int (nI 1), .int (nI 1)]) (rest := []) hE hZ (c_X7_fails l D cI cJ cZ cII cZZ t0 t1 t2 t3 t4 t5 t6 t7 t8 t9 tA tB tC tD tR tS e0 eP eb er ek es ed ec ew lk lf lo lv le eW et eh ei eu em true 1 ) lL_X7_fails lC_X7_125 rfl [] (List.Perm.refl _) (fun u => (WQ cI cJ cZ cII cZZ [] t0 t1 t2 t3 t4 t5 t6 t7 t8 t9 tA tB tC tD tR tS (if true = true then 1 else 0) eP eb er ek es ed ec ew lk lf lo lv le eW et eh ei eu em)) (fun _ => List.Perm.refl _) 0 rfl ⟨by decide, by decide⟩ 0 0 rfl rfl ⟨by decide, by decide⟩ rfl hl.1 rfl (Nat.le_of_ble_eq_true rfl) dX7_drop_24 (fun u H locs hq9 hZ => ?_)
    have hZ : zS D A s.heap H locs (WQ cI cJ cZ cII cZZ [] t0 t1 t2 t3 t4 t5 t6 t7 t8 t9 tA tB tC tD tR tS (if true = true then 1 else 0) eP eb er ek es ed ec ew lk lf lo lv le eW et eh ei eu em) := hZ
    refine W.eq (g2 := F0 mth 27 ls [.int (zB true)]) rfl ?_
    refine z_if_eq hx hb 31 dX7_drop_27 (by decide) (C := False) (by rw [zB_0]; simp) (fun h27 => ?_) (fun h27 => ?_)
    · skip
      exact h27.elim
    · skip
      exact z_vret hE hrt9 hlocks hZ (eP, es, ed, ec, ew, lk, lf, lo, lv, le, eW, et, eh, ei, eu, em, (if true = true then 1 else 0)) rfl (show (((if true = true then 1 else 0) = 1 ∧ ¬ (hasS ih k = true) ∧ RT B ih lk lf lo lv le eW eP es ed ec ew lk lf lo lv le eW) ∨ ((if true = true then 1 else 0) = 2 ∧ hasS ih k = true ∧ ek = true ∧ RT B ih lk lf lo lv le eW eP es ed ec ew lk lf lo lv le eW) ∨ ((if true = true then 1 else 0) = 0 ∧ hasS ih k = true ∧ ek = false ∧ RT (inB B iN (va_up (va_up ih ((k.toNat + 1) * 2) 0) ((k.toNat + 1) * 2 + 1) 0)) (va_up (va_up ih ((k.toNat + 1) * 2) 0) ((k.toNat + 1) * 2 + 1) 0) lk lf lo lv le (eW + 1) eP es ed ec ew lk lf lo lv le eW)) from Or.inl ⟨rfl, hnk, ⟨hP, by rw [← hae]; exact hM, rfl, rfl, rfl, rfl, rfl, rfl⟩⟩) rfl dX7_drop_30 (Nat.le_of_ble_eq_true rfl) (Nat.le_of_ble_eq_true rfl)
  · skip
    refine lv_iload_n hx hb dX7_drop_5 rfl (lv_at hl 1 rfl) ?_
    refine z_iconst hx hb (nI 5) dX7_drop_6 (by decide) ?_
    refine z_icmp_ge hx hb 18 dX7_drop_7 (by decide) (C := (5 : Int) ≤ k) (by (try simp only [zI_n]); exact zI_le ⟨by omega, by omega⟩ ⟨by omega, by omega⟩) (fun h7 => ?_) (fun h7 => ?_)
    · skip
      have hnk : ¬ hasS ih k = true := fun z => by
              have y := of_decide_eq_true z
              omega
      refine z_iconst hx hb (nI 1) dX7_drop_18 (by decide) ?_
      refine lv_goto (tgt := 23) hx hb dX7_drop_19 (by decide) ?_
      refine z_iconst hx hb (nI 1) dX7_drop_23 (by decide) ?_
      refine z_kVp (As := [.int (nI 1), .int (nI 1)]) (rest := []) hE hZ (c_X7_fails l D cI cJ cZ cII cZZ t0 t1 t2 t3 t4 t5 t6 t7 t8 t9 tA tB tC tD tR tS e0 eP eb er ek es ed ec ew lk lf lo lv le eW et eh ei eu em true 1 ) lL_X7_fails lC_X7_125 rfl [] (List.Perm.refl _) (fun u => (WQ cI cJ cZ cII cZZ [] t0 t1 t2 t3 t4 t5 t6 t7 t8 t9 tA tB tC tD tR tS (if true = true then 1 else 0) eP eb er ek es ed ec ew lk lf lo lv le eW et eh ei eu em)) (fun _ => List.Perm.refl _) 0 rfl ⟨by decide, by decide⟩ 0 0 rfl rfl ⟨by decide, by decide⟩ rfl hl.1 rfl (Nat.le_of_ble_eq_true rfl) dX7_drop_24 (fun u H locs hq9 hZ => ?_)
      have hZ : zS D A s.heap H locs (WQ cI cJ cZ cII cZZ [] t0 t1 t2 t3 t4 t5 t6 t7 t8 t9 tA tB tC tD tR tS (if true = true then 1 else 0) eP eb er ek es ed ec ew lk lf lo lv le eW et eh ei eu em) := hZ
      refine W.eq (g2 := F0 mth 27 ls [.int (zB true)]) rfl ?_
      refine z_if_eq hx hb 31 dX7_drop_27 (by decide) (C := False) (by rw [zB_0]; simp) (fun h27 => ?_) (fun h27 => ?_)
      · skip
        exact h27.elim
      · skip
        exact z_vret hE hrt9 hlocks hZ (eP, es, ed, ec, ew, lk, lf, lo, lv, le, eW, et, eh, ei, eu, em, (if true = true then 1 else 0)) rfl (show (((if true = true then 1 else 0) = 1 ∧ ¬ (hasS ih k = true) ∧ RT B ih lk lf lo lv le eW eP es ed ec ew lk lf lo lv le eW) ∨ ((if true = true then 1 else 0) = 2 ∧ hasS ih k = true ∧ ek = true ∧ RT B ih lk lf lo lv le eW eP es ed ec ew lk lf lo lv le eW) ∨ ((if true = true then 1 else 0) = 0 ∧ hasS ih k = true ∧ ek = false ∧ RT (inB B iN (va_up (va_up ih ((k.toNat + 1) * 2) 0) ((k.toNat + 1) * 2 + 1) 0)) (va_up (va_up ih ((k.toNat + 1) * 2) 0) ((k.toNat + 1) * 2 + 1) 0) lk lf lo lv le (eW + 1) eP es ed ec ew lk lf lo lv le eW)) from Or.inl ⟨rfl, hnk, ⟨hP, by rw [← hae]; exact hM, rfl, rfl, rfl, rfl, rfl, rfl⟩⟩) rfl dX7_drop_30 (Nat.le_of_ble_eq_true rfl) (Nat.le_of_ble_eq_true rfl)
    · skip
      refine lv_aload_n hx hb dX7_drop_10 rfl (lv_at hl 0 rfl) ?_
      refine lv_iload_n hx hb dX7_drop_11 rfl (lv_at hl 1 rfl) ?_
      refine z_kVp (As := [.int (zI k)]) (rest := [.ref t0]) hE hZ (c_X7_there l D cI cJ cZ cII cZZ t0 t1 t2 t3 t4 t5 t6 t7 t8 t9 tA tB tC tD tR tS e0 eP eb er ek es ed ec ew lk lf lo lv le eW et eh ei eu em B ih iN k (zI k) (by first | assumption | omega) (hA.2.2) (by omega) (hih) (rfl)) lL_X7_there lC_X7_152 rfl [] (List.Perm.refl _) (fun u => (WQ cI cJ cZ cII cZZ [] t0 t1 t2 t3 t4 t5 t6 t7 t8 t9 tA tB tC tD tR tS e0 eP eb er ek es ed ec ew lk lf lo lv le eW et eh ei eu em)) (fun _ => List.Perm.refl _) 0 rfl ⟨by decide, by decide⟩ 0 0 rfl rfl ⟨by decide, by decide⟩ rfl hl.1 rfl (Nat.le_of_ble_eq_true rfl) dX7_drop_12 (fun u H locs hq9 hZ => ?_)
      have hZ : zS D A s.heap H locs (WQ cI cJ cZ cII cZZ [] t0 t1 t2 t3 t4 t5 t6 t7 t8 t9 tA tB tC tD tR tS e0 eP eb er ek es ed ec ew lk lf lo lv le eW et eh ei eu em) := hZ
      refine W.eq (g2 := F0 mth 15 ls [.int (zB (hasS ih k)), .ref t0]) rfl ?_
      refine z_if_ne hx hb 22 dX7_drop_15 (by decide) (C := (hasS ih k) = false) (zB_0 _) (fun h15 => ?_) (fun h15 => ?_)
      · skip
        have hok : hasS ih k = true := by simpa using h15
        refine z_iconst hx hb (nI 0) dX7_drop_22 (by decide) ?_
        refine z_iconst hx hb (nI 1) dX7_drop_23 (by decide) ?_
        refine z_kVp (As := [.int (nI 0), .int (nI 1)]) (rest := []) hE hZ (c_X7_fails l D cI cJ cZ cII cZZ t0 t1 t2 t3 t4 t5 t6 t7 t8 t9 tA tB tC tD tR tS e0 eP eb er ek es ed ec ew lk lf lo lv le eW et eh ei eu em false 1 ) lL_X7_fails lC_X7_125 rfl [] (List.Perm.refl _) (fun u => (WQ cI cJ cZ cII cZZ [] t0 t1 t2 t3 t4 t5 t6 t7 t8 t9 tA tB tC tD tR tS (if false = true then 1 else 0) eP eb er ek es ed ec ew lk lf lo lv le eW et eh ei eu em)) (fun _ => List.Perm.refl _) 0 rfl ⟨by decide, by decide⟩ 0 0 rfl rfl ⟨by decide, by decide⟩ rfl hl.1 rfl (Nat.le_of_ble_eq_true rfl) dX7_drop_24 (fun u H locs hq9 hZ => ?_)
        have hZ : zS D A s.heap H locs (WQ cI cJ cZ cII cZZ [] t0 t1 t2 t3 t4 t5 t6 t7 t8 t9 tA tB tC tD tR tS (if false = true then 1 else 0) eP eb er ek es ed ec ew lk lf lo lv le eW et eh ei eu em) := hZ
        refine W.eq (g2 := F0 mth 27 ls [.int (zB false)]) rfl ?_
        refine z_if_eq hx hb 31 dX7_drop_27 (by decide) (C := True) (by rw [zB_0]; simp) (fun h27 => ?_) (fun h27 => ?_)
        · skip
          refine lv_aload_n hx hb dX7_drop_31 rfl (lv_at hl 0 rfl) ?_
          refine lv_aload_n hx hb dX7_drop_32 rfl (lv_at hl 0 rfl) ?_
          refine z_get hE fF_X7_4 hZ 0 rfl (.int (zB ek)) rfl dX7_drop_33 ?_
          refine z_iconst hx hb (nI 2) dX7_drop_36 (by decide) ?_
          refine z_kVp (As := [.int (zB ek), .int (nI 2)]) (rest := []) hE hZ (c_X7_fails l D cI cJ cZ cII cZZ t0 t1 t2 t3 t4 t5 t6 t7 t8 t9 tA tB tC tD tR tS (if false = true then 1 else 0) eP eb er ek es ed ec ew lk lf lo lv le eW et eh ei eu em ek 2 ) lL_X7_fails lC_X7_125 rfl [] (List.Perm.refl _) (fun u => (WQ cI cJ cZ cII cZZ [] t0 t1 t2 t3 t4 t5 t6 t7 t8 t9 tA tB tC tD tR tS (if ek = true then 2 else 0) eP eb er ek es ed ec ew lk lf lo lv le eW et eh ei eu em)) (fun _ => List.Perm.refl _) 0 rfl ⟨by decide, by decide⟩ 0 0 rfl rfl ⟨by decide, by decide⟩ rfl hl.1 rfl (Nat.le_of_ble_eq_true rfl) dX7_drop_37 (fun u H locs hq9 hZ => ?_)
          have hZ : zS D A s.heap H locs (WQ cI cJ cZ cII cZZ [] t0 t1 t2 t3 t4 t5 t6 t7 t8 t9 tA tB tC tD tR tS (if ek = true then 2 else 0) eP eb er ek es ed ec ew lk lf lo lv le eW et eh ei eu em) := hZ
          refine W.eq (g2 := F0 mth 40 ls [.int (zB ek)]) rfl ?_
          refine z_if_eq hx hb 44 dX7_drop_40 (by decide) (C := ek = false) (zB_0 _) (fun h40 => ?_) (fun h40 => ?_)
          · skip
            have hbk : ek = false := by simpa using h40
            refine lv_aload_n hx hb dX7_drop_44 rfl (lv_at hl 0 rfl) ?_
            refine lv_iload_n hx hb dX7_drop_45 rfl (lv_at hl 1 rfl) ?_
            refine z_top (show zI k = nI k.toNat from zI_inN (by omega) (by omega)) ?_
            refine z_iconst hx hb (nI 0) dX7_drop_46 (by decide) ?_
            refine z_iconst hx hb (nI 0) dX7_drop_47 (by decide) ?_
            refine z_kVp (As := [.int (nI k.toNat), .int (nI 0), .int (nI 0)]) (rest := []) hE hZ (c_X7_info l D cI cJ cZ cII cZZ t0 t1 t2 t3 t4 t5 t6 t7 t8 t9 tA tB tC tD tR tS (if ek = true then 2 else 0) eP eb er ek es ed ec ew lk lf lo lv le eW et eh ei eu em B ro ih iN k.toNat 0 0 (by first | assumption | omega) (hA) (by omega) (by omega) (by omega) (by omega) (fun j => by unfold va_up; split; omega; split; omega; exact hih j)) lL_X7_info lC_X7_148 rfl [] (List.Perm.refl _) (fun u => (WQ cI cJ cZ cII cZZ [] t0 t1 t2 t3 t4 t5 t6 t7 t8 t9 tA tB tC tD tR tS (if ek = true then 2 else 0) u eb er ek es ed ec ew lk lf lo lv le (eW + 1) et eh ei eu em)) (fun _ => List.Perm.refl _) 0 rfl ⟨by decide, by decide⟩ 0 0 rfl rfl ⟨by decide, by decide⟩ rfl hl.1 rfl (Nat.le_of_ble_eq_true rfl) dX7_drop_48 (fun u H locs hq9 hZ => ?_)
            obtain ⟨eP1_48, hu9⟩ : ∃ z, z = u := ⟨u, rfl⟩
            subst hu9
            have hq_48 := hq9
            have hq_48 : RP (inB B iN (va_up (va_up ih ((k.toNat + 1) * 2) 0) ((k.toNat + 1) * 2 + 1) 0)) eP1_48 := hq_48
            have hZ : zS D A s.heap H locs (WQ cI cJ cZ cII cZZ [] t0 t1 t2 t3 t4 t5 t6 t7 t8 t9 tA tB tC tD tR tS (if ek = true then 2 else 0) eP1_48 eb er ek es ed ec ew lk lf lo lv le (eW + 1) et eh ei eu em) := hZ
            refine W.eq (g2 := F0 mth 51 ls []) rfl ?_
            exact z_vret hE hrt9 hlocks hZ (eP1_48, es, ed, ec, ew, lk, lf, lo, lv, le, eW + 1, et, eh, ei, eu, em, (if ek = true then 2 else 0)) rfl (show (((if ek = true then 2 else 0) = 1 ∧ ¬ (hasS ih k = true) ∧ RT B ih lk lf lo lv le eW eP1_48 es ed ec ew lk lf lo lv le (eW + 1)) ∨ ((if ek = true then 2 else 0) = 2 ∧ hasS ih k = true ∧ ek = true ∧ RT B ih lk lf lo lv le eW eP1_48 es ed ec ew lk lf lo lv le (eW + 1)) ∨ ((if ek = true then 2 else 0) = 0 ∧ hasS ih k = true ∧ ek = false ∧ RT (inB B iN (va_up (va_up ih ((k.toNat + 1) * 2) 0) ((k.toNat + 1) * 2 + 1) 0)) (va_up (va_up ih ((k.toNat + 1) * 2) 0) ((k.toNat + 1) * 2 + 1) 0) lk lf lo lv le (eW + 1) eP1_48 es ed ec ew lk lf lo lv le (eW + 1))) from Or.inr (Or.inr ⟨by rw [if_neg (by rw [hbk]; simp)], hok, hbk, hq_48, RM_E (by rw [← hae]; exact hM) (aE_run (info_lod hA (by rw [vn (by omega), vn (by omega)]) (by rw [vn (by omega), vn (by omega)])) le hLO.2.1), rfl, rfl, rfl, rfl, rfl, rfl⟩)) rfl dX7_drop_51 (Nat.le_of_ble_eq_true rfl) (Nat.le_of_ble_eq_true rfl)
          · skip
            have hbk : ek = true := by simpa using h40
            exact z_vret hE hrt9 hlocks hZ (eP, es, ed, ec, ew, lk, lf, lo, lv, le, eW, et, eh, ei, eu, em, (if ek = true then 2 else 0)) rfl (show (((if ek = true then 2 else 0) = 1 ∧ ¬ (hasS ih k = true) ∧ RT B ih lk lf lo lv le eW eP es ed ec ew lk lf lo lv le eW) ∨ ((if ek = true then 2 else 0) = 2 ∧ hasS ih k = true ∧ ek = true ∧ RT B ih lk lf lo lv le eW eP es ed ec ew lk lf lo lv le eW) ∨ ((if ek = true then 2 else 0) = 0 ∧ hasS ih k = true ∧ ek = false ∧ RT (inB B iN (va_up (va_up ih ((k.toNat + 1) * 2) 0) ((k.toNat + 1) * 2 + 1) 0)) (va_up (va_up ih ((k.toNat + 1) * 2) 0) ((k.toNat + 1) * 2 + 1) 0) lk lf lo lv le (eW + 1) eP es ed ec ew lk lf lo lv le eW)) from Or.inr (Or.inl ⟨by rw [if_pos hbk], hok, hbk, ⟨hP, by rw [← hae]; exact hM, rfl, rfl, rfl, rfl, rfl, rfl⟩⟩)) rfl dX7_drop_43 (Nat.le_of_ble_eq_true rfl) (Nat.le_of_ble_eq_true rfl)
        · skip
          exact absurd trivial h27
      · skip
        have hnk : ¬ hasS ih k = true := by rw [h15]; simp
        refine z_iconst hx hb (nI 1) dX7_drop_18 (by decide) ?_
        refine lv_goto (tgt := 23) hx hb dX7_drop_19 (by decide) ?_
        refine z_iconst hx hb (nI 1) dX7_drop_23 (by decide) ?_
        refine z_kVp (As := [.int (nI 1), .int (nI 1)]) (rest := []) hE hZ (c_X7_fails l D cI cJ cZ cII cZZ t0 t1 t2 t3 t4 t5 t6 t7 t8 t9 tA tB tC tD tR tS e0 eP eb er ek es ed ec ew lk lf lo lv le eW et eh ei eu em true 1 ) lL_X7_fails lC_X7_125 rfl [] (List.Perm.refl _) (fun u => (WQ cI cJ cZ cII cZZ [] t0 t1 t2 t3 t4 t5 t6 t7 t8 t9 tA tB tC tD tR tS (if true = true then 1 else 0) eP eb er ek es ed ec ew lk lf lo lv le eW et eh ei eu em)) (fun _ => List.Perm.refl _) 0 rfl ⟨by decide, by decide⟩ 0 0 rfl rfl ⟨by decide, by decide⟩ rfl hl.1 rfl (Nat.le_of_ble_eq_true rfl) dX7_drop_24 (fun u H locs hq9 hZ => ?_)
        have hZ : zS D A s.heap H locs (WQ cI cJ cZ cII cZZ [] t0 t1 t2 t3 t4 t5 t6 t7 t8 t9 tA tB tC tD tR tS (if true = true then 1 else 0) eP eb er ek es ed ec ew lk lf lo lv le eW et eh ei eu em) := hZ
        refine W.eq (g2 := F0 mth 27 ls [.int (zB true)]) rfl ?_
        refine z_if_eq hx hb 31 dX7_drop_27 (by decide) (C := False) (by rw [zB_0]; simp) (fun h27 => ?_) (fun h27 => ?_)
        · skip
          exact h27.elim
        · skip
          exact z_vret hE hrt9 hlocks hZ (eP, es, ed, ec, ew, lk, lf, lo, lv, le, eW, et, eh, ei, eu, em, (if true = true then 1 else 0)) rfl (show (((if true = true then 1 else 0) = 1 ∧ ¬ (hasS ih k = true) ∧ RT B ih lk lf lo lv le eW eP es ed ec ew lk lf lo lv le eW) ∨ ((if true = true then 1 else 0) = 2 ∧ hasS ih k = true ∧ ek = true ∧ RT B ih lk lf lo lv le eW eP es ed ec ew lk lf lo lv le eW) ∨ ((if true = true then 1 else 0) = 0 ∧ hasS ih k = true ∧ ek = false ∧ RT (inB B iN (va_up (va_up ih ((k.toNat + 1) * 2) 0) ((k.toNat + 1) * 2 + 1) 0)) (va_up (va_up ih ((k.toNat + 1) * 2) 0) ((k.toNat + 1) * 2 + 1) 0) lk lf lo lv le (eW + 1) eP es ed ec ew lk lf lo lv le eW)) from Or.inl ⟨rfl, hnk, ⟨hP, by rw [← hae]; exact hM, rfl, rfl, rfl, rfl, rfl, rfl⟩⟩) rfl dX7_drop_30 (Nat.le_of_ble_eq_true rfl) (Nat.le_of_ble_eq_true rfl)
