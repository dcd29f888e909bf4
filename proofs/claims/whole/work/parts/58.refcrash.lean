set_option maxHeartbeats 1000000 in
set_option maxRecDepth 100000 in
theorem c_X7_load (l : Launch) (D : va_G) (cI cJ cZ cII cZZ : ClassId) (t0 : Nat) (t1 : Nat) (t2 : Nat) (t3 : Nat) (t4 : Nat) (t5 : Nat) (t6 : Nat) (t7 : Nat) (t8 : Nat) (t9 : Nat) (tA : Nat) (tB : Nat) (tC : Nat) (tD : Nat) (tR : Nat → Nat) (tS : Nat → Nat) (e0 : Nat) (eP : Nat → Nat) (eb : Int) (er : Int) (ek : Bool) (es : Nat → Int) (ed : Nat → Nat → Nat) (ec : Nat → Bool) (ew : Nat → Nat → Bool) (lk : Nat → Nat) (lf : Nat → Nat) (lo : Nat → Nat) (lv : Nat → Int64) (le : Nat) (eW : Int) (et : Nat → Nat) (eh : Nat → Nat) (ei : Nat → Int) (eu : Nat → Bool) (em : Nat) (B : Nat → Int64) (ro : Nat → Nat) (ih : Nat → Nat) (iN : Nat) (f : Nat) (hP : RP B eP) (hA : AI B ro ih iN) (hf : f < 32) :
    zC l yX7_load cX7_load 4 none { frames := 3, cells := 0, slots := 0, locals := 67 } D (zT cI cJ cZ cII cZZ) [.ref t0, .int (nI f)] (WQ cI cJ cZ cII cZZ [] t0 t1 t2 t3 t4 t5 t6 t7 t8 t9 tA tB tC tD tR tS e0 eP eb er ek es ed ec ew lk lf lo lv le eW et eh ei eu em) (S := (Nat → Nat → Nat) × (Nat → Nat → Bool)) (fun u => none) (fun u => (∀ g k : Nat, u.1 g k = if g = f ∧ (k : Int) < szL B (inoO B ih 0 f) then po B (num B (inoO B ih 0 f) (1 + k / 32)) (k % 32) else ed g k) ∧ (∀ g q, q < 14 → u.2 g q = if g = f then false else ew g q)) (fun u => (WQ cI cJ cZ cII cZZ [] t0 t1 t2 t3 t4 t5 t6 t7 t8 t9 tA tB tC tD tR tS e0 eP eb er ek (va_up es f (szL B (inoO B ih 0 f))) u.1 (va_up ec f false) u.2 lk lf lo lv le eW et eh ei eu em)) := by
  refine zC_of (by decide) (Nat.le_of_ble_eq_true rfl) ?_
  intro prg env s mth below meth cde A ls hE hrt9 hlocks hnm hZ hl
  have hx := hE.1
  have hb := hE.2.1
  have hl : lv_has ls 4 [(0, .ref t0), (1, .int (nI f))] := hl
  have hin := inoO_ok hA.1 hA.2.1 (show 0 < 6 by omega) hf
  have hsz := szL_in hA.1 hin
  refine lv_aload_n hx hb dX7_load_0 rfl (lv_at hl 0 rfl) ?_
  refine z_iconst hx hb (zI (-1)) dX7_load_1 (by decide) ?_
  refine lv_iload_n hx hb dX7_load_2 rfl (lv_at hl 1 rfl) ?_
  refine z_kVp (As := [.int (zI (-1)), .int (nI f)]) (rest := []) hE hZ (c_X7_inodeOf l D cI cJ cZ cII cZZ t0 t1 t2 t3 t4 t5 t6 t7 t8 t9 tA tB tC tD tR tS e0 eP eb er ek es ed ec ew lk lf lo lv le eW et eh ei eu em B ro ih iN (-1 : Int) f (zI (-1)) (by first | assumption | omega) (hA.2.2) (hA.2.1) (by omega) (hf) (rfl)) lL_X7_inodeOf lC_X7_89 rfl [] (List.Perm.refl _) (fun u => (WQ cI cJ cZ cII cZZ [] t0 t1 t2 t3 t4 t5 t6 t7 t8 t9 tA tB tC tD tR tS e0 eP eb er ek es ed ec ew lk lf lo lv le eW et eh ei eu em)) (fun _ => List.Perm.refl _) 0 rfl ⟨by decide, by decide⟩ 0 0 rfl rfl ⟨by decide, by decide⟩ rfl hl.1 rfl (Nat.le_of_ble_eq_true rfl) dX7_load_3 (fun u H locs hq9 hZ => ?_)
  have hZ : zS D A s.heap H locs (WQ cI cJ cZ cII cZZ [] t0 t1 t2 t3 t4 t5 t6 t7 t8 t9 tA tB tC tD tR tS e0 eP eb er ek es ed ec ew lk lf lo lv le eW et eh ei eu em) := hZ
  refine W.eq (g2 := F0 mth 6 ls [.int (nI (inoO B ih ((-1 : Int) + 1).toNat f))]) rfl ?_
  refine z_top (show nI (inoO B ih ((-1 : Int) + 1).toNat f) = nI (inoO B ih 0 f) from rfl) ?_
  refine lv_istore_n (lv' := [(2, .int (nI (inoO B ih 0 f))), (0, .ref t0), (1, .int (nI f))]) hx hb dX7_load_6 rfl hl (by decide) rfl (fun ls hl => ?_)
  refine lv_aload_n hx hb dX7_load_7 rfl (lv_at hl 1 rfl) ?_
  refine lv_iload_n hx hb dX7_load_8 rfl (lv_at hl 2 rfl) ?_
  refine lv_iload_n hx hb dX7_load_9 rfl (lv_at hl 0 rfl) ?_
  refine z_if_ne hx hb 17 dX7_load_10 (by decide) (C := inoO B ih 0 f = 0) (nI_eq0 (by rcases hin with z | z <;> omega)) (fun h10 => ?_) (fun h10 => ?_)
  · skip
    refine lv_aload_n hx hb dX7_load_17 rfl (lv_at hl 1 rfl) ?_
    refine lv_iload_n hx hb dX7_load_18 rfl (lv_at hl 0 rfl) ?_
    refine z_iconst hx hb (nI 0) dX7_load_19 (by decide) ?_
    refine z_kVp (As := [.int (nI (inoO B ih 0 f)), .int (nI 0)]) (rest := [.int (nI f), .ref t0]) hE hZ (c_X7_two l D cI cJ cZ cII cZZ t0 t1 t2 t3 t4 t5 t6 t7 t8 t9 tA tB tC tD tR tS e0 eP eb er ek es ed ec ew lk lf lo lv le eW et eh ei eu em B (inoO B ih 0 f) 0 0 (by first | assumption | omega) (by rcases hin with z | z <;> omega) (by omega) (rfl)) lL_X7_two lC_X7_82 rfl [] (List.Perm.refl _) (fun u => (WQ cI cJ cZ cII cZZ [] t0 t1 t2 t3 t4 t5 t6 t7 t8 t9 tA tB tC tD tR tS e0 eP eb er ek es ed ec ew lk lf lo lv le eW et eh ei eu em)) (fun _ => List.Perm.refl _) 0 rfl ⟨by decide, by decide⟩ 0 0 rfl rfl ⟨by decide, by decide⟩ rfl hl.1 rfl (Nat.le_of_ble_eq_true rfl) dX7_load_20 (fun u H locs hq9 hZ => ?_)
    have hZ : zS D A s.heap H locs (WQ cI cJ cZ cII cZZ [] t0 t1 t2 t3 t4 t5 t6 t7 t8 t9 tA tB tC tD tR tS e0 eP eb er ek es ed ec ew lk lf lo lv le eW et eh ei eu em) := hZ
    refine W.eq (g2 := F0 mth 23 ls [.int (nI (num B (inoO B ih 0 f) 0)), .int (nI f), .ref t0]) rfl ?_
    refine z_top (show nI (num B (inoO B ih 0 f) 0) = zI (szL B (inoO B ih 0 f)) from by rw [zI_n]; unfold szL; rw [if_neg h10]) ?_
    refine z_kVp (As := [.int (nI f), .int (zI (szL B (inoO B ih 0 f)))]) (rest := []) hE hZ (c_X7_forget l D cI cJ cZ cII cZZ t0 t1 t2 t3 t4 t5 t6 t7 t8 t9 tA tB tC tD tR tS e0 eP eb er ek es ed ec ew lk lf lo lv le eW et eh ei eu em f (szL B (inoO B ih 0 f)) (hf)) lL_X7_forget lC_X7_72 rfl [] (List.Perm.refl _) (fun u => (WQ cI cJ cZ cII cZZ [] t0 t1 t2 t3 t4 t5 t6 t7 t8 t9 tA tB tC tD tR tS e0 eP eb er ek (va_up es f (szL B (inoO B ih 0 f))) ed (va_up ec f false) u lk lf lo lv le eW et eh ei eu em)) (fun _ => List.Perm.refl _) 0 rfl ⟨by decide, by decide⟩ 0 0 rfl rfl ⟨by decide, by decide⟩ rfl hl.1 rfl (Nat.le_of_ble_eq_true rfl) dX7_load_23 (fun u H locs hq9 hZ => ?_)
    obtain ⟨ew1_23, hu9⟩ : ∃ z, z = u := ⟨u, rfl⟩
    subst hu9
    have hq_23 := hq9
    have hq_23 : ∀ g q, q < 14 → ew1_23 g q = if g = f then false else ew g q := hq_23
    have hZ : zS D A s.heap H locs (WQ cI cJ cZ cII cZZ [] t0 t1 t2 t3 t4 t5 t6 t7 t8 t9 tA tB tC tD tR tS e0 eP eb er ek (va_up es f (szL B (inoO B ih 0 f))) ed (va_up ec f false) ew1_23 lk lf lo lv le eW et eh ei eu em) := hZ
    refine W.eq (g2 := F0 mth 26 ls []) rfl ?_
    refine z_iconst hx hb (nI 0) dX7_load_26 (by decide) ?_
    refine lv_istore_n (lv' := [(3, .int (nI 0)), (2, .int (nI (inoO B ih 0 f))), (0, .ref t0), (1, .int (nI f))]) hx hb dX7_load_27 rfl hl (by decide) rfl (fun ls hl => ?_)
    refine z_loop (σ := Nat × (Nat → Nat → Nat)) (fun (k, w) H locs ls => (k ≤ (szL B (inoO B ih 0 f)).toNat) ∧ (∀ g x, w g x = if g = f ∧ x < k then po B (num B (inoO B ih 0 f) (1 + x / 32)) (x % 32) else ed g x) ∧ zS D A s.heap H locs (WQ cI cJ cZ cII cZZ [] t0 t1 t2 t3 t4 t5 t6 t7 t8 t9 tA tB tC tD tR tS e0 eP eb er ek (va_up es f (szL B (inoO B ih 0 f))) w (va_up ec f false) ew1_23 lk lf lo lv le eW et eh ei eu em) ∧ lv_has ls 4 [(0, .ref t0), (1, .int (nI f)), (2, .int (nI (inoO B ih 0 f))), (3, .int (nI k))]) (fun (k, w) => (szL B (inoO B ih 0 f)).toNat - k) [] (0, ed) ⟨by omega, fun g x => by rw [if_neg (by omega)], hZ, lv_sub hl [2, 3, 1, 0] (by first | rfl | (simp only [lv_pick]; rfl))⟩ ?_
    intro x H locs ls hI ih28
    obtain ⟨k, w⟩ := x
    obtain ⟨hk, hd, hZ, hl⟩ := hI
    refine lv_iload_n hx hb dX7_load_28 rfl (lv_at hl 3 rfl) ?_
    refine lv_aload_n hx hb dX7_load_29 rfl (lv_at hl 0 rfl) ?_
    refine z_get hE fF_X7_5 hZ 0 rfl (.ref t2) rfl dX7_load_30 ?_
    refine lv_iload_n hx hb dX7_load_33 rfl (lv_at hl 1 rfl) ?_
    refine z_iald hE hZ 2 0 rfl rfl (by decide) (by omega) dX7_load_34 ?_
    refine z_top (show zI ((va_up es f (szL B (inoO B ih 0 f))) f) = zI (szL B (inoO B ih 0 f)) from by rw [vs]) ?_
    refine z_icmp_ge hx hb 78 dX7_load_35 (by decide) (C := (szL B (inoO B ih 0 f) : Int) ≤ ((k : Nat) : Int)) (by (try simp only [zI_n]); exact zI_le ⟨by omega, by omega⟩ ⟨by omega, by omega⟩) (fun h35 => ?_) (fun h35 => ?_)
    · skip
      exact z_vret hE hrt9 hlocks hZ (w, ew1_23) rfl (show (∀ g k : Nat, w g k = if g = f ∧ (k : Int) < szL B (inoO B ih 0 f) then po B (num B (inoO B ih 0 f) (1 + k / 32)) (k % 32) else ed g k) ∧ (∀ g q, q < 14 → ew1_23 g q = if g = f then false else ew g q) from ⟨fun g x => by
              rw [hd]
              by_cases z : g = f ∧ x < k
              · rw [if_pos z, if_pos (by omega)]
              · rw [if_neg z, if_neg (by omega)], hq_23⟩) rfl dX7_load_78 (Nat.le_of_ble_eq_true rfl) (Nat.le_of_ble_eq_true rfl)
    · skip
      have hne : ¬ inoO B ih 0 f = 0 := fun z => by
              have y : szL B (inoO B ih 0 f) = -1 := by unfold szL; rw [if_pos z]
              omega
      refine lv_aload_n hx hb dX7_load_38 rfl (lv_at hl 0 rfl) ?_
      refine z_get hE fF_X7_6 hZ 0 rfl (.ref t3) rfl dX7_load_39 ?_
      refine lv_iload_n hx hb dX7_load_42 rfl (lv_at hl 1 rfl) ?_
      refine z_aald hE hZ 3 3 rfl rfl (by decide) (by omega) (tR f) (if_pos (by omega)) dX7_load_43 ?_
      refine lv_iload_n hx hb dX7_load_44 rfl (lv_at hl 3 rfl) ?_
      refine lv_aload_n hx hb dX7_load_45 rfl (lv_at hl 0 rfl) ?_
      refine z_get hE fF_X7_1 hZ 0 rfl (.ref t1) rfl dX7_load_46 ?_
      refine lv_aload_n hx hb dX7_load_49 rfl (lv_at hl 0 rfl) ?_
      refine lv_iload_n hx hb dX7_load_50 rfl (lv_at hl 2 rfl) ?_
      refine z_iconst hx hb (nI 2) dX7_load_51 (by decide) ?_
      refine z_iconst hx hb (nI 2) dX7_load_52 (by decide) ?_
      refine lv_iload_n hx hb dX7_load_53 rfl (lv_at hl 3 rfl) ?_
      refine z_bipush hx hb (nI 32) dX7_load_54 (by decide) ?_
      refine z_idiv hx hb dX7_load_56 (by omega) (by omega) (by omega) ?_
      refine z_imul hx hb dX7_load_57 (z := nI (2 * (k / 32))) (pk_mul _ _) ?_
      refine z_iadd hx hb dX7_load_58 (z := nI (2 + (2 * (k / 32)))) (nI_add _ _) ?_
      refine z_kVp (As := [.int (nI (inoO B ih 0 f)), .int (nI (2 + (2 * (k / 32))))]) (rest := [.ref t1, .int (nI k), .ref (tR f)]) hE hZ (c_X7_two l D cI cJ cZ cII cZZ t0 t1 t2 t3 t4 t5 t6 t7 t8 t9 tA tB tC tD tR tS e0 eP eb er ek (va_up es f (szL B (inoO B ih 0 f))) w (va_up ec f false) ew1_23 lk lf lo lv le eW et eh ei eu em B (inoO B ih 0 f) (2 + (2 * (k / 32))) (1 + k / 32) (by first | assumption | omega) (by rcases hin with z | z <;> omega) (by omega) (by omega)) lL_X7_two lC_X7_82 rfl [] (List.Perm.refl _) (fun u => (WQ cI cJ cZ cII cZZ [] t0 t1 t2 t3 t4 t5 t6 t7 t8 t9 tA tB tC tD tR tS e0 eP eb er ek (va_up es f (szL B (inoO B ih 0 f))) w (va_up ec f false) ew1_23 lk lf lo lv le eW et eh ei eu em)) (fun _ => List.Perm.refl _) 0 rfl ⟨by decide, by decide⟩ 0 0 rfl rfl ⟨by decide, by decide⟩ rfl hl.1 rfl (Nat.le_of_ble_eq_true rfl) dX7_load_59 (fun u H locs hq9 hZ => ?_)
      have hZ : zS D A s.heap H locs (WQ cI cJ cZ cII cZZ [] t0 t1 t2 t3 t4 t5 t6 t7 t8 t9 tA tB tC tD tR tS e0 eP eb er ek (va_up es f (szL B (inoO B ih 0 f))) w (va_up ec f false) ew1_23 lk lf lo lv le eW et eh ei eu em) := hZ
      refine W.eq (g2 := F0 mth 62 ls [.int (nI (num B (inoO B ih 0 f) (1 + k / 32))), .ref t1, .int (nI k), .ref (tR f)]) rfl ?_
      have hpc := pc_lt hA.1 hin hne (show k / 32 < 14 by omega)
      refine z_bipush hx hb (nI 32) dX7_load_62 (by decide) ?_
      refine z_imul hx hb dX7_load_64 (z := nI ((num B (inoO B ih 0 f) (1 + k / 32)) * 32)) (pk_mul _ _) ?_
      refine lv_iload_n hx hb dX7_load_65 rfl (lv_at hl 3 rfl) ?_
      refine z_bipush hx hb (nI 32) dX7_load_66 (by decide) ?_
      refine z_irem hx hb dX7_load_68 (by omega) (by omega) (by omega) ?_
      refine z_iadd hx hb dX7_load_69 (z := nI (((num B (inoO B ih 0 f) (1 + k / 32)) * 32) + (k % 32))) (nI_add _ _) ?_
      refine z_iald hE hZ 1 0 rfl rfl (by decide) (by omega) dX7_load_70 ?_
      refine z_top (show nI (eP (((num B (inoO B ih 0 f) (1 + k / 32)) * 32) + (k % 32))) = nI (po B (num B (inoO B ih 0 f) (1 + k / 32)) (k % 32)) from by rw [hP _ _ hpc (by omega)]) ?_
      refine z_riast w (po B (num B (inoO B ih 0 f) (1 + k / 32)) (k % 32)) hE hZ 0 rfl (by decide) (i := f) (j := k) (by omega) (by omega) dX7_load_71 (fun H locs hZ => ?_)
      have hZ : zS D A s.heap H locs (WQ cI cJ cZ cII cZZ [] t0 t1 t2 t3 t4 t5 t6 t7 t8 t9 tA tB tC tD tR tS e0 eP eb er ek (va_up es f (szL B (inoO B ih 0 f))) (va_up2 w f k (po B (num B (inoO B ih 0 f) (1 + k / 32)) (k % 32))) (va_up ec f false) ew1_23 lk lf lo lv le eW et eh ei eu em) := hZ
      refine lv_iinc (v := nI (k + 1)) (lv' := [(3, .int (nI (k + 1))), (0, .ref t0), (1, .int (nI f)), (2, .int (nI (inoO B ih 0 f)))]) hx hb dX7_load_72 hl (k := 3) rfl (nI_add _ _) (by decide) rfl (fun ls hl => ?_)
      refine lv_goto (tgt := 28) hx hb dX7_load_75 (by decide) ?_
      exact ih28 (k + 1, va_up2 w f k (po B (num B (inoO B ih 0 f) (1 + k / 32)) (k % 32))) _ _ _ ⟨by omega, fun g x => by
              rw [v2, hd]
              by_cases y : g = f ∧ x = k
              · rw [if_pos y, if_pos (by omega), y.2]
              · rw [if_neg y]
                by_cases z : g = f ∧ x < k
                · rw [if_pos z, if_pos (by omega)]
                · rw [if_neg z, if_neg (by omega)], hZ, lv_sub hl [1, 2, 3, 0] (by first | rfl | (simp only [lv_pick]; rfl))⟩ (by (try dsimp only); omega)
  · skip
    refine z_iconst hx hb (zI (-1)) dX7_load_13 (by decide) ?_
    refine z_top (show zI (-1) = zI (szL B (inoO B ih 0 f)) from by unfold szL; rw [if_pos h10]) ?_
    refine lv_goto (tgt := 23) hx hb dX7_load_14 (by decide) ?_
    refine z_kVp (As := [.int (nI f), .int (zI (szL B (inoO B ih 0 f)))]) (rest := []) hE hZ (c_X7_forget l D cI cJ cZ cII cZZ t0 t1 t2 t3 t4 t5 t6 t7 t8 t9 tA tB tC tD tR tS e0 eP eb er ek es ed ec ew lk lf lo lv le eW et eh ei eu em f (szL B (inoO B ih 0 f)) (hf)) lL_X7_forget lC_X7_72 rfl [] (List.Perm.refl _) (fun u => (WQ cI cJ cZ cII cZZ [] t0 t1 t2 t3 t4 t5 t6 t7 t8 t9 tA tB tC tD tR tS e0 eP eb er ek (va_up es f (szL B (inoO B ih 0 f))) ed (va_up ec f false) u lk lf lo lv le eW et eh ei eu em)) (fun _ => List.Perm.refl _) 0 rfl ⟨by decide, by decide⟩ 0 0 rfl rfl ⟨by decide, by decide⟩ rfl hl.1 rfl (Nat.le_of_ble_eq_true rfl) dX7_load_23 (fun u H locs hq9 hZ => ?_)
    obtain ⟨ew1_23, hu9⟩ : ∃ z, z = u := ⟨u, rfl⟩
    subst hu9
    have hq_23 := hq9
    have hq_23 : ∀ g q, q < 14 → ew1_23 g q = if g = f then false else ew g q := hq_23
    have hZ : zS D A s.heap H locs (WQ cI cJ cZ cII cZZ [] t0 t1 t2 t3 t4 t5 t6 t7 t8 t9 tA tB tC tD tR tS e0 eP eb er ek (va_up es f (szL B (inoO B ih 0 f))) ed (va_up ec f false) ew1_23 lk lf lo lv le eW et eh ei eu em) := hZ
    refine W.eq (g2 := F0 mth 26 ls []) rfl ?_
    refine z_iconst hx hb (nI 0) dX7_load_26 (by decide) ?_
    refine lv_istore_n (lv' := [(3, .int (nI 0)), (2, .int (nI (inoO B ih 0 f))), (0, .ref t0), (1, .int (nI f))]) hx hb dX7_load_27 rfl hl (by decide) rfl (fun ls hl => ?_)
    refine z_loop (σ := Nat × (Nat → Nat → Nat)) (fun (k, w) H locs ls => (k ≤ (szL B (inoO B ih 0 f)).toNat) ∧ (∀ g x, w g x = if g = f ∧ x < k then po B (num B (inoO B ih 0 f) (1 + x / 32)) (x % 32) else ed g x) ∧ zS D A s.heap H locs (WQ cI cJ cZ cII cZZ [] t0 t1 t2 t3 t4 t5 t6 t7 t8 t9 tA tB tC tD tR tS e0 eP eb er ek (va_up es f (szL B (inoO B ih 0 f))) w (va_up ec f false) ew1_23 lk lf lo lv le eW et eh ei eu em) ∧ lv_has ls 4 [(0, .ref t0), (1, .int (nI f)), (2, .int (nI (inoO B ih 0 f))), (3, .int (nI k))]) (fun (k, w) => (szL B (inoO B ih 0 f)).toNat - k) [] (0, ed) ⟨by omega, fun g x => by rw [if_neg (by omega)], hZ, lv_sub hl [2, 3, 1, 0] (by first | rfl | (simp only [lv_pick]; rfl))⟩ ?_
    intro x H locs ls hI ih28
    obtain ⟨k, w⟩ := x
    obtain ⟨hk, hd, hZ, hl⟩ := hI
    refine lv_iload_n hx hb dX7_load_28 rfl (lv_at hl 3 rfl) ?_
    refine lv_aload_n hx hb dX7_load_29 rfl (lv_at hl 0 rfl) ?_
    refine z_get hE fF_X7_5 hZ 0 rfl (.ref t2) rfl dX7_load_30 ?_
    refine lv_iload_n hx hb dX7_load_33 rfl (lv_at hl 1 rfl) ?_
    refine z_iald hE hZ 2 0 rfl rfl (by decide) (by omega) dX7_load_34 ?_
    refine z_top (show zI ((va_up es f (szL B (inoO B ih 0 f))) f) = zI (szL B (inoO B ih 0 f)) from by rw [vs]) ?_
    refine z_icmp_ge hx hb 78 dX7_load_35 (by decide) (C := (szL B (inoO B ih 0 f) : Int) ≤ ((k : Nat) : Int)) (by (try simp only [zI_n]); exact zI_le ⟨by omega, by omega⟩ ⟨by omega, by omega⟩) (fun h35 => ?_) (fun h35 => ?_)
    · skip
      exact z_vret hE hrt9 hlocks hZ (w, ew1_23) rfl (show (∀ g k : Nat, w g k = if g = f ∧ (k : Int) < szL B (inoO B ih 0 f) then po B (num B (inoO B ih 0 f) (1 + k / 32)) (k % 32) else ed g k) ∧ (∀ g q, q < 14 → ew1_23 g q = if g = f then false else ew g q) from ⟨fun g x => by
              rw [hd]
              by_cases z : g = f ∧ x < k
              · rw [if_pos z, if_pos (by omega)]
              · rw [if_neg z, if_neg (by omega)], hq_23⟩) rfl dX7_load_78 (Nat.le_of_ble_eq_true rfl) (Nat.le_of_ble_eq_true rfl)
    · skip
      have hne : ¬ inoO B ih 0 f = 0 := fun z => by
              have y : szL B (inoO B ih 0 f) = -1 := by unfold szL; rw [if_pos z]
              omega
      refine lv_aload_n hx hb dX7_load_38 rfl (lv_at hl 0 rfl) ?_
      refine z_get hE fF_X7_6 hZ 0 rfl (.ref t3) rfl dX7_load_39 ?_
      refine lv_iload_n hx hb dX7_load_42 rfl (lv_at hl 1 rfl) ?_
      refine z_aald hE hZ 3 3 rfl rfl (by decide) (by omega) (tR f) (if_pos (by omega)) dX7_load_43 ?_
      refine lv_iload_n hx hb dX7_load_44 rfl (lv_at hl 3 rfl) ?_
      refine lv_aload_n hx hb dX7_load_45 rfl (lv_at hl 0 rfl) ?_
      refine z_get hE fF_X7_1 hZ 0 rfl (.ref t1) rfl dX7_load_46 ?_
      refine lv_aload_n hx hb dX7_load_49 rfl (lv_at hl 0 rfl) ?_
      refine lv_iload_n hx hb dX7_load_50 rfl (lv_at hl 2 rfl) ?_
      refine z_iconst hx hb (nI 2) dX7_load_51 (by decide) ?_
      refine z_iconst hx hb (nI 2) dX7_load_52 (by decide) ?_
      refine lv_iload_n hx hb dX7_load_53 rfl (lv_at hl 3 rfl) ?_
      refine z_bipush hx hb (nI 32) dX7_load_54 (by decide) ?_
      refine z_idiv hx hb dX7_load_56 (by omega) (by omega) (by omega) ?_
      refine z_imul hx hb dX7_load_57 (z := nI (2 * (k / 32))) (pk_mul _ _) ?_
      refine z_iadd hx hb dX7_load_58 (z := nI (2 + (2 * (k / 32)))) (nI_add _ _) ?_
      refine z_kVp (As := [.int (nI (inoO B ih 0 f)), .int (nI (2 + (2 * (k / 32))))]) (rest := [.ref t1, .int (nI k), .ref (tR f)]) hE hZ (c_X7_two l D cI cJ cZ cII cZZ t0 t1 t2 t3 t4 t5 t6 t7 t8 t9 tA tB tC tD tR tS e0 eP eb er ek (va_up es f (szL B (inoO B ih 0 f))) w (va_up ec f false) ew1_23 lk lf lo lv le eW et eh ei eu em B (inoO B ih 0 f) (2 + (2 * (k / 32))) (1 + k / 32) (by first | assumption | omega) (by rcases hin with z | z <;> omega) (by omega) (by omega)) lL_X7_two lC_X7_82 rfl [] (List.Perm.refl _) (fun u => (WQ cI cJ cZ cII cZZ [] t0 t1 t2 t3 t4 t5 t6 t7 t8 t9 tA tB tC tD tR tS e0 eP eb er ek (va_up es f (szL B (inoO B ih 0 f))) w (va_up ec f false) ew1_23 lk lf lo lv le eW et eh ei eu em)) (fun _ => List.Perm.refl _) 0 rfl ⟨by decide, by decide⟩ 0 0 rfl rfl ⟨by decide, by decide⟩ rfl hl.1 rfl (Nat.le_of_ble_eq_true rfl) dX7_load_59 (fun u H locs hq9 hZ => ?_)
      have hZ : zS D A s.heap H locs (WQ cI cJ cZ cII cZZ [] t0 t1 t2 t3 t4 t5 t6 t7 t8 t9 tA tB tC tD tR tS e0 eP eb er ek (va_up es f (szL B (inoO B ih 0 f))) w (va_up ec f false) ew1_23 lk lf lo lv le eW et eh ei eu em) := hZ
      refine W.eq (g2 := F0 mth 62 ls [.int (nI (num B (inoO B ih 0 f) (1 + k / 32))), .ref t1, .int (nI k), .ref (tR f)]) rfl ?_
      have hpc := pc_lt hA.1 hin hne (show k / 32 < 14 by omega)
      refine z_bipush hx hb (nI 32) dX7_load_62 (by decide) ?_
      refine z_imul hx hb dX7_load_64 (z := nI ((num B (inoO B ih 0 f) (1 + k / 32)) * 32)) (pk_mul _ _) ?_
      refine lv_iload_n hx hb dX7_load_65 rfl (lv_at hl 3 rfl) ?_
      refine z_bipush hx hb (nI 32) dX7_load_66 (by decide) ?_
      refine z_irem hx hb dX7_load_68 (by omega) (by omega) (by omega) ?_
      refine z_iadd hx hb dX7_load_69 (z := nI (((num B (inoO B ih 0 f) (1 + k / 32)) * 32) + (k % 32))) (nI_add _ _) ?_
      refine z_iald hE hZ 1 0 rfl rfl (by decide) (by omega) dX7_load_70 ?_
      refine z_top (show nI (eP (((num B (inoO B ih 0 f) (1 + k / 32)) * 32) + (k % 32))) = nI (po B (num B (inoO B ih 0 f) (1 + k / 32)) (k % 32)) from by rw [hP _ _ hpc (by omega)]) ?_
      refine z_riast w (po B (num B (inoO B ih 0 f) (1 + k / 32)) (k % 32)) hE hZ 0 rfl (by decide) (i := f) (j := k) (by omega) (by omega) dX7_load_71 (fun H locs hZ => ?_)
      have hZ : zS D A s.heap H locs (WQ cI cJ cZ cII cZZ [] t0 t1 t2 t3 t4 t5 t6 t7 t8 t9 tA tB tC tD tR tS e0 eP eb er ek (va_up es f (szL B (inoO B ih 0 f))) (va_up2 w f k (po B (num B (inoO B ih 0 f) (1 + k / 32)) (k % 32))) (va_up ec f false) ew1_23 lk lf lo lv le eW et eh ei eu em) := hZ
      refine lv_iinc (v := nI (k + 1)) (lv' := [(3, .int (nI (k + 1))), (0, .ref t0), (1, .int (nI f)), (2, .int (nI (inoO B ih 0 f)))]) hx hb dX7_load_72 hl (k := 3) rfl (nI_add _ _) (by decide) rfl (fun ls hl => ?_)
      refine lv_goto (tgt := 28) hx hb dX7_load_75 (by decide) ?_
      exact ih28 (k + 1, va_up2 w f k (po B (num B (inoO B ih 0 f) (1 + k / 32)) (k % 32))) _ _ _ ⟨by omega, fun g x => by
              rw [v2, hd]
              by_cases y : g = f ∧ x = k
              · rw [if_pos y, if_pos (by omega), y.2]
              · rw [if_neg y]
                by_cases z : g = f ∧ x < k
                · rw [if_pos z, if_pos (by omega)]
                · rw [if_neg z, if_neg (by omega)], hZ, lv_sub hl [1, 2, 3, 0] (by first | rfl | (simp only [lv_pick]; rfl))⟩ (by (try dsimp only); omega)
set_option maxHeartbeats 1000000 in
set_option maxRecDepth 100000 in
theorem c_X7_crash (l : Launch) (D : va_G) (cI cJ cZ cII cZZ : ClassId) (t0 : Nat) (t1 : Nat) (t2 : Nat) (t3 : Nat) (t4 : Nat) (t5 : Nat) (t6 : Nat) (t7 : Nat) (t8 : Nat) (t9 : Nat) (tA : Nat) (tB : Nat) (tC : Nat) (tD : Nat) (tR : Nat → Nat) (tS : Nat → Nat) (e0 : Nat) (eP : Nat → Nat) (eb : Int) (er : Int) (ek : Bool) (es : Nat → Int) (ed : Nat → Nat → Nat) (ec : Nat → Bool) (ew : Nat → Nat → Bool) (lk : Nat → Nat) (lf : Nat → Nat) (lo : Nat → Nat) (lv : Nat → Int64) (le : Nat) (eW : Int) (et : Nat → Nat) (eh : Nat → Nat) (ei : Nat → Int) (eu : Nat → Bool) (em : Nat) (B : Nat → Int64) (ro : Nat → Nat) (ih : Nat → Nat) (iN : Nat) (uv : Nat → Bool) (a : aM) (n : Int) (lg : Bool) (n_q : Int32) (hP : RP B eP) (hA : AI B ro ih iN) (hN : iN + 1 < 2 ^ 31) (hM : RM es ed ew ec a) (hLO : LOK lk lf lo lv le (lodA B ih)) (hae : a = aRun lk lf lo lv (lodA B ih) le) (hu : ∀ p, p < 600 → (uv p = true ↔ UA B ih 12 p)) (hn : -2147483648 ≤ n ∧ n < 2147483648) (n_h : n_q = zI n) :
    zC l yX7_crash cX7_crash 5 (some .boolean) { frames := 5, cells := 2, slots := 16, locals := 116 } D (zT cI cJ cZ cII cZZ) [.ref t0, .int (n_q), .int (zB lg)] (WQ cI cJ cZ cII cZZ [] t0 t1 t2 t3 t4 t5 t6 t7 t8 t9 tA tB tC tD tR tS e0 eP eb er ek es ed ec ew lk lf lo lv le eW et eh ei eu em) (S := (Nat → Nat) × (Nat → Int) × (Nat → Nat → Nat) × (Nat → Bool) × (Nat → Nat → Bool) × (Nat → Nat) × (Nat → Nat) × (Nat → Nat) × (Nat → Int64) × Nat × Int × (Nat → Nat) × (Nat → Nat) × (Nat → Int) × (Nat → Bool) × Nat × Nat × Bool) (fun u => some (.int (zB u.2.2.2.2.2.2.2.2.2.2.2.2.2.2.2.2.2))) (fun u => ((u.2.2.2.2.2.2.2.2.2.2.2.2.2.2.2.2.1 = 1 ∧ n < 0 ∧ RT B ih lk lf lo lv le eW u.1 u.2.1 u.2.2.1 u.2.2.2.1 u.2.2.2.2.1 u.2.2.2.2.2.1 u.2.2.2.2.2.2.1 u.2.2.2.2.2.2.2.1 u.2.2.2.2.2.2.2.2.1 u.2.2.2.2.2.2.2.2.2.1 u.2.2.2.2.2.2.2.2.2.2.1) ∨ (u.2.2.2.2.2.2.2.2.2.2.2.2.2.2.2.2.1 = 2 ∧ 0 ≤ n ∧ ek = true ∧ RT B ih lk lf lo lv le eW u.1 u.2.1 u.2.2.1 u.2.2.2.1 u.2.2.2.2.1 u.2.2.2.2.2.1 u.2.2.2.2.2.2.1 u.2.2.2.2.2.2.2.1 u.2.2.2.2.2.2.2.2.1 u.2.2.2.2.2.2.2.2.2.1 u.2.2.2.2.2.2.2.2.2.2.1) ∨ (u.2.2.2.2.2.2.2.2.2.2.2.2.2.2.2.2.1 = 0 ∧ 0 ≤ n ∧ ek = false ∧ u.2.2.2.2.2.2.2.2.2.2.2.2.2.2.2.2.2 = (crM B ih uv a n.toNat) ∧ RT (crB B ih iN uv a n.toNat) (ihB (crB B ih iN uv a n.toNat)) lk lf lo lv (crG (crM B ih uv a n.toNat) lg le) (crC B ih iN uv a n.toNat eW) u.1 u.2.1 u.2.2.1 u.2.2.2.1 u.2.2.2.2.1 u.2.2.2.2.2.1 u.2.2.2.2.2.2.1 u.2.2.2.2.2.2.2.1 u.2.2.2.2.2.2.2.2.1 u.2.2.2.2.2.2.2.2.2.1 u.2.2.2.2.2.2.2.2.2.2.1))) (fun u => (WQ cI cJ cZ cII cZZ [] t0 t1 t2 t3 t4 t5 t6 t7 t8 t9 tA tB tC tD tR tS u.2.2.2.2.2.2.2.2.2.2.2.2.2.2.2.2.1 u.1 eb er ek u.2.1 u.2.2.1 u.2.2.2.1 u.2.2.2.2.1 u.2.2.2.2.2.1 u.2.2.2.2.2.2.1 u.2.2.2.2.2.2.2.1 u.2.2.2.2.2.2.2.2.1 u.2.2.2.2.2.2.2.2.2.1 u.2.2.2.2.2.2.2.2.2.2.1 u.2.2.2.2.2.2.2.2.2.2.2.1 u.2.2.2.2.2.2.2.2.2.2.2.2.1 u.2.2.2.2.2.2.2.2.2.2.2.2.2.1 u.2.2.2.2.2.2.2.2.2.2.2.2.2.2.1 u.2.2.2.2.2.2.2.2.2.2.2.2.2.2.2.1)) := by
  refine zC_of (by decide) (Nat.le_of_ble_eq_true rfl) ?_
  intro prg env s mth below meth cde A ls hE hrt9 hlocks hnm hZ hl
  have hx := hE.1
  have hb := hE.2.1
  subst n_h
  have hl : lv_has ls 5 [(0, .ref t0), (1, .int (zI n)), (2, .int (zB lg))] := hl
  have hl40 := hLO.1
  have haw : AW B ih a := by rw [hae]; exact hA.aw hLO
  have hu0 : uv 0 = true := (hu 0 (by omega)).mpr (Or.inl rfl)
  refine lv_aload_n hx hb dX7_crash_0 rfl (lv_at hl 0 rfl) ?_
  refine lv_iload_n hx hb dX7_crash_1 rfl (lv_at hl 1 rfl) ?_
  refine z_if_ge hx hb 9 dX7_crash_2 (by decide) (C := 0 ≤ n) (zI_ge0 ⟨by omega, by omega⟩) (fun h2 => ?_) (fun h2 => ?_)
  · skip
    have hn0 : 0 ≤ n := by omega
    refine z_iconst hx hb (nI 0) dX7_crash_9 (by decide) ?_
    refine z_iconst hx hb (nI 1) dX7_crash_10 (by decide) ?_
    refine z_kVp (As := [.int (nI 0), .int (nI 1)]) (rest := []) hE hZ (c_X7_fails l D cI cJ cZ cII cZZ t0 t1 t2 t3 t4 t5 t6 t7 t8 t9 tA tB tC tD tR tS e0 eP eb er ek es ed ec ew lk lf lo lv le eW et eh ei eu em false 1 ) lL_X7_fails lC_X7_125 rfl [] (List.Perm.refl _) (fun u => (WQ cI cJ cZ cII cZZ [] t0 t1 t2 t3 t4 t5 t6 t7 t8 t9 tA tB tC tD tR tS (if false = true then 1 else 0) eP eb er ek es ed ec ew lk lf lo lv le eW et eh ei eu em)) (fun _ => List.Perm.refl _) 0 rfl ⟨by decide, by decide⟩ 0 0 rfl rfl ⟨by decide, by decide⟩ rfl hl.1 rfl (Nat.le_of_ble_eq_true rfl) dX7_crash_11 (fun u H locs hq9 hZ => ?_)
    have hZ : zS D A s.heap H locs (WQ cI cJ cZ cII cZZ [] t0 t1 t2 t3 t4 t5 t6 t7 t8 t9 tA tB tC tD tR tS (if false = true then 1 else 0) eP eb er ek es ed ec ew lk lf lo lv le eW et eh ei eu em) := hZ
    refine W.eq (g2 := F0 mth 14 ls [.int (zB false)]) rfl ?_
    refine z_if_eq hx hb 19 dX7_crash_14 (by decide) (C := True) (by rw [zB_0]; simp) (fun h14 => ?_) (fun h14 => ?_)
    · skip
      refine lv_aload_n hx hb dX7_crash_19 rfl (lv_at hl 0 rfl) ?_
      refine lv_aload_n hx hb dX7_crash_20 rfl (lv_at hl 0 rfl) ?_
      refine z_get hE fF_X7_4 hZ 0 rfl (.int (zB ek)) rfl dX7_crash_21 ?_
      refine z_iconst hx hb (nI 2) dX7_crash_24 (by decide) ?_
      refine z_kVp (As := [.int (zB ek), .int (nI 2)]) (rest := []) hE hZ (c_X7_fails l D cI cJ cZ cII cZZ t0 t1 t2 t3 t4 t5 t6 t7 t8 t9 tA tB tC tD tR tS (if false = true then 1 else 0) eP eb er ek es ed ec ew lk lf lo lv le eW et eh ei eu em ek 2 ) lL_X7_fails lC_X7_125 rfl [] (List.Perm.refl _) (fun u => (WQ cI cJ cZ cII cZZ [] t0 t1 t2 t3 t4 t5 t6 t7 t8 t9 tA tB tC tD tR tS (if ek = true then 2 else 0) eP eb er ek es ed ec ew lk lf lo lv le eW et eh ei eu em)) (fun _ => List.Perm.refl _) 0 rfl ⟨by decide, by decide⟩ 0 0 rfl rfl ⟨by decide, by decide⟩ rfl hl.1 rfl (Nat.le_of_ble_eq_true rfl) dX7_crash_25 (fun u H locs hq9 hZ => ?_)
      have hZ : zS D A s.heap H locs (WQ cI cJ cZ cII cZZ [] t0 t1 t2 t3 t4 t5 t6 t7 t8 t9 tA tB tC tD tR tS (if ek = true then 2 else 0) eP eb er ek es ed ec ew lk lf lo lv le eW et eh ei eu em) := hZ
      refine W.eq (g2 := F0 mth 28 ls [.int (zB ek)]) rfl ?_
      refine z_if_eq hx hb 33 dX7_crash_28 (by decide) (C := ek = false) (zB_0 _) (fun h28 => ?_) (fun h28 => ?_)
      · skip
        have hbk : ek = false := by simpa using h28
        refine lv_aload_n hx hb dX7_crash_33 rfl (lv_at hl 0 rfl) ?_
        refine z_join2 2 16 (σ := (Nat → Nat) × (Nat → Int) × (Nat → Nat → Nat) × (Nat → Bool) × (Nat → Nat → Bool) × Nat × Int × (Nat → Nat) × (Nat → Nat) × (Nat → Int) × (Nat → Bool) × Nat × Bool) (fun (zP, zs, zd, zc, zw, zl, zW, zt, zh, zi, zu, zm, zb) H locs ls => (RP (crB B ih iN uv a n.toNat) zP) ∧ (zb = (crM B ih uv a n.toNat)) ∧ (zW = crC B ih iN uv a n.toNat eW) ∧ (zl = if (crM B ih uv a n.toNat) = true then 0 else le) ∧ zS D A s.heap H locs (WQ cI cJ cZ cII cZZ [] t0 t1 t2 t3 t4 t5 t6 t7 t8 t9 tA tB tC tD tR tS (if ek = true then 2 else 0) zP eb er ek zs zd zc zw lk lf lo lv zl zW zt zh zi zu zm) ∧ lv_has ls 5 [(0, .ref t0), (1, .int (zI n)), (2, .int (zB lg)), (3, .int (zB zb))]) 54 [] _ ?_ (fun jn54 => ?_)
        · intro x H locs ls hI
          obtain ⟨zP, zs, zd, zc, zw, zl, zW, zt, zh, zi, zu, zm, zb⟩ := x
          obtain ⟨jP, jb, jW, jl, hZ, hl⟩ := hI
          obtain ⟨r2, n2, hc1, hc2, hc3⟩ := crash_ok (n := n.toNat) (lg := lg) hA hLO hae hu hN
          have hc40 := hc3.1
          refine z_iconst hx hb (nI 0) dX7_crash_54 (by decide) ?_
          refine lv_istore (lv' := [(4, .int (nI 0)), (0, .ref t0), (1, .int (zI n)), (2, .int (zB lg)), (3, .int (zB zb))]) hx hb dX7_crash_55 hl (by decide) rfl (fun ls hl => ?_)
          refine z_loop (σ := Nat × (Nat → Int) × (Nat → Nat → Nat) × (Nat → Bool) × (Nat → Nat → Bool)) (fun (f, xs, xd, xc, xw) H locs ls => (f ≤ 32) ∧ (RML f xs xd xw xc (lodA (crB B ih iN uv a n.toNat) (ihB (crB B ih iN uv a n.toNat)))) ∧ zS D A s.heap H locs (WQ cI cJ cZ cII cZZ [] t0 t1 t2 t3 t4 t5 t6 t7 t8 t9 tA tB tC tD tR tS (if ek = true then 2 else 0) zP eb er ek xs xd xc xw lk lf lo lv zl zW zt zh zi zu zm) ∧ lv_has ls 5 [(0, .ref t0), (1, .int (zI n)), (2, .int (zB lg)), (3, .int (zB zb)), (4, .int (nI f))]) (fun (f, xs, xd, xc, xw) => 32 - f) [] (0, zs, zd, zc, zw) ⟨by omega, RML_0 _ _ _ _ _, hZ, lv_sub hl [1, 2, 3, 4, 0] (by first | rfl | (simp only [lv_pick]; rfl))⟩ ?_
          intro x H locs ls hI ih57
          obtain ⟨f, xs, xd, xc, xw⟩ := x
          obtain ⟨hf, hL1, hZ, hl⟩ := hI
          refine lv_iload hx hb dX7_crash_57 (lv_at hl 4 rfl) ?_
          refine z_bipush hx hb (nI 32) dX7_crash_59 (by decide) ?_
          refine z_icmp_ge hx hb 76 dX7_crash_61 (by decide) (C := 32 ≤ f) (nIle (by omega) (by omega)) (fun h61 => ?_) (fun h61 => ?_)
          · skip
            have hRM0 : RM xs xd xw xc (lodA (crB B ih iN uv a n.toNat) (ihB (crB B ih iN uv a n.toNat))) := by rw [show f = 32 by omega] at hL1; exact hL1
            refine lv_iload_n hx hb dX7_crash_76 rfl (lv_at hl 2 rfl) ?_
            refine z_if_ne hx hb 85 dX7_crash_77 (by decide) (C := lg = false) (zB_0 _) (fun h77 => ?_) (fun h77 => ?_)
            · skip
              have hlt : lg = true := by simpa using h77
              have hgl : zl = crG (crM B ih uv a n.toNat) lg le := by
                      rw [jl]; unfold crG; rw [hlt]; simp
              refine z_iconst hx hb (nI 0) dX7_crash_85 (by decide) ?_
              refine lv_istore (lv' := [(4, .int (nI 0)), (0, .ref t0), (1, .int (zI n)), (2, .int (zB lg)), (3, .int (zB zb))]) hx hb dX7_crash_86 hl (by decide) rfl (fun ls hl => ?_)
              refine z_loop (σ := Nat × (Nat → Int) × (Nat → Nat → Nat) × (Nat → Bool) × (Nat → Nat → Bool)) (fun (k, ys, yd, yc, yw) H locs ls => (k ≤ crG (crM B ih uv a n.toNat) lg le) ∧ (RM ys yd yw yc (aRun lk lf lo lv (lodA (crB B ih iN uv a n.toNat) (ihB (crB B ih iN uv a n.toNat))) k)) ∧ zS D A s.heap H locs (WQ cI cJ cZ cII cZZ [] t0 t1 t2 t3 t4 t5 t6 t7 t8 t9 tA tB tC tD tR tS (if ek = true then 2 else 0) zP eb er ek ys yd yc yw lk lf lo lv zl zW zt zh zi zu zm) ∧ lv_has ls 5 [(0, .ref t0), (1, .int (zI n)), (2, .int (zB lg)), (3, .int (zB zb)), (4, .int (nI k))]) (fun (k, ys, yd, yc, yw) => crG (crM B ih uv a n.toNat) lg le - k) [] (0, xs, xd, xc, xw) ⟨Nat.zero_le _, hRM0, hZ, lv_sub hl [1, 2, 3, 4, 0] (by first | rfl | (simp only [lv_pick]; rfl))⟩ ?_
              intro x H locs ls hI ih88
              obtain ⟨k, ys, yd, yc, yw⟩ := x
              obtain ⟨hk, hRk, hZ, hl⟩ := hI
              refine lv_iload hx hb dX7_crash_88 (lv_at hl 4 rfl) ?_
              refine lv_aload_n hx hb dX7_crash_90 rfl (lv_at hl 0 rfl) ?_
              refine z_get hE fF_X7_13 hZ 0 rfl (.int (nI zl)) rfl dX7_crash_91 ?_
              refine z_icmp_ge hx hb 135 dX7_crash_94 (by decide) (C := zl ≤ k) (nIle (by omega) (by omega)) (fun h94 => ?_) (fun h94 => ?_)
              · skip
                refine lv_iload_n hx hb dX7_crash_135 rfl (lv_at hl 3 rfl) ?_
                refine z_top (show zB zb = zB (crM B ih uv a n.toNat) from by rw [jb]) ?_
                exact z_zret (crM B ih uv a n.toNat) rfl hE hrt9 hlocks hZ (zP, ys, yd, yc, yw, lk, lf, lo, lv, zl, zW, zt, zh, zi, zu, zm, (if ek = true then 2 else 0), (crM B ih uv a n.toNat)) rfl (show (((if ek = true then 2 else 0) = 1 ∧ n < 0 ∧ RT B ih lk lf lo lv le eW zP ys yd yc yw lk lf lo lv zl zW) ∨ ((if ek = true then 2 else 0) = 2 ∧ 0 ≤ n ∧ ek = true ∧ RT B ih lk lf lo lv le eW zP ys yd yc yw lk lf lo lv zl zW) ∨ ((if ek = true then 2 else 0) = 0 ∧ 0 ≤ n ∧ ek = false ∧ (crM B ih uv a n.toNat) = (crM B ih uv a n.toNat) ∧ RT (crB B ih iN uv a n.toNat) (ihB (crB B ih iN uv a n.toNat)) lk lf lo lv (crG (crM B ih uv a n.toNat) lg le) (crC B ih iN uv a n.toNat eW) zP ys yd yc yw lk lf lo lv zl zW)) from Or.inr (Or.inr ⟨by rw [if_neg (by rw [hbk]; simp)], hn0, hbk, rfl, jP, by rw [show crG (crM B ih uv a n.toNat) lg le = k by omega]; exact hRk, rfl, rfl, rfl, rfl, hgl, jW⟩)) rfl dX7_crash_136 (Nat.le_of_ble_eq_true rfl) (Nat.le_of_ble_eq_true rfl)
              · skip
                have hdo := (AW_run (AW_lod hc1) k (fun i hi => hc3.2.1 i (by omega))).1
                refine lv_aload_n hx hb dX7_crash_97 rfl (lv_at hl 0 rfl) ?_
                refine lv_aload_n hx hb dX7_crash_98 rfl (lv_at hl 0 rfl) ?_
                refine z_get hE fF_X7_9 hZ 0 rfl (.ref t6) rfl dX7_crash_99 ?_
                refine lv_iload hx hb dX7_crash_102 (lv_at hl 4 rfl) ?_
                refine z_iald hE hZ 6 0 rfl rfl (by decide) (by omega) dX7_crash_104 ?_
                refine lv_aload_n hx hb dX7_crash_105 rfl (lv_at hl 0 rfl) ?_
                refine z_get hE fF_X7_10 hZ 0 rfl (.ref t7) rfl dX7_crash_106 ?_
                refine lv_iload hx hb dX7_crash_109 (lv_at hl 4 rfl) ?_
                refine z_iald hE hZ 7 0 rfl rfl (by decide) (by omega) dX7_crash_111 ?_
                refine lv_aload_n hx hb dX7_crash_112 rfl (lv_at hl 0 rfl) ?_
                refine z_get hE fF_X7_11 hZ 0 rfl (.ref t8) rfl dX7_crash_113 ?_
                refine lv_iload hx hb dX7_crash_116 (lv_at hl 4 rfl) ?_
                refine z_iald hE hZ 8 0 rfl rfl (by decide) (by omega) dX7_crash_118 ?_
                refine lv_aload_n hx hb dX7_crash_119 rfl (lv_at hl 0 rfl) ?_
                refine z_get hE fF_X7_12 hZ 0 rfl (.ref t9) rfl dX7_crash_120 ?_
                refine lv_iload hx hb dX7_crash_123 (lv_at hl 4 rfl) ?_
                refine z_lald hE hZ 9 1 rfl rfl (by decide) (by omega) dX7_crash_125 ?_
                refine z_kVp (As := [.int (nI (lk k)), .int (nI (lf k)), .int (nI (lo k)), .long (lv k)]) (rest := []) hE hZ (c_X7_done l D cI cJ cZ cII cZZ t0 t1 t2 t3 t4 t5 t6 t7 t8 t9 tA tB tC tD tR tS (if ek = true then 2 else 0) zP eb er ek ys yd yc yw lk lf lo lv zl zW zt zh zi zu zm (aRun lk lf lo lv (lodA (crB B ih iN uv a n.toNat) (ihB (crB B ih iN uv a n.toNat))) k) (lk k) (lf k) (lo k) (lv k) (hRk) (hdo) (hc3.2.2 k (by omega)) (hc3.2.1 k (by omega))) lL_X7_done lC_X7_118 rfl [] (List.Perm.refl _) (fun u => (WQ cI cJ cZ cII cZZ [] t0 t1 t2 t3 t4 t5 t6 t7 t8 t9 tA tB tC tD tR tS (if ek = true then 2 else 0) zP eb er ek u.1 u.2.1 u.2.2.1 u.2.2.2 lk lf lo lv zl zW zt zh zi zu zm)) (fun _ => List.Perm.refl _) 0 rfl ⟨by decide, by decide⟩ 2 16 rfl rfl ⟨by decide, by decide⟩ rfl hl.1 rfl (Nat.le_of_ble_eq_true rfl) dX7_crash_126 (fun u H locs hq9 hZ => ?_)
                obtain ⟨es1_126, ed1_126, ec1_126, ew1_126⟩ := u
                have hq_126 := hq9
                have hq_126 : RM es1_126 ed1_126 ew1_126 ec1_126 (aS (aRun lk lf lo lv (lodA (crB B ih iN uv a n.toNat) (ihB (crB B ih iN uv a n.toNat))) k) (lk k) (lf k) (lo k) (lv k)) := hq_126
                have hZ : zS D A s.heap H locs (WQ cI cJ cZ cII cZZ [] t0 t1 t2 t3 t4 t5 t6 t7 t8 t9 tA tB tC tD tR tS (if ek = true then 2 else 0) zP eb er ek es1_126 ed1_126 ec1_126 ew1_126 lk lf lo lv zl zW zt zh zi zu zm) := hZ
                refine W.eq (g2 := F0 mth 129 ls []) rfl ?_
                refine lv_iinc (v := nI (k + 1)) (lv' := [(4, .int (nI (k + 1))), (0, .ref t0), (1, .int (zI n)), (2, .int (zB lg)), (3, .int (zB zb))]) hx hb dX7_crash_129 hl (k := 4) rfl (nI_add _ _) (by decide) rfl (fun ls hl => ?_)
                refine lv_goto (tgt := 88) hx hb dX7_crash_132 (by decide) ?_
                exact ih88 (k + 1, es1_126, ed1_126, ec1_126, ew1_126) _ _ _ ⟨by omega, hq_126, hZ, lv_sub hl [1, 2, 3, 4, 0] (by first | rfl | (simp only [lv_pick]; rfl))⟩ (by (try dsimp only); omega)
            · skip
              have hlt : lg = false := by simpa using h77
              have hgl : 0 = crG (crM B ih uv a n.toNat) lg le := by unfold crG; rw [hlt]; simp
              refine lv_aload_n hx hb dX7_crash_80 rfl (lv_at hl 0 rfl) ?_
              refine z_iconst hx hb (nI 0) dX7_crash_81 (by decide) ?_
              refine z_put hE fF_X7_13 fP_X7 rfl hZ 0 rfl rfl rfl (Nat.le_of_ble_eq_true rfl) dX7_crash_82 (WQ cI cJ cZ cII cZZ [] t0 t1 t2 t3 t4 t5 t6 t7 t8 t9 tA tB tC tD tR tS (if ek = true then 2 else 0) zP eb er ek xs xd xc xw lk lf lo lv 0 zW zt zh zi zu zm) rfl (fun H locs hZ => ?_)
              refine z_iconst hx hb (nI 0) dX7_crash_85 (by decide) ?_
              refine lv_istore (lv' := [(4, .int (nI 0)), (0, .ref t0), (1, .int (zI n)), (2, .int (zB lg)), (3, .int (zB zb))]) hx hb dX7_crash_86 hl (by decide) rfl (fun ls hl => ?_)
              refine z_loop (σ := Nat × (Nat → Int) × (Nat → Nat → Nat) × (Nat → Bool) × (Nat → Nat → Bool)) (fun (k, ys, yd, yc, yw) H locs ls => (k ≤ crG (crM B ih uv a n.toNat) lg le) ∧ (RM ys yd yw yc (aRun lk lf lo lv (lodA (crB B ih iN uv a n.toNat) (ihB (crB B ih iN uv a n.toNat))) k)) ∧ zS D A s.heap H locs (WQ cI cJ cZ cII cZZ [] t0 t1 t2 t3 t4 t5 t6 t7 t8 t9 tA tB tC tD tR tS (if ek = true then 2 else 0) zP eb er ek ys yd yc yw lk lf lo lv 0 zW zt zh zi zu zm) ∧ lv_has ls 5 [(0, .ref t0), (1, .int (zI n)), (2, .int (zB lg)), (3, .int (zB zb)), (4, .int (nI k))]) (fun (k, ys, yd, yc, yw) => crG (crM B ih uv a n.toNat) lg le - k) [] (0, xs, xd, xc, xw) ⟨Nat.zero_le _, hRM0, hZ, lv_sub hl [1, 2, 3, 4, 0] (by first | rfl | (simp only [lv_pick]; rfl))⟩ ?_
              intro x H locs ls hI ih88
              obtain ⟨k, ys, yd, yc, yw⟩ := x
              obtain ⟨hk, hRk, hZ, hl⟩ := hI
              refine lv_iload hx hb dX7_crash_88 (lv_at hl 4 rfl) ?_
              refine lv_aload_n hx hb dX7_crash_90 rfl (lv_at hl 0 rfl) ?_
              refine z_get hE fF_X7_13 hZ 0 rfl (.int (nI 0)) rfl dX7_crash_91 ?_
              refine z_icmp_ge hx hb 135 dX7_crash_94 (by decide) (C := 0 ≤ k) (nIle (by omega) (by omega)) (fun h94 => ?_) (fun h94 => ?_)
              · skip
                refine lv_iload_n hx hb dX7_crash_135 rfl (lv_at hl 3 rfl) ?_
                refine z_top (show zB zb = zB (crM B ih uv a n.toNat) from by rw [jb]) ?_
                exact z_zret (crM B ih uv a n.toNat) rfl hE hrt9 hlocks hZ (zP, ys, yd, yc, yw, lk, lf, lo, lv, 0, zW, zt, zh, zi, zu, zm, (if ek = true then 2 else 0), (crM B ih uv a n.toNat)) rfl (show (((if ek = true then 2 else 0) = 1 ∧ n < 0 ∧ RT B ih lk lf lo lv le eW zP ys yd yc yw lk lf lo lv 0 zW) ∨ ((if ek = true then 2 else 0) = 2 ∧ 0 ≤ n ∧ ek = true ∧ RT B ih lk lf lo lv le eW zP ys yd yc yw lk lf lo lv 0 zW) ∨ ((if ek = true then 2 else 0) = 0 ∧ 0 ≤ n ∧ ek = false ∧ (crM B ih uv a n.toNat) = (crM B ih uv a n.toNat) ∧ RT (crB B ih iN uv a n.toNat) (ihB (crB B ih iN uv a n.toNat)) lk lf lo lv (crG (crM B ih uv a n.toNat) lg le) (crC B ih iN uv a n.toNat eW) zP ys yd yc yw lk lf lo lv 0 zW)) from Or.inr (Or.inr ⟨by rw [if_neg (by rw [hbk]; simp)], hn0, hbk, rfl, jP, by rw [show crG (crM B ih uv a n.toNat) lg le = k by omega]; exact hRk, rfl, rfl, rfl, rfl, hgl, jW⟩)) rfl dX7_crash_136 (Nat.le_of_ble_eq_true rfl) (Nat.le_of_ble_eq_true rfl)
              · skip
                have hdo := (AW_run (AW_lod hc1) k (fun i hi => hc3.2.1 i (by omega))).1
                refine lv_aload_n hx hb dX7_crash_97 rfl (lv_at hl 0 rfl) ?_
                refine lv_aload_n hx hb dX7_crash_98 rfl (lv_at hl 0 rfl) ?_
                refine z_get hE fF_X7_9 hZ 0 rfl (.ref t6) rfl dX7_crash_99 ?_
                refine lv_iload hx hb dX7_crash_102 (lv_at hl 4 rfl) ?_
                refine z_iald hE hZ 6 0 rfl rfl (by decide) (by omega) dX7_crash_104 ?_
                refine lv_aload_n hx hb dX7_crash_105 rfl (lv_at hl 0 rfl) ?_
                refine z_get hE fF_X7_10 hZ 0 rfl (.ref t7) rfl dX7_crash_106 ?_
                refine lv_iload hx hb dX7_crash_109 (lv_at hl 4 rfl) ?_
                refine z_iald hE hZ 7 0 rfl rfl (by decide) (by omega) dX7_crash_111 ?_
                refine lv_aload_n hx hb dX7_crash_112 rfl (lv_at hl 0 rfl) ?_
                refine z_get hE fF_X7_11 hZ 0 rfl (.ref t8) rfl dX7_crash_113 ?_
                refine lv_iload hx hb dX7_crash_116 (lv_at hl 4 rfl) ?_
                refine z_iald hE hZ 8 0 rfl rfl (by decide) (by omega) dX7_crash_118 ?_
                refine lv_aload_n hx hb dX7_crash_119 rfl (lv_at hl 0 rfl) ?_
                refine z_get hE fF_X7_12 hZ 0 rfl (.ref t9) rfl dX7_crash_120 ?_
                refine lv_iload hx hb dX7_crash_123 (lv_at hl 4 rfl) ?_
                refine z_lald hE hZ 9 1 rfl rfl (by decide) (by omega) dX7_crash_125 ?_
                refine z_kVp (As := [.int (nI (lk k)), .int (nI (lf k)), .int (nI (lo k)), .long (lv k)]) (rest := []) hE hZ (c_X7_done l D cI cJ cZ cII cZZ t0 t1 t2 t3 t4 t5 t6 t7 t8 t9 tA tB tC tD tR tS (if ek = true then 2 else 0) zP eb er ek ys yd yc yw lk lf lo lv 0 zW zt zh zi zu zm (aRun lk lf lo lv (lodA (crB B ih iN uv a n.toNat) (ihB (crB B ih iN uv a n.toNat))) k) (lk k) (lf k) (lo k) (lv k) (hRk) (hdo) (hc3.2.2 k (by omega)) (hc3.2.1 k (by omega))) lL_X7_done lC_X7_118 rfl [] (List.Perm.refl _) (fun u => (WQ cI cJ cZ cII cZZ [] t0 t1 t2 t3 t4 t5 t6 t7 t8 t9 tA tB tC tD tR tS (if ek = true then 2 else 0) zP eb er ek u.1 u.2.1 u.2.2.1 u.2.2.2 lk lf lo lv 0 zW zt zh zi zu zm)) (fun _ => List.Perm.refl _) 0 rfl ⟨by decide, by decide⟩ 2 16 rfl rfl ⟨by decide, by decide⟩ rfl hl.1 rfl (Nat.le_of_ble_eq_true rfl) dX7_crash_126 (fun u H locs hq9 hZ => ?_)
                obtain ⟨es1_126, ed1_126, ec1_126, ew1_126⟩ := u
                have hq_126 := hq9
                have hq_126 : RM es1_126 ed1_126 ew1_126 ec1_126 (aS (aRun lk lf lo lv (lodA (crB B ih iN uv a n.toNat) (ihB (crB B ih iN uv a n.toNat))) k) (lk k) (lf k) (lo k) (lv k)) := hq_126
                have hZ : zS D A s.heap H locs (WQ cI cJ cZ cII cZZ [] t0 t1 t2 t3 t4 t5 t6 t7 t8 t9 tA tB tC tD tR tS (if ek = true then 2 else 0) zP eb er ek es1_126 ed1_126 ec1_126 ew1_126 lk lf lo lv 0 zW zt zh zi zu zm) := hZ
                refine W.eq (g2 := F0 mth 129 ls []) rfl ?_
                refine lv_iinc (v := nI (k + 1)) (lv' := [(4, .int (nI (k + 1))), (0, .ref t0), (1, .int (zI n)), (2, .int (zB lg)), (3, .int (zB zb))]) hx hb dX7_crash_129 hl (k := 4) rfl (nI_add _ _) (by decide) rfl (fun ls hl => ?_)
                refine lv_goto (tgt := 88) hx hb dX7_crash_132 (by decide) ?_
                exact ih88 (k + 1, es1_126, ed1_126, ec1_126, ew1_126) _ _ _ ⟨by omega, hq_126, hZ, lv_sub hl [1, 2, 3, 4, 0] (by first | rfl | (simp only [lv_pick]; rfl))⟩ (by (try dsimp only); omega)
          · skip
            refine lv_aload_n hx hb dX7_crash_64 rfl (lv_at hl 0 rfl) ?_
            refine lv_iload hx hb dX7_crash_65 (lv_at hl 4 rfl) ?_
            refine z_kVp (As := [.int (nI f)]) (rest := []) hE hZ (c_X7_load l D cI cJ cZ cII cZZ t0 t1 t2 t3 t4 t5 t6 t7 t8 t9 tA tB tC tD tR tS (if ek = true then 2 else 0) zP eb er ek xs xd xc xw lk lf lo lv zl zW zt zh zi zu zm (crB B ih iN uv a n.toNat) r2 (ihB (crB B ih iN uv a n.toNat)) n2 f (jP) (hc1) (by omega)) lL_X7_load lC_X7_155 rfl [] (List.Perm.refl _) (fun u => (WQ cI cJ cZ cII cZZ [] t0 t1 t2 t3 t4 t5 t6 t7 t8 t9 tA tB tC tD tR tS (if ek = true then 2 else 0) zP eb er ek (va_up xs f (szL (crB B ih iN uv a n.toNat) (inoO (crB B ih iN uv a n.toNat) (ihB (crB B ih iN uv a n.toNat)) 0 f))) u.1 (va_up xc f false) u.2 lk lf lo lv zl zW zt zh zi zu zm)) (fun _ => List.Perm.refl _) 0 rfl ⟨by decide, by decide⟩ 2 16 rfl rfl ⟨by decide, by decide⟩ rfl hl.1 rfl (Nat.le_of_ble_eq_true rfl) dX7_crash_67 (fun u H locs hq9 hZ => ?_)
            obtain ⟨ed1_67, ew1_67⟩ := u
            obtain ⟨hq_67, hq2_67⟩ := hq9
            have hq_67 : ∀ g k : Nat, ed1_67 g k = if g = f ∧ (k : Int) < szL (crB B ih iN uv a n.toNat) (inoO (crB B ih iN uv a n.toNat) (ihB (crB B ih iN uv a n.toNat)) 0 f) then po (crB B ih iN uv a n.toNat) (num (crB B ih iN uv a n.toNat) (inoO (crB B ih iN uv a n.toNat) (ihB (crB B ih iN uv a n.toNat)) 0 f) (1 + k / 32)) (k % 32) else xd g k := hq_67
            have hq2_67 : ∀ g q, q < 14 → ew1_67 g q = if g = f then false else xw g q := hq2_67
            have hZ : zS D A s.heap H locs (WQ cI cJ cZ cII cZZ [] t0 t1 t2 t3 t4 t5 t6 t7 t8 t9 tA tB tC tD tR tS (if ek = true then 2 else 0) zP eb er ek (va_up xs f (szL (crB B ih iN uv a n.toNat) (inoO (crB B ih iN uv a n.toNat) (ihB (crB B ih iN uv a n.toNat)) 0 f))) ed1_67 (va_up xc f false) ew1_67 lk lf lo lv zl zW zt zh zi zu zm) := hZ
            refine W.eq (g2 := F0 mth 70 ls []) rfl ?_
            refine lv_iinc (v := nI (f + 1)) (lv' := [(4, .int (nI (f + 1))), (0, .ref t0), (1, .int (zI n)), (2, .int (zB lg)), (3, .int (zB zb))]) hx hb dX7_crash_70 hl (k := 4) rfl (nI_add _ _) (by decide) rfl (fun ls hl => ?_)
            refine lv_goto (tgt := 57) hx hb dX7_crash_73 (by decide) ?_
            exact ih57 (f + 1, va_up xs f (szL (crB B ih iN uv a n.toNat) (inoO (crB B ih iN uv a n.toNat) (ihB (crB B ih iN uv a n.toNat)) 0 f)), ed1_67, va_up xc f false, ew1_67) _ _ _ ⟨by omega, RML_s hL1 hq_67 hq2_67, hZ, lv_sub hl [1, 2, 3, 4, 0] (by first | rfl | (simp only [lv_pick]; rfl))⟩ (by (try dsimp only); omega)
        · skip
          refine z_kVp (As := []) (rest := []) hE hZ (c_X7_plan l D cI cJ cZ cII cZZ t0 t1 t2 t3 t4 t5 t6 t7 t8 t9 tA tB tC tD tR tS (if ek = true then 2 else 0) eP eb er ek es ed ec ew lk lf lo lv le eW et eh ei eu em B ro ih iN uv a (hP) (hA) (hN) (hM) (haw) (hu)) lL_X7_plan lC_X7_107 rfl [] (List.Perm.refl _) (fun u => (WQ cI cJ cZ cII cZZ [] t0 t1 t2 t3 t4 t5 t6 t7 t8 t9 tA tB tC tD tR tS (if ek = true then 2 else 0) eP eb er ek es ed ec ew lk lf lo lv le eW u.1 u.2.1 u.2.2.1 u.2.2.2.1 u.2.2.2.2)) (fun _ => List.Perm.refl _) 0 rfl ⟨by decide, by decide⟩ 2 16 rfl rfl ⟨by decide, by decide⟩ rfl hl.1 rfl (Nat.le_of_ble_eq_true rfl) dX7_crash_34 (fun u H locs hq9 hZ => ?_)
          obtain ⟨et1_34, eh1_34, ei1_34, eu1_34, em1_34⟩ := u
          have hq_34 := hq9
          have hq_34 : (plY B ih uv a).1.length ≤ fc uv 600 → PLN (plL B ih iN uv a) et1_34 eh1_34 ∧ em1_34 = (plL B ih iN uv a).length := hq_34
          have hZ : zS D A s.heap H locs (WQ cI cJ cZ cII cZZ [] t0 t1 t2 t3 t4 t5 t6 t7 t8 t9 tA tB tC tD tR tS (if ek = true then 2 else 0) eP eb er ek es ed ec ew lk lf lo lv le eW et1_34 eh1_34 ei1_34 eu1_34 em1_34) := hZ
          refine W.eq (g2 := F0 mth 37 ls [.int (zB (decide ((plY B ih uv a).1.length ≤ fc uv 600)))]) rfl ?_
          refine z_if_eq hx hb 52 dX7_crash_37 (by decide) (C := (decide ((plY B ih uv a).1.length ≤ fc uv 600)) = false) (zB_0 _) (fun h37 => ?_) (fun h37 => ?_)
          · skip
            have hfn : ¬ (plY B ih uv a).1.length ≤ fc uv 600 := by simpa using h37
            refine z_iconst hx hb (nI 0) dX7_crash_52 (by decide) ?_
            refine z_top (show nI 0 = zB false from rfl) ?_
            refine lv_istore_n (lv' := [(3, .int (zB false)), (0, .ref t0), (1, .int (zI n)), (2, .int (zB lg))]) hx hb dX7_crash_53 rfl hl (by decide) rfl (fun ls hl => ?_)
            exact W.widen (by decide) (by decide) (jn54 (eP, es, ed, ec, ew, le, eW, et1_34, eh1_34, ei1_34, eu1_34, em1_34, false) _ _ _ ⟨by first | (have z : ¬ (plY B ih uv a).1.length ≤ fc uv 600 := hfn; unfold crB; rw [if_neg z]; exact hP) | (have z : (plY B ih uv a).1.length ≤ fc uv 600 := hft; unfold crB; rw [if_pos z]; exact hq_42), by first | (have z : ¬ (plY B ih uv a).1.length ≤ fc uv 600 := hfn; unfold crM; rw [eq_comm, decide_eq_false_iff_not]; exact fun y => z y.1) | (have z : (crM B ih uv a n.toNat) = false := hmf; rw [z]) | (have z : (crM B ih uv a n.toNat) = true := hmt; rw [z]), by first | (have z : ¬ (plY B ih uv a).1.length ≤ fc uv 600 := hfn; unfold crC; rw [if_neg z]) | (have z : (plY B ih uv a).1.length ≤ fc uv 600 := hft; unfold crC; rw [if_pos z]; exact hq2_42), by first | (have z : ¬ (plY B ih uv a).1.length ≤ fc uv 600 := hfn; rw [if_neg (by unfold crM; rw [decide_eq_true_eq]; exact fun y => z y.1)]) | (have z : (crM B ih uv a n.toNat) = false := hmf; rw [if_neg (by rw [z]; simp)]; exact hq4_42 hml) | (have z : (crM B ih uv a n.toNat) = true := hmt; rw [if_pos z]; exact (hq3_42 hml).1), hZ, lv_sub hl [1, 2, 3, 0] (by first | rfl | (simp only [lv_pick]; rfl))⟩)
          · skip
            have hft : (plY B ih uv a).1.length ≤ fc uv 600 := by simpa using h37
            have hpl := hq_34 hft
            have hz1 := hpl.2
            rw [plL_len] at hz1
            have hf0 : fc uv 600 ≤ 599 := fc0 hu0 599
            refine lv_aload_n hx hb dX7_crash_40 rfl (lv_at hl 0 rfl) ?_
            refine lv_iload_n hx hb dX7_crash_41 rfl (lv_at hl 1 rfl) ?_
            refine z_kVp (As := [.int (zI n)]) (rest := []) hE hZ (c_X7_commit l D cI cJ cZ cII cZZ t0 t1 t2 t3 t4 t5 t6 t7 t8 t9 tA tB tC tD tR tS (if ek = true then 2 else 0) eP eb er ek es ed ec ew lk lf lo lv le eW et1_34 eh1_34 ei1_34 eu1_34 em1_34 B a (plL B ih iN uv a) n (zI n) (hP) (hM) (by omega) (hpl.1) (⟨hpl.2, by omega⟩) (plL_lt haw.1 hu0 hft) (rfl)) lL_X7_commit lC_X7_114 rfl [] (List.Perm.refl _) (fun u => (WQ cI cJ cZ cII cZZ [] t0 t1 t2 t3 t4 t5 t6 t7 t8 t9 tA tB tC tD tR tS (if ek = true then 2 else 0) u.1 eb er ek u.2.1 ed u.2.2.1 u.2.2.2.1 lk lf lo lv u.2.2.2.2.1 u.2.2.2.2.2 et1_34 eh1_34 ei1_34 eu1_34 em1_34)) (fun _ => List.Perm.refl _) 0 rfl ⟨by decide, by decide⟩ 2 16 rfl rfl ⟨by decide, by decide⟩ rfl hl.1 rfl (Nat.le_of_ble_eq_true rfl) dX7_crash_42 (fun u H locs hq9 hZ => ?_)
            obtain ⟨eP1_42, es1_42, ec1_42, ew1_42, le1_42, eW1_42⟩ := u
            obtain ⟨hq_42, hq2_42, hq3_42, hq4_42⟩ := hq9
            have hq_42 : RP (app B ((plL B ih iN uv a).take n.toNat)) eP1_42 := hq_42
            have hq2_42 : eW1_42 = eW + ((min (plL B ih iN uv a).length n.toNat : Nat) : Int) := hq2_42
            have hq3_42 : (em1_34 : Int) ≤ n → le1_42 = 0 ∧ RM es1_42 ed ew1_42 ec1_42 (a.1, a.2.1, fun _ _ => false, fun _ => false) := hq3_42
            have hq4_42 : n < (em1_34 : Int) → le1_42 = le := hq4_42
            have hZ : zS D A s.heap H locs (WQ cI cJ cZ cII cZZ [] t0 t1 t2 t3 t4 t5 t6 t7 t8 t9 tA tB tC tD tR tS (if ek = true then 2 else 0) eP1_42 eb er ek es1_42 ed ec1_42 ew1_42 lk lf lo lv le1_42 eW1_42 et1_34 eh1_34 ei1_34 eu1_34 em1_34) := hZ
            refine W.eq (g2 := F0 mth 45 ls [.int (zB (decide ((em1_34 : Int) ≤ n)))]) rfl ?_
            rw [plL_len] at hq2_42
            rw [← plL_len B ih iN uv a] at hq2_42
            refine z_if_eq hx hb 52 dX7_crash_45 (by decide) (C := (decide ((em1_34 : Int) ≤ n)) = false) (zB_0 _) (fun h45 => ?_) (fun h45 => ?_)
            · skip
              have hml : n < (em1_34 : Int) := by
                      have z : ¬ ((em1_34 : Int) ≤ n) := by simpa using h45
                      omega
              have hmf : (crM B ih uv a n.toNat) = false := by unfold crM; rw [decide_eq_false_iff_not]; omega
              refine z_iconst hx hb (nI 0) dX7_crash_52 (by decide) ?_
              refine z_top (show nI 0 = zB false from rfl) ?_
              refine lv_istore_n (lv' := [(3, .int (zB false)), (0, .ref t0), (1, .int (zI n)), (2, .int (zB lg))]) hx hb dX7_crash_53 rfl hl (by decide) rfl (fun ls hl => ?_)
              exact W.widen (by decide) (by decide) (jn54 (eP1_42, es1_42, ed, ec1_42, ew1_42, le1_42, eW1_42, et1_34, eh1_34, ei1_34, eu1_34, em1_34, false) _ _ _ ⟨by first | (have z : ¬ (plY B ih uv a).1.length ≤ fc uv 600 := hfn; unfold crB; rw [if_neg z]; exact hP) | (have z : (plY B ih uv a).1.length ≤ fc uv 600 := hft; unfold crB; rw [if_pos z]; exact hq_42), by first | (have z : ¬ (plY B ih uv a).1.length ≤ fc uv 600 := hfn; unfold crM; rw [eq_comm, decide_eq_false_iff_not]; exact fun y => z y.1) | (have z : (crM B ih uv a n.toNat) = false := hmf; rw [z]) | (have z : (crM B ih uv a n.toNat) = true := hmt; rw [z]), by first | (have z : ¬ (plY B ih uv a).1.length ≤ fc uv 600 := hfn; unfold crC; rw [if_neg z]) | (have z : (plY B ih uv a).1.length ≤ fc uv 600 := hft; unfold crC; rw [if_pos z]; exact hq2_42), by first | (have z : ¬ (plY B ih uv a).1.length ≤ fc uv 600 := hfn; rw [if_neg (by unfold crM; rw [decide_eq_true_eq]; exact fun y => z y.1)]) | (have z : (crM B ih uv a n.toNat) = false := hmf; rw [if_neg (by rw [z]; simp)]; exact hq4_42 hml) | (have z : (crM B ih uv a n.toNat) = true := hmt; rw [if_pos z]; exact (hq3_42 hml).1), hZ, lv_sub hl [1, 2, 3, 0] (by first | rfl | (simp only [lv_pick]; rfl))⟩)
            · skip
              have hml : (em1_34 : Int) ≤ n := by simpa using h45
              have hmt : (crM B ih uv a n.toNat) = true := by unfold crM; rw [decide_eq_true_eq]; exact ⟨hft, by omega⟩
              refine z_iconst hx hb (nI 1) dX7_crash_48 (by decide) ?_
              refine lv_goto (tgt := 53) hx hb dX7_crash_49 (by decide) ?_
              refine z_top (show nI 1 = zB true from rfl) ?_
              refine lv_istore_n (lv' := [(3, .int (zB true)), (0, .ref t0), (1, .int (zI n)), (2, .int (zB lg))]) hx hb dX7_crash_53 rfl hl (by decide) rfl (fun ls hl => ?_)
              exact W.widen (by decide) (by decide) (jn54 (eP1_42, es1_42, ed, ec1_42, ew1_42, le1_42, eW1_42, et1_34, eh1_34, ei1_34, eu1_34, em1_34, true) _ _ _ ⟨by first | (have z : ¬ (plY B ih uv a).1.length ≤ fc uv 600 := hfn; unfold crB; rw [if_neg z]; exact hP) | (have z : (plY B ih uv a).1.length ≤ fc uv 600 := hft; unfold crB; rw [if_pos z]; exact hq_42), by first | (have z : ¬ (plY B ih uv a).1.length ≤ fc uv 600 := hfn; unfold crM; rw [eq_comm, decide_eq_false_iff_not]; exact fun y => z y.1) | (have z : (crM B ih uv a n.toNat) = false := hmf; rw [z]) | (have z : (crM B ih uv a n.toNat) = true := hmt; rw [z]), by first | (have z : ¬ (plY B ih uv a).1.length ≤ fc uv 600 := hfn; unfold crC; rw [if_neg z]) | (have z : (plY B ih uv a).1.length ≤ fc uv 600 := hft; unfold crC; rw [if_pos z]; exact hq2_42), by first | (have z : ¬ (plY B ih uv a).1.length ≤ fc uv 600 := hfn; rw [if_neg (by unfold crM; rw [decide_eq_true_eq]; exact fun y => z y.1)]) | (have z : (crM B ih uv a n.toNat) = false := hmf; rw [if_neg (by rw [z]; simp)]; exact hq4_42 hml) | (have z : (crM B ih uv a n.toNat) = true := hmt; rw [if_pos z]; exact (hq3_42 hml).1), hZ, lv_sub hl [1, 2, 3, 0] (by first | rfl | (simp only [lv_pick]; rfl))⟩)
      · skip
        have hbk : ek = true := by simpa using h28
        refine z_iconst hx hb (nI 0) dX7_crash_31 (by decide) ?_
        refine z_top (show nI 0 = zB false from rfl) ?_
        exact z_zret false rfl hE hrt9 hlocks hZ (eP, es, ed, ec, ew, lk, lf, lo, lv, le, eW, et, eh, ei, eu, em, (if ek = true then 2 else 0), false) rfl (show (((if ek = true then 2 else 0) = 1 ∧ n < 0 ∧ RT B ih lk lf lo lv le eW eP es ed ec ew lk lf lo lv le eW) ∨ ((if ek = true then 2 else 0) = 2 ∧ 0 ≤ n ∧ ek = true ∧ RT B ih lk lf lo lv le eW eP es ed ec ew lk lf lo lv le eW) ∨ ((if ek = true then 2 else 0) = 0 ∧ 0 ≤ n ∧ ek = false ∧ false = (crM B ih uv a n.toNat) ∧ RT (crB B ih iN uv a n.toNat) (ihB (crB B ih iN uv a n.toNat)) lk lf lo lv (crG (crM B ih uv a n.toNat) lg le) (crC B ih iN uv a n.toNat eW) eP es ed ec ew lk lf lo lv le eW)) from Or.inr (Or.inl ⟨by rw [if_pos hbk], hn0, hbk, ⟨hP, by rw [← hae]; exact hM, rfl, rfl, rfl, rfl, rfl, rfl⟩⟩)) rfl dX7_crash_32 (Nat.le_of_ble_eq_true rfl) (Nat.le_of_ble_eq_true rfl)
    · skip
      exact absurd trivial h14
  · skip
    have hn0 : n < 0 := by omega
    refine z_iconst hx hb (nI 1) dX7_crash_5 (by decide) ?_
    refine lv_goto (tgt := 10) hx hb dX7_crash_6 (by decide) ?_
    refine z_iconst hx hb (nI 1) dX7_crash_10 (by decide) ?_
    refine z_kVp (As := [.int (nI 1), .int (nI 1)]) (rest := []) hE hZ (c_X7_fails l D cI cJ cZ cII cZZ t0 t1 t2 t3 t4 t5 t6 t7 t8 t9 tA tB tC tD tR tS e0 eP eb er ek es ed ec ew lk lf lo lv le eW et eh ei eu em true 1 ) lL_X7_fails lC_X7_125 rfl [] (List.Perm.refl _) (fun u => (WQ cI cJ cZ cII cZZ [] t0 t1 t2 t3 t4 t5 t6 t7 t8 t9 tA tB tC tD tR tS (if true = true then 1 else 0) eP eb er ek es ed ec ew lk lf lo lv le eW et eh ei eu em)) (fun _ => List.Perm.refl _) 0 rfl ⟨by decide, by decide⟩ 0 0 rfl rfl ⟨by decide, by decide⟩ rfl hl.1 rfl (Nat.le_of_ble_eq_true rfl) dX7_crash_11 (fun u H locs hq9 hZ => ?_)
    have hZ : zS D A s.heap H locs (WQ cI cJ cZ cII cZZ [] t0 t1 t2 t3 t4 t5 t6 t7 t8 t9 tA tB tC tD tR tS (if true = true then 1 else 0) eP eb er ek es ed ec ew lk lf lo lv le eW et eh ei eu em) := hZ
    refine W.eq (g2 := F0 mth 14 ls [.int (zB true)]) rfl ?_
    refine z_if_eq hx hb 19 dX7_crash_14 (by decide) (C := False) (by rw [zB_0]; simp) (fun h14 => ?_) (fun h14 => ?_)
    · skip
      exact h14.elim
    · skip
      refine z_iconst hx hb (nI 0) dX7_crash_17 (by decide) ?_
      refine z_top (show nI 0 = zB false from rfl) ?_
      exact z_zret false rfl hE hrt9 hlocks hZ (eP, es, ed, ec, ew, lk, lf, lo, lv, le, eW, et, eh, ei, eu, em, (if true = true then 1 else 0), false) rfl (show (((if true = true then 1 else 0) = 1 ∧ n < 0 ∧ RT B ih lk lf lo lv le eW eP es ed ec ew lk lf lo lv le eW) ∨ ((if true = true then 1 else 0) = 2 ∧ 0 ≤ n ∧ ek = true ∧ RT B ih lk lf lo lv le eW eP es ed ec ew lk lf lo lv le eW) ∨ ((if true = true then 1 else 0) = 0 ∧ 0 ≤ n ∧ ek = false ∧ false = (crM B ih uv a n.toNat) ∧ RT (crB B ih iN uv a n.toNat) (ihB (crB B ih iN uv a n.toNat)) lk lf lo lv (crG (crM B ih uv a n.toNat) lg le) (crC B ih iN uv a n.toNat eW) eP es ed ec ew lk lf lo lv le eW)) from Or.inl ⟨rfl, hn0, ⟨hP, by rw [← hae]; exact hM, rfl, rfl, rfl, rfl, rfl, rfl⟩⟩) rfl dX7_crash_18 (Nat.le_of_ble_eq_true rfl) (Nat.le_of_ble_eq_true rfl)
