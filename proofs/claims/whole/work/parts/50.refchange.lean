set_option maxHeartbeats 1000000 in
set_option maxRecDepth 100000 in
theorem c_X7_written (l : Launch) (D : va_G) (cI cJ cZ cII cZZ : ClassId) (t0 : Nat) (t1 : Nat) (t2 : Nat) (t3 : Nat) (t4 : Nat) (t5 : Nat) (t6 : Nat) (t7 : Nat) (t8 : Nat) (t9 : Nat) (tA : Nat) (tB : Nat) (tC : Nat) (tD : Nat) (tR : Nat → Nat) (tS : Nat → Nat) (e0 : Nat) (eP : Nat → Nat) (eb : Int) (er : Int) (ek : Bool) (es : Nat → Int) (ed : Nat → Nat → Nat) (ec : Nat → Bool) (ew : Nat → Nat → Bool) (lk : Nat → Nat) (lf : Nat → Nat) (lo : Nat → Nat) (lv : Nat → Int64) (le : Nat) (eW : Int) (et : Nat → Nat) (eh : Nat → Nat) (ei : Nat → Int) (eu : Nat → Bool) (em : Nat) (a : aM) (f : Nat) (o : Nat) (v : Int64) (hM : RM es ed ew ec a) (hMB : MB a) (hf : f < 32) (ho : o ≤ 440 ∧ ((o : Int) ≤ a.1 f ∨ o = 0)) :
    zC l yX7_written cX7_written 6 none { frames := 1, cells := 0, slots := 0, locals := 23 } D (zT cI cJ cZ cII cZZ) [.ref t0, .int (nI f), .int (nI o), .long v] (WQ cI cJ cZ cII cZZ [] t0 t1 t2 t3 t4 t5 t6 t7 t8 t9 tA tB tC tD tR tS e0 eP eb er ek es ed ec ew lk lf lo lv le eW et eh ei eu em) (S := (Nat → Int) × (Nat → Nat → Nat) × (Nat → Bool) × (Nat → Nat → Bool)) (fun u => none) (fun u => (RM u.1 u.2.1 u.2.2.2 u.2.2.1 (aW a f o v))) (fun u => (WQ cI cJ cZ cII cZZ [] t0 t1 t2 t3 t4 t5 t6 t7 t8 t9 tA tB tC tD tR tS e0 eP eb er ek u.1 u.2.1 u.2.2.1 u.2.2.2 lk lf lo lv le eW et eh ei eu em)) := by
  refine zC_of (by decide) (Nat.le_of_ble_eq_true rfl) ?_
  intro prg env s mth below meth cde A ls hE hrt9 hlocks hnm hZ hl
  have hx := hE.1
  have hb := hE.2.1
  have hl : lv_has ls 6 [(0, .ref t0), (1, .int (nI f)), (2, .int (nI o)), (3, .long v)] := hl
  have hmf := hMB.1 f hf
  have hef := hM.1 f hf
  refine lv_aload_n hx hb dX7_written_0 rfl (lv_at hl 0 rfl) ?_
  refine z_join (σ := (Nat → Int)) (fun s1 H locs ls => (∀ g, s1 g = if g = f ∧ a.1 f < 0 then 0 else es g) ∧ zS D A s.heap H locs (WQ cI cJ cZ cII cZZ [] t0 t1 t2 t3 t4 t5 t6 t7 t8 t9 tA tB tC tD tR tS e0 eP eb er ek s1 ed ec ew lk lf lo lv le eW et eh ei eu em) ∧ lv_has ls 6 [(0, .ref t0), (1, .int (nI f)), (2, .int (nI o)), (3, .long v)]) 16 [] _ ?_ (fun jn16 => ?_)
  · intro x H locs ls hI
    obtain ⟨s1, hx9⟩ : ∃ z, z = x := ⟨x, rfl⟩
    subst hx9
    obtain ⟨hs, hZ, hl⟩ := hI
    refine z_iconst hx hb (nI 0) dX7_written_16 (by decide) ?_
    refine lv_istore (lv' := [(5, .int (nI 0)), (0, .ref t0), (1, .int (nI f)), (2, .int (nI o)), (3, .long v)]) hx hb dX7_written_17 hl (by decide) rfl (fun ls hl => ?_)
    refine z_loop (σ := Nat × (Nat → Nat → Nat)) (fun (i, w) H locs ls => (i ≤ 8) ∧ (∀ g x, w g x = if g = f ∧ o ≤ x ∧ x < o + i then oc v (x - o) else ed g x) ∧ zS D A s.heap H locs (WQ cI cJ cZ cII cZZ [] t0 t1 t2 t3 t4 t5 t6 t7 t8 t9 tA tB tC tD tR tS e0 eP eb er ek s1 w ec ew lk lf lo lv le eW et eh ei eu em) ∧ lv_has ls 6 [(0, .ref t0), (1, .int (nI f)), (2, .int (nI o)), (3, .long v), (5, .int (nI i))]) (fun (i, w) => 8 - i) [] (0, ed) ⟨by omega, fun g x => by rw [if_neg (by omega)], hZ, lv_sub hl [1, 2, 3, 4, 0] (by first | rfl | (simp only [lv_pick]; rfl))⟩ ?_
    intro x H locs ls hI ih19
    obtain ⟨i, w⟩ := x
    obtain ⟨hi, hw, hZ, hl⟩ := hI
    refine lv_iload hx hb dX7_written_19 (lv_at hl 4 rfl) ?_
    refine z_bipush hx hb (nI 8) dX7_written_21 (by decide) ?_
    refine z_icmp_ge hx hb 58 dX7_written_23 (by decide) (C := 8 ≤ i) (nIle (by omega) (by omega)) (fun h23 => ?_) (fun h23 => ?_)
    · skip
      have hi8 : i = 8 := by omega
      rw [hi8] at hw
      have hsf : s1 f = if a.1 f < 0 then 0 else a.1 f := by
              rw [hs f, hef]
              by_cases y : a.1 f < 0
              · rw [if_pos ⟨rfl, y⟩, if_pos y]
              · rw [if_neg (fun x => y x.2), if_neg y]
      have hsb : -1 ≤ s1 f ∧ s1 f ≤ 448 := by rw [hsf]; split <;> omega
      refine lv_aload_n hx hb dX7_written_58 rfl (lv_at hl 0 rfl) ?_
      refine z_get hE fF_X7_5 hZ 0 rfl (.ref t2) rfl dX7_written_59 ?_
      refine lv_iload_n hx hb dX7_written_62 rfl (lv_at hl 1 rfl) ?_
      refine lv_aload_n hx hb dX7_written_63 rfl (lv_at hl 0 rfl) ?_
      refine z_get hE fF_X7_5 hZ 0 rfl (.ref t2) rfl dX7_written_64 ?_
      refine lv_iload_n hx hb dX7_written_67 rfl (lv_at hl 1 rfl) ?_
      refine z_iald hE hZ 2 0 rfl rfl (by decide) (by omega) dX7_written_68 ?_
      refine lv_iload_n hx hb dX7_written_69 rfl (lv_at hl 2 rfl) ?_
      refine z_bipush hx hb (nI 8) dX7_written_70 (by decide) ?_
      refine z_iadd hx hb dX7_written_72 (z := nI (o + 8)) (nI_add _ _) ?_
      refine z_mmax (rest := [.int (nI f), .ref t2]) hE hl.1 lC_X7_92 (Nat.le_of_ble_eq_true rfl) (Nat.le_of_ble_eq_true rfl) (Nat.le_of_ble_eq_true rfl) (Nat.le_of_ble_eq_true rfl) (s1 f) ((o + 8 : Nat) : Int) rfl (zI_n _) ⟨by omega, by omega⟩ ⟨by omega, by omega⟩ dX7_written_73 ?_
      refine z_top (show zI (if s1 f < ((o + 8 : Nat) : Int) then ((o + 8 : Nat) : Int) else s1 f) = zI (if a.1 f < (o : Int) + 8 then (o : Int) + 8 else a.1 f) from by rw [hsf]; simp only [Int.natCast_add]; split <;> split <;> (congr 1; omega)) ?_
      refine z_iast zI s1 (if a.1 f < (o : Int) + 8 then (o : Int) + 8 else a.1 f) hE hZ 2 0 rfl rfl (by decide) (by omega) dX7_written_76 (WQ cI cJ cZ cII cZZ [] t0 t1 t2 t3 t4 t5 t6 t7 t8 t9 tA tB tC tD tR tS e0 eP eb er ek (va_up s1 f (if a.1 f < (o : Int) + 8 then (o : Int) + 8 else a.1 f)) w ec ew lk lf lo lv le eW et eh ei eu em) rfl (fun H locs hZ => ?_)
      refine lv_aload_n hx hb dX7_written_77 rfl (lv_at hl 0 rfl) ?_
      refine z_get hE fF_X7_7 hZ 0 rfl (.ref t4) rfl dX7_written_78 ?_
      refine lv_iload_n hx hb dX7_written_81 rfl (lv_at hl 1 rfl) ?_
      refine z_iconst hx hb (nI 1) dX7_written_82 (by decide) ?_
      refine z_top (show nI 1 = zB true from rfl) ?_
      refine z_zast ec true hE hZ 4 2 rfl rfl (by decide) (by omega) dX7_written_83 (WQ cI cJ cZ cII cZZ [] t0 t1 t2 t3 t4 t5 t6 t7 t8 t9 tA tB tC tD tR tS e0 eP eb er ek (va_up s1 f (if a.1 f < (o : Int) + 8 then (o : Int) + 8 else a.1 f)) w (va_up ec f true) ew lk lf lo lv le eW et eh ei eu em) rfl (fun H locs hZ => ?_)
      refine lv_aload_n hx hb dX7_written_84 rfl (lv_at hl 0 rfl) ?_
      refine z_get hE fF_X7_8 hZ 0 rfl (.ref t5) rfl dX7_written_85 ?_
      refine lv_iload_n hx hb dX7_written_88 rfl (lv_at hl 1 rfl) ?_
      refine z_aald hE hZ 5 4 rfl rfl (by decide) (by omega) (tS f) (if_pos (by omega)) dX7_written_89 ?_
      refine lv_iload_n hx hb dX7_written_90 rfl (lv_at hl 2 rfl) ?_
      refine z_bipush hx hb (nI 32) dX7_written_91 (by decide) ?_
      refine z_idiv hx hb dX7_written_93 (by omega) (by omega) (by omega) ?_
      refine z_iconst hx hb (nI 1) dX7_written_94 (by decide) ?_
      refine z_top (show nI 1 = zB true from rfl) ?_
      refine z_rzast ew true hE hZ 2 rfl (by decide) (i := f) (j := o / 32) (by omega) (by omega) dX7_written_95 (fun H locs hZ => ?_)
      have hZ : zS D A s.heap H locs (WQ cI cJ cZ cII cZZ [] t0 t1 t2 t3 t4 t5 t6 t7 t8 t9 tA tB tC tD tR tS e0 eP eb er ek (va_up s1 f (if a.1 f < (o : Int) + 8 then (o : Int) + 8 else a.1 f)) w (va_up ec f true) (va_up2 ew f (o / 32) true) lk lf lo lv le eW et eh ei eu em) := hZ
      refine lv_aload_n hx hb dX7_written_96 rfl (lv_at hl 0 rfl) ?_
      refine z_get hE fF_X7_8 hZ 0 rfl (.ref t5) rfl dX7_written_97 ?_
      refine lv_iload_n hx hb dX7_written_100 rfl (lv_at hl 1 rfl) ?_
      refine z_aald hE hZ 5 4 rfl rfl (by decide) (by omega) (tS f) (if_pos (by omega)) dX7_written_101 ?_
      refine lv_iload_n hx hb dX7_written_102 rfl (lv_at hl 2 rfl) ?_
      refine z_bipush hx hb (nI 7) dX7_written_103 (by decide) ?_
      refine z_iadd hx hb dX7_written_105 (z := nI (o + 7)) (nI_add _ _) ?_
      refine z_bipush hx hb (nI 32) dX7_written_106 (by decide) ?_
      refine z_idiv hx hb dX7_written_108 (by omega) (by omega) (by omega) ?_
      refine z_iconst hx hb (nI 1) dX7_written_109 (by decide) ?_
      refine z_top (show nI 1 = zB true from rfl) ?_
      refine z_rzast (va_up2 ew f (o / 32) true) true hE hZ 2 rfl (by decide) (i := f) (j := (o + 7) / 32) (by omega) (by omega) dX7_written_110 (fun H locs hZ => ?_)
      have hZ : zS D A s.heap H locs (WQ cI cJ cZ cII cZZ [] t0 t1 t2 t3 t4 t5 t6 t7 t8 t9 tA tB tC tD tR tS e0 eP eb er ek (va_up s1 f (if a.1 f < (o : Int) + 8 then (o : Int) + 8 else a.1 f)) w (va_up ec f true) (va_up2 (va_up2 ew f (o / 32) true) f ((o + 7) / 32) true) lk lf lo lv le eW et eh ei eu em) := hZ
      exact z_vret hE hrt9 hlocks hZ (va_up s1 f (if a.1 f < (o : Int) + 8 then (o : Int) + 8 else a.1 f), w, va_up ec f true, va_up2 (va_up2 ew f (o / 32) true) f ((o + 7) / 32) true) rfl (show (RM (va_up s1 f (if a.1 f < (o : Int) + 8 then (o : Int) + 8 else a.1 f)) w (va_up2 (va_up2 ew f (o / 32) true) f ((o + 7) / 32) true) (va_up ec f true) (aW a f o v)) from RM_W hM hf ho rfl (fun g hg => by rw [hs g, if_neg (fun x => hg x.1)]) hw (wr_two f o)) rfl dX7_written_111 (Nat.le_of_ble_eq_true rfl) (Nat.le_of_ble_eq_true rfl)
    · skip
      refine lv_aload_n hx hb dX7_written_26 rfl (lv_at hl 0 rfl) ?_
      refine z_get hE fF_X7_6 hZ 0 rfl (.ref t3) rfl dX7_written_27 ?_
      refine lv_iload_n hx hb dX7_written_30 rfl (lv_at hl 1 rfl) ?_
      refine z_aald hE hZ 3 3 rfl rfl (by decide) (by omega) (tR f) (if_pos (by omega)) dX7_written_31 ?_
      refine lv_iload_n hx hb dX7_written_32 rfl (lv_at hl 2 rfl) ?_
      refine lv_iload hx hb dX7_written_33 (lv_at hl 4 rfl) ?_
      refine z_iadd hx hb dX7_written_35 (z := nI (o + i)) (nI_add _ _) ?_
      refine lv_lload_n hx hb dX7_written_36 rfl (lv_at hl 3 rfl) ?_
      refine z_bipush hx hb (nI 56) dX7_written_37 (by decide) ?_
      refine z_bipush hx hb (nI 8) dX7_written_39 (by decide) ?_
      refine lv_iload hx hb dX7_written_41 (lv_at hl 4 rfl) ?_
      refine z_imul hx hb dX7_written_43 (z := nI (8 * i)) (pk_mul _ _) ?_
      refine z_isub hx hb dX7_written_44 (z := nI (56 - (8 * i))) (pk_sub (by omega)) ?_
      refine lv_lushr (v := (v.toUInt64 >>> ((nI (56 - (8 * i))).toInt64.toUInt64 &&& Int64.toUInt64 63)).toInt64) hx hb dX7_written_45 rfl ?_
      refine lv_l2i (v := ((v.toUInt64 >>> ((nI (56 - (8 * i))).toInt64.toUInt64 &&& Int64.toUInt64 63)).toInt64).toInt32) hx hb dX7_written_46 rfl ?_
      refine z_sipush hx hb (nI 255) dX7_written_47 (by decide) ?_
      refine lv_iand hx hb dX7_written_50 ?_
      refine z_top (show (((v.toUInt64 >>> ((nI (56 - (8 * i))).toInt64.toUInt64 &&& Int64.toUInt64 63)).toInt64).toInt32) &&& (nI 255) = nI (oc v i) from oct_raw v (by omega)) ?_
      refine z_riast w (oc v i) hE hZ 0 rfl (by decide) (i := f) (j := o + i) (by omega) (by omega) dX7_written_51 (fun H locs hZ => ?_)
      have hZ : zS D A s.heap H locs (WQ cI cJ cZ cII cZZ [] t0 t1 t2 t3 t4 t5 t6 t7 t8 t9 tA tB tC tD tR tS e0 eP eb er ek s1 (va_up2 w f (o + i) (oc v i)) ec ew lk lf lo lv le eW et eh ei eu em) := hZ
      refine lv_iinc (v := nI (i + 1)) (lv' := [(5, .int (nI (i + 1))), (0, .ref t0), (1, .int (nI f)), (2, .int (nI o)), (3, .long v)]) hx hb dX7_written_52 hl (k := 4) rfl (nI_add _ _) (by decide) rfl (fun ls hl => ?_)
      refine lv_goto (tgt := 19) hx hb dX7_written_55 (by decide) ?_
      exact ih19 (i + 1, va_up2 w f (o + i) (oc v i)) _ _ _ ⟨by omega, fun g x => by rw [v2, hw]; by_cases y : g = f ∧ x = o + i; rw [if_pos y, if_pos (by omega), show x - o = i by omega]; rw [if_neg y]; by_cases z : g = f ∧ o ≤ x ∧ x < o + i; rw [if_pos z, if_pos (by omega)]; rw [if_neg z, if_neg (by omega)], hZ, lv_sub hl [1, 2, 3, 4, 0] (by first | rfl | (simp only [lv_pick]; rfl))⟩ (by (try dsimp only); omega)
  · skip
    refine z_get hE fF_X7_5 hZ 0 rfl (.ref t2) rfl dX7_written_1 ?_
    refine lv_iload_n hx hb dX7_written_4 rfl (lv_at hl 1 rfl) ?_
    refine z_iald hE hZ 2 0 rfl rfl (by decide) (by omega) dX7_written_5 ?_
    refine z_if_ge hx hb 16 dX7_written_6 (by decide) (C := 0 ≤ es f) (zI_ge0 ⟨by omega, by omega⟩) (fun h6 => ?_) (fun h6 => ?_)
    · skip
      exact jn16 es _ _ _ ⟨by first | (have z : 0 ≤ es f := h6; exact fun g => by rw [if_neg (by omega)]) | (have z : ¬ 0 ≤ es f := h6; exact fun g => by unfold va_up; by_cases y : g = f; rw [if_pos y, if_pos ⟨y, by omega⟩]; rw [if_neg y, if_neg (fun x => y x.1)]), hZ, lv_sub hl [0, 1, 2, 3] (by first | rfl | (simp only [lv_pick]; rfl))⟩
    · skip
      refine lv_aload_n hx hb dX7_written_9 rfl (lv_at hl 0 rfl) ?_
      refine z_get hE fF_X7_5 hZ 0 rfl (.ref t2) rfl dX7_written_10 ?_
      refine lv_iload_n hx hb dX7_written_13 rfl (lv_at hl 1 rfl) ?_
      refine z_iconst hx hb (nI 0) dX7_written_14 (by decide) ?_
      refine z_top (show nI 0 = zI 0 from zI_n _) ?_
      refine z_iast zI es 0 hE hZ 2 0 rfl rfl (by decide) (by omega) dX7_written_15 (WQ cI cJ cZ cII cZZ [] t0 t1 t2 t3 t4 t5 t6 t7 t8 t9 tA tB tC tD tR tS e0 eP eb er ek (va_up es f 0) ed ec ew lk lf lo lv le eW et eh ei eu em) rfl (fun H locs hZ => ?_)
      exact jn16 (va_up es f 0) _ _ _ ⟨by first | (have z : 0 ≤ es f := h6; exact fun g => by rw [if_neg (by omega)]) | (have z : ¬ 0 ≤ es f := h6; exact fun g => by unfold va_up; by_cases y : g = f; rw [if_pos y, if_pos ⟨y, by omega⟩]; rw [if_neg y, if_neg (fun x => y x.1)]), hZ, lv_sub hl [0, 1, 2, 3] (by first | rfl | (simp only [lv_pick]; rfl))⟩
set_option maxHeartbeats 1000000 in
set_option maxRecDepth 100000 in
theorem c_X7_cutTo (l : Launch) (D : va_G) (cI cJ cZ cII cZZ : ClassId) (t0 : Nat) (t1 : Nat) (t2 : Nat) (t3 : Nat) (t4 : Nat) (t5 : Nat) (t6 : Nat) (t7 : Nat) (t8 : Nat) (t9 : Nat) (tA : Nat) (tB : Nat) (tC : Nat) (tD : Nat) (tR : Nat → Nat) (tS : Nat → Nat) (e0 : Nat) (eP : Nat → Nat) (eb : Int) (er : Int) (ek : Bool) (es : Nat → Int) (ed : Nat → Nat → Nat) (ec : Nat → Bool) (ew : Nat → Nat → Bool) (lk : Nat → Nat) (lf : Nat → Nat) (lo : Nat → Nat) (lv : Nat → Int64) (le : Nat) (eW : Int) (et : Nat → Nat) (eh : Nat → Nat) (ei : Nat → Int) (eu : Nat → Bool) (em : Nat) (a : aM) (f : Nat) (n : Nat) (hM : RM es ed ew ec a) (hMB : MB a) (hf : f < 32) (hn : (n : Int) ≤ a.1 f) :
    zC l yX7_cutTo cX7_cutTo 4 none { frames := 0, cells := 0, slots := 0, locals := 0 } D (zT cI cJ cZ cII cZZ) [.ref t0, .int (nI f), .int (nI n)] (WQ cI cJ cZ cII cZZ [] t0 t1 t2 t3 t4 t5 t6 t7 t8 t9 tA tB tC tD tR tS e0 eP eb er ek es ed ec ew lk lf lo lv le eW et eh ei eu em) (S := (Nat → Nat → Bool)) (fun u => none) (fun u => (RM (va_up es f (n : Int)) ed u (va_up ec f true) (aC a f n))) (fun u => (WQ cI cJ cZ cII cZZ [] t0 t1 t2 t3 t4 t5 t6 t7 t8 t9 tA tB tC tD tR tS e0 eP eb er ek (va_up es f (n : Int)) ed (va_up ec f true) u lk lf lo lv le eW et eh ei eu em)) := by
  refine zC_of (by decide) (Nat.le_of_ble_eq_true rfl) ?_
  intro prg env s mth below meth cde A ls hE hrt9 hlocks hnm hZ hl
  have hx := hE.1
  have hb := hE.2.1
  have hl : lv_has ls 4 [(0, .ref t0), (1, .int (nI f)), (2, .int (nI n))] := hl
  have hmf := hMB.1 f hf
  refine lv_aload_n hx hb dX7_cutTo_0 rfl (lv_at hl 0 rfl) ?_
  refine z_get hE fF_X7_5 hZ 0 rfl (.ref t2) rfl dX7_cutTo_1 ?_
  refine lv_iload_n hx hb dX7_cutTo_4 rfl (lv_at hl 1 rfl) ?_
  refine lv_iload_n hx hb dX7_cutTo_5 rfl (lv_at hl 2 rfl) ?_
  refine z_top (show nI n = zI ((n : Nat) : Int) from zI_n _) ?_
  refine z_iast zI es ((n : Nat) : Int) hE hZ 2 0 rfl rfl (by decide) (by omega) dX7_cutTo_6 (WQ cI cJ cZ cII cZZ [] t0 t1 t2 t3 t4 t5 t6 t7 t8 t9 tA tB tC tD tR tS e0 eP eb er ek (va_up es f ((n : Nat) : Int)) ed ec ew lk lf lo lv le eW et eh ei eu em) rfl (fun H locs hZ => ?_)
  refine lv_aload_n hx hb dX7_cutTo_7 rfl (lv_at hl 0 rfl) ?_
  refine z_get hE fF_X7_7 hZ 0 rfl (.ref t4) rfl dX7_cutTo_8 ?_
  refine lv_iload_n hx hb dX7_cutTo_11 rfl (lv_at hl 1 rfl) ?_
  refine z_iconst hx hb (nI 1) dX7_cutTo_12 (by decide) ?_
  refine z_top (show nI 1 = zB true from rfl) ?_
  refine z_zast ec true hE hZ 4 2 rfl rfl (by decide) (by omega) dX7_cutTo_13 (WQ cI cJ cZ cII cZZ [] t0 t1 t2 t3 t4 t5 t6 t7 t8 t9 tA tB tC tD tR tS e0 eP eb er ek (va_up es f ((n : Nat) : Int)) ed (va_up ec f true) ew lk lf lo lv le eW et eh ei eu em) rfl (fun H locs hZ => ?_)
  refine lv_iload_n hx hb dX7_cutTo_14 rfl (lv_at hl 2 rfl) ?_
  refine z_bipush hx hb (nI 32) dX7_cutTo_15 (by decide) ?_
  refine z_iadd hx hb dX7_cutTo_17 (z := nI (n + 32)) (nI_add _ _) ?_
  refine z_iconst hx hb (nI 1) dX7_cutTo_18 (by decide) ?_
  refine z_isub hx hb dX7_cutTo_19 (z := zI (((n + 32 : Nat) : Int) - 1)) (by (try simp only [zI_n]); exact zI_sub _ _) ?_
  refine z_top (show zI (((n + 32 : Nat) : Int) - 1) = nI (n + 31) from by rw [zI_n]; congr 1; omega) ?_
  refine z_bipush hx hb (nI 32) dX7_cutTo_20 (by decide) ?_
  refine z_idiv hx hb dX7_cutTo_22 (by omega) (by omega) (by omega) ?_
  refine lv_istore_n (lv' := [(3, .int (nI ((n + 31) / 32))), (0, .ref t0), (1, .int (nI f)), (2, .int (nI n))]) hx hb dX7_cutTo_23 rfl hl (by decide) rfl (fun ls hl => ?_)
  refine z_loop (σ := Nat × (Nat → Nat → Bool)) (fun (i, w) H locs ls => ((n + 31) / 32 ≤ i ∧ i ≤ 14) ∧ (∀ g q, w g q = if g = f ∧ (n + 31) / 32 ≤ q ∧ q < i then false else ew g q) ∧ zS D A s.heap H locs (WQ cI cJ cZ cII cZZ [] t0 t1 t2 t3 t4 t5 t6 t7 t8 t9 tA tB tC tD tR tS e0 eP eb er ek (va_up es f ((n : Nat) : Int)) ed (va_up ec f true) w lk lf lo lv le eW et eh ei eu em) ∧ lv_has ls 4 [(0, .ref t0), (1, .int (nI f)), (2, .int (nI n)), (3, .int (nI i))]) (fun (i, w) => 14 - i) [] ((n + 31) / 32, ew) ⟨by omega, fun g q => by rw [if_neg (by omega)], hZ, lv_sub hl [1, 2, 3, 0] (by first | rfl | (simp only [lv_pick]; rfl))⟩ ?_
  intro x H locs ls hI ih24
  obtain ⟨i, w⟩ := x
  obtain ⟨hi, hw, hZ, hl⟩ := hI
  refine lv_iload_n hx hb dX7_cutTo_24 rfl (lv_at hl 3 rfl) ?_
  refine z_bipush hx hb (nI 14) dX7_cutTo_25 (by decide) ?_
  refine z_icmp_ge hx hb 45 dX7_cutTo_27 (by decide) (C := 14 ≤ i) (nIle (by omega) (by omega)) (fun h27 => ?_) (fun h27 => ?_)
  · skip
    exact z_vret hE hrt9 hlocks hZ w rfl (show (RM (va_up es f (n : Int)) ed w (va_up ec f true) (aC a f n)) from RM_C hM hn (fun g q hq => by rw [hw, show i = 14 by omega]; exact ct_w g q hq)) rfl dX7_cutTo_45 (Nat.le_of_ble_eq_true rfl) (Nat.le_of_ble_eq_true rfl)
  · skip
    refine lv_aload_n hx hb dX7_cutTo_30 rfl (lv_at hl 0 rfl) ?_
    refine z_get hE fF_X7_8 hZ 0 rfl (.ref t5) rfl dX7_cutTo_31 ?_
    refine lv_iload_n hx hb dX7_cutTo_34 rfl (lv_at hl 1 rfl) ?_
    refine z_aald hE hZ 5 4 rfl rfl (by decide) (by omega) (tS f) (if_pos (by omega)) dX7_cutTo_35 ?_
    refine lv_iload_n hx hb dX7_cutTo_36 rfl (lv_at hl 3 rfl) ?_
    refine z_iconst hx hb (nI 0) dX7_cutTo_37 (by decide) ?_
    refine z_top (show nI 0 = zB false from rfl) ?_
    refine z_rzast w false hE hZ 2 rfl (by decide) (i := f) (j := i) (by omega) (by omega) dX7_cutTo_38 (fun H locs hZ => ?_)
    have hZ : zS D A s.heap H locs (WQ cI cJ cZ cII cZZ [] t0 t1 t2 t3 t4 t5 t6 t7 t8 t9 tA tB tC tD tR tS e0 eP eb er ek (va_up es f ((n : Nat) : Int)) ed (va_up ec f true) (va_up2 w f i false) lk lf lo lv le eW et eh ei eu em) := hZ
    refine lv_iinc (v := nI (i + 1)) (lv' := [(3, .int (nI (i + 1))), (0, .ref t0), (1, .int (nI f)), (2, .int (nI n))]) hx hb dX7_cutTo_39 hl (k := 3) rfl (nI_add _ _) (by decide) rfl (fun ls hl => ?_)
    refine lv_goto (tgt := 24) hx hb dX7_cutTo_42 (by decide) ?_
    exact ih24 (i + 1, va_up2 w f i false) _ _ _ ⟨by omega, fun g q => by rw [v2, hw]; by_cases y : g = f ∧ q = i; rw [if_pos y, if_pos (by omega)]; rw [if_neg y]; by_cases x : g = f ∧ (n + 31) / 32 ≤ q ∧ q < i; rw [if_pos x, if_pos (by omega)]; rw [if_neg x, if_neg (by omega)], hZ, lv_sub hl [1, 2, 3, 0] (by first | rfl | (simp only [lv_pick]; rfl))⟩ (by (try dsimp only); omega)
set_option maxHeartbeats 1000000 in
set_option maxRecDepth 100000 in
theorem c_X7_none (l : Launch) (D : va_G) (cI cJ cZ cII cZZ : ClassId) (t0 : Nat) (t1 : Nat) (t2 : Nat) (t3 : Nat) (t4 : Nat) (t5 : Nat) (t6 : Nat) (t7 : Nat) (t8 : Nat) (t9 : Nat) (tA : Nat) (tB : Nat) (tC : Nat) (tD : Nat) (tR : Nat → Nat) (tS : Nat → Nat) (e0 : Nat) (eP : Nat → Nat) (eb : Int) (er : Int) (ek : Bool) (es : Nat → Int) (ed : Nat → Nat → Nat) (ec : Nat → Bool) (ew : Nat → Nat → Bool) (lk : Nat → Nat) (lf : Nat → Nat) (lo : Nat → Nat) (lv : Nat → Int64) (le : Nat) (eW : Int) (et : Nat → Nat) (eh : Nat → Nat) (ei : Nat → Int) (eu : Nat → Bool) (em : Nat) (a : aM) (f : Nat) (hM : RM es ed ew ec a) (hf : f < 32) :
    zC l yX7_none cX7_none 2 none { frames := 1, cells := 0, slots := 0, locals := 23 } D (zT cI cJ cZ cII cZZ) [.ref t0, .int (nI f)] (WQ cI cJ cZ cII cZZ [] t0 t1 t2 t3 t4 t5 t6 t7 t8 t9 tA tB tC tD tR tS e0 eP eb er ek es ed ec ew lk lf lo lv le eW et eh ei eu em) (S := (Nat → Nat → Bool)) (fun u => none) (fun u => (RM (va_up es f (-1)) ed u (va_up (va_up ec f false) f true) (aR a f))) (fun u => (WQ cI cJ cZ cII cZZ [] t0 t1 t2 t3 t4 t5 t6 t7 t8 t9 tA tB tC tD tR tS e0 eP eb er ek (va_up es f (-1)) ed (va_up (va_up ec f false) f true) u lk lf lo lv le eW et eh ei eu em)) := by
  refine zC_of (by decide) (Nat.le_of_ble_eq_true rfl) ?_
  intro prg env s mth below meth cde A ls hE hrt9 hlocks hnm hZ hl
  have hx := hE.1
  have hb := hE.2.1
  have hl : lv_has ls 2 [(0, .ref t0), (1, .int (nI f))] := hl
  refine lv_aload_n hx hb dX7_none_0 rfl (lv_at hl 0 rfl) ?_
  refine lv_iload_n hx hb dX7_none_1 rfl (lv_at hl 1 rfl) ?_
  refine z_iconst hx hb (zI (-1)) dX7_none_2 (by decide) ?_
  refine z_kVp (As := [.int (nI f), .int (zI (-1))]) (rest := []) hE hZ (c_X7_forget l D cI cJ cZ cII cZZ t0 t1 t2 t3 t4 t5 t6 t7 t8 t9 tA tB tC tD tR tS e0 eP eb er ek es ed ec ew lk lf lo lv le eW et eh ei eu em f (-1) (hf)) lL_X7_forget lC_X7_72 rfl [] (List.Perm.refl _) (fun u => (WQ cI cJ cZ cII cZZ [] t0 t1 t2 t3 t4 t5 t6 t7 t8 t9 tA tB tC tD tR tS e0 eP eb er ek (va_up es f (-1)) ed (va_up ec f false) u lk lf lo lv le eW et eh ei eu em)) (fun _ => List.Perm.refl _) 0 rfl ⟨by decide, by decide⟩ 0 0 rfl rfl ⟨by decide, by decide⟩ rfl hl.1 rfl (Nat.le_of_ble_eq_true rfl) dX7_none_3 (fun u H locs hq9 hZ => ?_)
  obtain ⟨ew1_3, hu9⟩ : ∃ z, z = u := ⟨u, rfl⟩
  subst hu9
  have hq_3 := hq9
  have hq_3 : ∀ g q, q < 14 → ew1_3 g q = if g = f then false else ew g q := hq_3
  have hZ : zS D A s.heap H locs (WQ cI cJ cZ cII cZZ [] t0 t1 t2 t3 t4 t5 t6 t7 t8 t9 tA tB tC tD tR tS e0 eP eb er ek (va_up es f (-1)) ed (va_up ec f false) ew1_3 lk lf lo lv le eW et eh ei eu em) := hZ
  refine W.eq (g2 := F0 mth 6 ls []) rfl ?_
  refine lv_aload_n hx hb dX7_none_6 rfl (lv_at hl 0 rfl) ?_
  refine z_get hE fF_X7_7 hZ 0 rfl (.ref t4) rfl dX7_none_7 ?_
  refine lv_iload_n hx hb dX7_none_10 rfl (lv_at hl 1 rfl) ?_
  refine z_iconst hx hb (nI 1) dX7_none_11 (by decide) ?_
  refine z_top (show nI 1 = zB true from rfl) ?_
  refine z_zast (va_up ec f false) true hE hZ 4 2 rfl rfl (by decide) (by omega) dX7_none_12 (WQ cI cJ cZ cII cZZ [] t0 t1 t2 t3 t4 t5 t6 t7 t8 t9 tA tB tC tD tR tS e0 eP eb er ek (va_up es f (-1)) ed (va_up (va_up ec f false) f true) ew1_3 lk lf lo lv le eW et eh ei eu em) rfl (fun H locs hZ => ?_)
  exact z_vret hE hrt9 hlocks hZ ew1_3 rfl (show (RM (va_up es f (-1)) ed ew1_3 (va_up (va_up ec f false) f true) (aR a f)) from RM_R hM hq_3) rfl dX7_none_13 (Nat.le_of_ble_eq_true rfl) (Nat.le_of_ble_eq_true rfl)
set_option maxHeartbeats 1000000 in
set_option maxRecDepth 100000 in
theorem c_X7_done (l : Launch) (D : va_G) (cI cJ cZ cII cZZ : ClassId) (t0 : Nat) (t1 : Nat) (t2 : Nat) (t3 : Nat) (t4 : Nat) (t5 : Nat) (t6 : Nat) (t7 : Nat) (t8 : Nat) (t9 : Nat) (tA : Nat) (tB : Nat) (tC : Nat) (tD : Nat) (tR : Nat → Nat) (tS : Nat → Nat) (e0 : Nat) (eP : Nat → Nat) (eb : Int) (er : Int) (ek : Bool) (es : Nat → Int) (ed : Nat → Nat → Nat) (ec : Nat → Bool) (ew : Nat → Nat → Bool) (lk : Nat → Nat) (lf : Nat → Nat) (lo : Nat → Nat) (lv : Nat → Int64) (le : Nat) (eW : Int) (et : Nat → Nat) (eh : Nat → Nat) (ei : Nat → Int) (eu : Nat → Bool) (em : Nat) (a : aM) (wt : Nat) (f : Nat) (o : Nat) (v : Int64) (hM : RM es ed ew ec a) (hMB : MB a) (hw3 : wt < 3) (hk : aOk a wt f o) :
    zC l yX7_done cX7_done 6 none { frames := 2, cells := 0, slots := 0, locals := 48 } D (zT cI cJ cZ cII cZZ) [.ref t0, .int (nI wt), .int (nI f), .int (nI o), .long v] (WQ cI cJ cZ cII cZZ [] t0 t1 t2 t3 t4 t5 t6 t7 t8 t9 tA tB tC tD tR tS e0 eP eb er ek es ed ec ew lk lf lo lv le eW et eh ei eu em) (S := (Nat → Int) × (Nat → Nat → Nat) × (Nat → Bool) × (Nat → Nat → Bool)) (fun u => none) (fun u => (RM u.1 u.2.1 u.2.2.2 u.2.2.1 (aS a wt f o v))) (fun u => (WQ cI cJ cZ cII cZZ [] t0 t1 t2 t3 t4 t5 t6 t7 t8 t9 tA tB tC tD tR tS e0 eP eb er ek u.1 u.2.1 u.2.2.1 u.2.2.2 lk lf lo lv le eW et eh ei eu em)) := by
  refine zC_of (by decide) (Nat.le_of_ble_eq_true rfl) ?_
  intro prg env s mth below meth cde A ls hE hrt9 hlocks hnm hZ hl
  have hx := hE.1
  have hb := hE.2.1
  have hl : lv_has ls 6 [(0, .ref t0), (1, .int (nI wt)), (2, .int (nI f)), (3, .int (nI o)), (4, .long v)] := hl
  refine lv_iload_n hx hb dX7_done_0 rfl (lv_at hl 1 rfl) ?_
  refine z_if_ne hx hb 15 dX7_done_1 (by decide) (C := wt = 0) (nI_eq0 (by omega)) (fun h1 => ?_) (fun h1 => ?_)
  · skip
    refine lv_iload_n hx hb dX7_done_15 rfl (lv_at hl 1 rfl) ?_
    refine z_iconst hx hb (nI 1) dX7_done_16 (by decide) ?_
    refine z_icmp_ne hx hb 29 dX7_done_17 (by decide) (C := wt = 1) (nI_eq (by omega) (by omega)) (fun h17 => ?_) (fun h17 => ?_)
    · skip
      refine lv_aload_n hx hb dX7_done_29 rfl (lv_at hl 0 rfl) ?_
      refine lv_iload_n hx hb dX7_done_30 rfl (lv_at hl 2 rfl) ?_
      refine z_kVp (As := [.int (nI f)]) (rest := []) hE hZ (c_X7_none l D cI cJ cZ cII cZZ t0 t1 t2 t3 t4 t5 t6 t7 t8 t9 tA tB tC tD tR tS e0 eP eb er ek es ed ec ew lk lf lo lv le eW et eh ei eu em a f (by first | assumption | omega) (hk.1)) lL_X7_none lC_X7_103 rfl [] (List.Perm.refl _) (fun u => (WQ cI cJ cZ cII cZZ [] t0 t1 t2 t3 t4 t5 t6 t7 t8 t9 tA tB tC tD tR tS e0 eP eb er ek (va_up es f (-1)) ed (va_up (va_up ec f false) f true) u lk lf lo lv le eW et eh ei eu em)) (fun _ => List.Perm.refl _) 0 rfl ⟨by decide, by decide⟩ 0 0 rfl rfl ⟨by decide, by decide⟩ rfl hl.1 rfl (Nat.le_of_ble_eq_true rfl) dX7_done_31 (fun u H locs hq9 hZ => ?_)
      obtain ⟨ew1_31, hu9⟩ : ∃ z, z = u := ⟨u, rfl⟩
      subst hu9
      have hq_31 := hq9
      have hq_31 : RM (va_up es f (-1)) ed ew1_31 (va_up (va_up ec f false) f true) (aR a f) := hq_31
      have hZ : zS D A s.heap H locs (WQ cI cJ cZ cII cZZ [] t0 t1 t2 t3 t4 t5 t6 t7 t8 t9 tA tB tC tD tR tS e0 eP eb er ek (va_up es f (-1)) ed (va_up (va_up ec f false) f true) ew1_31 lk lf lo lv le eW et eh ei eu em) := hZ
      refine W.eq (g2 := F0 mth 34 ls []) rfl ?_
      exact z_vret hE hrt9 hlocks hZ (va_up es f (-1), ed, va_up (va_up ec f false) f true, ew1_31) rfl (show (RM (va_up es f (-1)) ed ew1_31 (va_up (va_up ec f false) f true) (aS a wt f o v)) from by first | (have z : wt = 0 := h1; unfold aS; rw [if_pos z]; exact hq_9) | (have z : wt = 1 := h17; unfold aS; rw [if_neg h1, if_pos z]; exact hq_23) | (have z : ¬ wt = 1 := h17; unfold aS; rw [if_neg h1, if_neg z]; exact hq_31)) rfl dX7_done_34 (Nat.le_of_ble_eq_true rfl) (Nat.le_of_ble_eq_true rfl)
    · skip
      refine lv_aload_n hx hb dX7_done_20 rfl (lv_at hl 0 rfl) ?_
      refine lv_iload_n hx hb dX7_done_21 rfl (lv_at hl 2 rfl) ?_
      refine lv_iload_n hx hb dX7_done_22 rfl (lv_at hl 3 rfl) ?_
      refine z_kVp (As := [.int (nI f), .int (nI o)]) (rest := []) hE hZ (c_X7_cutTo l D cI cJ cZ cII cZZ t0 t1 t2 t3 t4 t5 t6 t7 t8 t9 tA tB tC tD tR tS e0 eP eb er ek es ed ec ew lk lf lo lv le eW et eh ei eu em a f o (by first | assumption | omega) (by first | assumption | omega) (hk.1) (hk.2.2 h17)) lL_X7_cutTo lC_X7_100 rfl [] (List.Perm.refl _) (fun u => (WQ cI cJ cZ cII cZZ [] t0 t1 t2 t3 t4 t5 t6 t7 t8 t9 tA tB tC tD tR tS e0 eP eb er ek (va_up es f (o : Int)) ed (va_up ec f true) u lk lf lo lv le eW et eh ei eu em)) (fun _ => List.Perm.refl _) 0 rfl ⟨by decide, by decide⟩ 0 0 rfl rfl ⟨by decide, by decide⟩ rfl hl.1 rfl (Nat.le_of_ble_eq_true rfl) dX7_done_23 (fun u H locs hq9 hZ => ?_)
      obtain ⟨ew1_23, hu9⟩ : ∃ z, z = u := ⟨u, rfl⟩
      subst hu9
      have hq_23 := hq9
      have hq_23 : RM (va_up es f (o : Int)) ed ew1_23 (va_up ec f true) (aC a f o) := hq_23
      have hZ : zS D A s.heap H locs (WQ cI cJ cZ cII cZZ [] t0 t1 t2 t3 t4 t5 t6 t7 t8 t9 tA tB tC tD tR tS e0 eP eb er ek (va_up es f (o : Int)) ed (va_up ec f true) ew1_23 lk lf lo lv le eW et eh ei eu em) := hZ
      refine W.eq (g2 := F0 mth 26 ls []) rfl ?_
      refine lv_goto (tgt := 34) hx hb dX7_done_26 (by decide) ?_
      exact z_vret hE hrt9 hlocks hZ (va_up es f (o : Int), ed, va_up ec f true, ew1_23) rfl (show (RM (va_up es f (o : Int)) ed ew1_23 (va_up ec f true) (aS a wt f o v)) from by first | (have z : wt = 0 := h1; unfold aS; rw [if_pos z]; exact hq_9) | (have z : wt = 1 := h17; unfold aS; rw [if_neg h1, if_pos z]; exact hq_23) | (have z : ¬ wt = 1 := h17; unfold aS; rw [if_neg h1, if_neg z]; exact hq_31)) rfl dX7_done_34 (Nat.le_of_ble_eq_true rfl) (Nat.le_of_ble_eq_true rfl)
  · skip
    refine lv_aload_n hx hb dX7_done_4 rfl (lv_at hl 0 rfl) ?_
    refine lv_iload_n hx hb dX7_done_5 rfl (lv_at hl 2 rfl) ?_
    refine lv_iload_n hx hb dX7_done_6 rfl (lv_at hl 3 rfl) ?_
    refine lv_lload hx hb dX7_done_7 (lv_at hl 4 rfl) ?_
    refine z_kVp (As := [.int (nI f), .int (nI o), .long v]) (rest := []) hE hZ (c_X7_written l D cI cJ cZ cII cZZ t0 t1 t2 t3 t4 t5 t6 t7 t8 t9 tA tB tC tD tR tS e0 eP eb er ek es ed ec ew lk lf lo lv le eW et eh ei eu em a f o v (by first | assumption | omega) (by first | assumption | omega) (hk.1) (hk.2.1 h1)) lL_X7_written lC_X7_97 rfl [] (List.Perm.refl _) (fun u => (WQ cI cJ cZ cII cZZ [] t0 t1 t2 t3 t4 t5 t6 t7 t8 t9 tA tB tC tD tR tS e0 eP eb er ek u.1 u.2.1 u.2.2.1 u.2.2.2 lk lf lo lv le eW et eh ei eu em)) (fun _ => List.Perm.refl _) 0 rfl ⟨by decide, by decide⟩ 0 0 rfl rfl ⟨by decide, by decide⟩ rfl hl.1 rfl (Nat.le_of_ble_eq_true rfl) dX7_done_9 (fun u H locs hq9 hZ => ?_)
    obtain ⟨es1_9, ed1_9, ec1_9, ew1_9⟩ := u
    have hq_9 := hq9
    have hq_9 : RM es1_9 ed1_9 ew1_9 ec1_9 (aW a f o v) := hq_9
    have hZ : zS D A s.heap H locs (WQ cI cJ cZ cII cZZ [] t0 t1 t2 t3 t4 t5 t6 t7 t8 t9 tA tB tC tD tR tS e0 eP eb er ek es1_9 ed1_9 ec1_9 ew1_9 lk lf lo lv le eW et eh ei eu em) := hZ
    refine W.eq (g2 := F0 mth 12 ls []) rfl ?_
    refine lv_goto (tgt := 34) hx hb dX7_done_12 (by decide) ?_
    exact z_vret hE hrt9 hlocks hZ (es1_9, ed1_9, ec1_9, ew1_9) rfl (show (RM es1_9 ed1_9 ew1_9 ec1_9 (aS a wt f o v)) from by first | (have z : wt = 0 := h1; unfold aS; rw [if_pos z]; exact hq_9) | (have z : wt = 1 := h17; unfold aS; rw [if_neg h1, if_pos z]; exact hq_23) | (have z : ¬ wt = 1 := h17; unfold aS; rw [if_neg h1, if_neg z]; exact hq_31)) rfl dX7_done_34 (Nat.le_of_ble_eq_true rfl) (Nat.le_of_ble_eq_true rfl)
