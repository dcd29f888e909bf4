set_option maxHeartbeats 1000000 in
set_option maxRecDepth 100000 in
theorem c_X7_commit (l : Launch) (D : va_G) (cI cJ cZ cII cZZ : ClassId) (t0 : Nat) (t1 : Nat) (t2 : Nat) (t3 : Nat) (t4 : Nat) (t5 : Nat) (t6 : Nat) (t7 : Nat) (t8 : Nat) (t9 : Nat) (tA : Nat) (tB : Nat) (tC : Nat) (tD : Nat) (tR : Nat → Nat) (tS : Nat → Nat) (e0 : Nat) (eP : Nat → Nat) (eb : Int) (er : Int) (ek : Bool) (es : Nat → Int) (ed : Nat → Nat → Nat) (ec : Nat → Bool) (ew : Nat → Nat → Bool) (lk : Nat → Nat) (lf : Nat → Nat) (lo : Nat → Nat) (lv : Nat → Int64) (le : Nat) (eW : Int) (et : Nat → Nat) (eh : Nat → Nat) (ei : Nat → Int) (eu : Nat → Bool) (em : Nat) (B : Nat → Int64) (a : aM) (L : List Wt) (n : Int) (n_q : Int32) (hP : RP B eP) (hM : RM es ed ew ec a) (hn : 0 ≤ n ∧ n < 2147483648) (hL : PLN L et eh) (hm : em = L.length ∧ em ≤ 600) (hx6 : ∀ x, x ∈ L → x.1 < 600) (n_h : n_q = zI n) :
    zC l yX7_commit cX7_commit 4 (some .boolean) { frames := 1, cells := 0, slots := 0, locals := 23 } D (zT cI cJ cZ cII cZZ) [.ref t0, .int (n_q)] (WQ cI cJ cZ cII cZZ [] t0 t1 t2 t3 t4 t5 t6 t7 t8 t9 tA tB tC tD tR tS e0 eP eb er ek es ed ec ew lk lf lo lv le eW et eh ei eu em) (S := (Nat → Nat) × (Nat → Int) × (Nat → Bool) × (Nat → Nat → Bool) × Nat × Int) (fun u => some (.int (zB (decide ((em : Int) ≤ n))))) (fun u => (RP (app B (L.take n.toNat)) u.1) ∧ (u.2.2.2.2.2 = eW + ((min L.length n.toNat : Nat) : Int)) ∧ ((em : Int) ≤ n → u.2.2.2.2.1 = 0 ∧ RM u.2.1 ed u.2.2.2.1 u.2.2.1 (a.1, a.2.1, fun _ _ => false, fun _ => false)) ∧ (n < (em : Int) → u.2.2.2.2.1 = le)) (fun u => (WQ cI cJ cZ cII cZZ [] t0 t1 t2 t3 t4 t5 t6 t7 t8 t9 tA tB tC tD tR tS e0 u.1 eb er ek u.2.1 ed u.2.2.1 u.2.2.2.1 lk lf lo lv u.2.2.2.2.1 u.2.2.2.2.2 et eh ei eu em)) := by
  refine zC_of (by decide) (Nat.le_of_ble_eq_true rfl) ?_
  intro prg env s mth below meth cde A ls hE hrt9 hlocks hnm hZ hl
  have hx := hE.1
  have hb := hE.2.1
  subst n_h
  have hl : lv_has ls 4 [(0, .ref t0), (1, .int (zI n))] := hl
  refine z_iconst hx hb (nI 0) dX7_commit_0 (by decide) ?_
  refine lv_istore_n (lv' := [(2, .int (nI 0)), (0, .ref t0), (1, .int (zI n))]) hx hb dX7_commit_1 rfl hl (by decide) rfl (fun ls hl => ?_)
  refine z_loop (σ := Nat × (Nat → Nat) × Int) (fun (k, wP, wW) H locs ls => (k ≤ em ∧ (k : Int) ≤ n) ∧ (RP (app B (L.take k)) wP) ∧ (wW = eW + (k : Int)) ∧ zS D A s.heap H locs (WQ cI cJ cZ cII cZZ [] t0 t1 t2 t3 t4 t5 t6 t7 t8 t9 tA tB tC tD tR tS e0 wP eb er ek es ed ec ew lk lf lo lv le wW et eh ei eu em) ∧ lv_has ls 4 [(0, .ref t0), (1, .int (zI n)), (2, .int (nI k))]) (fun (k, wP, wW) => em - k) [] (0, eP, eW) ⟨by omega, hP, by omega, hZ, lv_sub hl [1, 2, 0] (by first | rfl | (simp only [lv_pick]; rfl))⟩ ?_
  intro x H locs ls hI ih2
  obtain ⟨k, wP, wW⟩ := x
  obtain ⟨hk, hwP, hwW, hZ, hl⟩ := hI
  refine lv_iload_n hx hb dX7_commit_2 rfl (lv_at hl 2 rfl) ?_
  refine lv_aload_n hx hb dX7_commit_3 rfl (lv_at hl 0 rfl) ?_
  refine z_get hE fF_X7_19 hZ 0 rfl (.int (nI em)) rfl dX7_commit_4 ?_
  refine z_icmp_ge hx hb 72 dX7_commit_7 (by decide) (C := em ≤ k) (nIle (by omega) (by omega)) (fun h7 => ?_) (fun h7 => ?_)
  · skip
    have hke : L.take k = L.take n.toNat := by rw [List.take_of_length_le (by omega), List.take_of_length_le (by omega)]
    have hkm : k = min L.length n.toNat := by omega
    refine lv_iload_n hx hb dX7_commit_72 rfl (lv_at hl 1 rfl) ?_
    refine lv_aload_n hx hb dX7_commit_73 rfl (lv_at hl 0 rfl) ?_
    refine z_get hE fF_X7_19 hZ 0 rfl (.int (nI em)) rfl dX7_commit_74 ?_
    refine z_icmp_ge hx hb 82 dX7_commit_77 (by decide) (C := (((em : Nat) : Int) : Int) ≤ n) (by (try simp only [zI_n]); exact zI_le ⟨by omega, by omega⟩ ⟨by omega, by omega⟩) (fun h77 => ?_) (fun h77 => ?_)
    · skip
      refine lv_aload_n hx hb dX7_commit_82 rfl (lv_at hl 0 rfl) ?_
      refine z_iconst hx hb (nI 0) dX7_commit_83 (by decide) ?_
      refine z_put hE fF_X7_13 fP_X7 rfl hZ 0 rfl rfl rfl (Nat.le_of_ble_eq_true rfl) dX7_commit_84 (WQ cI cJ cZ cII cZZ [] t0 t1 t2 t3 t4 t5 t6 t7 t8 t9 tA tB tC tD tR tS e0 wP eb er ek es ed ec ew lk lf lo lv 0 wW et eh ei eu em) rfl (fun H locs hZ => ?_)
      refine z_iconst hx hb (nI 0) dX7_commit_87 (by decide) ?_
      refine lv_istore_n (lv' := [(2, .int (nI 0)), (0, .ref t0), (1, .int (zI n))]) hx hb dX7_commit_88 rfl hl (by decide) rfl (fun ls hl => ?_)
      refine z_loop (σ := Nat × (Nat → Int) × (Nat → Bool) × (Nat → Nat → Bool)) (fun (f, ws, wc, ww) H locs ls => (f ≤ 32) ∧ (∀ g, g < 32 → ws g = es g) ∧ (∀ g, g < f → wc g = false) ∧ (∀ g q, g < f → q < 14 → ww g q = false) ∧ zS D A s.heap H locs (WQ cI cJ cZ cII cZZ [] t0 t1 t2 t3 t4 t5 t6 t7 t8 t9 tA tB tC tD tR tS e0 wP eb er ek ws ed wc ww lk lf lo lv 0 wW et eh ei eu em) ∧ lv_has ls 4 [(0, .ref t0), (1, .int (zI n)), (2, .int (nI f))]) (fun (f, ws, wc, ww) => 32 - f) [] (0, es, ec, ew) ⟨by omega, fun g _ => rfl, fun g h => absurd h (Nat.not_lt_zero g), fun g q h => absurd h (Nat.not_lt_zero g), hZ, lv_sub hl [1, 2, 0] (by first | rfl | (simp only [lv_pick]; rfl))⟩ ?_
      intro x H locs ls hI ih89
      obtain ⟨f, ws, wc, ww⟩ := x
      obtain ⟨hf, hs1, hs2, hs3, hZ, hl⟩ := hI
      refine lv_iload_n hx hb dX7_commit_89 rfl (lv_at hl 2 rfl) ?_
      refine z_bipush hx hb (nI 32) dX7_commit_90 (by decide) ?_
      refine z_icmp_ge hx hb 112 dX7_commit_92 (by decide) (C := 32 ≤ f) (nIle (by omega) (by omega)) (fun h92 => ?_) (fun h92 => ?_)
      · skip
        refine z_iconst hx hb (nI 1) dX7_commit_112 (by decide) ?_
        refine z_top (show nI 1 = zB (decide ((em : Int) ≤ n)) from by rw [show decide ((em : Int) ≤ n) = true by rw [decide_eq_true_eq]; omega]; rfl) ?_
        exact z_zret (decide ((em : Int) ≤ n)) rfl hE hrt9 hlocks hZ (wP, ws, wc, ww, 0, wW) rfl (show (RP (app B (L.take n.toNat)) wP) ∧ (wW = eW + ((min L.length n.toNat : Nat) : Int)) ∧ ((em : Int) ≤ n → 0 = 0 ∧ RM ws ed ww wc (a.1, a.2.1, fun _ _ => false, fun _ => false)) ∧ (n < (em : Int) → 0 = le) from ⟨by rw [← hke]; exact hwP, by rw [hwW, hkm], fun _ => ⟨rfl, RM_set hM hs1 (fun g hg => hs2 g (by omega)) (fun g q hg hq => hs3 g q (by omega) hq)⟩, fun z => absurd z (by omega)⟩) rfl dX7_commit_113 (Nat.le_of_ble_eq_true rfl) (Nat.le_of_ble_eq_true rfl)
      · skip
        refine lv_aload_n hx hb dX7_commit_95 rfl (lv_at hl 0 rfl) ?_
        refine lv_iload_n hx hb dX7_commit_96 rfl (lv_at hl 2 rfl) ?_
        refine lv_aload_n hx hb dX7_commit_97 rfl (lv_at hl 0 rfl) ?_
        refine z_get hE fF_X7_5 hZ 0 rfl (.ref t2) rfl dX7_commit_98 ?_
        refine lv_iload_n hx hb dX7_commit_101 rfl (lv_at hl 2 rfl) ?_
        refine z_iald hE hZ 2 0 rfl rfl (by decide) (by omega) dX7_commit_102 ?_
        refine z_kVp (As := [.int (nI f), .int (zI (ws f))]) (rest := []) hE hZ (c_X7_forget l D cI cJ cZ cII cZZ t0 t1 t2 t3 t4 t5 t6 t7 t8 t9 tA tB tC tD tR tS e0 wP eb er ek ws ed wc ww lk lf lo lv 0 wW et eh ei eu em f (ws f) (by omega)) lL_X7_forget lC_X7_72 rfl [] (List.Perm.refl _) (fun u => (WQ cI cJ cZ cII cZZ [] t0 t1 t2 t3 t4 t5 t6 t7 t8 t9 tA tB tC tD tR tS e0 wP eb er ek (va_up ws f (ws f)) ed (va_up wc f false) u lk lf lo lv 0 wW et eh ei eu em)) (fun _ => List.Perm.refl _) 0 rfl ⟨by decide, by decide⟩ 0 0 rfl rfl ⟨by decide, by decide⟩ rfl hl.1 rfl (Nat.le_of_ble_eq_true rfl) dX7_commit_103 (fun u H locs hq9 hZ => ?_)
        obtain ⟨ew1_103, hu9⟩ : ∃ z, z = u := ⟨u, rfl⟩
        subst hu9
        have hq_103 := hq9
        have hq_103 : ∀ g q, q < 14 → ew1_103 g q = if g = f then false else ww g q := hq_103
        have hZ : zS D A s.heap H locs (WQ cI cJ cZ cII cZZ [] t0 t1 t2 t3 t4 t5 t6 t7 t8 t9 tA tB tC tD tR tS e0 wP eb er ek (va_up ws f (ws f)) ed (va_up wc f false) ew1_103 lk lf lo lv 0 wW et eh ei eu em) := hZ
        refine W.eq (g2 := F0 mth 106 ls []) rfl ?_
        refine lv_iinc (v := nI (f + 1)) (lv' := [(2, .int (nI (f + 1))), (0, .ref t0), (1, .int (zI n))]) hx hb dX7_commit_106 hl (k := 2) rfl (nI_add _ _) (by decide) rfl (fun ls hl => ?_)
        refine lv_goto (tgt := 89) hx hb dX7_commit_109 (by decide) ?_
        exact ih89 (f + 1, va_up ws f (ws f), va_up wc f false, ew1_103) _ _ _ ⟨by omega, fun g hg => by
                unfold va_up
                split
                · rename_i z; rw [← z]; exact hs1 g hg
                · exact hs1 g hg, fun g hg => by
                unfold va_up
                split
                · rfl
                · exact hs2 g (by omega), fun g q hg hq => by
                rw [hq_103 g q hq]
                split
                · rfl
                · exact hs3 g q (by omega) hq, hZ, lv_sub hl [1, 2, 0] (by first | rfl | (simp only [lv_pick]; rfl))⟩ (by (try dsimp only); omega)
    · skip
      refine z_iconst hx hb (nI 0) dX7_commit_80 (by decide) ?_
      refine z_top (show nI 0 = zB (decide ((em : Int) ≤ n)) from by rw [show decide ((em : Int) ≤ n) = false by rw [decide_eq_false_iff_not]; omega]; rfl) ?_
      exact z_zret (decide ((em : Int) ≤ n)) rfl hE hrt9 hlocks hZ (wP, es, ec, ew, le, wW) rfl (show (RP (app B (L.take n.toNat)) wP) ∧ (wW = eW + ((min L.length n.toNat : Nat) : Int)) ∧ ((em : Int) ≤ n → le = 0 ∧ RM es ed ew ec (a.1, a.2.1, fun _ _ => false, fun _ => false)) ∧ (n < (em : Int) → le = le) from ⟨by rw [← hke]; exact hwP, by rw [hwW, hkm], fun z => absurd z (by omega), fun _ => rfl⟩) rfl dX7_commit_81 (Nat.le_of_ble_eq_true rfl) (Nat.le_of_ble_eq_true rfl)
  · skip
    refine lv_iload_n hx hb dX7_commit_10 rfl (lv_at hl 2 rfl) ?_
    refine lv_iload_n hx hb dX7_commit_11 rfl (lv_at hl 1 rfl) ?_
    refine z_icmp_ge hx hb 72 dX7_commit_12 (by decide) (C := (n : Int) ≤ ((k : Nat) : Int)) (by (try simp only [zI_n]); exact zI_le ⟨by omega, by omega⟩ ⟨by omega, by omega⟩) (fun h12 => ?_) (fun h12 => ?_)
    · skip
      have hkn : k = n.toNat := by omega
      have hke : L.take k = L.take n.toNat := by rw [hkn]
      have hkm : k = min L.length n.toNat := by omega
      refine lv_iload_n hx hb dX7_commit_72 rfl (lv_at hl 1 rfl) ?_
      refine lv_aload_n hx hb dX7_commit_73 rfl (lv_at hl 0 rfl) ?_
      refine z_get hE fF_X7_19 hZ 0 rfl (.int (nI em)) rfl dX7_commit_74 ?_
      refine z_icmp_ge hx hb 82 dX7_commit_77 (by decide) (C := (((em : Nat) : Int) : Int) ≤ n) (by (try simp only [zI_n]); exact zI_le ⟨by omega, by omega⟩ ⟨by omega, by omega⟩) (fun h77 => ?_) (fun h77 => ?_)
      · skip
        refine lv_aload_n hx hb dX7_commit_82 rfl (lv_at hl 0 rfl) ?_
        refine z_iconst hx hb (nI 0) dX7_commit_83 (by decide) ?_
        refine z_put hE fF_X7_13 fP_X7 rfl hZ 0 rfl rfl rfl (Nat.le_of_ble_eq_true rfl) dX7_commit_84 (WQ cI cJ cZ cII cZZ [] t0 t1 t2 t3 t4 t5 t6 t7 t8 t9 tA tB tC tD tR tS e0 wP eb er ek es ed ec ew lk lf lo lv 0 wW et eh ei eu em) rfl (fun H locs hZ => ?_)
        refine z_iconst hx hb (nI 0) dX7_commit_87 (by decide) ?_
        refine lv_istore_n (lv' := [(2, .int (nI 0)), (0, .ref t0), (1, .int (zI n))]) hx hb dX7_commit_88 rfl hl (by decide) rfl (fun ls hl => ?_)
        refine z_loop (σ := Nat × (Nat → Int) × (Nat → Bool) × (Nat → Nat → Bool)) (fun (f, ws, wc, ww) H locs ls => (f ≤ 32) ∧ (∀ g, g < 32 → ws g = es g) ∧ (∀ g, g < f → wc g = false) ∧ (∀ g q, g < f → q < 14 → ww g q = false) ∧ zS D A s.heap H locs (WQ cI cJ cZ cII cZZ [] t0 t1 t2 t3 t4 t5 t6 t7 t8 t9 tA tB tC tD tR tS e0 wP eb er ek ws ed wc ww lk lf lo lv 0 wW et eh ei eu em) ∧ lv_has ls 4 [(0, .ref t0), (1, .int (zI n)), (2, .int (nI f))]) (fun (f, ws, wc, ww) => 32 - f) [] (0, es, ec, ew) ⟨by omega, fun g _ => rfl, fun g h => absurd h (Nat.not_lt_zero g), fun g q h => absurd h (Nat.not_lt_zero g), hZ, lv_sub hl [1, 2, 0] (by first | rfl | (simp only [lv_pick]; rfl))⟩ ?_
        intro x H locs ls hI ih89
        obtain ⟨f, ws, wc, ww⟩ := x
        obtain ⟨hf, hs1, hs2, hs3, hZ, hl⟩ := hI
        refine lv_iload_n hx hb dX7_commit_89 rfl (lv_at hl 2 rfl) ?_
        refine z_bipush hx hb (nI 32) dX7_commit_90 (by decide) ?_
        refine z_icmp_ge hx hb 112 dX7_commit_92 (by decide) (C := 32 ≤ f) (nIle (by omega) (by omega)) (fun h92 => ?_) (fun h92 => ?_)
        · skip
          refine z_iconst hx hb (nI 1) dX7_commit_112 (by decide) ?_
          refine z_top (show nI 1 = zB (decide ((em : Int) ≤ n)) from by rw [show decide ((em : Int) ≤ n) = true by rw [decide_eq_true_eq]; omega]; rfl) ?_
          exact z_zret (decide ((em : Int) ≤ n)) rfl hE hrt9 hlocks hZ (wP, ws, wc, ww, 0, wW) rfl (show (RP (app B (L.take n.toNat)) wP) ∧ (wW = eW + ((min L.length n.toNat : Nat) : Int)) ∧ ((em : Int) ≤ n → 0 = 0 ∧ RM ws ed ww wc (a.1, a.2.1, fun _ _ => false, fun _ => false)) ∧ (n < (em : Int) → 0 = le) from ⟨by rw [← hke]; exact hwP, by rw [hwW, hkm], fun _ => ⟨rfl, RM_set hM hs1 (fun g hg => hs2 g (by omega)) (fun g q hg hq => hs3 g q (by omega) hq)⟩, fun z => absurd z (by omega)⟩) rfl dX7_commit_113 (Nat.le_of_ble_eq_true rfl) (Nat.le_of_ble_eq_true rfl)
        · skip
          refine lv_aload_n hx hb dX7_commit_95 rfl (lv_at hl 0 rfl) ?_
          refine lv_iload_n hx hb dX7_commit_96 rfl (lv_at hl 2 rfl) ?_
          refine lv_aload_n hx hb dX7_commit_97 rfl (lv_at hl 0 rfl) ?_
          refine z_get hE fF_X7_5 hZ 0 rfl (.ref t2) rfl dX7_commit_98 ?_
          refine lv_iload_n hx hb dX7_commit_101 rfl (lv_at hl 2 rfl) ?_
          refine z_iald hE hZ 2 0 rfl rfl (by decide) (by omega) dX7_commit_102 ?_
          refine z_kVp (As := [.int (nI f), .int (zI (ws f))]) (rest := []) hE hZ (c_X7_forget l D cI cJ cZ cII cZZ t0 t1 t2 t3 t4 t5 t6 t7 t8 t9 tA tB tC tD tR tS e0 wP eb er ek ws ed wc ww lk lf lo lv 0 wW et eh ei eu em f (ws f) (by omega)) lL_X7_forget lC_X7_72 rfl [] (List.Perm.refl _) (fun u => (WQ cI cJ cZ cII cZZ [] t0 t1 t2 t3 t4 t5 t6 t7 t8 t9 tA tB tC tD tR tS e0 wP eb er ek (va_up ws f (ws f)) ed (va_up wc f false) u lk lf lo lv 0 wW et eh ei eu em)) (fun _ => List.Perm.refl _) 0 rfl ⟨by decide, by decide⟩ 0 0 rfl rfl ⟨by decide, by decide⟩ rfl hl.1 rfl (Nat.le_of_ble_eq_true rfl) dX7_commit_103 (fun u H locs hq9 hZ => ?_)
          obtain ⟨ew1_103, hu9⟩ : ∃ z, z = u := ⟨u, rfl⟩
          subst hu9
          have hq_103 := hq9
          have hq_103 : ∀ g q, q < 14 → ew1_103 g q = if g = f then false else ww g q := hq_103
          have hZ : zS D A s.heap H locs (WQ cI cJ cZ cII cZZ [] t0 t1 t2 t3 t4 t5 t6 t7 t8 t9 tA tB tC tD tR tS e0 wP eb er ek (va_up ws f (ws f)) ed (va_up wc f false) ew1_103 lk lf lo lv 0 wW et eh ei eu em) := hZ
          refine W.eq (g2 := F0 mth 106 ls []) rfl ?_
          refine lv_iinc (v := nI (f + 1)) (lv' := [(2, .int (nI (f + 1))), (0, .ref t0), (1, .int (zI n))]) hx hb dX7_commit_106 hl (k := 2) rfl (nI_add _ _) (by decide) rfl (fun ls hl => ?_)
          refine lv_goto (tgt := 89) hx hb dX7_commit_109 (by decide) ?_
          exact ih89 (f + 1, va_up ws f (ws f), va_up wc f false, ew1_103) _ _ _ ⟨by omega, fun g hg => by
                  unfold va_up
                  split
                  · rename_i z; rw [← z]; exact hs1 g hg
                  · exact hs1 g hg, fun g hg => by
                  unfold va_up
                  split
                  · rfl
                  · exact hs2 g (by omega), fun g q hg hq => by
                  rw [hq_103 g q hq]
                  split
                  · rfl
                  · exact hs3 g q (by omega) hq, hZ, lv_sub hl [1, 2, 0] (by first | rfl | (simp only [lv_pick]; rfl))⟩ (by (try dsimp only); omega)
      · skip
        refine z_iconst hx hb (nI 0) dX7_commit_80 (by decide) ?_
        refine z_top (show nI 0 = zB (decide ((em : Int) ≤ n)) from by rw [show decide ((em : Int) ≤ n) = false by rw [decide_eq_false_iff_not]; omega]; rfl) ?_
        exact z_zret (decide ((em : Int) ≤ n)) rfl hE hrt9 hlocks hZ (wP, es, ec, ew, le, wW) rfl (show (RP (app B (L.take n.toNat)) wP) ∧ (wW = eW + ((min L.length n.toNat : Nat) : Int)) ∧ ((em : Int) ≤ n → le = 0 ∧ RM es ed ew ec (a.1, a.2.1, fun _ _ => false, fun _ => false)) ∧ (n < (em : Int) → le = le) from ⟨by rw [← hke]; exact hwP, by rw [hwW, hkm], fun z => absurd z (by omega), fun _ => rfl⟩) rfl dX7_commit_81 (Nat.le_of_ble_eq_true rfl) (Nat.le_of_ble_eq_true rfl)
    · skip
      have hkL : k < L.length := by omega
      have hek : et k < 600 := by
              rw [(hL k _ (List.getElem?_eq_getElem hkL)).1]
              exact hx6 _ (List.getElem_mem hkL)
      refine z_iconst hx hb (nI 0) dX7_commit_15 (by decide) ?_
      refine lv_istore_n (lv' := [(3, .int (nI 0)), (0, .ref t0), (1, .int (zI n)), (2, .int (nI k))]) hx hb dX7_commit_16 rfl hl (by decide) rfl (fun ls hl => ?_)
      refine z_loop (σ := Nat × (Nat → Nat)) (fun (i, yP) H locs ls => (i ≤ 32) ∧ (∀ p j, p < 600 → j < 32 → yP (p * 32 + j) = if p = et k ∧ j < i then eh (k * 32 + j) else wP (p * 32 + j)) ∧ zS D A s.heap H locs (WQ cI cJ cZ cII cZZ [] t0 t1 t2 t3 t4 t5 t6 t7 t8 t9 tA tB tC tD tR tS e0 yP eb er ek es ed ec ew lk lf lo lv le wW et eh ei eu em) ∧ lv_has ls 4 [(0, .ref t0), (1, .int (zI n)), (2, .int (nI k)), (3, .int (nI i))]) (fun (i, yP) => 32 - i) [] (0, wP) ⟨by omega, fun p j _ _ => by rw [if_neg (by omega)], hZ, lv_sub hl [1, 2, 3, 0] (by first | rfl | (simp only [lv_pick]; rfl))⟩ ?_
      intro x H locs ls hI ih17
      obtain ⟨i, yP⟩ := x
      obtain ⟨hi, hy, hZ, hl⟩ := hI
      refine lv_iload_n hx hb dX7_commit_17 rfl (lv_at hl 3 rfl) ?_
      refine z_bipush hx hb (nI 32) dX7_commit_18 (by decide) ?_
      refine z_icmp_ge hx hb 56 dX7_commit_20 (by decide) (C := 32 ≤ i) (nIle (by omega) (by omega)) (fun h20 => ?_) (fun h20 => ?_)
      · skip
        have hyR : RP (app B (L.take (k + 1))) yP := RP_put hwP hkL hL (fun p j h1 h2 => by
                rw [hy p j h1 h2]
                by_cases z : p = et k
                · rw [if_pos ⟨z, by omega⟩, if_pos z]
                · rw [if_neg (fun w => z w.1), if_neg z])
        refine lv_aload_n hx hb dX7_commit_56 rfl (lv_at hl 0 rfl) ?_
        refine lv_dup hx hb dX7_commit_57 rfl ?_
        refine z_get hE fF_X7_14 hZ 0 rfl (.int (zI wW)) rfl dX7_commit_58 ?_
        refine z_iconst hx hb (nI 1) dX7_commit_61 (by decide) ?_
        refine z_iadd hx hb dX7_commit_62 (z := zI (wW + 1)) (by (try simp only [zI_n]); exact zI_add _ _) ?_
        refine z_put hE fF_X7_14 fP_X7 rfl hZ 0 rfl rfl rfl (Nat.le_of_ble_eq_true rfl) dX7_commit_63 (WQ cI cJ cZ cII cZZ [] t0 t1 t2 t3 t4 t5 t6 t7 t8 t9 tA tB tC tD tR tS e0 yP eb er ek es ed ec ew lk lf lo lv le (wW + 1) et eh ei eu em) rfl (fun H locs hZ => ?_)
        refine lv_iinc (v := nI (k + 1)) (lv' := [(2, .int (nI (k + 1))), (0, .ref t0), (1, .int (zI n)), (3, .int (nI i))]) hx hb dX7_commit_66 hl (k := 2) rfl (nI_add _ _) (by decide) rfl (fun ls hl => ?_)
        refine lv_goto (tgt := 2) hx hb dX7_commit_69 (by decide) ?_
        exact ih2 (k + 1, yP, wW + 1) _ _ _ ⟨by omega, hyR, by rw [hwW]; omega, hZ, lv_sub hl [1, 2, 0] (by first | rfl | (simp only [lv_pick]; rfl))⟩ (by (try dsimp only); omega)
      · skip
        refine lv_aload_n hx hb dX7_commit_23 rfl (lv_at hl 0 rfl) ?_
        refine z_get hE fF_X7_1 hZ 0 rfl (.ref t1) rfl dX7_commit_24 ?_
        refine lv_aload_n hx hb dX7_commit_27 rfl (lv_at hl 0 rfl) ?_
        refine z_get hE fF_X7_15 hZ 0 rfl (.ref tA) rfl dX7_commit_28 ?_
        refine lv_iload_n hx hb dX7_commit_31 rfl (lv_at hl 2 rfl) ?_
        refine z_iald hE hZ 10 0 rfl rfl (by decide) (by omega) dX7_commit_32 ?_
        refine z_bipush hx hb (nI 32) dX7_commit_33 (by decide) ?_
        refine z_imul hx hb dX7_commit_35 (z := nI ((et k) * 32)) (pk_mul _ _) ?_
        refine lv_iload_n hx hb dX7_commit_36 rfl (lv_at hl 3 rfl) ?_
        refine z_iadd hx hb dX7_commit_37 (z := nI (((et k) * 32) + i)) (nI_add _ _) ?_
        refine lv_aload_n hx hb dX7_commit_38 rfl (lv_at hl 0 rfl) ?_
        refine z_get hE fF_X7_16 hZ 0 rfl (.ref tB) rfl dX7_commit_39 ?_
        refine lv_iload_n hx hb dX7_commit_42 rfl (lv_at hl 2 rfl) ?_
        refine z_bipush hx hb (nI 32) dX7_commit_43 (by decide) ?_
        refine z_imul hx hb dX7_commit_45 (z := nI (k * 32)) (pk_mul _ _) ?_
        refine lv_iload_n hx hb dX7_commit_46 rfl (lv_at hl 3 rfl) ?_
        refine z_iadd hx hb dX7_commit_47 (z := nI ((k * 32) + i)) (nI_add _ _) ?_
        refine z_iald hE hZ 11 0 rfl rfl (by decide) (by omega) dX7_commit_48 ?_
        refine z_iast nI yP (eh ((k * 32) + i)) hE hZ 1 0 rfl rfl (by decide) (by omega) dX7_commit_49 (WQ cI cJ cZ cII cZZ [] t0 t1 t2 t3 t4 t5 t6 t7 t8 t9 tA tB tC tD tR tS e0 (va_up yP (((et k) * 32) + i) (eh ((k * 32) + i))) eb er ek es ed ec ew lk lf lo lv le wW et eh ei eu em) rfl (fun H locs hZ => ?_)
        refine lv_iinc (v := nI (i + 1)) (lv' := [(3, .int (nI (i + 1))), (0, .ref t0), (1, .int (zI n)), (2, .int (nI k))]) hx hb dX7_commit_50 hl (k := 3) rfl (nI_add _ _) (by decide) rfl (fun ls hl => ?_)
        refine lv_goto (tgt := 17) hx hb dX7_commit_53 (by decide) ?_
        exact ih17 (i + 1, va_up yP (((et k) * 32) + i) (eh ((k * 32) + i))) _ _ _ ⟨by omega, fun p j h1 h2 => by
                unfold va_up
                by_cases y : p = et k ∧ j = i
                · rw [if_pos (by omega), if_pos (by omega), y.2]
                · rw [if_neg (by omega), hy p j h1 h2]
                  by_cases z : p = et k ∧ j < i
                  · rw [if_pos z, if_pos (by omega)]
                  · rw [if_neg z, if_neg (by omega)], hZ, lv_sub hl [1, 2, 3, 0] (by first | rfl | (simp only [lv_pick]; rfl))⟩ (by (try dsimp only); omega)
set_option maxHeartbeats 1000000 in
set_option maxRecDepth 100000 in
theorem c_X7_change (l : Launch) (D : va_G) (cI cJ cZ cII cZZ : ClassId) (t0 : Nat) (t1 : Nat) (t2 : Nat) (t3 : Nat) (t4 : Nat) (t5 : Nat) (t6 : Nat) (t7 : Nat) (t8 : Nat) (t9 : Nat) (tA : Nat) (tB : Nat) (tC : Nat) (tD : Nat) (tR : Nat → Nat) (tS : Nat → Nat) (e0 : Nat) (eP : Nat → Nat) (eb : Int) (er : Int) (ek : Bool) (es : Nat → Int) (ed : Nat → Nat → Nat) (ec : Nat → Bool) (ew : Nat → Nat → Bool) (lk : Nat → Nat) (lf : Nat → Nat) (lo : Nat → Nat) (lv : Nat → Int64) (le : Nat) (eW : Int) (et : Nat → Nat) (eh : Nat → Nat) (ei : Nat → Int) (eu : Nat → Bool) (em : Nat) (B : Nat → Int64) (ro : Nat → Nat) (ih : Nat → Nat) (iN : Nat) (uv : Nat → Bool) (a : aM) (wt : Nat) (f : Nat) (o : Nat) (v : Int64) (hP : RP B eP) (hA : AI B ro ih iN) (hN : iN + 1 < 2 ^ 31) (hM : RM es ed ew ec a) (hLO : LOK lk lf lo lv le (lodA B ih)) (hae : a = aRun lk lf lo lv (lodA B ih) le) (hu : ∀ p, p < 600 → (uv p = true ↔ UA B ih 12 p)) (hw3 : wt < 3) (hk : aOk a wt f o) :
    zC l yX7_change cX7_change 6 none { frames := 5, cells := 2, slots := 16, locals := 116 } D (zT cI cJ cZ cII cZZ) [.ref t0, .int (nI wt), .int (nI f), .int (nI o), .long v] (WQ cI cJ cZ cII cZZ [] t0 t1 t2 t3 t4 t5 t6 t7 t8 t9 tA tB tC tD tR tS e0 eP eb er ek es ed ec ew lk lf lo lv le eW et eh ei eu em) (S := (Nat → Nat) × (Nat → Int) × (Nat → Nat → Nat) × (Nat → Bool) × (Nat → Nat → Bool) × (Nat → Nat) × (Nat → Nat) × (Nat → Nat) × (Nat → Int64) × Nat × Int × (Nat → Nat) × (Nat → Nat) × (Nat → Int) × (Nat → Bool) × Nat × Nat) (fun u => none) (fun u => ((u.2.2.2.2.2.2.2.2.2.2.2.2.2.2.2.2 = 3 ∧ le = 40 ∧ fc uv 600 < (plY B ih uv a).1.length ∧ RT B ih lk lf lo lv le eW u.1 u.2.1 u.2.2.1 u.2.2.2.1 u.2.2.2.2.1 u.2.2.2.2.2.1 u.2.2.2.2.2.2.1 u.2.2.2.2.2.2.2.1 u.2.2.2.2.2.2.2.2.1 u.2.2.2.2.2.2.2.2.2.1 u.2.2.2.2.2.2.2.2.2.2.1) ∨ (u.2.2.2.2.2.2.2.2.2.2.2.2.2.2.2.2 = 0 ∧ (le = 40 → (plY B ih uv a).1.length ≤ fc uv 600) ∧ RT (ptB B ih iN uv a le) (ptH B ih uv a le) (va_up lk (ptG le) wt) (va_up lf (ptG le) f) (va_up lo (ptG le) o) (va_up lv (ptG le) v) (ptG le + 1) (ptC B ih iN uv a le eW) u.1 u.2.1 u.2.2.1 u.2.2.2.1 u.2.2.2.2.1 u.2.2.2.2.2.1 u.2.2.2.2.2.2.1 u.2.2.2.2.2.2.2.1 u.2.2.2.2.2.2.2.2.1 u.2.2.2.2.2.2.2.2.2.1 u.2.2.2.2.2.2.2.2.2.2.1))) (fun u => (WQ cI cJ cZ cII cZZ [] t0 t1 t2 t3 t4 t5 t6 t7 t8 t9 tA tB tC tD tR tS u.2.2.2.2.2.2.2.2.2.2.2.2.2.2.2.2 u.1 eb er ek u.2.1 u.2.2.1 u.2.2.2.1 u.2.2.2.2.1 u.2.2.2.2.2.1 u.2.2.2.2.2.2.1 u.2.2.2.2.2.2.2.1 u.2.2.2.2.2.2.2.2.1 u.2.2.2.2.2.2.2.2.2.1 u.2.2.2.2.2.2.2.2.2.2.1 u.2.2.2.2.2.2.2.2.2.2.2.1 u.2.2.2.2.2.2.2.2.2.2.2.2.1 u.2.2.2.2.2.2.2.2.2.2.2.2.2.1 u.2.2.2.2.2.2.2.2.2.2.2.2.2.2.1 u.2.2.2.2.2.2.2.2.2.2.2.2.2.2.2.1)) := by
  refine zC_of (by decide) (Nat.le_of_ble_eq_true rfl) ?_
  intro prg env s mth below meth cde A ls hE hrt9 hlocks hnm hZ hl
  have hx := hE.1
  have hb := hE.2.1
  have hl : lv_has ls 6 [(0, .ref t0), (1, .int (nI wt)), (2, .int (nI f)), (3, .int (nI o)), (4, .long v)] := hl
  have hl40 := hLO.1
  have haw : AW B ih a := by rw [hae]; exact hA.aw hLO
  have hu0 : uv 0 = true := (hu 0 (by omega)).mpr (Or.inl rfl)
  refine lv_aload_n hx hb dX7_change_0 rfl (lv_at hl 0 rfl) ?_
  refine z_join2 2 16 (σ := (Nat → Nat) × (Nat → Int) × (Nat → Bool) × (Nat → Nat → Bool) × Nat × Int × (Nat → Nat) × (Nat → Nat) × (Nat → Int) × (Nat → Bool) × Nat) (fun (zP, zs, zc, zw, zl, zW, zt, zh, zi, zu, zm) H locs ls => (le = 40 → (plY B ih uv a).1.length ≤ fc uv 600) ∧ (RP (ptB B ih iN uv a le) zP) ∧ (RM zs ed zw zc (aRun lk lf lo lv (lodA (ptB B ih iN uv a le) (ptH B ih uv a le)) (ptG le))) ∧ (zl = ptG le) ∧ (zW = ptC B ih iN uv a le eW) ∧ (MB (aRun lk lf lo lv (lodA (ptB B ih iN uv a le) (ptH B ih uv a le)) (ptG le))) ∧ (aOk (aRun lk lf lo lv (lodA (ptB B ih iN uv a le) (ptH B ih uv a le)) (ptG le)) wt f o) ∧ (ptG le < 40) ∧ zS D A s.heap H locs (WQ cI cJ cZ cII cZZ [] t0 t1 t2 t3 t4 t5 t6 t7 t8 t9 tA tB tC tD tR tS e0 zP eb er ek zs ed zc zw lk lf lo lv zl zW zt zh zi zu zm) ∧ lv_has ls 6 [(0, .ref t0), (1, .int (nI wt)), (2, .int (nI f)), (3, .int (nI o)), (4, .long v)]) 31 [] _ ?_ (fun jn31 => ?_)
  · intro x H locs ls hI
    obtain ⟨zP, zs, zc, zw, zl, zW, zt, zh, zi, zu, zm⟩ := x
    obtain ⟨jf, jP, jM, jl, jW, jB, jk, jg, hZ, hl⟩ := hI
    refine lv_aload_n hx hb dX7_change_31 rfl (lv_at hl 0 rfl) ?_
    refine z_iconst hx hb (nI 0) dX7_change_32 (by decide) ?_
    refine z_put hE fF_X7_0 fP_X7 rfl hZ 0 rfl rfl rfl (Nat.le_of_ble_eq_true rfl) dX7_change_33 (WQ cI cJ cZ cII cZZ [] t0 t1 t2 t3 t4 t5 t6 t7 t8 t9 tA tB tC tD tR tS 0 zP eb er ek zs ed zc zw lk lf lo lv zl zW zt zh zi zu zm) rfl (fun H locs hZ => ?_)
    refine lv_aload_n hx hb dX7_change_36 rfl (lv_at hl 0 rfl) ?_
    refine z_get hE fF_X7_9 hZ 0 rfl (.ref t6) rfl dX7_change_37 ?_
    refine lv_aload_n hx hb dX7_change_40 rfl (lv_at hl 0 rfl) ?_
    refine z_get hE fF_X7_13 hZ 0 rfl (.int (nI zl)) rfl dX7_change_41 ?_
    refine lv_iload_n hx hb dX7_change_44 rfl (lv_at hl 1 rfl) ?_
    refine z_iast nI lk wt hE hZ 6 0 rfl rfl (by decide) (by omega) dX7_change_45 (WQ cI cJ cZ cII cZZ [] t0 t1 t2 t3 t4 t5 t6 t7 t8 t9 tA tB tC tD tR tS 0 zP eb er ek zs ed zc zw (va_up lk zl wt) lf lo lv zl zW zt zh zi zu zm) rfl (fun H locs hZ => ?_)
    refine lv_aload_n hx hb dX7_change_46 rfl (lv_at hl 0 rfl) ?_
    refine z_get hE fF_X7_10 hZ 0 rfl (.ref t7) rfl dX7_change_47 ?_
    refine lv_aload_n hx hb dX7_change_50 rfl (lv_at hl 0 rfl) ?_
    refine z_get hE fF_X7_13 hZ 0 rfl (.int (nI zl)) rfl dX7_change_51 ?_
    refine lv_iload_n hx hb dX7_change_54 rfl (lv_at hl 2 rfl) ?_
    refine z_iast nI lf f hE hZ 7 0 rfl rfl (by decide) (by omega) dX7_change_55 (WQ cI cJ cZ cII cZZ [] t0 t1 t2 t3 t4 t5 t6 t7 t8 t9 tA tB tC tD tR tS 0 zP eb er ek zs ed zc zw (va_up lk zl wt) (va_up lf zl f) lo lv zl zW zt zh zi zu zm) rfl (fun H locs hZ => ?_)
    refine lv_aload_n hx hb dX7_change_56 rfl (lv_at hl 0 rfl) ?_
    refine z_get hE fF_X7_11 hZ 0 rfl (.ref t8) rfl dX7_change_57 ?_
    refine lv_aload_n hx hb dX7_change_60 rfl (lv_at hl 0 rfl) ?_
    refine z_get hE fF_X7_13 hZ 0 rfl (.int (nI zl)) rfl dX7_change_61 ?_
    refine lv_iload_n hx hb dX7_change_64 rfl (lv_at hl 3 rfl) ?_
    refine z_iast nI lo o hE hZ 8 0 rfl rfl (by decide) (by omega) dX7_change_65 (WQ cI cJ cZ cII cZZ [] t0 t1 t2 t3 t4 t5 t6 t7 t8 t9 tA tB tC tD tR tS 0 zP eb er ek zs ed zc zw (va_up lk zl wt) (va_up lf zl f) (va_up lo zl o) lv zl zW zt zh zi zu zm) rfl (fun H locs hZ => ?_)
    refine lv_aload_n hx hb dX7_change_66 rfl (lv_at hl 0 rfl) ?_
    refine z_get hE fF_X7_12 hZ 0 rfl (.ref t9) rfl dX7_change_67 ?_
    refine lv_aload_n hx hb dX7_change_70 rfl (lv_at hl 0 rfl) ?_
    refine lv_dup hx hb dX7_change_71 rfl ?_
    refine z_get hE fF_X7_13 hZ 0 rfl (.int (nI zl)) rfl dX7_change_72 ?_
    refine lv_dup_x1 hx hb dX7_change_75 rfl rfl ?_
    refine z_iconst hx hb (nI 1) dX7_change_76 (by decide) ?_
    refine z_iadd hx hb dX7_change_77 (z := nI (zl + 1)) (nI_add _ _) ?_
    refine z_put hE fF_X7_13 fP_X7 rfl hZ 0 rfl rfl rfl (Nat.le_of_ble_eq_true rfl) dX7_change_78 (WQ cI cJ cZ cII cZZ [] t0 t1 t2 t3 t4 t5 t6 t7 t8 t9 tA tB tC tD tR tS 0 zP eb er ek zs ed zc zw (va_up lk zl wt) (va_up lf zl f) (va_up lo zl o) lv (zl + 1) zW zt zh zi zu zm) rfl (fun H locs hZ => ?_)
    refine lv_lload hx hb dX7_change_81 (lv_at hl 4 rfl) ?_
    refine z_last lv v hE hZ 9 1 rfl rfl (by decide) (by omega) dX7_change_83 (WQ cI cJ cZ cII cZZ [] t0 t1 t2 t3 t4 t5 t6 t7 t8 t9 tA tB tC tD tR tS 0 zP eb er ek zs ed zc zw (va_up lk zl wt) (va_up lf zl f) (va_up lo zl o) (va_up lv zl v) (zl + 1) zW zt zh zi zu zm) rfl (fun H locs hZ => ?_)
    refine lv_aload_n hx hb dX7_change_84 rfl (lv_at hl 0 rfl) ?_
    refine lv_iload_n hx hb dX7_change_85 rfl (lv_at hl 1 rfl) ?_
    refine lv_iload_n hx hb dX7_change_86 rfl (lv_at hl 2 rfl) ?_
    refine lv_iload_n hx hb dX7_change_87 rfl (lv_at hl 3 rfl) ?_
    refine lv_lload hx hb dX7_change_88 (lv_at hl 4 rfl) ?_
    refine z_kVp (As := [.int (nI wt), .int (nI f), .int (nI o), .long v]) (rest := []) hE hZ (c_X7_done l D cI cJ cZ cII cZZ t0 t1 t2 t3 t4 t5 t6 t7 t8 t9 tA tB tC tD tR tS 0 zP eb er ek zs ed zc zw (va_up lk zl wt) (va_up lf zl f) (va_up lo zl o) (va_up lv zl v) (zl + 1) zW zt zh zi zu zm (aRun lk lf lo lv (lodA (ptB B ih iN uv a le) (ptH B ih uv a le)) (ptG le)) wt f o v (jM) (jB) (hw3) (jk)) lL_X7_done lC_X7_118 rfl [] (List.Perm.refl _) (fun u => (WQ cI cJ cZ cII cZZ [] t0 t1 t2 t3 t4 t5 t6 t7 t8 t9 tA tB tC tD tR tS 0 zP eb er ek u.1 u.2.1 u.2.2.1 u.2.2.2 (va_up lk zl wt) (va_up lf zl f) (va_up lo zl o) (va_up lv zl v) (zl + 1) zW zt zh zi zu zm)) (fun _ => List.Perm.refl _) 0 rfl ⟨by decide, by decide⟩ 2 16 rfl rfl ⟨by decide, by decide⟩ rfl hl.1 rfl (Nat.le_of_ble_eq_true rfl) dX7_change_90 (fun u H locs hq9 hZ => ?_)
    obtain ⟨es1_90, ed1_90, ec1_90, ew1_90⟩ := u
    have hq_90 := hq9
    have hq_90 : RM es1_90 ed1_90 ew1_90 ec1_90 (aS (aRun lk lf lo lv (lodA (ptB B ih iN uv a le) (ptH B ih uv a le)) (ptG le)) wt f o v) := hq_90
    have hZ : zS D A s.heap H locs (WQ cI cJ cZ cII cZZ [] t0 t1 t2 t3 t4 t5 t6 t7 t8 t9 tA tB tC tD tR tS 0 zP eb er ek es1_90 ed1_90 ec1_90 ew1_90 (va_up lk zl wt) (va_up lf zl f) (va_up lo zl o) (va_up lv zl v) (zl + 1) zW zt zh zi zu zm) := hZ
    refine W.eq (g2 := F0 mth 93 ls []) rfl ?_
    exact z_vret hE hrt9 hlocks hZ (zP, es1_90, ed1_90, ec1_90, ew1_90, va_up lk zl wt, va_up lf zl f, va_up lo zl o, va_up lv zl v, zl + 1, zW, zt, zh, zi, zu, zm, 0) rfl (show ((0 = 3 ∧ le = 40 ∧ fc uv 600 < (plY B ih uv a).1.length ∧ RT B ih lk lf lo lv le eW zP es1_90 ed1_90 ec1_90 ew1_90 (va_up lk zl wt) (va_up lf zl f) (va_up lo zl o) (va_up lv zl v) (zl + 1) zW) ∨ (0 = 0 ∧ (le = 40 → (plY B ih uv a).1.length ≤ fc uv 600) ∧ RT (ptB B ih iN uv a le) (ptH B ih uv a le) (va_up lk (ptG le) wt) (va_up lf (ptG le) f) (va_up lo (ptG le) o) (va_up lv (ptG le) v) (ptG le + 1) (ptC B ih iN uv a le eW) zP es1_90 ed1_90 ec1_90 ew1_90 (va_up lk zl wt) (va_up lf zl f) (va_up lo zl o) (va_up lv zl v) (zl + 1) zW)) from Or.inr ⟨rfl, jf, jP, by rw [aRun_up]; exact hq_90, by rw [jl], by rw [jl], by rw [jl], by rw [jl], by rw [jl], jW⟩) rfl dX7_change_93 (Nat.le_of_ble_eq_true rfl) (Nat.le_of_ble_eq_true rfl)
  · skip
    refine z_get hE fF_X7_13 hZ 0 rfl (.int (nI le)) rfl dX7_change_1 ?_
    refine z_bipush hx hb (nI 40) dX7_change_4 (by decide) ?_
    refine z_icmp_ne hx hb 31 dX7_change_6 (by decide) (C := le = 40) (nI_eq (by omega) (by omega)) (fun h6 => ?_) (fun h6 => ?_)
    · skip
      exact W.widen (by decide) (by decide) (jn31 (eP, es, ec, ew, le, eW, et, eh, ei, eu, em) _ _ _ ⟨by first | (have z : ¬ le = 40 := h6; exact fun y => absurd y z) | exact fun _ => hft, by first | (have z : ¬ le = 40 := h6; unfold ptB; rw [if_neg z]; exact hP) | (have z : le = 40 := h6; unfold ptB; rw [if_pos z]; exact hq_27), by first | (have z : ¬ le = 40 := h6; unfold ptB ptH ptG; rw [if_neg z, if_neg z, if_neg z, ← hae]; exact hM) | (have z : le = 40 := h6; unfold ptB ptH ptG; rw [if_pos z, if_pos z, if_pos z]; exact hRM1), by first | (have z : ¬ le = 40 := h6; unfold ptG; rw [if_neg z]) | (have z : le = 40 := h6; unfold ptG; rw [if_pos z]; exact hle0), by first | (have z : ¬ le = 40 := h6; unfold ptC; rw [if_neg z]) | (have z : le = 40 := h6; unfold ptC; rw [if_pos z]; exact hq2_27), by first | (have z : ¬ le = 40 := h6; unfold ptB ptH ptG; rw [if_neg z, if_neg z, if_neg z, ← hae]; exact haw.1) | (have z : le = 40 := h6; unfold ptB ptH ptG; rw [if_pos z, if_pos z, if_pos z]; exact (AW_lod hp1).1), by first | (have z : ¬ le = 40 := h6; unfold ptB ptH ptG; rw [if_neg z, if_neg z, if_neg z, ← hae]; exact hk) | (have z : le = 40 := h6; unfold ptB ptH ptG; rw [if_pos z, if_pos z, if_pos z]; exact aOk_E hp2 hk), by have := hLO.1; unfold ptG; split <;> omega, hZ, lv_sub hl [0, 1, 2, 3, 4] (by first | rfl | (simp only [lv_pick]; rfl))⟩)
    · skip
      refine lv_aload_n hx hb dX7_change_9 rfl (lv_at hl 0 rfl) ?_
      refine z_kVp (As := []) (rest := []) hE hZ (c_X7_plan l D cI cJ cZ cII cZZ t0 t1 t2 t3 t4 t5 t6 t7 t8 t9 tA tB tC tD tR tS e0 eP eb er ek es ed ec ew lk lf lo lv le eW et eh ei eu em B ro ih iN uv a (hP) (hA) (hN) (hM) (haw) (hu)) lL_X7_plan lC_X7_107 rfl [] (List.Perm.refl _) (fun u => (WQ cI cJ cZ cII cZZ [] t0 t1 t2 t3 t4 t5 t6 t7 t8 t9 tA tB tC tD tR tS e0 eP eb er ek es ed ec ew lk lf lo lv le eW u.1 u.2.1 u.2.2.1 u.2.2.2.1 u.2.2.2.2)) (fun _ => List.Perm.refl _) 0 rfl ⟨by decide, by decide⟩ 2 16 rfl rfl ⟨by decide, by decide⟩ rfl hl.1 rfl (Nat.le_of_ble_eq_true rfl) dX7_change_10 (fun u H locs hq9 hZ => ?_)
      obtain ⟨et1_10, eh1_10, ei1_10, eu1_10, em1_10⟩ := u
      have hq_10 := hq9
      have hq_10 : (plY B ih uv a).1.length ≤ fc uv 600 → PLN (plL B ih iN uv a) et1_10 eh1_10 ∧ em1_10 = (plL B ih iN uv a).length := hq_10
      have hZ : zS D A s.heap H locs (WQ cI cJ cZ cII cZZ [] t0 t1 t2 t3 t4 t5 t6 t7 t8 t9 tA tB tC tD tR tS e0 eP eb er ek es ed ec ew lk lf lo lv le eW et1_10 eh1_10 ei1_10 eu1_10 em1_10) := hZ
      refine W.eq (g2 := F0 mth 13 ls [.int (zB (decide ((plY B ih uv a).1.length ≤ fc uv 600)))]) rfl ?_
      refine z_if_ne hx hb 22 dX7_change_13 (by decide) (C := (decide ((plY B ih uv a).1.length ≤ fc uv 600)) = false) (zB_0 _) (fun h13 => ?_) (fun h13 => ?_)
      · skip
        have hft : (plY B ih uv a).1.length ≤ fc uv 600 := by simpa using h13
        have hpl := hq_10 hft
        have hf0 : fc uv 600 ≤ 599 := fc0 hu0 599
        refine lv_aload_n hx hb dX7_change_22 rfl (lv_at hl 0 rfl) ?_
        refine lv_aload_n hx hb dX7_change_23 rfl (lv_at hl 0 rfl) ?_
        refine z_get hE fF_X7_19 hZ 0 rfl (.int (nI em1_10)) rfl dX7_change_24 ?_
        refine z_kVp (As := [.int (nI em1_10)]) (rest := []) hE hZ (c_X7_commit l D cI cJ cZ cII cZZ t0 t1 t2 t3 t4 t5 t6 t7 t8 t9 tA tB tC tD tR tS e0 eP eb er ek es ed ec ew lk lf lo lv le eW et1_10 eh1_10 ei1_10 eu1_10 em1_10 B a (plL B ih iN uv a) ((em1_10 : Nat) : Int) (nI em1_10) (hP) (hM) (by have z1 := hpl.2; rw [plL_len] at z1; omega) (hpl.1) (⟨hpl.2, by rw [plL_len] at hpl; omega⟩) (plL_lt haw.1 hu0 hft) (zI_n _)) lL_X7_commit lC_X7_114 rfl [] (List.Perm.refl _) (fun u => (WQ cI cJ cZ cII cZZ [] t0 t1 t2 t3 t4 t5 t6 t7 t8 t9 tA tB tC tD tR tS e0 u.1 eb er ek u.2.1 ed u.2.2.1 u.2.2.2.1 lk lf lo lv u.2.2.2.2.1 u.2.2.2.2.2 et1_10 eh1_10 ei1_10 eu1_10 em1_10)) (fun _ => List.Perm.refl _) 0 rfl ⟨by decide, by decide⟩ 2 16 rfl rfl ⟨by decide, by decide⟩ rfl hl.1 rfl (Nat.le_of_ble_eq_true rfl) dX7_change_27 (fun u H locs hq9 hZ => ?_)
        obtain ⟨eP1_27, es1_27, ec1_27, ew1_27, le1_27, eW1_27⟩ := u
        obtain ⟨hq_27, hq2_27, hq3_27, hq4_27⟩ := hq9
        have hq_27 : RP (app B ((plL B ih iN uv a).take ((em1_10 : Nat) : Int).toNat)) eP1_27 := hq_27
        have hq2_27 : eW1_27 = eW + ((min (plL B ih iN uv a).length ((em1_10 : Nat) : Int).toNat : Nat) : Int) := hq2_27
        have hq3_27 : (em1_10 : Int) ≤ ((em1_10 : Nat) : Int) → le1_27 = 0 ∧ RM es1_27 ed ew1_27 ec1_27 (a.1, a.2.1, fun _ _ => false, fun _ => false) := hq3_27
        have hq4_27 : ((em1_10 : Nat) : Int) < (em1_10 : Int) → le1_27 = le := hq4_27
        have hZ : zS D A s.heap H locs (WQ cI cJ cZ cII cZZ [] t0 t1 t2 t3 t4 t5 t6 t7 t8 t9 tA tB tC tD tR tS e0 eP1_27 eb er ek es1_27 ed ec1_27 ew1_27 lk lf lo lv le1_27 eW1_27 et1_10 eh1_10 ei1_10 eu1_10 em1_10) := hZ
        refine W.eq (g2 := F0 mth 30 ls [.int (zB (decide ((em1_10 : Int) ≤ ((em1_10 : Nat) : Int))))]) rfl ?_
        obtain ⟨hle0, hRM0⟩ := hq3_27 (Int.le_refl _)
        obtain ⟨ro2, hp1, hp2, hp3, hp4⟩ := point_ok hA haw hu hft hN
        have hRM1 := RM_E hRM0 hp2
        have hz1 := hpl.2
        rw [Int.toNat_natCast, List.take_of_length_le (by omega)] at hq_27
        rw [Int.toNat_natCast, hz1, Nat.min_self] at hq2_27
        refine lv_pop hx hb dX7_change_30 rfl ?_
        exact W.widen (by decide) (by decide) (jn31 (eP1_27, es1_27, ec1_27, ew1_27, le1_27, eW1_27, et1_10, eh1_10, ei1_10, eu1_10, em1_10) _ _ _ ⟨by first | (have z : ¬ le = 40 := h6; exact fun y => absurd y z) | exact fun _ => hft, by first | (have z : ¬ le = 40 := h6; unfold ptB; rw [if_neg z]; exact hP) | (have z : le = 40 := h6; unfold ptB; rw [if_pos z]; exact hq_27), by first | (have z : ¬ le = 40 := h6; unfold ptB ptH ptG; rw [if_neg z, if_neg z, if_neg z, ← hae]; exact hM) | (have z : le = 40 := h6; unfold ptB ptH ptG; rw [if_pos z, if_pos z, if_pos z]; exact hRM1), by first | (have z : ¬ le = 40 := h6; unfold ptG; rw [if_neg z]) | (have z : le = 40 := h6; unfold ptG; rw [if_pos z]; exact hle0), by first | (have z : ¬ le = 40 := h6; unfold ptC; rw [if_neg z]) | (have z : le = 40 := h6; unfold ptC; rw [if_pos z]; exact hq2_27), by first | (have z : ¬ le = 40 := h6; unfold ptB ptH ptG; rw [if_neg z, if_neg z, if_neg z, ← hae]; exact haw.1) | (have z : le = 40 := h6; unfold ptB ptH ptG; rw [if_pos z, if_pos z, if_pos z]; exact (AW_lod hp1).1), by first | (have z : ¬ le = 40 := h6; unfold ptB ptH ptG; rw [if_neg z, if_neg z, if_neg z, ← hae]; exact hk) | (have z : le = 40 := h6; unfold ptB ptH ptG; rw [if_pos z, if_pos z, if_pos z]; exact aOk_E hp2 hk), by have := hLO.1; unfold ptG; split <;> omega, hZ, lv_sub hl [0, 1, 2, 3, 4] (by first | rfl | (simp only [lv_pick]; rfl))⟩)
      · skip
        have hft : ¬ (plY B ih uv a).1.length ≤ fc uv 600 := by simpa using h13
        refine lv_aload_n hx hb dX7_change_16 rfl (lv_at hl 0 rfl) ?_
        refine z_iconst hx hb (nI 3) dX7_change_17 (by decide) ?_
        refine z_put hE fF_X7_0 fP_X7 rfl hZ 0 rfl rfl rfl (Nat.le_of_ble_eq_true rfl) dX7_change_18 (WQ cI cJ cZ cII cZZ [] t0 t1 t2 t3 t4 t5 t6 t7 t8 t9 tA tB tC tD tR tS 3 eP eb er ek es ed ec ew lk lf lo lv le eW et1_10 eh1_10 ei1_10 eu1_10 em1_10) rfl (fun H locs hZ => ?_)
        exact z_vret hE hrt9 hlocks hZ (eP, es, ed, ec, ew, lk, lf, lo, lv, le, eW, et1_10, eh1_10, ei1_10, eu1_10, em1_10, 3) rfl (show ((3 = 3 ∧ le = 40 ∧ fc uv 600 < (plY B ih uv a).1.length ∧ RT B ih lk lf lo lv le eW eP es ed ec ew lk lf lo lv le eW) ∨ (3 = 0 ∧ (le = 40 → (plY B ih uv a).1.length ≤ fc uv 600) ∧ RT (ptB B ih iN uv a le) (ptH B ih uv a le) (va_up lk (ptG le) wt) (va_up lf (ptG le) f) (va_up lo (ptG le) o) (va_up lv (ptG le) v) (ptG le + 1) (ptC B ih iN uv a le eW) eP es ed ec ew lk lf lo lv le eW)) from Or.inl ⟨rfl, h6, by omega, ⟨hP, by rw [← hae]; exact hM, rfl, rfl, rfl, rfl, rfl, rfl⟩⟩) rfl dX7_change_21 (Nat.le_of_ble_eq_true rfl) (Nat.le_of_ble_eq_true rfl)
set_option maxHeartbeats 1000000 in
set_option maxRecDepth 100000 in
theorem c_X7_write (l : Launch) (D : va_G) (cI cJ cZ cII cZZ : ClassId) (t0 : Nat) (t1 : Nat) (t2 : Nat) (t3 : Nat) (t4 : Nat) (t5 : Nat) (t6 : Nat) (t7 : Nat) (t8 : Nat) (t9 : Nat) (tA : Nat) (tB : Nat) (tC : Nat) (tD : Nat) (tR : Nat → Nat) (tS : Nat → Nat) (e0 : Nat) (eP : Nat → Nat) (eb : Int) (er : Int) (ek : Bool) (es : Nat → Int) (ed : Nat → Nat → Nat) (ec : Nat → Bool) (ew : Nat → Nat → Bool) (lk : Nat → Nat) (lf : Nat → Nat) (lo : Nat → Nat) (lv : Nat → Int64) (le : Nat) (eW : Int) (et : Nat → Nat) (eh : Nat → Nat) (ei : Nat → Int) (eu : Nat → Bool) (em : Nat) (B : Nat → Int64) (ro : Nat → Nat) (ih : Nat → Nat) (iN : Nat) (uv : Nat → Bool) (a : aM) (f : Int) (o : Int) (v : Int64) (f_q : Int32) (o_q : Int32) (hP : RP B eP) (hA : AI B ro ih iN) (hN : iN + 1 < 2 ^ 31) (hM : RM es ed ew ec a) (hLO : LOK lk lf lo lv le (lodA B ih)) (hae : a = aRun lk lf lo lv (lodA B ih) le) (hu : ∀ p, p < 600 → (uv p = true ↔ UA B ih 12 p)) (hf : -2147483648 ≤ f ∧ f < 2147483648) (ho : -2147483648 ≤ o ∧ o < 2147483648) (f_h : f_q = zI f) (o_h : o_q = zI o) :
    zC l yX7_write cX7_write 5 (some .int) { frames := 6, cells := 2, slots := 16, locals := 141 } D (zT cI cJ cZ cII cZZ) [.ref t0, .int (f_q), .int (o_q), .long v] (WQ cI cJ cZ cII cZZ [] t0 t1 t2 t3 t4 t5 t6 t7 t8 t9 tA tB tC tD tR tS e0 eP eb er ek es ed ec ew lk lf lo lv le eW et eh ei eu em) (S := (Nat → Nat) × (Nat → Int) × (Nat → Nat → Nat) × (Nat → Bool) × (Nat → Nat → Bool) × (Nat → Nat) × (Nat → Nat) × (Nat → Nat) × (Nat → Int64) × Nat × Int × (Nat → Nat) × (Nat → Nat) × (Nat → Int) × (Nat → Bool) × Nat × Nat × Int) (fun u => some (.int (zI u.2.2.2.2.2.2.2.2.2.2.2.2.2.2.2.2.2))) (fun u => ((u.2.2.2.2.2.2.2.2.2.2.2.2.2.2.2.2.1 = 1 ∧ ¬ (0 ≤ f ∧ f < 32 ∧ 0 ≤ o ∧ o ≤ 440 ∧ (o ≤ a.1 f.toNat ∨ o = 0)) ∧ RT B ih lk lf lo lv le eW u.1 u.2.1 u.2.2.1 u.2.2.2.1 u.2.2.2.2.1 u.2.2.2.2.2.1 u.2.2.2.2.2.2.1 u.2.2.2.2.2.2.2.1 u.2.2.2.2.2.2.2.2.1 u.2.2.2.2.2.2.2.2.2.1 u.2.2.2.2.2.2.2.2.2.2.1) ∨ (u.2.2.2.2.2.2.2.2.2.2.2.2.2.2.2.2.1 = 2 ∧ (0 ≤ f ∧ f < 32 ∧ 0 ≤ o ∧ o ≤ 440 ∧ (o ≤ a.1 f.toNat ∨ o = 0)) ∧ ek = true ∧ RT B ih lk lf lo lv le eW u.1 u.2.1 u.2.2.1 u.2.2.2.1 u.2.2.2.2.1 u.2.2.2.2.2.1 u.2.2.2.2.2.2.1 u.2.2.2.2.2.2.2.1 u.2.2.2.2.2.2.2.2.1 u.2.2.2.2.2.2.2.2.2.1 u.2.2.2.2.2.2.2.2.2.2.1) ∨ (u.2.2.2.2.2.2.2.2.2.2.2.2.2.2.2.2.1 = 3 ∧ (0 ≤ f ∧ f < 32 ∧ 0 ≤ o ∧ o ≤ 440 ∧ (o ≤ a.1 f.toNat ∨ o = 0)) ∧ ek = false ∧ le = 40 ∧ fc uv 600 < (plY B ih uv a).1.length ∧ RT B ih lk lf lo lv le eW u.1 u.2.1 u.2.2.1 u.2.2.2.1 u.2.2.2.2.1 u.2.2.2.2.2.1 u.2.2.2.2.2.2.1 u.2.2.2.2.2.2.2.1 u.2.2.2.2.2.2.2.2.1 u.2.2.2.2.2.2.2.2.2.1 u.2.2.2.2.2.2.2.2.2.2.1) ∨ (u.2.2.2.2.2.2.2.2.2.2.2.2.2.2.2.2.1 = 0 ∧ (0 ≤ f ∧ f < 32 ∧ 0 ≤ o ∧ o ≤ 440 ∧ (o ≤ a.1 f.toNat ∨ o = 0)) ∧ ek = false ∧ (le = 40 → (plY B ih uv a).1.length ≤ fc uv 600) ∧ RT (ptB B ih iN uv a le) (ptH B ih uv a le) (va_up lk (ptG le) 0) (va_up lf (ptG le) f.toNat) (va_up lo (ptG le) o.toNat) (va_up lv (ptG le) v) (ptG le + 1) (ptC B ih iN uv a le eW) u.1 u.2.1 u.2.2.1 u.2.2.2.1 u.2.2.2.2.1 u.2.2.2.2.2.1 u.2.2.2.2.2.2.1 u.2.2.2.2.2.2.2.1 u.2.2.2.2.2.2.2.2.1 u.2.2.2.2.2.2.2.2.2.1 u.2.2.2.2.2.2.2.2.2.2.1 ∧ u.2.2.2.2.2.2.2.2.2.2.2.2.2.2.2.2.2 = u.2.1 f.toNat))) (fun u => (WQ cI cJ cZ cII cZZ [] t0 t1 t2 t3 t4 t5 t6 t7 t8 t9 tA tB tC tD tR tS u.2.2.2.2.2.2.2.2.2.2.2.2.2.2.2.2.1 u.1 eb er ek u.2.1 u.2.2.1 u.2.2.2.1 u.2.2.2.2.1 u.2.2.2.2.2.1 u.2.2.2.2.2.2.1 u.2.2.2.2.2.2.2.1 u.2.2.2.2.2.2.2.2.1 u.2.2.2.2.2.2.2.2.2.1 u.2.2.2.2.2.2.2.2.2.2.1 u.2.2.2.2.2.2.2.2.2.2.2.1 u.2.2.2.2.2.2.2.2.2.2.2.2.1 u.2.2.2.2.2.2.2.2.2.2.2.2.2.1 u.2.2.2.2.2.2.2.2.2.2.2.2.2.2.1 u.2.2.2.2.2.2.2.2.2.2.2.2.2.2.2.1)) := by
  refine zC_of (by decide) (Nat.le_of_ble_eq_true rfl) ?_
  intro prg env s mth below meth cde A ls hE hrt9 hlocks hnm hZ hl
  have hx := hE.1
  have hb := hE.2.1
  subst f_h
  subst o_h
  have hl : lv_has ls 5 [(0, .ref t0), (1, .int (zI f)), (2, .int (zI o)), (3, .long v)] := hl
  have hl40 := hLO.1
  have haw : AW B ih a := by rw [hae]; exact hA.aw hLO
  have hu0 : uv 0 = true := (hu 0 (by omega)).mpr (Or.inl rfl)
  refine lv_aload_n hx hb dX7_write_0 rfl (lv_at hl 0 rfl) ?_
  refine lv_aload_n hx hb dX7_write_1 rfl (lv_at hl 0 rfl) ?_
  refine lv_iload_n hx hb dX7_write_2 rfl (lv_at hl 1 rfl) ?_
  refine z_kVp (As := [.int (zI f)]) (rest := [.ref t0]) hE hZ (c_X7_noFile l D cI cJ cZ cII cZZ t0 t1 t2 t3 t4 t5 t6 t7 t8 t9 tA tB tC tD tR tS e0 eP eb er ek es ed ec ew lk lf lo lv le eW et eh ei eu em f (zI f) (by first | assumption | omega) (rfl)) lL_X7_noFile lC_X7_122 rfl [] (List.Perm.refl _) (fun u => (WQ cI cJ cZ cII cZZ [] t0 t1 t2 t3 t4 t5 t6 t7 t8 t9 tA tB tC tD tR tS e0 eP eb er ek es ed ec ew lk lf lo lv le eW et eh ei eu em)) (fun _ => List.Perm.refl _) 0 rfl ⟨by decide, by decide⟩ 0 0 rfl rfl ⟨by decide, by decide⟩ rfl hl.1 rfl (Nat.le_of_ble_eq_true rfl) dX7_write_3 (fun u H locs hq9 hZ => ?_)
  have hZ : zS D A s.heap H locs (WQ cI cJ cZ cII cZZ [] t0 t1 t2 t3 t4 t5 t6 t7 t8 t9 tA tB tC tD tR tS e0 eP eb er ek es ed ec ew lk lf lo lv le eW et eh ei eu em) := hZ
  refine W.eq (g2 := F0 mth 6 ls [.int (zB (decide (¬ (0 ≤ f ∧ f < 32)))), .ref t0]) rfl ?_
  refine z_if_ne hx hb 34 dX7_write_6 (by decide) (C := (decide (¬ (0 ≤ f ∧ f < 32))) = false) (zB_0 _) (fun h6 => ?_) (fun h6 => ?_)
  · skip
    have hnk : ¬ (0 ≤ f ∧ f < 32 ∧ 0 ≤ o ∧ o ≤ 440 ∧ (o ≤ a.1 f.toNat ∨ o = 0)) := by
            have z : ¬ (0 ≤ f ∧ f < 32) := by simpa using h6
            exact fun y => z ⟨y.1, y.2.1⟩
    refine z_iconst hx hb (nI 1) dX7_write_34 (by decide) ?_
    refine lv_goto (tgt := 39) hx hb dX7_write_35 (by decide) ?_
    refine z_iconst hx hb (nI 1) dX7_write_39 (by decide) ?_
    refine z_kVp (As := [.int (nI 1), .int (nI 1)]) (rest := []) hE hZ (c_X7_fails l D cI cJ cZ cII cZZ t0 t1 t2 t3 t4 t5 t6 t7 t8 t9 tA tB tC tD tR tS e0 eP eb er ek es ed ec ew lk lf lo lv le eW et eh ei eu em true 1 ) lL_X7_fails lC_X7_125 rfl [] (List.Perm.refl _) (fun u => (WQ cI cJ cZ cII cZZ [] t0 t1 t2 t3 t4 t5 t6 t7 t8 t9 tA tB tC tD tR tS (if true = true then 1 else 0) eP eb er ek es ed ec ew lk lf lo lv le eW et eh ei eu em)) (fun _ => List.Perm.refl _) 0 rfl ⟨by decide, by decide⟩ 0 0 rfl rfl ⟨by decide, by decide⟩ rfl hl.1 rfl (Nat.le_of_ble_eq_true rfl) dX7_write_40 (fun u H locs hq9 hZ => ?_)
    have hZ : zS D A s.heap H locs (WQ cI cJ cZ cII cZZ [] t0 t1 t2 t3 t4 t5 t6 t7 t8 t9 tA tB tC tD tR tS (if true = true then 1 else 0) eP eb er ek es ed ec ew lk lf lo lv le eW et eh ei eu em) := hZ
    refine W.eq (g2 := F0 mth 43 ls [.int (zB true)]) rfl ?_
    refine z_if_eq hx hb 48 dX7_write_43 (by decide) (C := False) (by rw [zB_0]; simp) (fun h43 => ?_) (fun h43 => ?_)
    · skip
      exact h43.elim
    · skip
      refine z_iconst hx hb (nI 0) dX7_write_46 (by decide) ?_
      refine z_top (show nI 0 = zI 0 from rfl) ?_
      exact z_iret hE hrt9 hlocks hZ (eP, es, ed, ec, ew, lk, lf, lo, lv, le, eW, et, eh, ei, eu, em, (if true = true then 1 else 0), 0) rfl (show (((if true = true then 1 else 0) = 1 ∧ ¬ (0 ≤ f ∧ f < 32 ∧ 0 ≤ o ∧ o ≤ 440 ∧ (o ≤ a.1 f.toNat ∨ o = 0)) ∧ RT B ih lk lf lo lv le eW eP es ed ec ew lk lf lo lv le eW) ∨ ((if true = true then 1 else 0) = 2 ∧ (0 ≤ f ∧ f < 32 ∧ 0 ≤ o ∧ o ≤ 440 ∧ (o ≤ a.1 f.toNat ∨ o = 0)) ∧ ek = true ∧ RT B ih lk lf lo lv le eW eP es ed ec ew lk lf lo lv le eW) ∨ ((if true = true then 1 else 0) = 3 ∧ (0 ≤ f ∧ f < 32 ∧ 0 ≤ o ∧ o ≤ 440 ∧ (o ≤ a.1 f.toNat ∨ o = 0)) ∧ ek = false ∧ le = 40 ∧ fc uv 600 < (plY B ih uv a).1.length ∧ RT B ih lk lf lo lv le eW eP es ed ec ew lk lf lo lv le eW) ∨ ((if true = true then 1 else 0) = 0 ∧ (0 ≤ f ∧ f < 32 ∧ 0 ≤ o ∧ o ≤ 440 ∧ (o ≤ a.1 f.toNat ∨ o = 0)) ∧ ek = false ∧ (le = 40 → (plY B ih uv a).1.length ≤ fc uv 600) ∧ RT (ptB B ih iN uv a le) (ptH B ih uv a le) (va_up lk (ptG le) 0) (va_up lf (ptG le) f.toNat) (va_up lo (ptG le) o.toNat) (va_up lv (ptG le) v) (ptG le + 1) (ptC B ih iN uv a le eW) eP es ed ec ew lk lf lo lv le eW ∧ 0 = es f.toNat)) from Or.inl ⟨rfl, hnk, ⟨hP, by rw [← hae]; exact hM, rfl, rfl, rfl, rfl, rfl, rfl⟩⟩) rfl dX7_write_47 (Nat.le_of_ble_eq_true rfl) (Nat.le_of_ble_eq_true rfl)
  · skip
    have hff : 0 ≤ f ∧ f < 32 := by simpa using h6
    have hef := hM.1 f.toNat (by omega)
    have hbf := haw.1.1 f.toNat (by omega)
    refine lv_iload_n hx hb dX7_write_9 rfl (lv_at hl 2 rfl) ?_
    refine z_if_lt hx hb 34 dX7_write_10 (by decide) (C := o < 0) (zI_lt0 ⟨by omega, by omega⟩) (fun h10 => ?_) (fun h10 => ?_)
    · skip
      have hnk : ¬ (0 ≤ f ∧ f < 32 ∧ 0 ≤ o ∧ o ≤ 440 ∧ (o ≤ a.1 f.toNat ∨ o = 0)) := by omega
      refine z_iconst hx hb (nI 1) dX7_write_34 (by decide) ?_
      refine lv_goto (tgt := 39) hx hb dX7_write_35 (by decide) ?_
      refine z_iconst hx hb (nI 1) dX7_write_39 (by decide) ?_
      refine z_kVp (As := [.int (nI 1), .int (nI 1)]) (rest := []) hE hZ (c_X7_fails l D cI cJ cZ cII cZZ t0 t1 t2 t3 t4 t5 t6 t7 t8 t9 tA tB tC tD tR tS e0 eP eb er ek es ed ec ew lk lf lo lv le eW et eh ei eu em true 1 ) lL_X7_fails lC_X7_125 rfl [] (List.Perm.refl _) (fun u => (WQ cI cJ cZ cII cZZ [] t0 t1 t2 t3 t4 t5 t6 t7 t8 t9 tA tB tC tD tR tS (if true = true then 1 else 0) eP eb er ek es ed ec ew lk lf lo lv le eW et eh ei eu em)) (fun _ => List.Perm.refl _) 0 rfl ⟨by decide, by decide⟩ 0 0 rfl rfl ⟨by decide, by decide⟩ rfl hl.1 rfl (Nat.le_of_ble_eq_true rfl) dX7_write_40 (fun u H locs hq9 hZ => ?_)
      have hZ : zS D A s.heap H locs (WQ cI cJ cZ cII cZZ [] t0 t1 t2 t3 t4 t5 t6 t7 t8 t9 tA tB tC tD tR tS (if true = true then 1 else 0) eP eb er ek es ed ec ew lk lf lo lv le eW et eh ei eu em) := hZ
      refine W.eq (g2 := F0 mth 43 ls [.int (zB true)]) rfl ?_
      refine z_if_eq hx hb 48 dX7_write_43 (by decide) (C := False) (by rw [zB_0]; simp) (fun h43 => ?_) (fun h43 => ?_)
      · skip
        exact h43.elim
      · skip
        refine z_iconst hx hb (nI 0) dX7_write_46 (by decide) ?_
        refine z_top (show nI 0 = zI 0 from rfl) ?_
        exact z_iret hE hrt9 hlocks hZ (eP, es, ed, ec, ew, lk, lf, lo, lv, le, eW, et, eh, ei, eu, em, (if true = true then 1 else 0), 0) rfl (show (((if true = true then 1 else 0) = 1 ∧ ¬ (0 ≤ f ∧ f < 32 ∧ 0 ≤ o ∧ o ≤ 440 ∧ (o ≤ a.1 f.toNat ∨ o = 0)) ∧ RT B ih lk lf lo lv le eW eP es ed ec ew lk lf lo lv le eW) ∨ ((if true = true then 1 else 0) = 2 ∧ (0 ≤ f ∧ f < 32 ∧ 0 ≤ o ∧ o ≤ 440 ∧ (o ≤ a.1 f.toNat ∨ o = 0)) ∧ ek = true ∧ RT B ih lk lf lo lv le eW eP es ed ec ew lk lf lo lv le eW) ∨ ((if true = true then 1 else 0) = 3 ∧ (0 ≤ f ∧ f < 32 ∧ 0 ≤ o ∧ o ≤ 440 ∧ (o ≤ a.1 f.toNat ∨ o = 0)) ∧ ek = false ∧ le = 40 ∧ fc uv 600 < (plY B ih uv a).1.length ∧ RT B ih lk lf lo lv le eW eP es ed ec ew lk lf lo lv le eW) ∨ ((if true = true then 1 else 0) = 0 ∧ (0 ≤ f ∧ f < 32 ∧ 0 ≤ o ∧ o ≤ 440 ∧ (o ≤ a.1 f.toNat ∨ o = 0)) ∧ ek = false ∧ (le = 40 → (plY B ih uv a).1.length ≤ fc uv 600) ∧ RT (ptB B ih iN uv a le) (ptH B ih uv a le) (va_up lk (ptG le) 0) (va_up lf (ptG le) f.toNat) (va_up lo (ptG le) o.toNat) (va_up lv (ptG le) v) (ptG le + 1) (ptC B ih iN uv a le eW) eP es ed ec ew lk lf lo lv le eW ∧ 0 = es f.toNat)) from Or.inl ⟨rfl, hnk, ⟨hP, by rw [← hae]; exact hM, rfl, rfl, rfl, rfl, rfl, rfl⟩⟩) rfl dX7_write_47 (Nat.le_of_ble_eq_true rfl) (Nat.le_of_ble_eq_true rfl)
    · skip
      refine lv_iload_n hx hb dX7_write_13 rfl (lv_at hl 2 rfl) ?_
      refine lv_aload_n hx hb dX7_write_14 rfl (lv_at hl 0 rfl) ?_
      refine z_get hE fF_X7_5 hZ 0 rfl (.ref t2) rfl dX7_write_15 ?_
      refine lv_iload_n hx hb dX7_write_18 rfl (lv_at hl 1 rfl) ?_
      refine z_top (show zI f = nI f.toNat from zI_inN (by omega) (by omega)) ?_
      refine z_iald hE hZ 2 0 rfl rfl (by decide) (by omega) dX7_write_19 ?_
      refine z_iconst hx hb (nI 0) dX7_write_20 (by decide) ?_
      refine z_mmax (rest := [.int (zI o), .ref t0]) hE hl.1 lC_X7_92 (Nat.le_of_ble_eq_true rfl) (Nat.le_of_ble_eq_true rfl) (Nat.le_of_ble_eq_true rfl) (Nat.le_of_ble_eq_true rfl) (es f.toNat) 0 rfl (zI_n _) ⟨by omega, by omega⟩ ⟨by omega, by omega⟩ dX7_write_21 ?_
      refine z_icmp_gt hx hb 34 dX7_write_24 (by decide) (C := ((if es f.toNat < 0 then 0 else es f.toNat) : Int) < o) (by (try simp only [zI_n]); exact zI_lt ⟨by omega, by omega⟩ ⟨by omega, by omega⟩) (fun h24 => ?_) (fun h24 => ?_)
      · skip
        have hnk : ¬ (0 ≤ f ∧ f < 32 ∧ 0 ≤ o ∧ o ≤ 440 ∧ (o ≤ a.1 f.toNat ∨ o = 0)) := by split at h24 <;> omega
        refine z_iconst hx hb (nI 1) dX7_write_34 (by decide) ?_
        refine lv_goto (tgt := 39) hx hb dX7_write_35 (by decide) ?_
        refine z_iconst hx hb (nI 1) dX7_write_39 (by decide) ?_
        refine z_kVp (As := [.int (nI 1), .int (nI 1)]) (rest := []) hE hZ (c_X7_fails l D cI cJ cZ cII cZZ t0 t1 t2 t3 t4 t5 t6 t7 t8 t9 tA tB tC tD tR tS e0 eP eb er ek es ed ec ew lk lf lo lv le eW et eh ei eu em true 1 ) lL_X7_fails lC_X7_125 rfl [] (List.Perm.refl _) (fun u => (WQ cI cJ cZ cII cZZ [] t0 t1 t2 t3 t4 t5 t6 t7 t8 t9 tA tB tC tD tR tS (if true = true then 1 else 0) eP eb er ek es ed ec ew lk lf lo lv le eW et eh ei eu em)) (fun _ => List.Perm.refl _) 0 rfl ⟨by decide, by decide⟩ 0 0 rfl rfl ⟨by decide, by decide⟩ rfl hl.1 rfl (Nat.le_of_ble_eq_true rfl) dX7_write_40 (fun u H locs hq9 hZ => ?_)
        have hZ : zS D A s.heap H locs (WQ cI cJ cZ cII cZZ [] t0 t1 t2 t3 t4 t5 t6 t7 t8 t9 tA tB tC tD tR tS (if true = true then 1 else 0) eP eb er ek es ed ec ew lk lf lo lv le eW et eh ei eu em) := hZ
        refine W.eq (g2 := F0 mth 43 ls [.int (zB true)]) rfl ?_
        refine z_if_eq hx hb 48 dX7_write_43 (by decide) (C := False) (by rw [zB_0]; simp) (fun h43 => ?_) (fun h43 => ?_)
        · skip
          exact h43.elim
        · skip
          refine z_iconst hx hb (nI 0) dX7_write_46 (by decide) ?_
          refine z_top (show nI 0 = zI 0 from rfl) ?_
          exact z_iret hE hrt9 hlocks hZ (eP, es, ed, ec, ew, lk, lf, lo, lv, le, eW, et, eh, ei, eu, em, (if true = true then 1 else 0), 0) rfl (show (((if true = true then 1 else 0) = 1 ∧ ¬ (0 ≤ f ∧ f < 32 ∧ 0 ≤ o ∧ o ≤ 440 ∧ (o ≤ a.1 f.toNat ∨ o = 0)) ∧ RT B ih lk lf lo lv le eW eP es ed ec ew lk lf lo lv le eW) ∨ ((if true = true then 1 else 0) = 2 ∧ (0 ≤ f ∧ f < 32 ∧ 0 ≤ o ∧ o ≤ 440 ∧ (o ≤ a.1 f.toNat ∨ o = 0)) ∧ ek = true ∧ RT B ih lk lf lo lv le eW eP es ed ec ew lk lf lo lv le eW) ∨ ((if true = true then 1 else 0) = 3 ∧ (0 ≤ f ∧ f < 32 ∧ 0 ≤ o ∧ o ≤ 440 ∧ (o ≤ a.1 f.toNat ∨ o = 0)) ∧ ek = false ∧ le = 40 ∧ fc uv 600 < (plY B ih uv a).1.length ∧ RT B ih lk lf lo lv le eW eP es ed ec ew lk lf lo lv le eW) ∨ ((if true = true then 1 else 0) = 0 ∧ (0 ≤ f ∧ f < 32 ∧ 0 ≤ o ∧ o ≤ 440 ∧ (o ≤ a.1 f.toNat ∨ o = 0)) ∧ ek = false ∧ (le = 40 → (plY B ih uv a).1.length ≤ fc uv 600) ∧ RT (ptB B ih iN uv a le) (ptH B ih uv a le) (va_up lk (ptG le) 0) (va_up lf (ptG le) f.toNat) (va_up lo (ptG le) o.toNat) (va_up lv (ptG le) v) (ptG le + 1) (ptC B ih iN uv a le eW) eP es ed ec ew lk lf lo lv le eW ∧ 0 = es f.toNat)) from Or.inl ⟨rfl, hnk, ⟨hP, by rw [← hae]; exact hM, rfl, rfl, rfl, rfl, rfl, rfl⟩⟩) rfl dX7_write_47 (Nat.le_of_ble_eq_true rfl) (Nat.le_of_ble_eq_true rfl)
      · skip
        refine lv_iload_n hx hb dX7_write_27 rfl (lv_at hl 2 rfl) ?_
        refine z_sipush hx hb (nI 440) dX7_write_28 (by decide) ?_
        refine z_icmp_le hx hb 38 dX7_write_31 (by decide) (C := (o : Int) ≤ 440) (by (try simp only [zI_n]); exact zI_le ⟨by omega, by omega⟩ ⟨by omega, by omega⟩) (fun h31 => ?_) (fun h31 => ?_)
        · skip
          have hok : 0 ≤ f ∧ f < 32 ∧ 0 ≤ o ∧ o ≤ 440 ∧ (o ≤ a.1 f.toNat ∨ o = 0) := by split at h24 <;> omega
          refine z_iconst hx hb (nI 0) dX7_write_38 (by decide) ?_
          refine z_iconst hx hb (nI 1) dX7_write_39 (by decide) ?_
          refine z_kVp (As := [.int (nI 0), .int (nI 1)]) (rest := []) hE hZ (c_X7_fails l D cI cJ cZ cII cZZ t0 t1 t2 t3 t4 t5 t6 t7 t8 t9 tA tB tC tD tR tS e0 eP eb er ek es ed ec ew lk lf lo lv le eW et eh ei eu em false 1 ) lL_X7_fails lC_X7_125 rfl [] (List.Perm.refl _) (fun u => (WQ cI cJ cZ cII cZZ [] t0 t1 t2 t3 t4 t5 t6 t7 t8 t9 tA tB tC tD tR tS (if false = true then 1 else 0) eP eb er ek es ed ec ew lk lf lo lv le eW et eh ei eu em)) (fun _ => List.Perm.refl _) 0 rfl ⟨by decide, by decide⟩ 0 0 rfl rfl ⟨by decide, by decide⟩ rfl hl.1 rfl (Nat.le_of_ble_eq_true rfl) dX7_write_40 (fun u H locs hq9 hZ => ?_)
          have hZ : zS D A s.heap H locs (WQ cI cJ cZ cII cZZ [] t0 t1 t2 t3 t4 t5 t6 t7 t8 t9 tA tB tC tD tR tS (if false = true then 1 else 0) eP eb er ek es ed ec ew lk lf lo lv le eW et eh ei eu em) := hZ
          refine W.eq (g2 := F0 mth 43 ls [.int (zB false)]) rfl ?_
          refine z_if_eq hx hb 48 dX7_write_43 (by decide) (C := True) (by rw [zB_0]; simp) (fun h43 => ?_) (fun h43 => ?_)
          · skip
            refine lv_aload_n hx hb dX7_write_48 rfl (lv_at hl 0 rfl) ?_
            refine lv_aload_n hx hb dX7_write_49 rfl (lv_at hl 0 rfl) ?_
            refine z_get hE fF_X7_4 hZ 0 rfl (.int (zB ek)) rfl dX7_write_50 ?_
            refine z_iconst hx hb (nI 2) dX7_write_53 (by decide) ?_
            refine z_kVp (As := [.int (zB ek), .int (nI 2)]) (rest := []) hE hZ (c_X7_fails l D cI cJ cZ cII cZZ t0 t1 t2 t3 t4 t5 t6 t7 t8 t9 tA tB tC tD tR tS (if false = true then 1 else 0) eP eb er ek es ed ec ew lk lf lo lv le eW et eh ei eu em ek 2 ) lL_X7_fails lC_X7_125 rfl [] (List.Perm.refl _) (fun u => (WQ cI cJ cZ cII cZZ [] t0 t1 t2 t3 t4 t5 t6 t7 t8 t9 tA tB tC tD tR tS (if ek = true then 2 else 0) eP eb er ek es ed ec ew lk lf lo lv le eW et eh ei eu em)) (fun _ => List.Perm.refl _) 0 rfl ⟨by decide, by decide⟩ 0 0 rfl rfl ⟨by decide, by decide⟩ rfl hl.1 rfl (Nat.le_of_ble_eq_true rfl) dX7_write_54 (fun u H locs hq9 hZ => ?_)
            have hZ : zS D A s.heap H locs (WQ cI cJ cZ cII cZZ [] t0 t1 t2 t3 t4 t5 t6 t7 t8 t9 tA tB tC tD tR tS (if ek = true then 2 else 0) eP eb er ek es ed ec ew lk lf lo lv le eW et eh ei eu em) := hZ
            refine W.eq (g2 := F0 mth 57 ls [.int (zB ek)]) rfl ?_
            refine z_if_eq hx hb 62 dX7_write_57 (by decide) (C := ek = false) (zB_0 _) (fun h57 => ?_) (fun h57 => ?_)
            · skip
              have hbk : ek = false := by simpa using h57
              refine lv_aload_n hx hb dX7_write_62 rfl (lv_at hl 0 rfl) ?_
              refine z_iconst hx hb (nI 0) dX7_write_63 (by decide) ?_
              refine lv_iload_n hx hb dX7_write_64 rfl (lv_at hl 1 rfl) ?_
              refine z_top (show zI f = nI f.toNat from zI_inN (by omega) (by omega)) ?_
              refine lv_iload_n hx hb dX7_write_65 rfl (lv_at hl 2 rfl) ?_
              refine z_top (show zI o = nI o.toNat from zI_inN (by omega) (by omega)) ?_
              refine lv_lload_n hx hb dX7_write_66 rfl (lv_at hl 3 rfl) ?_
              refine z_kVp (As := [.int (nI 0), .int (nI f.toNat), .int (nI o.toNat), .long v]) (rest := []) hE hZ (c_X7_change l D cI cJ cZ cII cZZ t0 t1 t2 t3 t4 t5 t6 t7 t8 t9 tA tB tC tD tR tS (if ek = true then 2 else 0) eP eb er ek es ed ec ew lk lf lo lv le eW et eh ei eu em B ro ih iN uv a 0 f.toNat o.toNat v (hP) (hA) (hN) (hM) (hLO) (hae) (hu) (by omega) (by
                      refine ⟨by omega, ?_, ?_⟩
                      · intro y; omega
                      · intro y; omega)) lL_X7_change lC_X7_129 rfl [] (List.Perm.refl _) (fun u => (WQ cI cJ cZ cII cZZ [] t0 t1 t2 t3 t4 t5 t6 t7 t8 t9 tA tB tC tD tR tS u.2.2.2.2.2.2.2.2.2.2.2.2.2.2.2.2 u.1 eb er ek u.2.1 u.2.2.1 u.2.2.2.1 u.2.2.2.2.1 u.2.2.2.2.2.1 u.2.2.2.2.2.2.1 u.2.2.2.2.2.2.2.1 u.2.2.2.2.2.2.2.2.1 u.2.2.2.2.2.2.2.2.2.1 u.2.2.2.2.2.2.2.2.2.2.1 u.2.2.2.2.2.2.2.2.2.2.2.1 u.2.2.2.2.2.2.2.2.2.2.2.2.1 u.2.2.2.2.2.2.2.2.2.2.2.2.2.1 u.2.2.2.2.2.2.2.2.2.2.2.2.2.2.1 u.2.2.2.2.2.2.2.2.2.2.2.2.2.2.2.1)) (fun _ => List.Perm.refl _) 0 rfl ⟨by decide, by decide⟩ 2 16 rfl rfl ⟨by decide, by decide⟩ rfl hl.1 rfl (Nat.le_of_ble_eq_true rfl) dX7_write_67 (fun u H locs hq9 hZ => ?_)
              obtain ⟨eP1_67, es1_67, ed1_67, ec1_67, ew1_67, lk1_67, lf1_67, lo1_67, lv1_67, le1_67, eW1_67, et1_67, eh1_67, ei1_67, eu1_67, em1_67, e01_67⟩ := u
              have hq_67 := hq9
              have hq_67 : (e01_67 = 3 ∧ le = 40 ∧ fc uv 600 < (plY B ih uv a).1.length ∧ RT B ih lk lf lo lv le eW eP1_67 es1_67 ed1_67 ec1_67 ew1_67 lk1_67 lf1_67 lo1_67 lv1_67 le1_67 eW1_67) ∨ (e01_67 = 0 ∧ (le = 40 → (plY B ih uv a).1.length ≤ fc uv 600) ∧ RT (ptB B ih iN uv a le) (ptH B ih uv a le) (va_up lk (ptG le) 0) (va_up lf (ptG le) f.toNat) (va_up lo (ptG le) o.toNat) (va_up lv (ptG le) v) (ptG le + 1) (ptC B ih iN uv a le eW) eP1_67 es1_67 ed1_67 ec1_67 ew1_67 lk1_67 lf1_67 lo1_67 lv1_67 le1_67 eW1_67) := hq_67
              have hZ : zS D A s.heap H locs (WQ cI cJ cZ cII cZZ [] t0 t1 t2 t3 t4 t5 t6 t7 t8 t9 tA tB tC tD tR tS e01_67 eP1_67 eb er ek es1_67 ed1_67 ec1_67 ew1_67 lk1_67 lf1_67 lo1_67 lv1_67 le1_67 eW1_67 et1_67 eh1_67 ei1_67 eu1_67 em1_67) := hZ
              refine W.eq (g2 := F0 mth 70 ls []) rfl ?_
              refine lv_aload_n hx hb dX7_write_70 rfl (lv_at hl 0 rfl) ?_
              refine z_get hE fF_X7_5 hZ 0 rfl (.ref t2) rfl dX7_write_71 ?_
              refine lv_iload_n hx hb dX7_write_74 rfl (lv_at hl 1 rfl) ?_
              refine z_top (show zI f = nI f.toNat from zI_inN (by omega) (by omega)) ?_
              refine z_iald hE hZ 2 0 rfl rfl (by decide) (by omega) dX7_write_75 ?_
              refine z_top (show zI (es1_67 f.toNat) = zI (es1_67 f.toNat) from rfl) ?_
              exact z_iret hE hrt9 hlocks hZ (eP1_67, es1_67, ed1_67, ec1_67, ew1_67, lk1_67, lf1_67, lo1_67, lv1_67, le1_67, eW1_67, et1_67, eh1_67, ei1_67, eu1_67, em1_67, e01_67, es1_67 f.toNat) rfl (show ((e01_67 = 1 ∧ ¬ (0 ≤ f ∧ f < 32 ∧ 0 ≤ o ∧ o ≤ 440 ∧ (o ≤ a.1 f.toNat ∨ o = 0)) ∧ RT B ih lk lf lo lv le eW eP1_67 es1_67 ed1_67 ec1_67 ew1_67 lk1_67 lf1_67 lo1_67 lv1_67 le1_67 eW1_67) ∨ (e01_67 = 2 ∧ (0 ≤ f ∧ f < 32 ∧ 0 ≤ o ∧ o ≤ 440 ∧ (o ≤ a.1 f.toNat ∨ o = 0)) ∧ ek = true ∧ RT B ih lk lf lo lv le eW eP1_67 es1_67 ed1_67 ec1_67 ew1_67 lk1_67 lf1_67 lo1_67 lv1_67 le1_67 eW1_67) ∨ (e01_67 = 3 ∧ (0 ≤ f ∧ f < 32 ∧ 0 ≤ o ∧ o ≤ 440 ∧ (o ≤ a.1 f.toNat ∨ o = 0)) ∧ ek = false ∧ le = 40 ∧ fc uv 600 < (plY B ih uv a).1.length ∧ RT B ih lk lf lo lv le eW eP1_67 es1_67 ed1_67 ec1_67 ew1_67 lk1_67 lf1_67 lo1_67 lv1_67 le1_67 eW1_67) ∨ (e01_67 = 0 ∧ (0 ≤ f ∧ f < 32 ∧ 0 ≤ o ∧ o ≤ 440 ∧ (o ≤ a.1 f.toNat ∨ o = 0)) ∧ ek = false ∧ (le = 40 → (plY B ih uv a).1.length ≤ fc uv 600) ∧ RT (ptB B ih iN uv a le) (ptH B ih uv a le) (va_up lk (ptG le) 0) (va_up lf (ptG le) f.toNat) (va_up lo (ptG le) o.toNat) (va_up lv (ptG le) v) (ptG le + 1) (ptC B ih iN uv a le eW) eP1_67 es1_67 ed1_67 ec1_67 ew1_67 lk1_67 lf1_67 lo1_67 lv1_67 le1_67 eW1_67 ∧ (es1_67 f.toNat) = es1_67 f.toNat)) from hq_67.elim (fun z => Or.inr (Or.inr (Or.inl ⟨z.1, hok, hbk, z.2⟩))) (fun z => Or.inr (Or.inr (Or.inr ⟨z.1, hok, hbk, z.2.1, z.2.2, rfl⟩)))) rfl dX7_write_76 (Nat.le_of_ble_eq_true rfl) (Nat.le_of_ble_eq_true rfl)
            · skip
              have hbk : ek = true := by simpa using h57
              refine z_iconst hx hb (nI 0) dX7_write_60 (by decide) ?_
              refine z_top (show nI 0 = zI 0 from rfl) ?_
              exact z_iret hE hrt9 hlocks hZ (eP, es, ed, ec, ew, lk, lf, lo, lv, le, eW, et, eh, ei, eu, em, (if ek = true then 2 else 0), 0) rfl (show (((if ek = true then 2 else 0) = 1 ∧ ¬ (0 ≤ f ∧ f < 32 ∧ 0 ≤ o ∧ o ≤ 440 ∧ (o ≤ a.1 f.toNat ∨ o = 0)) ∧ RT B ih lk lf lo lv le eW eP es ed ec ew lk lf lo lv le eW) ∨ ((if ek = true then 2 else 0) = 2 ∧ (0 ≤ f ∧ f < 32 ∧ 0 ≤ o ∧ o ≤ 440 ∧ (o ≤ a.1 f.toNat ∨ o = 0)) ∧ ek = true ∧ RT B ih lk lf lo lv le eW eP es ed ec ew lk lf lo lv le eW) ∨ ((if ek = true then 2 else 0) = 3 ∧ (0 ≤ f ∧ f < 32 ∧ 0 ≤ o ∧ o ≤ 440 ∧ (o ≤ a.1 f.toNat ∨ o = 0)) ∧ ek = false ∧ le = 40 ∧ fc uv 600 < (plY B ih uv a).1.length ∧ RT B ih lk lf lo lv le eW eP es ed ec ew lk lf lo lv le eW) ∨ ((if ek = true then 2 else 0) = 0 ∧ (0 ≤ f ∧ f < 32 ∧ 0 ≤ o ∧ o ≤ 440 ∧ (o ≤ a.1 f.toNat ∨ o = 0)) ∧ ek = false ∧ (le = 40 → (plY B ih uv a).1.length ≤ fc uv 600) ∧ RT (ptB B ih iN uv a le) (ptH B ih uv a le) (va_up lk (ptG le) 0) (va_up lf (ptG le) f.toNat) (va_up lo (ptG le) o.toNat) (va_up lv (ptG le) v) (ptG le + 1) (ptC B ih iN uv a le eW) eP es ed ec ew lk lf lo lv le eW ∧ 0 = es f.toNat)) from Or.inr (Or.inl ⟨by rw [if_pos hbk], hok, hbk, ⟨hP, by rw [← hae]; exact hM, rfl, rfl, rfl, rfl, rfl, rfl⟩⟩)) rfl dX7_write_61 (Nat.le_of_ble_eq_true rfl) (Nat.le_of_ble_eq_true rfl)
          · skip
            exact absurd trivial h43
        · skip
          have hnk : ¬ (0 ≤ f ∧ f < 32 ∧ 0 ≤ o ∧ o ≤ 440 ∧ (o ≤ a.1 f.toNat ∨ o = 0)) := by omega
          refine z_iconst hx hb (nI 1) dX7_write_34 (by decide) ?_
          refine lv_goto (tgt := 39) hx hb dX7_write_35 (by decide) ?_
          refine z_iconst hx hb (nI 1) dX7_write_39 (by decide) ?_
          refine z_kVp (As := [.int (nI 1), .int (nI 1)]) (rest := []) hE hZ (c_X7_fails l D cI cJ cZ cII cZZ t0 t1 t2 t3 t4 t5 t6 t7 t8 t9 tA tB tC tD tR tS e0 eP eb er ek es ed ec ew lk lf lo lv le eW et eh ei eu em true 1 ) lL_X7_fails lC_X7_125 rfl [] (List.Perm.refl _) (fun u => (WQ cI cJ cZ cII cZZ [] t0 t1 t2 t3 t4 t5 t6 t7 t8 t9 tA tB tC tD tR tS (if true = true then 1 else 0) eP eb er ek es ed ec ew lk lf lo lv le eW et eh ei eu em)) (fun _ => List.Perm.refl _) 0 rfl ⟨by decide, by decide⟩ 0 0 rfl rfl ⟨by decide, by decide⟩ rfl hl.1 rfl (Nat.le_of_ble_eq_true rfl) dX7_write_40 (fun u H locs hq9 hZ => ?_)
          have hZ : zS D A s.heap H locs (WQ cI cJ cZ cII cZZ [] t0 t1 t2 t3 t4 t5 t6 t7 t8 t9 tA tB tC tD tR tS (if true = true then 1 else 0) eP eb er ek es ed ec ew lk lf lo lv le eW et eh ei eu em) := hZ
          refine W.eq (g2 := F0 mth 43 ls [.int (zB true)]) rfl ?_
          refine z_if_eq hx hb 48 dX7_write_43 (by decide) (C := False) (by rw [zB_0]; simp) (fun h43 => ?_) (fun h43 => ?_)
          · skip
            exact h43.elim
          · skip
            refine z_iconst hx hb (nI 0) dX7_write_46 (by decide) ?_
            refine z_top (show nI 0 = zI 0 from rfl) ?_
            exact z_iret hE hrt9 hlocks hZ (eP, es, ed, ec, ew, lk, lf, lo, lv, le, eW, et, eh, ei, eu, em, (if true = true then 1 else 0), 0) rfl (show (((if true = true then 1 else 0) = 1 ∧ ¬ (0 ≤ f ∧ f < 32 ∧ 0 ≤ o ∧ o ≤ 440 ∧ (o ≤ a.1 f.toNat ∨ o = 0)) ∧ RT B ih lk lf lo lv le eW eP es ed ec ew lk lf lo lv le eW) ∨ ((if true = true then 1 else 0) = 2 ∧ (0 ≤ f ∧ f < 32 ∧ 0 ≤ o ∧ o ≤ 440 ∧ (o ≤ a.1 f.toNat ∨ o = 0)) ∧ ek = true ∧ RT B ih lk lf lo lv le eW eP es ed ec ew lk lf lo lv le eW) ∨ ((if true = true then 1 else 0) = 3 ∧ (0 ≤ f ∧ f < 32 ∧ 0 ≤ o ∧ o ≤ 440 ∧ (o ≤ a.1 f.toNat ∨ o = 0)) ∧ ek = false ∧ le = 40 ∧ fc uv 600 < (plY B ih uv a).1.length ∧ RT B ih lk lf lo lv le eW eP es ed ec ew lk lf lo lv le eW) ∨ ((if true = true then 1 else 0) = 0 ∧ (0 ≤ f ∧ f < 32 ∧ 0 ≤ o ∧ o ≤ 440 ∧ (o ≤ a.1 f.toNat ∨ o = 0)) ∧ ek = false ∧ (le = 40 → (plY B ih uv a).1.length ≤ fc uv 600) ∧ RT (ptB B ih iN uv a le) (ptH B ih uv a le) (va_up lk (ptG le) 0) (va_up lf (ptG le) f.toNat) (va_up lo (ptG le) o.toNat) (va_up lv (ptG le) v) (ptG le + 1) (ptC B ih iN uv a le eW) eP es ed ec ew lk lf lo lv le eW ∧ 0 = es f.toNat)) from Or.inl ⟨rfl, hnk, ⟨hP, by rw [← hae]; exact hM, rfl, rfl, rfl, rfl, rfl, rfl⟩⟩) rfl dX7_write_47 (Nat.le_of_ble_eq_true rfl) (Nat.le_of_ble_eq_true rfl)
set_option maxHeartbeats 1000000 in
set_option maxRecDepth 100000 in
theorem c_X7_cut (l : Launch) (D : va_G) (cI cJ cZ cII cZZ : ClassId) (t0 : Nat) (t1 : Nat) (t2 : Nat) (t3 : Nat) (t4 : Nat) (t5 : Nat) (t6 : Nat) (t7 : Nat) (t8 : Nat) (t9 : Nat) (tA : Nat) (tB : Nat) (tC : Nat) (tD : Nat) (tR : Nat → Nat) (tS : Nat → Nat) (e0 : Nat) (eP : Nat → Nat) (eb : Int) (er : Int) (ek : Bool) (es : Nat → Int) (ed : Nat → Nat → Nat) (ec : Nat → Bool) (ew : Nat → Nat → Bool) (lk : Nat → Nat) (lf : Nat → Nat) (lo : Nat → Nat) (lv : Nat → Int64) (le : Nat) (eW : Int) (et : Nat → Nat) (eh : Nat → Nat) (ei : Nat → Int) (eu : Nat → Bool) (em : Nat) (B : Nat → Int64) (ro : Nat → Nat) (ih : Nat → Nat) (iN : Nat) (uv : Nat → Bool) (a : aM) (f : Int) (n : Int) (f_q : Int32) (n_q : Int32) (hP : RP B eP) (hA : AI B ro ih iN) (hN : iN + 1 < 2 ^ 31) (hM : RM es ed ew ec a) (hLO : LOK lk lf lo lv le (lodA B ih)) (hae : a = aRun lk lf lo lv (lodA B ih) le) (hu : ∀ p, p < 600 → (uv p = true ↔ UA B ih 12 p)) (hf : -2147483648 ≤ f ∧ f < 2147483648) (hn : -2147483648 ≤ n ∧ n < 2147483648) (f_h : f_q = zI f) (n_h : n_q = zI n) :
    zC l yX7_cut cX7_cut 3 none { frames := 6, cells := 2, slots := 16, locals := 141 } D (zT cI cJ cZ cII cZZ) [.ref t0, .int (f_q), .int (n_q)] (WQ cI cJ cZ cII cZZ [] t0 t1 t2 t3 t4 t5 t6 t7 t8 t9 tA tB tC tD tR tS e0 eP eb er ek es ed ec ew lk lf lo lv le eW et eh ei eu em) (S := (Nat → Nat) × (Nat → Int) × (Nat → Nat → Nat) × (Nat → Bool) × (Nat → Nat → Bool) × (Nat → Nat) × (Nat → Nat) × (Nat → Nat) × (Nat → Int64) × Nat × Int × (Nat → Nat) × (Nat → Nat) × (Nat → Int) × (Nat → Bool) × Nat × Nat) (fun u => none) (fun u => ((u.2.2.2.2.2.2.2.2.2.2.2.2.2.2.2.2 = 1 ∧ ¬ (0 ≤ f ∧ f < 32 ∧ 0 ≤ n ∧ n ≤ a.1 f.toNat) ∧ RT B ih lk lf lo lv le eW u.1 u.2.1 u.2.2.1 u.2.2.2.1 u.2.2.2.2.1 u.2.2.2.2.2.1 u.2.2.2.2.2.2.1 u.2.2.2.2.2.2.2.1 u.2.2.2.2.2.2.2.2.1 u.2.2.2.2.2.2.2.2.2.1 u.2.2.2.2.2.2.2.2.2.2.1) ∨ (u.2.2.2.2.2.2.2.2.2.2.2.2.2.2.2.2 = 2 ∧ (0 ≤ f ∧ f < 32 ∧ 0 ≤ n ∧ n ≤ a.1 f.toNat) ∧ ek = true ∧ RT B ih lk lf lo lv le eW u.1 u.2.1 u.2.2.1 u.2.2.2.1 u.2.2.2.2.1 u.2.2.2.2.2.1 u.2.2.2.2.2.2.1 u.2.2.2.2.2.2.2.1 u.2.2.2.2.2.2.2.2.1 u.2.2.2.2.2.2.2.2.2.1 u.2.2.2.2.2.2.2.2.2.2.1) ∨ (u.2.2.2.2.2.2.2.2.2.2.2.2.2.2.2.2 = 3 ∧ (0 ≤ f ∧ f < 32 ∧ 0 ≤ n ∧ n ≤ a.1 f.toNat) ∧ ek = false ∧ le = 40 ∧ fc uv 600 < (plY B ih uv a).1.length ∧ RT B ih lk lf lo lv le eW u.1 u.2.1 u.2.2.1 u.2.2.2.1 u.2.2.2.2.1 u.2.2.2.2.2.1 u.2.2.2.2.2.2.1 u.2.2.2.2.2.2.2.1 u.2.2.2.2.2.2.2.2.1 u.2.2.2.2.2.2.2.2.2.1 u.2.2.2.2.2.2.2.2.2.2.1) ∨ (u.2.2.2.2.2.2.2.2.2.2.2.2.2.2.2.2 = 0 ∧ (0 ≤ f ∧ f < 32 ∧ 0 ≤ n ∧ n ≤ a.1 f.toNat) ∧ ek = false ∧ (le = 40 → (plY B ih uv a).1.length ≤ fc uv 600) ∧ RT (ptB B ih iN uv a le) (ptH B ih uv a le) (va_up lk (ptG le) 1) (va_up lf (ptG le) f.toNat) (va_up lo (ptG le) n.toNat) (va_up lv (ptG le) 0) (ptG le + 1) (ptC B ih iN uv a le eW) u.1 u.2.1 u.2.2.1 u.2.2.2.1 u.2.2.2.2.1 u.2.2.2.2.2.1 u.2.2.2.2.2.2.1 u.2.2.2.2.2.2.2.1 u.2.2.2.2.2.2.2.2.1 u.2.2.2.2.2.2.2.2.2.1 u.2.2.2.2.2.2.2.2.2.2.1))) (fun u => (WQ cI cJ cZ cII cZZ [] t0 t1 t2 t3 t4 t5 t6 t7 t8 t9 tA tB tC tD tR tS u.2.2.2.2.2.2.2.2.2.2.2.2.2.2.2.2 u.1 eb er ek u.2.1 u.2.2.1 u.2.2.2.1 u.2.2.2.2.1 u.2.2.2.2.2.1 u.2.2.2.2.2.2.1 u.2.2.2.2.2.2.2.1 u.2.2.2.2.2.2.2.2.1 u.2.2.2.2.2.2.2.2.2.1 u.2.2.2.2.2.2.2.2.2.2.1 u.2.2.2.2.2.2.2.2.2.2.2.1 u.2.2.2.2.2.2.2.2.2.2.2.2.1 u.2.2.2.2.2.2.2.2.2.2.2.2.2.1 u.2.2.2.2.2.2.2.2.2.2.2.2.2.2.1 u.2.2.2.2.2.2.2.2.2.2.2.2.2.2.2.1)) := by
  refine zC_of (by decide) (Nat.le_of_ble_eq_true rfl) ?_
  intro prg env s mth below meth cde A ls hE hrt9 hlocks hnm hZ hl
  have hx := hE.1
  have hb := hE.2.1
  subst f_h
  subst n_h
  have hl : lv_has ls 3 [(0, .ref t0), (1, .int (zI f)), (2, .int (zI n))] := hl
  have hl40 := hLO.1
  have haw : AW B ih a := by rw [hae]; exact hA.aw hLO
  have hu0 : uv 0 = true := (hu 0 (by omega)).mpr (Or.inl rfl)
  refine lv_aload_n hx hb dX7_cut_0 rfl (lv_at hl 0 rfl) ?_
  refine lv_aload_n hx hb dX7_cut_1 rfl (lv_at hl 0 rfl) ?_
  refine lv_iload_n hx hb dX7_cut_2 rfl (lv_at hl 1 rfl) ?_
  refine z_kVp (As := [.int (zI f)]) (rest := [.ref t0]) hE hZ (c_X7_noFile l D cI cJ cZ cII cZZ t0 t1 t2 t3 t4 t5 t6 t7 t8 t9 tA tB tC tD tR tS e0 eP eb er ek es ed ec ew lk lf lo lv le eW et eh ei eu em f (zI f) (by first | assumption | omega) (rfl)) lL_X7_noFile lC_X7_122 rfl [] (List.Perm.refl _) (fun u => (WQ cI cJ cZ cII cZZ [] t0 t1 t2 t3 t4 t5 t6 t7 t8 t9 tA tB tC tD tR tS e0 eP eb er ek es ed ec ew lk lf lo lv le eW et eh ei eu em)) (fun _ => List.Perm.refl _) 0 rfl ⟨by decide, by decide⟩ 0 0 rfl rfl ⟨by decide, by decide⟩ rfl hl.1 rfl (Nat.le_of_ble_eq_true rfl) dX7_cut_3 (fun u H locs hq9 hZ => ?_)
  have hZ : zS D A s.heap H locs (WQ cI cJ cZ cII cZZ [] t0 t1 t2 t3 t4 t5 t6 t7 t8 t9 tA tB tC tD tR tS e0 eP eb er ek es ed ec ew lk lf lo lv le eW et eh ei eu em) := hZ
  refine W.eq (g2 := F0 mth 6 ls [.int (zB (decide (¬ (0 ≤ f ∧ f < 32)))), .ref t0]) rfl ?_
  refine z_if_ne hx hb 32 dX7_cut_6 (by decide) (C := (decide (¬ (0 ≤ f ∧ f < 32))) = false) (zB_0 _) (fun h6 => ?_) (fun h6 => ?_)
  · skip
    have hnk : ¬ (0 ≤ f ∧ f < 32 ∧ 0 ≤ n ∧ n ≤ a.1 f.toNat) := by
            have z : ¬ (0 ≤ f ∧ f < 32) := by simpa using h6
            exact fun y => z ⟨y.1, y.2.1⟩
    refine z_iconst hx hb (nI 1) dX7_cut_32 (by decide) ?_
    refine lv_goto (tgt := 37) hx hb dX7_cut_33 (by decide) ?_
    refine z_iconst hx hb (nI 1) dX7_cut_37 (by decide) ?_
    refine z_kVp (As := [.int (nI 1), .int (nI 1)]) (rest := []) hE hZ (c_X7_fails l D cI cJ cZ cII cZZ t0 t1 t2 t3 t4 t5 t6 t7 t8 t9 tA tB tC tD tR tS e0 eP eb er ek es ed ec ew lk lf lo lv le eW et eh ei eu em true 1 ) lL_X7_fails lC_X7_125 rfl [] (List.Perm.refl _) (fun u => (WQ cI cJ cZ cII cZZ [] t0 t1 t2 t3 t4 t5 t6 t7 t8 t9 tA tB tC tD tR tS (if true = true then 1 else 0) eP eb er ek es ed ec ew lk lf lo lv le eW et eh ei eu em)) (fun _ => List.Perm.refl _) 0 rfl ⟨by decide, by decide⟩ 0 0 rfl rfl ⟨by decide, by decide⟩ rfl hl.1 rfl (Nat.le_of_ble_eq_true rfl) dX7_cut_38 (fun u H locs hq9 hZ => ?_)
    have hZ : zS D A s.heap H locs (WQ cI cJ cZ cII cZZ [] t0 t1 t2 t3 t4 t5 t6 t7 t8 t9 tA tB tC tD tR tS (if true = true then 1 else 0) eP eb er ek es ed ec ew lk lf lo lv le eW et eh ei eu em) := hZ
    refine W.eq (g2 := F0 mth 41 ls [.int (zB true)]) rfl ?_
    refine z_if_eq hx hb 45 dX7_cut_41 (by decide) (C := False) (by rw [zB_0]; simp) (fun h41 => ?_) (fun h41 => ?_)
    · skip
      exact h41.elim
    · skip
      exact z_vret hE hrt9 hlocks hZ (eP, es, ed, ec, ew, lk, lf, lo, lv, le, eW, et, eh, ei, eu, em, (if true = true then 1 else 0)) rfl (show (((if true = true then 1 else 0) = 1 ∧ ¬ (0 ≤ f ∧ f < 32 ∧ 0 ≤ n ∧ n ≤ a.1 f.toNat) ∧ RT B ih lk lf lo lv le eW eP es ed ec ew lk lf lo lv le eW) ∨ ((if true = true then 1 else 0) = 2 ∧ (0 ≤ f ∧ f < 32 ∧ 0 ≤ n ∧ n ≤ a.1 f.toNat) ∧ ek = true ∧ RT B ih lk lf lo lv le eW eP es ed ec ew lk lf lo lv le eW) ∨ ((if true = true then 1 else 0) = 3 ∧ (0 ≤ f ∧ f < 32 ∧ 0 ≤ n ∧ n ≤ a.1 f.toNat) ∧ ek = false ∧ le = 40 ∧ fc uv 600 < (plY B ih uv a).1.length ∧ RT B ih lk lf lo lv le eW eP es ed ec ew lk lf lo lv le eW) ∨ ((if true = true then 1 else 0) = 0 ∧ (0 ≤ f ∧ f < 32 ∧ 0 ≤ n ∧ n ≤ a.1 f.toNat) ∧ ek = false ∧ (le = 40 → (plY B ih uv a).1.length ≤ fc uv 600) ∧ RT (ptB B ih iN uv a le) (ptH B ih uv a le) (va_up lk (ptG le) 1) (va_up lf (ptG le) f.toNat) (va_up lo (ptG le) n.toNat) (va_up lv (ptG le) 0) (ptG le + 1) (ptC B ih iN uv a le eW) eP es ed ec ew lk lf lo lv le eW)) from Or.inl ⟨rfl, hnk, ⟨hP, by rw [← hae]; exact hM, rfl, rfl, rfl, rfl, rfl, rfl⟩⟩) rfl dX7_cut_44 (Nat.le_of_ble_eq_true rfl) (Nat.le_of_ble_eq_true rfl)
  · skip
    have hff : 0 ≤ f ∧ f < 32 := by simpa using h6
    have hef := hM.1 f.toNat (by omega)
    have hbf := haw.1.1 f.toNat (by omega)
    refine lv_aload_n hx hb dX7_cut_9 rfl (lv_at hl 0 rfl) ?_
    refine z_get hE fF_X7_5 hZ 0 rfl (.ref t2) rfl dX7_cut_10 ?_
    refine lv_iload_n hx hb dX7_cut_13 rfl (lv_at hl 1 rfl) ?_
    refine z_top (show zI f = nI f.toNat from zI_inN (by omega) (by omega)) ?_
    refine z_iald hE hZ 2 0 rfl rfl (by decide) (by omega) dX7_cut_14 ?_
    refine z_if_lt hx hb 32 dX7_cut_15 (by decide) (C := es f.toNat < 0) (zI_lt0 ⟨by omega, by omega⟩) (fun h15 => ?_) (fun h15 => ?_)
    · skip
      have hnk : ¬ (0 ≤ f ∧ f < 32 ∧ 0 ≤ n ∧ n ≤ a.1 f.toNat) := by omega
      refine z_iconst hx hb (nI 1) dX7_cut_32 (by decide) ?_
      refine lv_goto (tgt := 37) hx hb dX7_cut_33 (by decide) ?_
      refine z_iconst hx hb (nI 1) dX7_cut_37 (by decide) ?_
      refine z_kVp (As := [.int (nI 1), .int (nI 1)]) (rest := []) hE hZ (c_X7_fails l D cI cJ cZ cII cZZ t0 t1 t2 t3 t4 t5 t6 t7 t8 t9 tA tB tC tD tR tS e0 eP eb er ek es ed ec ew lk lf lo lv le eW et eh ei eu em true 1 ) lL_X7_fails lC_X7_125 rfl [] (List.Perm.refl _) (fun u => (WQ cI cJ cZ cII cZZ [] t0 t1 t2 t3 t4 t5 t6 t7 t8 t9 tA tB tC tD tR tS (if true = true then 1 else 0) eP eb er ek es ed ec ew lk lf lo lv le eW et eh ei eu em)) (fun _ => List.Perm.refl _) 0 rfl ⟨by decide, by decide⟩ 0 0 rfl rfl ⟨by decide, by decide⟩ rfl hl.1 rfl (Nat.le_of_ble_eq_true rfl) dX7_cut_38 (fun u H locs hq9 hZ => ?_)
      have hZ : zS D A s.heap H locs (WQ cI cJ cZ cII cZZ [] t0 t1 t2 t3 t4 t5 t6 t7 t8 t9 tA tB tC tD tR tS (if true = true then 1 else 0) eP eb er ek es ed ec ew lk lf lo lv le eW et eh ei eu em) := hZ
      refine W.eq (g2 := F0 mth 41 ls [.int (zB true)]) rfl ?_
      refine z_if_eq hx hb 45 dX7_cut_41 (by decide) (C := False) (by rw [zB_0]; simp) (fun h41 => ?_) (fun h41 => ?_)
      · skip
        exact h41.elim
      · skip
        exact z_vret hE hrt9 hlocks hZ (eP, es, ed, ec, ew, lk, lf, lo, lv, le, eW, et, eh, ei, eu, em, (if true = true then 1 else 0)) rfl (show (((if true = true then 1 else 0) = 1 ∧ ¬ (0 ≤ f ∧ f < 32 ∧ 0 ≤ n ∧ n ≤ a.1 f.toNat) ∧ RT B ih lk lf lo lv le eW eP es ed ec ew lk lf lo lv le eW) ∨ ((if true = true then 1 else 0) = 2 ∧ (0 ≤ f ∧ f < 32 ∧ 0 ≤ n ∧ n ≤ a.1 f.toNat) ∧ ek = true ∧ RT B ih lk lf lo lv le eW eP es ed ec ew lk lf lo lv le eW) ∨ ((if true = true then 1 else 0) = 3 ∧ (0 ≤ f ∧ f < 32 ∧ 0 ≤ n ∧ n ≤ a.1 f.toNat) ∧ ek = false ∧ le = 40 ∧ fc uv 600 < (plY B ih uv a).1.length ∧ RT B ih lk lf lo lv le eW eP es ed ec ew lk lf lo lv le eW) ∨ ((if true = true then 1 else 0) = 0 ∧ (0 ≤ f ∧ f < 32 ∧ 0 ≤ n ∧ n ≤ a.1 f.toNat) ∧ ek = false ∧ (le = 40 → (plY B ih uv a).1.length ≤ fc uv 600) ∧ RT (ptB B ih iN uv a le) (ptH B ih uv a le) (va_up lk (ptG le) 1) (va_up lf (ptG le) f.toNat) (va_up lo (ptG le) n.toNat) (va_up lv (ptG le) 0) (ptG le + 1) (ptC B ih iN uv a le eW) eP es ed ec ew lk lf lo lv le eW)) from Or.inl ⟨rfl, hnk, ⟨hP, by rw [← hae]; exact hM, rfl, rfl, rfl, rfl, rfl, rfl⟩⟩) rfl dX7_cut_44 (Nat.le_of_ble_eq_true rfl) (Nat.le_of_ble_eq_true rfl)
    · skip
      refine lv_iload_n hx hb dX7_cut_18 rfl (lv_at hl 2 rfl) ?_
      refine z_if_lt hx hb 32 dX7_cut_19 (by decide) (C := n < 0) (zI_lt0 ⟨by omega, by omega⟩) (fun h19 => ?_) (fun h19 => ?_)
      · skip
        have hnk : ¬ (0 ≤ f ∧ f < 32 ∧ 0 ≤ n ∧ n ≤ a.1 f.toNat) := by omega
        refine z_iconst hx hb (nI 1) dX7_cut_32 (by decide) ?_
        refine lv_goto (tgt := 37) hx hb dX7_cut_33 (by decide) ?_
        refine z_iconst hx hb (nI 1) dX7_cut_37 (by decide) ?_
        refine z_kVp (As := [.int (nI 1), .int (nI 1)]) (rest := []) hE hZ (c_X7_fails l D cI cJ cZ cII cZZ t0 t1 t2 t3 t4 t5 t6 t7 t8 t9 tA tB tC tD tR tS e0 eP eb er ek es ed ec ew lk lf lo lv le eW et eh ei eu em true 1 ) lL_X7_fails lC_X7_125 rfl [] (List.Perm.refl _) (fun u => (WQ cI cJ cZ cII cZZ [] t0 t1 t2 t3 t4 t5 t6 t7 t8 t9 tA tB tC tD tR tS (if true = true then 1 else 0) eP eb er ek es ed ec ew lk lf lo lv le eW et eh ei eu em)) (fun _ => List.Perm.refl _) 0 rfl ⟨by decide, by decide⟩ 0 0 rfl rfl ⟨by decide, by decide⟩ rfl hl.1 rfl (Nat.le_of_ble_eq_true rfl) dX7_cut_38 (fun u H locs hq9 hZ => ?_)
        have hZ : zS D A s.heap H locs (WQ cI cJ cZ cII cZZ [] t0 t1 t2 t3 t4 t5 t6 t7 t8 t9 tA tB tC tD tR tS (if true = true then 1 else 0) eP eb er ek es ed ec ew lk lf lo lv le eW et eh ei eu em) := hZ
        refine W.eq (g2 := F0 mth 41 ls [.int (zB true)]) rfl ?_
        refine z_if_eq hx hb 45 dX7_cut_41 (by decide) (C := False) (by rw [zB_0]; simp) (fun h41 => ?_) (fun h41 => ?_)
        · skip
          exact h41.elim
        · skip
          exact z_vret hE hrt9 hlocks hZ (eP, es, ed, ec, ew, lk, lf, lo, lv, le, eW, et, eh, ei, eu, em, (if true = true then 1 else 0)) rfl (show (((if true = true then 1 else 0) = 1 ∧ ¬ (0 ≤ f ∧ f < 32 ∧ 0 ≤ n ∧ n ≤ a.1 f.toNat) ∧ RT B ih lk lf lo lv le eW eP es ed ec ew lk lf lo lv le eW) ∨ ((if true = true then 1 else 0) = 2 ∧ (0 ≤ f ∧ f < 32 ∧ 0 ≤ n ∧ n ≤ a.1 f.toNat) ∧ ek = true ∧ RT B ih lk lf lo lv le eW eP es ed ec ew lk lf lo lv le eW) ∨ ((if true = true then 1 else 0) = 3 ∧ (0 ≤ f ∧ f < 32 ∧ 0 ≤ n ∧ n ≤ a.1 f.toNat) ∧ ek = false ∧ le = 40 ∧ fc uv 600 < (plY B ih uv a).1.length ∧ RT B ih lk lf lo lv le eW eP es ed ec ew lk lf lo lv le eW) ∨ ((if true = true then 1 else 0) = 0 ∧ (0 ≤ f ∧ f < 32 ∧ 0 ≤ n ∧ n ≤ a.1 f.toNat) ∧ ek = false ∧ (le = 40 → (plY B ih uv a).1.length ≤ fc uv 600) ∧ RT (ptB B ih iN uv a le) (ptH B ih uv a le) (va_up lk (ptG le) 1) (va_up lf (ptG le) f.toNat) (va_up lo (ptG le) n.toNat) (va_up lv (ptG le) 0) (ptG le + 1) (ptC B ih iN uv a le eW) eP es ed ec ew lk lf lo lv le eW)) from Or.inl ⟨rfl, hnk, ⟨hP, by rw [← hae]; exact hM, rfl, rfl, rfl, rfl, rfl, rfl⟩⟩) rfl dX7_cut_44 (Nat.le_of_ble_eq_true rfl) (Nat.le_of_ble_eq_true rfl)
      · skip
        refine lv_iload_n hx hb dX7_cut_22 rfl (lv_at hl 2 rfl) ?_
        refine lv_aload_n hx hb dX7_cut_23 rfl (lv_at hl 0 rfl) ?_
        refine z_get hE fF_X7_5 hZ 0 rfl (.ref t2) rfl dX7_cut_24 ?_
        refine lv_iload_n hx hb dX7_cut_27 rfl (lv_at hl 1 rfl) ?_
        refine z_top (show zI f = nI f.toNat from zI_inN (by omega) (by omega)) ?_
        refine z_iald hE hZ 2 0 rfl rfl (by decide) (by omega) dX7_cut_28 ?_
        refine z_icmp_le hx hb 36 dX7_cut_29 (by decide) (C := (n : Int) ≤ es f.toNat) (by (try simp only [zI_n]); exact zI_le ⟨by omega, by omega⟩ ⟨by omega, by omega⟩) (fun h29 => ?_) (fun h29 => ?_)
        · skip
          have hok : 0 ≤ f ∧ f < 32 ∧ 0 ≤ n ∧ n ≤ a.1 f.toNat := by omega
          refine z_iconst hx hb (nI 0) dX7_cut_36 (by decide) ?_
          refine z_iconst hx hb (nI 1) dX7_cut_37 (by decide) ?_
          refine z_kVp (As := [.int (nI 0), .int (nI 1)]) (rest := []) hE hZ (c_X7_fails l D cI cJ cZ cII cZZ t0 t1 t2 t3 t4 t5 t6 t7 t8 t9 tA tB tC tD tR tS e0 eP eb er ek es ed ec ew lk lf lo lv le eW et eh ei eu em false 1 ) lL_X7_fails lC_X7_125 rfl [] (List.Perm.refl _) (fun u => (WQ cI cJ cZ cII cZZ [] t0 t1 t2 t3 t4 t5 t6 t7 t8 t9 tA tB tC tD tR tS (if false = true then 1 else 0) eP eb er ek es ed ec ew lk lf lo lv le eW et eh ei eu em)) (fun _ => List.Perm.refl _) 0 rfl ⟨by decide, by decide⟩ 0 0 rfl rfl ⟨by decide, by decide⟩ rfl hl.1 rfl (Nat.le_of_ble_eq_true rfl) dX7_cut_38 (fun u H locs hq9 hZ => ?_)
          have hZ : zS D A s.heap H locs (WQ cI cJ cZ cII cZZ [] t0 t1 t2 t3 t4 t5 t6 t7 t8 t9 tA tB tC tD tR tS (if false = true then 1 else 0) eP eb er ek es ed ec ew lk lf lo lv le eW et eh ei eu em) := hZ
          refine W.eq (g2 := F0 mth 41 ls [.int (zB false)]) rfl ?_
          refine z_if_eq hx hb 45 dX7_cut_41 (by decide) (C := True) (by rw [zB_0]; simp) (fun h41 => ?_) (fun h41 => ?_)
          · skip
            refine lv_aload_n hx hb dX7_cut_45 rfl (lv_at hl 0 rfl) ?_
            refine lv_aload_n hx hb dX7_cut_46 rfl (lv_at hl 0 rfl) ?_
            refine z_get hE fF_X7_4 hZ 0 rfl (.int (zB ek)) rfl dX7_cut_47 ?_
            refine z_iconst hx hb (nI 2) dX7_cut_50 (by decide) ?_
            refine z_kVp (As := [.int (zB ek), .int (nI 2)]) (rest := []) hE hZ (c_X7_fails l D cI cJ cZ cII cZZ t0 t1 t2 t3 t4 t5 t6 t7 t8 t9 tA tB tC tD tR tS (if false = true then 1 else 0) eP eb er ek es ed ec ew lk lf lo lv le eW et eh ei eu em ek 2 ) lL_X7_fails lC_X7_125 rfl [] (List.Perm.refl _) (fun u => (WQ cI cJ cZ cII cZZ [] t0 t1 t2 t3 t4 t5 t6 t7 t8 t9 tA tB tC tD tR tS (if ek = true then 2 else 0) eP eb er ek es ed ec ew lk lf lo lv le eW et eh ei eu em)) (fun _ => List.Perm.refl _) 0 rfl ⟨by decide, by decide⟩ 0 0 rfl rfl ⟨by decide, by decide⟩ rfl hl.1 rfl (Nat.le_of_ble_eq_true rfl) dX7_cut_51 (fun u H locs hq9 hZ => ?_)
            have hZ : zS D A s.heap H locs (WQ cI cJ cZ cII cZZ [] t0 t1 t2 t3 t4 t5 t6 t7 t8 t9 tA tB tC tD tR tS (if ek = true then 2 else 0) eP eb er ek es ed ec ew lk lf lo lv le eW et eh ei eu em) := hZ
            refine W.eq (g2 := F0 mth 54 ls [.int (zB ek)]) rfl ?_
            refine z_if_eq hx hb 58 dX7_cut_54 (by decide) (C := ek = false) (zB_0 _) (fun h54 => ?_) (fun h54 => ?_)
            · skip
              have hbk : ek = false := by simpa using h54
              refine lv_aload_n hx hb dX7_cut_58 rfl (lv_at hl 0 rfl) ?_
              refine z_iconst hx hb (nI 1) dX7_cut_59 (by decide) ?_
              refine lv_iload_n hx hb dX7_cut_60 rfl (lv_at hl 1 rfl) ?_
              refine z_top (show zI f = nI f.toNat from zI_inN (by omega) (by omega)) ?_
              refine lv_iload_n hx hb dX7_cut_61 rfl (lv_at hl 2 rfl) ?_
              refine z_top (show zI n = nI n.toNat from zI_inN (by omega) (by omega)) ?_
              refine lv_lconst (v := 0) hx hb dX7_cut_62 (by decide) ?_
              refine z_kVp (As := [.int (nI 1), .int (nI f.toNat), .int (nI n.toNat), .long 0]) (rest := []) hE hZ (c_X7_change l D cI cJ cZ cII cZZ t0 t1 t2 t3 t4 t5 t6 t7 t8 t9 tA tB tC tD tR tS (if ek = true then 2 else 0) eP eb er ek es ed ec ew lk lf lo lv le eW et eh ei eu em B ro ih iN uv a 1 f.toNat n.toNat 0 (hP) (hA) (hN) (hM) (hLO) (hae) (hu) (by omega) (by
                      refine ⟨by omega, ?_, ?_⟩
                      · intro y; omega
                      · intro y; omega)) lL_X7_change lC_X7_129 rfl [] (List.Perm.refl _) (fun u => (WQ cI cJ cZ cII cZZ [] t0 t1 t2 t3 t4 t5 t6 t7 t8 t9 tA tB tC tD tR tS u.2.2.2.2.2.2.2.2.2.2.2.2.2.2.2.2 u.1 eb er ek u.2.1 u.2.2.1 u.2.2.2.1 u.2.2.2.2.1 u.2.2.2.2.2.1 u.2.2.2.2.2.2.1 u.2.2.2.2.2.2.2.1 u.2.2.2.2.2.2.2.2.1 u.2.2.2.2.2.2.2.2.2.1 u.2.2.2.2.2.2.2.2.2.2.1 u.2.2.2.2.2.2.2.2.2.2.2.1 u.2.2.2.2.2.2.2.2.2.2.2.2.1 u.2.2.2.2.2.2.2.2.2.2.2.2.2.1 u.2.2.2.2.2.2.2.2.2.2.2.2.2.2.1 u.2.2.2.2.2.2.2.2.2.2.2.2.2.2.2.1)) (fun _ => List.Perm.refl _) 0 rfl ⟨by decide, by decide⟩ 2 16 rfl rfl ⟨by decide, by decide⟩ rfl hl.1 rfl (Nat.le_of_ble_eq_true rfl) dX7_cut_63 (fun u H locs hq9 hZ => ?_)
              obtain ⟨eP1_63, es1_63, ed1_63, ec1_63, ew1_63, lk1_63, lf1_63, lo1_63, lv1_63, le1_63, eW1_63, et1_63, eh1_63, ei1_63, eu1_63, em1_63, e01_63⟩ := u
              have hq_63 := hq9
              have hq_63 : (e01_63 = 3 ∧ le = 40 ∧ fc uv 600 < (plY B ih uv a).1.length ∧ RT B ih lk lf lo lv le eW eP1_63 es1_63 ed1_63 ec1_63 ew1_63 lk1_63 lf1_63 lo1_63 lv1_63 le1_63 eW1_63) ∨ (e01_63 = 0 ∧ (le = 40 → (plY B ih uv a).1.length ≤ fc uv 600) ∧ RT (ptB B ih iN uv a le) (ptH B ih uv a le) (va_up lk (ptG le) 1) (va_up lf (ptG le) f.toNat) (va_up lo (ptG le) n.toNat) (va_up lv (ptG le) 0) (ptG le + 1) (ptC B ih iN uv a le eW) eP1_63 es1_63 ed1_63 ec1_63 ew1_63 lk1_63 lf1_63 lo1_63 lv1_63 le1_63 eW1_63) := hq_63
              have hZ : zS D A s.heap H locs (WQ cI cJ cZ cII cZZ [] t0 t1 t2 t3 t4 t5 t6 t7 t8 t9 tA tB tC tD tR tS e01_63 eP1_63 eb er ek es1_63 ed1_63 ec1_63 ew1_63 lk1_63 lf1_63 lo1_63 lv1_63 le1_63 eW1_63 et1_63 eh1_63 ei1_63 eu1_63 em1_63) := hZ
              refine W.eq (g2 := F0 mth 66 ls []) rfl ?_
              exact z_vret hE hrt9 hlocks hZ (eP1_63, es1_63, ed1_63, ec1_63, ew1_63, lk1_63, lf1_63, lo1_63, lv1_63, le1_63, eW1_63, et1_63, eh1_63, ei1_63, eu1_63, em1_63, e01_63) rfl (show ((e01_63 = 1 ∧ ¬ (0 ≤ f ∧ f < 32 ∧ 0 ≤ n ∧ n ≤ a.1 f.toNat) ∧ RT B ih lk lf lo lv le eW eP1_63 es1_63 ed1_63 ec1_63 ew1_63 lk1_63 lf1_63 lo1_63 lv1_63 le1_63 eW1_63) ∨ (e01_63 = 2 ∧ (0 ≤ f ∧ f < 32 ∧ 0 ≤ n ∧ n ≤ a.1 f.toNat) ∧ ek = true ∧ RT B ih lk lf lo lv le eW eP1_63 es1_63 ed1_63 ec1_63 ew1_63 lk1_63 lf1_63 lo1_63 lv1_63 le1_63 eW1_63) ∨ (e01_63 = 3 ∧ (0 ≤ f ∧ f < 32 ∧ 0 ≤ n ∧ n ≤ a.1 f.toNat) ∧ ek = false ∧ le = 40 ∧ fc uv 600 < (plY B ih uv a).1.length ∧ RT B ih lk lf lo lv le eW eP1_63 es1_63 ed1_63 ec1_63 ew1_63 lk1_63 lf1_63 lo1_63 lv1_63 le1_63 eW1_63) ∨ (e01_63 = 0 ∧ (0 ≤ f ∧ f < 32 ∧ 0 ≤ n ∧ n ≤ a.1 f.toNat) ∧ ek = false ∧ (le = 40 → (plY B ih uv a).1.length ≤ fc uv 600) ∧ RT (ptB B ih iN uv a le) (ptH B ih uv a le) (va_up lk (ptG le) 1) (va_up lf (ptG le) f.toNat) (va_up lo (ptG le) n.toNat) (va_up lv (ptG le) 0) (ptG le + 1) (ptC B ih iN uv a le eW) eP1_63 es1_63 ed1_63 ec1_63 ew1_63 lk1_63 lf1_63 lo1_63 lv1_63 le1_63 eW1_63)) from hq_63.elim (fun z => Or.inr (Or.inr (Or.inl ⟨z.1, hok, hbk, z.2⟩))) (fun z => Or.inr (Or.inr (Or.inr ⟨z.1, hok, hbk, z.2.1, z.2.2⟩)))) rfl dX7_cut_66 (Nat.le_of_ble_eq_true rfl) (Nat.le_of_ble_eq_true rfl)
            · skip
              have hbk : ek = true := by simpa using h54
              exact z_vret hE hrt9 hlocks hZ (eP, es, ed, ec, ew, lk, lf, lo, lv, le, eW, et, eh, ei, eu, em, (if ek = true then 2 else 0)) rfl (show (((if ek = true then 2 else 0) = 1 ∧ ¬ (0 ≤ f ∧ f < 32 ∧ 0 ≤ n ∧ n ≤ a.1 f.toNat) ∧ RT B ih lk lf lo lv le eW eP es ed ec ew lk lf lo lv le eW) ∨ ((if ek = true then 2 else 0) = 2 ∧ (0 ≤ f ∧ f < 32 ∧ 0 ≤ n ∧ n ≤ a.1 f.toNat) ∧ ek = true ∧ RT B ih lk lf lo lv le eW eP es ed ec ew lk lf lo lv le eW) ∨ ((if ek = true then 2 else 0) = 3 ∧ (0 ≤ f ∧ f < 32 ∧ 0 ≤ n ∧ n ≤ a.1 f.toNat) ∧ ek = false ∧ le = 40 ∧ fc uv 600 < (plY B ih uv a).1.length ∧ RT B ih lk lf lo lv le eW eP es ed ec ew lk lf lo lv le eW) ∨ ((if ek = true then 2 else 0) = 0 ∧ (0 ≤ f ∧ f < 32 ∧ 0 ≤ n ∧ n ≤ a.1 f.toNat) ∧ ek = false ∧ (le = 40 → (plY B ih uv a).1.length ≤ fc uv 600) ∧ RT (ptB B ih iN uv a le) (ptH B ih uv a le) (va_up lk (ptG le) 1) (va_up lf (ptG le) f.toNat) (va_up lo (ptG le) n.toNat) (va_up lv (ptG le) 0) (ptG le + 1) (ptC B ih iN uv a le eW) eP es ed ec ew lk lf lo lv le eW)) from Or.inr (Or.inl ⟨by rw [if_pos hbk], hok, hbk, ⟨hP, by rw [← hae]; exact hM, rfl, rfl, rfl, rfl, rfl, rfl⟩⟩)) rfl dX7_cut_57 (Nat.le_of_ble_eq_true rfl) (Nat.le_of_ble_eq_true rfl)
          · skip
            exact absurd trivial h41
        · skip
          have hnk : ¬ (0 ≤ f ∧ f < 32 ∧ 0 ≤ n ∧ n ≤ a.1 f.toNat) := by omega
          refine z_iconst hx hb (nI 1) dX7_cut_32 (by decide) ?_
          refine lv_goto (tgt := 37) hx hb dX7_cut_33 (by decide) ?_
          refine z_iconst hx hb (nI 1) dX7_cut_37 (by decide) ?_
          refine z_kVp (As := [.int (nI 1), .int (nI 1)]) (rest := []) hE hZ (c_X7_fails l D cI cJ cZ cII cZZ t0 t1 t2 t3 t4 t5 t6 t7 t8 t9 tA tB tC tD tR tS e0 eP eb er ek es ed ec ew lk lf lo lv le eW et eh ei eu em true 1 ) lL_X7_fails lC_X7_125 rfl [] (List.Perm.refl _) (fun u => (WQ cI cJ cZ cII cZZ [] t0 t1 t2 t3 t4 t5 t6 t7 t8 t9 tA tB tC tD tR tS (if true = true then 1 else 0) eP eb er ek es ed ec ew lk lf lo lv le eW et eh ei eu em)) (fun _ => List.Perm.refl _) 0 rfl ⟨by decide, by decide⟩ 0 0 rfl rfl ⟨by decide, by decide⟩ rfl hl.1 rfl (Nat.le_of_ble_eq_true rfl) dX7_cut_38 (fun u H locs hq9 hZ => ?_)
          have hZ : zS D A s.heap H locs (WQ cI cJ cZ cII cZZ [] t0 t1 t2 t3 t4 t5 t6 t7 t8 t9 tA tB tC tD tR tS (if true = true then 1 else 0) eP eb er ek es ed ec ew lk lf lo lv le eW et eh ei eu em) := hZ
          refine W.eq (g2 := F0 mth 41 ls [.int (zB true)]) rfl ?_
          refine z_if_eq hx hb 45 dX7_cut_41 (by decide) (C := False) (by rw [zB_0]; simp) (fun h41 => ?_) (fun h41 => ?_)
          · skip
            exact h41.elim
          · skip
            exact z_vret hE hrt9 hlocks hZ (eP, es, ed, ec, ew, lk, lf, lo, lv, le, eW, et, eh, ei, eu, em, (if true = true then 1 else 0)) rfl (show (((if true = true then 1 else 0) = 1 ∧ ¬ (0 ≤ f ∧ f < 32 ∧ 0 ≤ n ∧ n ≤ a.1 f.toNat) ∧ RT B ih lk lf lo lv le eW eP es ed ec ew lk lf lo lv le eW) ∨ ((if true = true then 1 else 0) = 2 ∧ (0 ≤ f ∧ f < 32 ∧ 0 ≤ n ∧ n ≤ a.1 f.toNat) ∧ ek = true ∧ RT B ih lk lf lo lv le eW eP es ed ec ew lk lf lo lv le eW) ∨ ((if true = true then 1 else 0) = 3 ∧ (0 ≤ f ∧ f < 32 ∧ 0 ≤ n ∧ n ≤ a.1 f.toNat) ∧ ek = false ∧ le = 40 ∧ fc uv 600 < (plY B ih uv a).1.length ∧ RT B ih lk lf lo lv le eW eP es ed ec ew lk lf lo lv le eW) ∨ ((if true = true then 1 else 0) = 0 ∧ (0 ≤ f ∧ f < 32 ∧ 0 ≤ n ∧ n ≤ a.1 f.toNat) ∧ ek = false ∧ (le = 40 → (plY B ih uv a).1.length ≤ fc uv 600) ∧ RT (ptB B ih iN uv a le) (ptH B ih uv a le) (va_up lk (ptG le) 1) (va_up lf (ptG le) f.toNat) (va_up lo (ptG le) n.toNat) (va_up lv (ptG le) 0) (ptG le + 1) (ptC B ih iN uv a le eW) eP es ed ec ew lk lf lo lv le eW)) from Or.inl ⟨rfl, hnk, ⟨hP, by rw [← hae]; exact hM, rfl, rfl, rfl, rfl, rfl, rfl⟩⟩) rfl dX7_cut_44 (Nat.le_of_ble_eq_true rfl) (Nat.le_of_ble_eq_true rfl)
set_option maxHeartbeats 1000000 in
set_option maxRecDepth 100000 in
theorem c_X7_remove (l : Launch) (D : va_G) (cI cJ cZ cII cZZ : ClassId) (t0 : Nat) (t1 : Nat) (t2 : Nat) (t3 : Nat) (t4 : Nat) (t5 : Nat) (t6 : Nat) (t7 : Nat) (t8 : Nat) (t9 : Nat) (tA : Nat) (tB : Nat) (tC : Nat) (tD : Nat) (tR : Nat → Nat) (tS : Nat → Nat) (e0 : Nat) (eP : Nat → Nat) (eb : Int) (er : Int) (ek : Bool) (es : Nat → Int) (ed : Nat → Nat → Nat) (ec : Nat → Bool) (ew : Nat → Nat → Bool) (lk : Nat → Nat) (lf : Nat → Nat) (lo : Nat → Nat) (lv : Nat → Int64) (le : Nat) (eW : Int) (et : Nat → Nat) (eh : Nat → Nat) (ei : Nat → Int) (eu : Nat → Bool) (em : Nat) (B : Nat → Int64) (ro : Nat → Nat) (ih : Nat → Nat) (iN : Nat) (uv : Nat → Bool) (a : aM) (f : Int) (f_q : Int32) (hP : RP B eP) (hA : AI B ro ih iN) (hN : iN + 1 < 2 ^ 31) (hM : RM es ed ew ec a) (hLO : LOK lk lf lo lv le (lodA B ih)) (hae : a = aRun lk lf lo lv (lodA B ih) le) (hu : ∀ p, p < 600 → (uv p = true ↔ UA B ih 12 p)) (hf : -2147483648 ≤ f ∧ f < 2147483648) (f_h : f_q = zI f) :
    zC l yX7_remove cX7_remove 2 none { frames := 6, cells := 2, slots := 16, locals := 141 } D (zT cI cJ cZ cII cZZ) [.ref t0, .int (f_q)] (WQ cI cJ cZ cII cZZ [] t0 t1 t2 t3 t4 t5 t6 t7 t8 t9 tA tB tC tD tR tS e0 eP eb er ek es ed ec ew lk lf lo lv le eW et eh ei eu em) (S := (Nat → Nat) × (Nat → Int) × (Nat → Nat → Nat) × (Nat → Bool) × (Nat → Nat → Bool) × (Nat → Nat) × (Nat → Nat) × (Nat → Nat) × (Nat → Int64) × Nat × Int × (Nat → Nat) × (Nat → Nat) × (Nat → Int) × (Nat → Bool) × Nat × Nat) (fun u => none) (fun u => ((u.2.2.2.2.2.2.2.2.2.2.2.2.2.2.2.2 = 1 ∧ ¬ (0 ≤ f ∧ f < 32 ∧ a.1 f.toNat ≠ -1) ∧ RT B ih lk lf lo lv le eW u.1 u.2.1 u.2.2.1 u.2.2.2.1 u.2.2.2.2.1 u.2.2.2.2.2.1 u.2.2.2.2.2.2.1 u.2.2.2.2.2.2.2.1 u.2.2.2.2.2.2.2.2.1 u.2.2.2.2.2.2.2.2.2.1 u.2.2.2.2.2.2.2.2.2.2.1) ∨ (u.2.2.2.2.2.2.2.2.2.2.2.2.2.2.2.2 = 2 ∧ (0 ≤ f ∧ f < 32 ∧ a.1 f.toNat ≠ -1) ∧ ek = true ∧ RT B ih lk lf lo lv le eW u.1 u.2.1 u.2.2.1 u.2.2.2.1 u.2.2.2.2.1 u.2.2.2.2.2.1 u.2.2.2.2.2.2.1 u.2.2.2.2.2.2.2.1 u.2.2.2.2.2.2.2.2.1 u.2.2.2.2.2.2.2.2.2.1 u.2.2.2.2.2.2.2.2.2.2.1) ∨ (u.2.2.2.2.2.2.2.2.2.2.2.2.2.2.2.2 = 3 ∧ (0 ≤ f ∧ f < 32 ∧ a.1 f.toNat ≠ -1) ∧ ek = false ∧ le = 40 ∧ fc uv 600 < (plY B ih uv a).1.length ∧ RT B ih lk lf lo lv le eW u.1 u.2.1 u.2.2.1 u.2.2.2.1 u.2.2.2.2.1 u.2.2.2.2.2.1 u.2.2.2.2.2.2.1 u.2.2.2.2.2.2.2.1 u.2.2.2.2.2.2.2.2.1 u.2.2.2.2.2.2.2.2.2.1 u.2.2.2.2.2.2.2.2.2.2.1) ∨ (u.2.2.2.2.2.2.2.2.2.2.2.2.2.2.2.2 = 0 ∧ (0 ≤ f ∧ f < 32 ∧ a.1 f.toNat ≠ -1) ∧ ek = false ∧ (le = 40 → (plY B ih uv a).1.length ≤ fc uv 600) ∧ RT (ptB B ih iN uv a le) (ptH B ih uv a le) (va_up lk (ptG le) 2) (va_up lf (ptG le) f.toNat) (va_up lo (ptG le) 0) (va_up lv (ptG le) 0) (ptG le + 1) (ptC B ih iN uv a le eW) u.1 u.2.1 u.2.2.1 u.2.2.2.1 u.2.2.2.2.1 u.2.2.2.2.2.1 u.2.2.2.2.2.2.1 u.2.2.2.2.2.2.2.1 u.2.2.2.2.2.2.2.2.1 u.2.2.2.2.2.2.2.2.2.1 u.2.2.2.2.2.2.2.2.2.2.1))) (fun u => (WQ cI cJ cZ cII cZZ [] t0 t1 t2 t3 t4 t5 t6 t7 t8 t9 tA tB tC tD tR tS u.2.2.2.2.2.2.2.2.2.2.2.2.2.2.2.2 u.1 eb er ek u.2.1 u.2.2.1 u.2.2.2.1 u.2.2.2.2.1 u.2.2.2.2.2.1 u.2.2.2.2.2.2.1 u.2.2.2.2.2.2.2.1 u.2.2.2.2.2.2.2.2.1 u.2.2.2.2.2.2.2.2.2.1 u.2.2.2.2.2.2.2.2.2.2.1 u.2.2.2.2.2.2.2.2.2.2.2.1 u.2.2.2.2.2.2.2.2.2.2.2.2.1 u.2.2.2.2.2.2.2.2.2.2.2.2.2.1 u.2.2.2.2.2.2.2.2.2.2.2.2.2.2.1 u.2.2.2.2.2.2.2.2.2.2.2.2.2.2.2.1)) := by
  refine zC_of (by decide) (Nat.le_of_ble_eq_true rfl) ?_
  intro prg env s mth below meth cde A ls hE hrt9 hlocks hnm hZ hl
  have hx := hE.1
  have hb := hE.2.1
  subst f_h
  have hl : lv_has ls 2 [(0, .ref t0), (1, .int (zI f))] := hl
  have hl40 := hLO.1
  have haw : AW B ih a := by rw [hae]; exact hA.aw hLO
  have hu0 : uv 0 = true := (hu 0 (by omega)).mpr (Or.inl rfl)
  refine lv_aload_n hx hb dX7_remove_0 rfl (lv_at hl 0 rfl) ?_
  refine lv_aload_n hx hb dX7_remove_1 rfl (lv_at hl 0 rfl) ?_
  refine lv_iload_n hx hb dX7_remove_2 rfl (lv_at hl 1 rfl) ?_
  refine z_kVp (As := [.int (zI f)]) (rest := [.ref t0]) hE hZ (c_X7_noFile l D cI cJ cZ cII cZZ t0 t1 t2 t3 t4 t5 t6 t7 t8 t9 tA tB tC tD tR tS e0 eP eb er ek es ed ec ew lk lf lo lv le eW et eh ei eu em f (zI f) (by first | assumption | omega) (rfl)) lL_X7_noFile lC_X7_122 rfl [] (List.Perm.refl _) (fun u => (WQ cI cJ cZ cII cZZ [] t0 t1 t2 t3 t4 t5 t6 t7 t8 t9 tA tB tC tD tR tS e0 eP eb er ek es ed ec ew lk lf lo lv le eW et eh ei eu em)) (fun _ => List.Perm.refl _) 0 rfl ⟨by decide, by decide⟩ 0 0 rfl rfl ⟨by decide, by decide⟩ rfl hl.1 rfl (Nat.le_of_ble_eq_true rfl) dX7_remove_3 (fun u H locs hq9 hZ => ?_)
  have hZ : zS D A s.heap H locs (WQ cI cJ cZ cII cZZ [] t0 t1 t2 t3 t4 t5 t6 t7 t8 t9 tA tB tC tD tR tS e0 eP eb er ek es ed ec ew lk lf lo lv le eW et eh ei eu em) := hZ
  refine W.eq (g2 := F0 mth 6 ls [.int (zB (decide (¬ (0 ≤ f ∧ f < 32)))), .ref t0]) rfl ?_
  refine z_if_ne hx hb 18 dX7_remove_6 (by decide) (C := (decide (¬ (0 ≤ f ∧ f < 32))) = false) (zB_0 _) (fun h6 => ?_) (fun h6 => ?_)
  · skip
    have hnk : ¬ (0 ≤ f ∧ f < 32 ∧ a.1 f.toNat ≠ -1) := by
            have z : ¬ (0 ≤ f ∧ f < 32) := by simpa using h6
            exact fun y => z ⟨y.1, y.2.1⟩
    refine z_iconst hx hb (nI 1) dX7_remove_18 (by decide) ?_
    refine lv_goto (tgt := 23) hx hb dX7_remove_19 (by decide) ?_
    refine z_iconst hx hb (nI 1) dX7_remove_23 (by decide) ?_
    refine z_kVp (As := [.int (nI 1), .int (nI 1)]) (rest := []) hE hZ (c_X7_fails l D cI cJ cZ cII cZZ t0 t1 t2 t3 t4 t5 t6 t7 t8 t9 tA tB tC tD tR tS e0 eP eb er ek es ed ec ew lk lf lo lv le eW et eh ei eu em true 1 ) lL_X7_fails lC_X7_125 rfl [] (List.Perm.refl _) (fun u => (WQ cI cJ cZ cII cZZ [] t0 t1 t2 t3 t4 t5 t6 t7 t8 t9 tA tB tC tD tR tS (if true = true then 1 else 0) eP eb er ek es ed ec ew lk lf lo lv le eW et eh ei eu em)) (fun _ => List.Perm.refl _) 0 rfl ⟨by decide, by decide⟩ 0 0 rfl rfl ⟨by decide, by decide⟩ rfl hl.1 rfl (Nat.le_of_ble_eq_true rfl) dX7_remove_24 (fun u H locs hq9 hZ => ?_)
    have hZ : zS D A s.heap H locs (WQ cI cJ cZ cII cZZ [] t0 t1 t2 t3 t4 t5 t6 t7 t8 t9 tA tB tC tD tR tS (if true = true then 1 else 0) eP eb er ek es ed ec ew lk lf lo lv le eW et eh ei eu em) := hZ
    refine W.eq (g2 := F0 mth 27 ls [.int (zB true)]) rfl ?_
    refine z_if_eq hx hb 31 dX7_remove_27 (by decide) (C := False) (by rw [zB_0]; simp) (fun h27 => ?_) (fun h27 => ?_)
    · skip
      exact h27.elim
    · skip
      exact z_vret hE hrt9 hlocks hZ (eP, es, ed, ec, ew, lk, lf, lo, lv, le, eW, et, eh, ei, eu, em, (if true = true then 1 else 0)) rfl (show (((if true = true then 1 else 0) = 1 ∧ ¬ (0 ≤ f ∧ f < 32 ∧ a.1 f.toNat ≠ -1) ∧ RT B ih lk lf lo lv le eW eP es ed ec ew lk lf lo lv le eW) ∨ ((if true = true then 1 else 0) = 2 ∧ (0 ≤ f ∧ f < 32 ∧ a.1 f.toNat ≠ -1) ∧ ek = true ∧ RT B ih lk lf lo lv le eW eP es ed ec ew lk lf lo lv le eW) ∨ ((if true = true then 1 else 0) = 3 ∧ (0 ≤ f ∧ f < 32 ∧ a.1 f.toNat ≠ -1) ∧ ek = false ∧ le = 40 ∧ fc uv 600 < (plY B ih uv a).1.length ∧ RT B ih lk lf lo lv le eW eP es ed ec ew lk lf lo lv le eW) ∨ ((if true = true then 1 else 0) = 0 ∧ (0 ≤ f ∧ f < 32 ∧ a.1 f.toNat ≠ -1) ∧ ek = false ∧ (le = 40 → (plY B ih uv a).1.length ≤ fc uv 600) ∧ RT (ptB B ih iN uv a le) (ptH B ih uv a le) (va_up lk (ptG le) 2) (va_up lf (ptG le) f.toNat) (va_up lo (ptG le) 0) (va_up lv (ptG le) 0) (ptG le + 1) (ptC B ih iN uv a le eW) eP es ed ec ew lk lf lo lv le eW)) from Or.inl ⟨rfl, hnk, ⟨hP, by rw [← hae]; exact hM, rfl, rfl, rfl, rfl, rfl, rfl⟩⟩) rfl dX7_remove_30 (Nat.le_of_ble_eq_true rfl) (Nat.le_of_ble_eq_true rfl)
  · skip
    have hff : 0 ≤ f ∧ f < 32 := by simpa using h6
    have hef := hM.1 f.toNat (by omega)
    have hbf := haw.1.1 f.toNat (by omega)
    refine lv_aload_n hx hb dX7_remove_9 rfl (lv_at hl 0 rfl) ?_
    refine z_get hE fF_X7_5 hZ 0 rfl (.ref t2) rfl dX7_remove_10 ?_
    refine lv_iload_n hx hb dX7_remove_13 rfl (lv_at hl 1 rfl) ?_
    refine z_top (show zI f = nI f.toNat from zI_inN (by omega) (by omega)) ?_
    refine z_iald hE hZ 2 0 rfl rfl (by decide) (by omega) dX7_remove_14 ?_
    refine z_if_ge hx hb 22 dX7_remove_15 (by decide) (C := 0 ≤ es f.toNat) (zI_ge0 ⟨by omega, by omega⟩) (fun h15 => ?_) (fun h15 => ?_)
    · skip
      have hok : 0 ≤ f ∧ f < 32 ∧ a.1 f.toNat ≠ -1 := by omega
      refine z_iconst hx hb (nI 0) dX7_remove_22 (by decide) ?_
      refine z_iconst hx hb (nI 1) dX7_remove_23 (by decide) ?_
      refine z_kVp (As := [.int (nI 0), .int (nI 1)]) (rest := []) hE hZ (c_X7_fails l D cI cJ cZ cII cZZ t0 t1 t2 t3 t4 t5 t6 t7 t8 t9 tA tB tC tD tR tS e0 eP eb er ek es ed ec ew lk lf lo lv le eW et eh ei eu em false 1 ) lL_X7_fails lC_X7_125 rfl [] (List.Perm.refl _) (fun u => (WQ cI cJ cZ cII cZZ [] t0 t1 t2 t3 t4 t5 t6 t7 t8 t9 tA tB tC tD tR tS (if false = true then 1 else 0) eP eb er ek es ed ec ew lk lf lo lv le eW et eh ei eu em)) (fun _ => List.Perm.refl _) 0 rfl ⟨by decide, by decide⟩ 0 0 rfl rfl ⟨by decide, by decide⟩ rfl hl.1 rfl (Nat.le_of_ble_eq_true rfl) dX7_remove_24 (fun u H locs hq9 hZ => ?_)
      have hZ : zS D A s.heap H locs (WQ cI cJ cZ cII cZZ [] t0 t1 t2 t3 t4 t5 t6 t7 t8 t9 tA tB tC tD tR tS (if false = true then 1 else 0) eP eb er ek es ed ec ew lk lf lo lv le eW et eh ei eu em) := hZ
      refine W.eq (g2 := F0 mth 27 ls [.int (zB false)]) rfl ?_
      refine z_if_eq hx hb 31 dX7_remove_27 (by decide) (C := True) (by rw [zB_0]; simp) (fun h27 => ?_) (fun h27 => ?_)
      · skip
        refine lv_aload_n hx hb dX7_remove_31 rfl (lv_at hl 0 rfl) ?_
        refine lv_aload_n hx hb dX7_remove_32 rfl (lv_at hl 0 rfl) ?_
        refine z_get hE fF_X7_4 hZ 0 rfl (.int (zB ek)) rfl dX7_remove_33 ?_
        refine z_iconst hx hb (nI 2) dX7_remove_36 (by decide) ?_
        refine z_kVp (As := [.int (zB ek), .int (nI 2)]) (rest := []) hE hZ (c_X7_fails l D cI cJ cZ cII cZZ t0 t1 t2 t3 t4 t5 t6 t7 t8 t9 tA tB tC tD tR tS (if false = true then 1 else 0) eP eb er ek es ed ec ew lk lf lo lv le eW et eh ei eu em ek 2 ) lL_X7_fails lC_X7_125 rfl [] (List.Perm.refl _) (fun u => (WQ cI cJ cZ cII cZZ [] t0 t1 t2 t3 t4 t5 t6 t7 t8 t9 tA tB tC tD tR tS (if ek = true then 2 else 0) eP eb er ek es ed ec ew lk lf lo lv le eW et eh ei eu em)) (fun _ => List.Perm.refl _) 0 rfl ⟨by decide, by decide⟩ 0 0 rfl rfl ⟨by decide, by decide⟩ rfl hl.1 rfl (Nat.le_of_ble_eq_true rfl) dX7_remove_37 (fun u H locs hq9 hZ => ?_)
        have hZ : zS D A s.heap H locs (WQ cI cJ cZ cII cZZ [] t0 t1 t2 t3 t4 t5 t6 t7 t8 t9 tA tB tC tD tR tS (if ek = true then 2 else 0) eP eb er ek es ed ec ew lk lf lo lv le eW et eh ei eu em) := hZ
        refine W.eq (g2 := F0 mth 40 ls [.int (zB ek)]) rfl ?_
        refine z_if_eq hx hb 44 dX7_remove_40 (by decide) (C := ek = false) (zB_0 _) (fun h40 => ?_) (fun h40 => ?_)
        · skip
          have hbk : ek = false := by simpa using h40
          refine lv_aload_n hx hb dX7_remove_44 rfl (lv_at hl 0 rfl) ?_
          refine z_iconst hx hb (nI 2) dX7_remove_45 (by decide) ?_
          refine lv_iload_n hx hb dX7_remove_46 rfl (lv_at hl 1 rfl) ?_
          refine z_top (show zI f = nI f.toNat from zI_inN (by omega) (by omega)) ?_
          refine z_iconst hx hb (nI 0) dX7_remove_47 (by decide) ?_
          refine lv_lconst (v := 0) hx hb dX7_remove_48 (by decide) ?_
          refine z_kVp (As := [.int (nI 2), .int (nI f.toNat), .int (nI 0), .long 0]) (rest := []) hE hZ (c_X7_change l D cI cJ cZ cII cZZ t0 t1 t2 t3 t4 t5 t6 t7 t8 t9 tA tB tC tD tR tS (if ek = true then 2 else 0) eP eb er ek es ed ec ew lk lf lo lv le eW et eh ei eu em B ro ih iN uv a 2 f.toNat 0 0 (hP) (hA) (hN) (hM) (hLO) (hae) (hu) (by omega) (by
                  refine ⟨by omega, ?_, ?_⟩
                  · intro y; omega
                  · intro y; omega)) lL_X7_change lC_X7_129 rfl [] (List.Perm.refl _) (fun u => (WQ cI cJ cZ cII cZZ [] t0 t1 t2 t3 t4 t5 t6 t7 t8 t9 tA tB tC tD tR tS u.2.2.2.2.2.2.2.2.2.2.2.2.2.2.2.2 u.1 eb er ek u.2.1 u.2.2.1 u.2.2.2.1 u.2.2.2.2.1 u.2.2.2.2.2.1 u.2.2.2.2.2.2.1 u.2.2.2.2.2.2.2.1 u.2.2.2.2.2.2.2.2.1 u.2.2.2.2.2.2.2.2.2.1 u.2.2.2.2.2.2.2.2.2.2.1 u.2.2.2.2.2.2.2.2.2.2.2.1 u.2.2.2.2.2.2.2.2.2.2.2.2.1 u.2.2.2.2.2.2.2.2.2.2.2.2.2.1 u.2.2.2.2.2.2.2.2.2.2.2.2.2.2.1 u.2.2.2.2.2.2.2.2.2.2.2.2.2.2.2.1)) (fun _ => List.Perm.refl _) 0 rfl ⟨by decide, by decide⟩ 2 16 rfl rfl ⟨by decide, by decide⟩ rfl hl.1 rfl (Nat.le_of_ble_eq_true rfl) dX7_remove_49 (fun u H locs hq9 hZ => ?_)
          obtain ⟨eP1_49, es1_49, ed1_49, ec1_49, ew1_49, lk1_49, lf1_49, lo1_49, lv1_49, le1_49, eW1_49, et1_49, eh1_49, ei1_49, eu1_49, em1_49, e01_49⟩ := u
          have hq_49 := hq9
          have hq_49 : (e01_49 = 3 ∧ le = 40 ∧ fc uv 600 < (plY B ih uv a).1.length ∧ RT B ih lk lf lo lv le eW eP1_49 es1_49 ed1_49 ec1_49 ew1_49 lk1_49 lf1_49 lo1_49 lv1_49 le1_49 eW1_49) ∨ (e01_49 = 0 ∧ (le = 40 → (plY B ih uv a).1.length ≤ fc uv 600) ∧ RT (ptB B ih iN uv a le) (ptH B ih uv a le) (va_up lk (ptG le) 2) (va_up lf (ptG le) f.toNat) (va_up lo (ptG le) 0) (va_up lv (ptG le) 0) (ptG le + 1) (ptC B ih iN uv a le eW) eP1_49 es1_49 ed1_49 ec1_49 ew1_49 lk1_49 lf1_49 lo1_49 lv1_49 le1_49 eW1_49) := hq_49
          have hZ : zS D A s.heap H locs (WQ cI cJ cZ cII cZZ [] t0 t1 t2 t3 t4 t5 t6 t7 t8 t9 tA tB tC tD tR tS e01_49 eP1_49 eb er ek es1_49 ed1_49 ec1_49 ew1_49 lk1_49 lf1_49 lo1_49 lv1_49 le1_49 eW1_49 et1_49 eh1_49 ei1_49 eu1_49 em1_49) := hZ
          refine W.eq (g2 := F0 mth 52 ls []) rfl ?_
          exact z_vret hE hrt9 hlocks hZ (eP1_49, es1_49, ed1_49, ec1_49, ew1_49, lk1_49, lf1_49, lo1_49, lv1_49, le1_49, eW1_49, et1_49, eh1_49, ei1_49, eu1_49, em1_49, e01_49) rfl (show ((e01_49 = 1 ∧ ¬ (0 ≤ f ∧ f < 32 ∧ a.1 f.toNat ≠ -1) ∧ RT B ih lk lf lo lv le eW eP1_49 es1_49 ed1_49 ec1_49 ew1_49 lk1_49 lf1_49 lo1_49 lv1_49 le1_49 eW1_49) ∨ (e01_49 = 2 ∧ (0 ≤ f ∧ f < 32 ∧ a.1 f.toNat ≠ -1) ∧ ek = true ∧ RT B ih lk lf lo lv le eW eP1_49 es1_49 ed1_49 ec1_49 ew1_49 lk1_49 lf1_49 lo1_49 lv1_49 le1_49 eW1_49) ∨ (e01_49 = 3 ∧ (0 ≤ f ∧ f < 32 ∧ a.1 f.toNat ≠ -1) ∧ ek = false ∧ le = 40 ∧ fc uv 600 < (plY B ih uv a).1.length ∧ RT B ih lk lf lo lv le eW eP1_49 es1_49 ed1_49 ec1_49 ew1_49 lk1_49 lf1_49 lo1_49 lv1_49 le1_49 eW1_49) ∨ (e01_49 = 0 ∧ (0 ≤ f ∧ f < 32 ∧ a.1 f.toNat ≠ -1) ∧ ek = false ∧ (le = 40 → (plY B ih uv a).1.length ≤ fc uv 600) ∧ RT (ptB B ih iN uv a le) (ptH B ih uv a le) (va_up lk (ptG le) 2) (va_up lf (ptG le) f.toNat) (va_up lo (ptG le) 0) (va_up lv (ptG le) 0) (ptG le + 1) (ptC B ih iN uv a le eW) eP1_49 es1_49 ed1_49 ec1_49 ew1_49 lk1_49 lf1_49 lo1_49 lv1_49 le1_49 eW1_49)) from hq_49.elim (fun z => Or.inr (Or.inr (Or.inl ⟨z.1, hok, hbk, z.2⟩))) (fun z => Or.inr (Or.inr (Or.inr ⟨z.1, hok, hbk, z.2.1, z.2.2⟩)))) rfl dX7_remove_52 (Nat.le_of_ble_eq_true rfl) (Nat.le_of_ble_eq_true rfl)
        · skip
          have hbk : ek = true := by simpa using h40
          exact z_vret hE hrt9 hlocks hZ (eP, es, ed, ec, ew, lk, lf, lo, lv, le, eW, et, eh, ei, eu, em, (if ek = true then 2 else 0)) rfl (show (((if ek = true then 2 else 0) = 1 ∧ ¬ (0 ≤ f ∧ f < 32 ∧ a.1 f.toNat ≠ -1) ∧ RT B ih lk lf lo lv le eW eP es ed ec ew lk lf lo lv le eW) ∨ ((if ek = true then 2 else 0) = 2 ∧ (0 ≤ f ∧ f < 32 ∧ a.1 f.toNat ≠ -1) ∧ ek = true ∧ RT B ih lk lf lo lv le eW eP es ed ec ew lk lf lo lv le eW) ∨ ((if ek = true then 2 else 0) = 3 ∧ (0 ≤ f ∧ f < 32 ∧ a.1 f.toNat ≠ -1) ∧ ek = false ∧ le = 40 ∧ fc uv 600 < (plY B ih uv a).1.length ∧ RT B ih lk lf lo lv le eW eP es ed ec ew lk lf lo lv le eW) ∨ ((if ek = true then 2 else 0) = 0 ∧ (0 ≤ f ∧ f < 32 ∧ a.1 f.toNat ≠ -1) ∧ ek = false ∧ (le = 40 → (plY B ih uv a).1.length ≤ fc uv 600) ∧ RT (ptB B ih iN uv a le) (ptH B ih uv a le) (va_up lk (ptG le) 2) (va_up lf (ptG le) f.toNat) (va_up lo (ptG le) 0) (va_up lv (ptG le) 0) (ptG le + 1) (ptC B ih iN uv a le eW) eP es ed ec ew lk lf lo lv le eW)) from Or.inr (Or.inl ⟨by rw [if_pos hbk], hok, hbk, ⟨hP, by rw [← hae]; exact hM, rfl, rfl, rfl, rfl, rfl, rfl⟩⟩)) rfl dX7_remove_43 (Nat.le_of_ble_eq_true rfl) (Nat.le_of_ble_eq_true rfl)
      · skip
        exact absurd trivial h27
    · skip
      have hnk : ¬ (0 ≤ f ∧ f < 32 ∧ a.1 f.toNat ≠ -1) := by omega
      refine z_iconst hx hb (nI 1) dX7_remove_18 (by decide) ?_
      refine lv_goto (tgt := 23) hx hb dX7_remove_19 (by decide) ?_
      refine z_iconst hx hb (nI 1) dX7_remove_23 (by decide) ?_
      refine z_kVp (As := [.int (nI 1), .int (nI 1)]) (rest := []) hE hZ (c_X7_fails l D cI cJ cZ cII cZZ t0 t1 t2 t3 t4 t5 t6 t7 t8 t9 tA tB tC tD tR tS e0 eP eb er ek es ed ec ew lk lf lo lv le eW et eh ei eu em true 1 ) lL_X7_fails lC_X7_125 rfl [] (List.Perm.refl _) (fun u => (WQ cI cJ cZ cII cZZ [] t0 t1 t2 t3 t4 t5 t6 t7 t8 t9 tA tB tC tD tR tS (if true = true then 1 else 0) eP eb er ek es ed ec ew lk lf lo lv le eW et eh ei eu em)) (fun _ => List.Perm.refl _) 0 rfl ⟨by decide, by decide⟩ 0 0 rfl rfl ⟨by decide, by decide⟩ rfl hl.1 rfl (Nat.le_of_ble_eq_true rfl) dX7_remove_24 (fun u H locs hq9 hZ => ?_)
      have hZ : zS D A s.heap H locs (WQ cI cJ cZ cII cZZ [] t0 t1 t2 t3 t4 t5 t6 t7 t8 t9 tA tB tC tD tR tS (if true = true then 1 else 0) eP eb er ek es ed ec ew lk lf lo lv le eW et eh ei eu em) := hZ
      refine W.eq (g2 := F0 mth 27 ls [.int (zB true)]) rfl ?_
      refine z_if_eq hx hb 31 dX7_remove_27 (by decide) (C := False) (by rw [zB_0]; simp) (fun h27 => ?_) (fun h27 => ?_)
      · skip
        exact h27.elim
      · skip
        exact z_vret hE hrt9 hlocks hZ (eP, es, ed, ec, ew, lk, lf, lo, lv, le, eW, et, eh, ei, eu, em, (if true = true then 1 else 0)) rfl (show (((if true = true then 1 else 0) = 1 ∧ ¬ (0 ≤ f ∧ f < 32 ∧ a.1 f.toNat ≠ -1) ∧ RT B ih lk lf lo lv le eW eP es ed ec ew lk lf lo lv le eW) ∨ ((if true = true then 1 else 0) = 2 ∧ (0 ≤ f ∧ f < 32 ∧ a.1 f.toNat ≠ -1) ∧ ek = true ∧ RT B ih lk lf lo lv le eW eP es ed ec ew lk lf lo lv le eW) ∨ ((if true = true then 1 else 0) = 3 ∧ (0 ≤ f ∧ f < 32 ∧ a.1 f.toNat ≠ -1) ∧ ek = false ∧ le = 40 ∧ fc uv 600 < (plY B ih uv a).1.length ∧ RT B ih lk lf lo lv le eW eP es ed ec ew lk lf lo lv le eW) ∨ ((if true = true then 1 else 0) = 0 ∧ (0 ≤ f ∧ f < 32 ∧ a.1 f.toNat ≠ -1) ∧ ek = false ∧ (le = 40 → (plY B ih uv a).1.length ≤ fc uv 600) ∧ RT (ptB B ih iN uv a le) (ptH B ih uv a le) (va_up lk (ptG le) 2) (va_up lf (ptG le) f.toNat) (va_up lo (ptG le) 0) (va_up lv (ptG le) 0) (ptG le + 1) (ptC B ih iN uv a le eW) eP es ed ec ew lk lf lo lv le eW)) from Or.inl ⟨rfl, hnk, ⟨hP, by rw [← hae]; exact hM, rfl, rfl, rfl, rfl, rfl, rfl⟩⟩) rfl dX7_remove_30 (Nat.le_of_ble_eq_true rfl) (Nat.le_of_ble_eq_true rfl)
