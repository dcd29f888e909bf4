theorem lw_up {D : va_G} {cI cJ cZ cII cZZ : ClassId} {A : Nat → Prop} {H0 : Heap} {b i n : Nat} {H : Heap} {locs : List Loc} {ls : Array Slot} (h : LWI D cI cJ cZ cII cZZ A H0 b i n H locs ls) : LWI D cI cJ cZ cII cZZ A H0 b i (n + 1) H locs ls := by
  refine h _ (fun r0 rl d0 d1 d2 dw du dn df db dc i0 i1 iN ih p0 p1 pu pf pl m0 m1 m2 m3 m4 m5 ms mw mi mp mb mc g0 g1 g2 g3 g4 gk gf go gv gl k0 k1 kw o0 ov t0 t1 t2 t3 t4 t5 t6 t7 t8 t9 tA tB tC tD tR tS e0 eP er es ed ec ew et eh ei eu em hZ hl hLI => ?_)
  obtain ⟨B, ro, h1, h2, h3, h4, h5⟩ := hLI
  exact LWI.mk hZ hl ⟨B, ro, h1, h2, h3, h4, by omega⟩
set_option maxHeartbeats 1000000 in
set_option maxRecDepth 100000 in
theorem lw_loop {prg : Program} {l : Launch} {env : Env} {s : State} {mth : MethodId} {below : List Frame} {meth : Method} {cde : Code} {D : va_G} {cI cJ cZ cII cZZ : ClassId} {A : Nat → Prop} {sa : Nat → Nat} {b L : Nat} {xs : Nat → Int32} (h0 : LWE prg l s mth meth cde D cI cJ cZ cII cZZ A sa b L xs) (hAq : ∀ q, A q → s.heap.size ≤ q) (hr : meth.sig.returnType = ret) (hlocks : meth.locks = false) (hL : L ≤ 2560) :
    ∀ (N i n : Nat) (H : Heap) (locs : List Loc) (ls : Array Slot), L < i + 5 * (N + 1) → n + N ≤ 512 → i ≤ L + 5 → LWI D cI cJ cZ cII cZZ A s.heap b i n H locs ls → W prg l env room_1 s mth #[Value.ref b] below meth cde H locs (100 + 4 * n) (60872 + 32 * n) (lw_Z below #[Value.ref b] s) (F0 mth 23 ls []) := by
  intro N
  induction N with
  | zero =>
    intro i n H locs ls hN hn hi I
    obtain ⟨hE, hX, hbl, hbA, hTh, hNc, hO, hlt⟩ := id h0
    have hx := hE.1
    have hb := hE.2.1
    refine I _ (fun r0 rl d0 d1 d2 dw du dn df db dc i0 i1 iN ih p0 p1 pu pf pl m0 m1 m2 m3 m4 m5 ms mw mi mp mb mc g0 g1 g2 g3 g4 gk gf go gv gl k0 k1 kw o0 ov t0 t1 t2 t3 t4 t5 t6 t7 t8 t9 tA tB tC tD tR tS e0 eP er es ed ec ew et eh ei eu em hZ hl hLI => ?_)
    refine lv_iload hx hb dL_law_23 (lv_at hl 4 rfl) ?_
    refine lv_aload_n hx hb dL_law_25 rfl (lv_at hl 0 rfl) ?_
    refine va_slen hE.1 hE.2.1 hX hbl hbA hZ.2.2.1 dL_law_26 ?_
    refine z_iconst hx hb (nI 5) dL_law_27 (by decide) ?_
    refine z_isub hx hb dL_law_28 (z := zI ((L : Int) - 5)) (show nI L - nI 5 = _ from by simp only [zI_n]; exact zI_sub _ _) ?_
    refine z_icmp_gt hx hb 931 dL_law_29 (by decide) (C := ((L : Int) - 5 < (i : Int))) (by simp only [zI_n]; exact zI_lt ⟨by omega, by omega⟩ ⟨by omega, by omega⟩) (fun h29 => ?_) (fun h29 => ?_)
    · refine lv_iconst (v := 1) hx hb dL_law_931 (by decide) ?_
      refine va_forget (fun q hq => hAq _ (hZ.2.2.1.2.2 q hq)) ?_
      refine W.widen (k := 601024) (n := 7293034) (by omega) (by omega) ?_
      exact lw_ret hx hb hr hlocks dL_law_932
    · exact absurd (by omega) h29
  | succ N IHN =>
    intro i n H locs ls hN hn hi I
    obtain ⟨hE, hX, hbl, hbA, hTh, hNc, hO, hlt⟩ := id h0
    have hx := hE.1
    have hb := hE.2.1
    refine I _ (fun r0 rl d0 d1 d2 dw du dn df db dc i0 i1 iN ih p0 p1 pu pf pl m0 m1 m2 m3 m4 m5 ms mw mi mp mb mc g0 g1 g2 g3 g4 gk gf go gv gl k0 k1 kw o0 ov t0 t1 t2 t3 t4 t5 t6 t7 t8 t9 tA tB tC tD tR tS e0 eP er es ed ec ew et eh ei eu em hZ hl hLI => ?_)
    refine lv_iload hx hb dL_law_23 (lv_at hl 4 rfl) ?_
    refine lv_aload_n hx hb dL_law_25 rfl (lv_at hl 0 rfl) ?_
    refine va_slen hE.1 hE.2.1 hX hbl hbA hZ.2.2.1 dL_law_26 ?_
    refine z_iconst hx hb (nI 5) dL_law_27 (by decide) ?_
    refine z_isub hx hb dL_law_28 (z := zI ((L : Int) - 5)) (show nI L - nI 5 = _ from by simp only [zI_n]; exact zI_sub _ _) ?_
    refine z_icmp_gt hx hb 931 dL_law_29 (by decide) (C := ((L : Int) - 5 < (i : Int))) (by simp only [zI_n]; exact zI_lt ⟨by omega, by omega⟩ ⟨by omega, by omega⟩) (fun h29 => ?_) (fun h29 => ?_)
    · refine lv_iconst (v := 1) hx hb dL_law_931 (by decide) ?_
      refine va_forget (fun q hq => hAq _ (hZ.2.2.1.2.2 q hq)) ?_
      refine W.widen (k := 601024) (n := 7293034) (by omega) (by omega) ?_
      exact lw_ret hx hb hr hlocks dL_law_932
    · have hi5 : i + 5 ≤ L := by omega
      have K : ∀ (H1 : Heap) (locs1 : List Loc) (ls1 : Array Slot), LWI D cI cJ cZ cII cZZ A s.heap b i (n + 1) H1 locs1 ls1 → W prg l env room_1 s mth #[Value.ref b] below meth cde H1 locs1 (100 + 4 * n + 4) (60872 + 32 * n + 32) (lw_Z below #[Value.ref b] s) (F0 mth 925 ls1 []) := by
        intro H1 locs1 ls1 I1
        refine I1 _ (fun r0 rl d0 d1 d2 dw du dn df db dc i0 i1 iN ih p0 p1 pu pf pl m0 m1 m2 m3 m4 m5 ms mw mi mp mb mc g0 g1 g2 g3 g4 gk gf go gv gl k0 k1 kw o0 ov t0 t1 t2 t3 t4 t5 t6 t7 t8 t9 tA tB tC tD tR tS e0 eP er es ed ec ew et eh ei eu em hZ hl hLI => ?_)
        refine lv_iinc (v := nI (i + 5)) (lv' := [(4, .int (nI (i + 5))), (0, .ref b), (1, .ref r0), (2, .ref t0), (3, .ref o0)]) hx hb dL_law_925 hl (k := 4) rfl (nI_add _ _) (by decide) rfl (fun ls hl => ?_)
        refine lv_goto (tgt := 23) hx hb dL_law_928 (by decide) ?_
        have z := IHN (i + 5) (n + 1) H1 locs1 ls (by omega) (by omega) (by omega) (LWI.mk hZ (lv_sub hl [1, 2, 3, 4, 0] rfl) hLI)
        rw [show 100 + 4 * (n + 1) = 100 + 4 * n + 4 by omega, show 60872 + 32 * (n + 1) = 60872 + 32 * n + 32 by omega] at z
        exact z
      refine lv_aload_n hx hb dL_law_32 rfl (lv_at hl 0 rfl) ?_
      refine lv_iload hx hb dL_law_33 (lv_at hl 4 rfl) ?_
      refine va_sld hE.1 hE.2.1 hX hbl hbA hZ.2.2.1 (vp_in_nI (show i < L by omega) (by omega)) dL_law_35 ?_
      refine z_bipush hx hb (nI 15) dL_law_36 (by decide) ?_
      refine lv_iand hx hb dL_law_38 ?_
      refine z_top (show xs (nI i).toNatClampNeg &&& nI 15 = nI ((xs i).toBitVec.toNat % 16) from by rw [nI_clamp (by omega)]; exact pk_and _ 4 (by decide)) ?_
      have hm := Nat.mod_lt (xs i).toBitVec.toNat (show 16 > 0 by decide)
      generalize (xs i).toBitVec.toNat % 16 = w at hm ⊢
      have htS : (nI w).toInt = (w : Int) := by rw [zI_n, zI_toInt ⟨by omega, by omega⟩]
      rcases (show 14 < w ∨ w = 0 ∨ w = 1 ∨ w = 2 ∨ w = 3 ∨ w = 4 ∨ w = 5 ∨ w = 6 ∨ w = 7 ∨ w = 8 ∨ w = 9 ∨ w = 10 ∨ w = 11 ∨ w = 12 ∨ w = 13 ∨ w = 14 by omega) with hS | hS | hS | hS | hS | hS | hS | hS | hS | hS | hS | hS | hS | hS | hS | hS
      · refine lv_tableOut (tgt := 925) hx hb dL_law_39 (by rw [htS]; omega) (by decide) ?_
        exact W.widen (by omega) (by omega) (K _ _ _ (lw_up I))
      · refine lv_tableIn (off := 73) (tgt := 112) hx hb dL_law_39 (by rw [htS]; omega) (by rw [htS]; omega) (by rw [htS, hS]; rfl) (by decide) ?_
        exact lw_c112 h0 hi5 hL (by omega) (by omega) (by omega) I K
      · refine lv_tableIn (off := 84) (tgt := 123) hx hb dL_law_39 (by rw [htS]; omega) (by rw [htS]; omega) (by rw [htS, hS]; rfl) (by decide) ?_
        exact lw_c123 h0 hi5 hL (by omega) (by omega) (by omega) I K
      · refine lv_tableIn (off := 196) (tgt := 235) hx hb dL_law_39 (by rw [htS]; omega) (by rw [htS]; omega) (by rw [htS, hS]; rfl) (by decide) ?_
        exact lw_c235 h0 hi5 hL (by omega) (by omega) (by omega) I K
      · refine lv_tableIn (off := 244) (tgt := 283) hx hb dL_law_39 (by rw [htS]; omega) (by rw [htS]; omega) (by rw [htS, hS]; rfl) (by decide) ?_
        exact lw_c283 h0 hi5 hL (by omega) (by omega) (by omega) I K
      · refine lv_tableIn (off := 280) (tgt := 319) hx hb dL_law_39 (by rw [htS]; omega) (by rw [htS]; omega) (by rw [htS, hS]; rfl) (by decide) ?_
        exact lw_c319 h0 hi5 hL (by omega) (by omega) (by omega) I K
      · refine lv_tableIn (off := 348) (tgt := 387) hx hb dL_law_39 (by rw [htS]; omega) (by rw [htS]; omega) (by rw [htS, hS]; rfl) (by decide) ?_
        exact lw_c387 h0 hi5 hL (by omega) (by omega) (by omega) I K
      · refine lv_tableIn (off := 428) (tgt := 467) hx hb dL_law_39 (by rw [htS]; omega) (by rw [htS]; omega) (by rw [htS, hS]; rfl) (by decide) ?_
        exact lw_c467 h0 hi5 hL (by omega) (by omega) (by omega) I K
      · refine lv_tableIn (off := 472) (tgt := 511) hx hb dL_law_39 (by rw [htS]; omega) (by rw [htS]; omega) (by rw [htS, hS]; rfl) (by decide) ?_
        exact lw_c511 h0 hi5 hL (by omega) (by omega) (by omega) I K
      · refine lv_tableIn (off := 508) (tgt := 547) hx hb dL_law_39 (by rw [htS]; omega) (by rw [htS]; omega) (by rw [htS, hS]; rfl) (by decide) ?_
        exact lw_c547 h0 hi5 hL (by omega) (by omega) (by omega) I K
      · refine lv_tableIn (off := 544) (tgt := 583) hx hb dL_law_39 (by rw [htS]; omega) (by rw [htS]; omega) (by rw [htS, hS]; rfl) (by decide) ?_
        exact lw_c583 h0 hi5 hL (by omega) (by omega) (by omega) I K
      · refine lv_tableIn (off := 635) (tgt := 674) hx hb dL_law_39 (by rw [htS]; omega) (by rw [htS]; omega) (by rw [htS, hS]; rfl) (by decide) ?_
        exact lw_c674 h0 hi5 hL (by omega) (by omega) (by omega) I K
      · refine lv_tableIn (off := 671) (tgt := 710) hx hb dL_law_39 (by rw [htS]; omega) (by rw [htS]; omega) (by rw [htS, hS]; rfl) (by decide) ?_
        exact lw_c710 h0 hi5 hL (by omega) (by omega) (by omega) I K
      · refine lv_tableIn (off := 695) (tgt := 734) hx hb dL_law_39 (by rw [htS]; omega) (by rw [htS]; omega) (by rw [htS, hS]; rfl) (by decide) ?_
        exact lw_c734 h0 hi5 hL (by omega) (by omega) (by omega) I K
      · refine lv_tableIn (off := 751) (tgt := 790) hx hb dL_law_39 (by rw [htS]; omega) (by rw [htS]; omega) (by rw [htS, hS]; rfl) (by decide) ?_
        exact lw_c790 h0 hi5 hL (by omega) (by omega) (by omega) I K
      · refine lv_tableIn (off := 830) (tgt := 869) hx hb dL_law_39 (by rw [htS]; omega) (by rw [htS]; omega) (by rw [htS, hS]; rfl) (by decide) ?_
        exact lw_c869 h0 hi5 hL (by omega) (by omega) (by omega) I K
