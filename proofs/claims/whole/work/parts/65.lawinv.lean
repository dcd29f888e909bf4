/-! the law: what holds at the head of its loop -/
def erF (dn : Int) (df : Bool) (du : Nat → Int) : Int := if dn = -1 then 150 else if df = true then -1 else du dn.toNat
theorem erF_in {B dw : Nat → Int64} {du : Nat → Int} {dn : Int} {df : Bool} (h : DR B dw du dn df) : -1 ≤ erF dn df du ∧ erF dn df du ≤ 150 := by
  unfold erF
  split
  · omega
  · split
    · omega
    · have := h.2.1 dn.toNat (by have := h.1; omega)
      omega
theorem i32_ok (x : Int32) : -2147483648 ≤ x.toInt ∧ x.toInt < 2147483648 := ⟨x.le_toInt, x.toInt_lt⟩
theorem zI_raw (x : Int32) : x = zI x.toInt := (Int32.ofInt_toInt x).symm
def LWI (D : va_G) (cI cJ cZ cII cZZ : ClassId) (A : Nat → Prop) (H0 : Heap) (b i n : Nat) (H : Heap) (locs : List Loc) (ls : Array Slot) : Prop :=
  ∀ P9 : Prop, (∀ (r0 : Nat) (rl : Int) (d0 : Nat) (d1 : Nat) (d2 : Nat) (dw : Nat → Int64) (du : Nat → Int) (dn : Int) (df : Bool) (db : Bool) (dc : Int) (i0 : Nat) (i1 : Nat) (iN : Nat) (ih : Nat → Nat) (p0 : Nat) (p1 : Nat) (pu : Nat → Bool) (pf : Int) (pl : Nat) (m0 : Nat) (m1 : Nat) (m2 : Nat) (m3 : Nat) (m4 : Nat) (m5 : Nat) (ms : Nat → Int) (mw : Nat → Int64) (mi : Nat → Nat) (mp : Nat → Nat) (mb : Nat → BitVec 32) (mc : BitVec 32) (g0 : Nat) (g1 : Nat) (g2 : Nat) (g3 : Nat) (g4 : Nat) (gk : Nat → Nat) (gf : Nat → Nat) (go : Nat → Nat) (gv : Nat → Int64) (gl : Nat) (k0 : Nat) (k1 : Nat) (kw : Nat → Int64) (o0 : Nat) (ov : Nat → Int64) (t0 : Nat) (t1 : Nat) (t2 : Nat) (t3 : Nat) (t4 : Nat) (t5 : Nat) (t6 : Nat) (t7 : Nat) (t8 : Nat) (t9 : Nat) (tA : Nat) (tB : Nat) (tC : Nat) (tD : Nat) (tR : Nat → Nat) (tS : Nat → Nat) (e0 : Nat) (eP : Nat → Nat) (er : Int) (es : Nat → Int) (ed : Nat → Nat → Nat) (ec : Nat → Bool) (ew : Nat → Nat → Bool) (et : Nat → Nat) (eh : Nat → Nat) (ei : Nat → Int) (eu : Nat → Bool) (em : Nat), zS D A H0 H locs (zFR [(r0, .inr (6, [.ref d0, .ref i0, .ref p0, .ref m0, .ref g0, .ref k0, .int (zI rl)])), (d0, .inr (1, [.ref d1, .ref d2, .int (zI dn), .int (zB df), .int (zB db), .int (zI dc)])), (d1, .inl (cJ, 3000, .inr (.inl dw))), (d2, .inl (cI, 5, .inl (fun x9 => zI (du x9)))), (i0, .inr (2, [.int (nI iN), .ref i1])), (i1, .inl (cI, 12, .inl (fun x9 => nI (ih x9)))), (p0, .inr (5, [.ref p1, .int (zI pf), .int (nI pl)])), (p1, .inl (cI, 600, .inl (fun x9 => zB (pu x9)))), (m0, .inr (4, [.ref m1, .ref m2, .ref m3, .ref m4, .ref m5, .int (zW mc)])), (m1, .inl (cI, 32, .inl (fun x9 => zI (ms x9)))), (m2, .inl (cJ, 1792, .inr (.inl mw))), (m3, .inl (cI, 32, .inl (fun x9 => nI (mi x9)))), (m4, .inl (cI, 448, .inl (fun x9 => nI (mp x9)))), (m5, .inl (cI, 32, .inl (fun x9 => zW (mb x9)))), (g0, .inr (3, [.ref g1, .ref g2, .ref g3, .ref g4, .int (nI gl)])), (g1, .inl (cI, 40, .inl (fun x9 => nI (gk x9)))), (g2, .inl (cI, 40, .inl (fun x9 => nI (gf x9)))), (g3, .inl (cI, 40, .inl (fun x9 => nI (go x9)))), (g4, .inl (cJ, 40, .inr (.inl gv))), (k0, .inr (0, [.ref k1])), (k1, .inl (cJ, 4, .inr (.inl kw))), (o0, .inl (cJ, 1, .inr (.inl ov)))] (WQ cI cJ cZ cII cZZ [] t0 t1 t2 t3 t4 t5 t6 t7 t8 t9 tA tB tC tD tR tS e0 eP dn er db es ed ec ew gk gf go gv gl dc et eh ei eu em)) → lv_has ls 8 [(0, .ref b), (1, .ref r0), (2, .ref t0), (3, .ref o0), (4, .int (nI i))] → (∃ (B : Nat → Int64) (ro : Nat → Nat), CI B ro ih iN gk gf go gv gl pu pf ms mw mi mp mb mc dw du dn df ∧ RP B eP ∧ RM es ed ew ec (aRun gk gf go gv (lodA B ih) gl) ∧ er = erF dn df du ∧ iN ≤ n) → P9) → P9
theorem LWI.mk {D : va_G} {cI cJ cZ cII cZZ : ClassId} {A : Nat → Prop} {H0 : Heap} {b i n : Nat} {H : Heap} {locs : List Loc} {ls : Array Slot} {r0 : Nat} {rl : Int} {d0 : Nat} {d1 : Nat} {d2 : Nat} {dw : Nat → Int64} {du : Nat → Int} {dn : Int} {df : Bool} {db : Bool} {dc : Int} {i0 : Nat} {i1 : Nat} {iN : Nat} {ih : Nat → Nat} {p0 : Nat} {p1 : Nat} {pu : Nat → Bool} {pf : Int} {pl : Nat} {m0 : Nat} {m1 : Nat} {m2 : Nat} {m3 : Nat} {m4 : Nat} {m5 : Nat} {ms : Nat → Int} {mw : Nat → Int64} {mi : Nat → Nat} {mp : Nat → Nat} {mb : Nat → BitVec 32} {mc : BitVec 32} {g0 : Nat} {g1 : Nat} {g2 : Nat} {g3 : Nat} {g4 : Nat} {gk : Nat → Nat} {gf : Nat → Nat} {go : Nat → Nat} {gv : Nat → Int64} {gl : Nat} {k0 : Nat} {k1 : Nat} {kw : Nat → Int64} {o0 : Nat} {ov : Nat → Int64} {t0 : Nat} {t1 : Nat} {t2 : Nat} {t3 : Nat} {t4 : Nat} {t5 : Nat} {t6 : Nat} {t7 : Nat} {t8 : Nat} {t9 : Nat} {tA : Nat} {tB : Nat} {tC : Nat} {tD : Nat} {tR : Nat → Nat} {tS : Nat → Nat} {e0 : Nat} {eP : Nat → Nat} {er : Int} {es : Nat → Int} {ed : Nat → Nat → Nat} {ec : Nat → Bool} {ew : Nat → Nat → Bool} {et : Nat → Nat} {eh : Nat → Nat} {ei : Nat → Int} {eu : Nat → Bool} {em : Nat} (h1 : zS D A H0 H locs (zFR [(r0, .inr (6, [.ref d0, .ref i0, .ref p0, .ref m0, .ref g0, .ref k0, .int (zI rl)])), (d0, .inr (1, [.ref d1, .ref d2, .int (zI dn), .int (zB df), .int (zB db), .int (zI dc)])), (d1, .inl (cJ, 3000, .inr (.inl dw))), (d2, .inl (cI, 5, .inl (fun x9 => zI (du x9)))), (i0, .inr (2, [.int (nI iN), .ref i1])), (i1, .inl (cI, 12, .inl (fun x9 => nI (ih x9)))), (p0, .inr (5, [.ref p1, .int (zI pf), .int (nI pl)])), (p1, .inl (cI, 600, .inl (fun x9 => zB (pu x9)))), (m0, .inr (4, [.ref m1, .ref m2, .ref m3, .ref m4, .ref m5, .int (zW mc)])), (m1, .inl (cI, 32, .inl (fun x9 => zI (ms x9)))), (m2, .inl (cJ, 1792, .inr (.inl mw))), (m3, .inl (cI, 32, .inl (fun x9 => nI (mi x9)))), (m4, .inl (cI, 448, .inl (fun x9 => nI (mp x9)))), (m5, .inl (cI, 32, .inl (fun x9 => zW (mb x9)))), (g0, .inr (3, [.ref g1, .ref g2, .ref g3, .ref g4, .int (nI gl)])), (g1, .inl (cI, 40, .inl (fun x9 => nI (gk x9)))), (g2, .inl (cI, 40, .inl (fun x9 => nI (gf x9)))), (g3, .inl (cI, 40, .inl (fun x9 => nI (go x9)))), (g4, .inl (cJ, 40, .inr (.inl gv))), (k0, .inr (0, [.ref k1])), (k1, .inl (cJ, 4, .inr (.inl kw))), (o0, .inl (cJ, 1, .inr (.inl ov)))] (WQ cI cJ cZ cII cZZ [] t0 t1 t2 t3 t4 t5 t6 t7 t8 t9 tA tB tC tD tR tS e0 eP dn er db es ed ec ew gk gf go gv gl dc et eh ei eu em))) (h2 : lv_has ls 8 [(0, .ref b), (1, .ref r0), (2, .ref t0), (3, .ref o0), (4, .int (nI i))]) (h3 : ∃ (B : Nat → Int64) (ro : Nat → Nat), CI B ro ih iN gk gf go gv gl pu pf ms mw mi mp mb mc dw du dn df ∧ RP B eP ∧ RM es ed ew ec (aRun gk gf go gv (lodA B ih) gl) ∧ er = erF dn df du ∧ iN ≤ n) : LWI D cI cJ cZ cII cZZ A H0 b i n H locs ls :=
  fun _ k => k r0 rl d0 d1 d2 dw du dn df db dc i0 i1 iN ih p0 p1 pu pf pl m0 m1 m2 m3 m4 m5 ms mw mi mp mb mc g0 g1 g2 g3 g4 gk gf go gv gl k0 k1 kw o0 ov t0 t1 t2 t3 t4 t5 t6 t7 t8 t9 tA tB tC tD tR tS e0 eP er es ed ec ew et eh ei eu em h1 h2 h3
def LWE (p : Program) (l : Launch) (s : State) (m : MethodId) (meth : Method) (c : Code) (D : va_G) (cI cJ cZ cII cZZ : ClassId) (A : Nat → Prop) (sa : Nat → Nat) (b L : Nat) (xs : Nat → Int32) : Prop :=
  zE p s m #[Value.ref b] c code 8 "RaidVaultLaw" D (zT cI cJ cZ cII cZZ) ∧ va_X b L xs s s.heap ∧ b < s.heap.size ∧ ¬ A b ∧ zTh sa A s s.heap ∧ zNc s ∧ zAO s ∧ l.stackTraces = false
theorem pm_B (F R : va_W) (x : Nat × va_E) : (zFR (F ++ [x]) R).Perm ((x :: R) ++ F) := by
  unfold zFR
  rw [List.append_assoc]
  exact List.perm_append_comm
/-! answers of both, side by side -/
theorem mt_w {P S1 S2 S3 O T : Prop} {q : Bool} {e k : Nat} (hS : S3 → ¬ S2) (x : (k = 1 ∧ ¬ P) ∨ (k = 2 ∧ P ∧ q = true) ∨ (k = 3 ∧ P ∧ q = false ∧ S1 ∧ S2)) (r : (e = 1 ∧ ¬ P ∧ O) ∨ (e = 2 ∧ P ∧ q = true ∧ O) ∨ (e = 3 ∧ P ∧ q = false ∧ S1 ∧ S2 ∧ O) ∨ (e = 0 ∧ P ∧ q = false ∧ (S1 → S3) ∧ T)) : e = k ∧ (k ≠ 0 ∧ k < 4) ∧ O := by
  rcases x with ⟨h1, h2⟩ | ⟨h1, h2, h3⟩ | ⟨h1, h2, h3, h4, h5⟩ <;> rcases r with ⟨r1, r2, r3⟩ | ⟨r1, r2, r3, r4⟩ | ⟨r1, r2, r3, r4, r5, r6⟩ | ⟨r1, r2, r3, r4, r5⟩ <;> first | exact ⟨by omega, by omega, by assumption⟩ | exact absurd r2 h2 | exact absurd h2 r2 | exact absurd (h3.symm.trans r3) (by decide) | exact absurd h5 (hS (r4 h4))
theorem mt_wr {P S1 S2 S3 O T : Prop} {q : Bool} {e : Nat} (hS : S3 → ¬ S2) (p : P) (hq : q = false) (s3 : S1 → S3) (r : (e = 1 ∧ ¬ P ∧ O) ∨ (e = 2 ∧ P ∧ q = true ∧ O) ∨ (e = 3 ∧ P ∧ q = false ∧ S1 ∧ S2 ∧ O) ∨ (e = 0 ∧ P ∧ q = false ∧ (S1 → S3) ∧ T)) : e = 0 ∧ T := by
  rcases r with ⟨r1, r2, r3⟩ | ⟨r1, r2, r3, r4⟩ | ⟨r1, r2, r3, r4, r5, r6⟩ | ⟨r1, r2, r3, r4, r5⟩
  · exact absurd p r2
  · rw [hq] at r3; cases r3
  · exact absurd r5 (hS (s3 r4))
  · exact ⟨r1, r5⟩
theorem lw_same {dw : Nat → Int64} {du : Nat → Int} {dn : Int} {df : Bool} {iN : Nat} {ih : Nat → Nat} {pu : Nat → Bool} {pf : Int} {ms : Nat → Int} {mw : Nat → Int64} {mi : Nat → Nat} {mp : Nat → Nat} {mb : Nat → BitVec 32} {mc : BitVec 32} {gk : Nat → Nat} {gf : Nat → Nat} {go : Nat → Nat} {gv : Nat → Int64} {gl : Nat} {eP : Nat → Nat} {es : Nat → Int} {ed : Nat → Nat → Nat} {ec : Nat → Bool} {ew : Nat → Nat → Bool} {er : Int} {n : Nat} {B : Nat → Int64} {ro : Nat → Nat} (hC : CI B ro ih iN gk gf go gv gl pu pf ms mw mi mp mb mc dw du dn df) (hP : RP B eP) (hM : RM es ed ew ec (aRun gk gf go gv (lodA B ih) gl)) (he : er = erF dn df du) (hn : iN ≤ n) : ∃ (B : Nat → Int64) (ro : Nat → Nat), CI B ro ih iN gk gf go gv gl pu pf ms mw mi mp mb mc dw du dn df ∧ RP B eP ∧ RM es ed ew ec (aRun gk gf go gv (lodA B ih) gl) ∧ er = erF dn df du ∧ iN ≤ n + 1 := ⟨B, ro, hC, hP, hM, he, by omega⟩
theorem lw_next {dw : Nat → Int64} {du : Nat → Int} {dn : Int} {df : Bool} {iN : Nat} {ih : Nat → Nat} {pu : Nat → Bool} {pf : Int} {ms : Nat → Int} {mw : Nat → Int64} {mi : Nat → Nat} {mp : Nat → Nat} {mb : Nat → BitVec 32} {mc : BitVec 32} {gk : Nat → Nat} {gf : Nat → Nat} {go : Nat → Nat} {gv : Nat → Int64} {gl : Nat} {eP : Nat → Nat} {es : Nat → Int} {ed : Nat → Nat → Nat} {ec : Nat → Bool} {ew : Nat → Nat → Bool} {er : Int} {n : Nat} {B : Nat → Int64} {ro : Nat → Nat} (hC : CI B ro ih iN gk gf go gv gl pu pf ms mw mi mp mb mc dw du dn df) (hP : RP B eP) (hM : RM es ed ew ec (aRun gk gf go gv (lodA B ih) gl)) (he : er = erF dn df du) (hn : iN ≤ n + 1) : ∃ (B : Nat → Int64) (ro : Nat → Nat), CI B ro ih iN gk gf go gv gl pu pf ms mw mi mp mb mc dw du dn df ∧ RP B eP ∧ RM es ed ew ec (aRun gk gf go gv (lodA B ih) gl) ∧ er = erF dn df du ∧ iN ≤ n + 1 := ⟨B, ro, hC, hP, hM, he, hn⟩
theorem ptN_le {iN gl n : Nat} (h : iN ≤ n) : ptN iN gl ≤ n + 1 := by unfold ptN; split <;> omega
theorem mt_d {X1 X2 O T : Prop} {q : Bool} {e k : Nat} (hX : X1 → ¬ X2) (x : (k = 1 ∧ X1) ∨ (k = 2 ∧ X2 ∧ q = true)) (r : (e = 1 ∧ X1 ∧ O) ∨ (e = 2 ∧ X2 ∧ q = true ∧ O) ∨ (e = 0 ∧ X2 ∧ q = false ∧ T)) : e = k ∧ (k ≠ 0 ∧ k < 4) ∧ O := by
  rcases x with ⟨h1, h2⟩ | ⟨h1, h2, h3⟩ <;> rcases r with ⟨r1, r2, r3⟩ | ⟨r1, r2, r3, r4⟩ | ⟨r1, r2, r3, r4⟩ <;> first | exact ⟨by omega, by omega, by assumption⟩ | exact absurd r2 (hX h2) | exact absurd h2 (hX r2) | exact absurd (h3.symm.trans r3) (by decide)
theorem mt_dr {X1 X2 O T : Prop} {q : Bool} {e : Nat} (hX : X1 → ¬ X2) (p : X2) (hq : q = false) (r : (e = 1 ∧ X1 ∧ O) ∨ (e = 2 ∧ X2 ∧ q = true ∧ O) ∨ (e = 0 ∧ X2 ∧ q = false ∧ T)) : e = 0 ∧ T := by
  rcases r with ⟨r1, r2, r3⟩ | ⟨r1, r2, r3, r4⟩ | ⟨r1, r2, r3, r4⟩
  · exact absurd p (hX r2)
  · rw [hq] at r3; cases r3
  · exact ⟨r1, r4⟩
theorem mt_s {X1 X2 T : Prop} {q : Bool} {e k : Nat} (hX : X1 → ¬ X2) (x : (k = 1 ∧ X1) ∨ (k = 2 ∧ X2 ∧ q = true)) (r : (e = 1 ∧ X1) ∨ (e = 2 ∧ X2 ∧ q = true) ∨ (e = 0 ∧ X2 ∧ q = false ∧ T)) : e = k ∧ (k ≠ 0 ∧ k < 4) := by
  rcases x with ⟨h1, h2⟩ | ⟨h1, h2, h3⟩ <;> rcases r with ⟨r1, r2⟩ | ⟨r1, r2, r3⟩ | ⟨r1, r2, r3, r4⟩ <;> first | exact ⟨by omega, by omega⟩ | exact absurd r2 (hX h2) | exact absurd h2 (hX r2) | exact absurd (h3.symm.trans r3) (by decide)
theorem mt_sr {X1 X2 T : Prop} {q : Bool} {e : Nat} (hX : X1 → ¬ X2) (p : X2) (hq : q = false) (r : (e = 1 ∧ X1) ∨ (e = 2 ∧ X2 ∧ q = true) ∨ (e = 0 ∧ X2 ∧ q = false ∧ T)) : e = 0 ∧ T := by
  rcases r with ⟨r1, r2⟩ | ⟨r1, r2, r3⟩ | ⟨r1, r2, r3, r4⟩
  · exact absurd p (hX r2)
  · rw [hq] at r3; cases r3
  · exact ⟨r1, r4⟩
theorem mt_o {P S S' T : Prop} {q : Bool} {e k : Nat} (hS : P → (S ↔ S')) (x : (k = 1 ∧ ¬ P) ∨ (k = 2 ∧ P ∧ q = true) ∨ (k = 3 ∧ P ∧ q = false ∧ ¬ S)) (r : (e = 1 ∧ ¬ P) ∨ (e = 2 ∧ P ∧ q = true) ∨ (e = 3 ∧ P ∧ q = false ∧ ¬ S') ∨ (e = 0 ∧ P ∧ q = false ∧ S' ∧ T)) : e = k ∧ (k ≠ 0 ∧ k < 4) := by
  rcases x with ⟨h1, h2⟩ | ⟨h1, h2, h3⟩ | ⟨h1, h2, h3, h4⟩ <;> rcases r with ⟨r1, r2⟩ | ⟨r1, r2, r3⟩ | ⟨r1, r2, r3, r4⟩ | ⟨r1, r2, r3, r4, r5⟩ <;> first | exact ⟨by omega, by omega⟩ | exact absurd r2 h2 | exact absurd h2 r2 | exact absurd (h3.symm.trans r3) (by decide) | exact absurd ((hS h2).mpr r4) h4
theorem mt_or {P S S' T : Prop} {q : Bool} {e : Nat} (hS : P → (S ↔ S')) (p : P) (hq : q = false) (s : S) (r : (e = 1 ∧ ¬ P) ∨ (e = 2 ∧ P ∧ q = true) ∨ (e = 3 ∧ P ∧ q = false ∧ ¬ S') ∨ (e = 0 ∧ P ∧ q = false ∧ S' ∧ T)) : e = 0 ∧ T := by
  rcases r with ⟨r1, r2⟩ | ⟨r1, r2, r3⟩ | ⟨r1, r2, r3, r4⟩ | ⟨r1, r2, r3, r4, r5⟩
  · exact absurd p r2
  · rw [hq] at r3; cases r3
  · exact absurd ((hS p).mp s) r4
  · exact ⟨r1, r5⟩
theorem oc_sz {B : Nat → Int64} {ih : Nat → Nat} {ms es : Nat → Int} {mw : Nat → Int64} {mb : Nat → BitVec 32} {mc : BitVec 32} {ed : Nat → Nat → Nat} {ew : Nat → Nat → Bool} {ec : Nat → Bool} {a : aM} {k f o : Int} {X : Prop} (hR : MR ms mw mb mc a) (hM : RM es ed ew ec a) (h : 0 ≤ f ∧ f < 32 ∧ X) : (0 ≤ o ∧ o < (if k = -1 then ms f.toNat else szL B (inoO B ih (k + 1).toNat f.toNat))) ↔ (0 ≤ o ∧ o < (if k = -1 then es f.toNat else szL B (inoO B ih (k + 1).toNat f.toNat))) := by
  rw [hR.1 f.toNat (by omega), hM.1 f.toNat (by omega)]
theorem mt_p {S S3 O T : Prop} {q : Bool} {e k : Nat} (hS : S3 → ¬ S) (x : (k = 1 ∧ q = true) ∨ (k = 2 ∧ q = false ∧ S)) (r : (e = 1 ∧ q = true ∧ O) ∨ (e = 2 ∧ q = false ∧ S ∧ O) ∨ (e = 0 ∧ q = false ∧ S3 ∧ T)) : e = k ∧ (k ≠ 0 ∧ k < 4) ∧ O := by
  rcases x with ⟨h1, h3⟩ | ⟨h1, h3, h4⟩ <;> rcases r with ⟨r1, r3, r4⟩ | ⟨r1, r3, r4, r5⟩ | ⟨r1, r3, r4, r5⟩ <;> first | exact ⟨by omega, by omega, by assumption⟩ | exact absurd (h3.symm.trans r3) (by decide) | exact absurd h4 (hS r4)
theorem mt_pr {S S3 O T : Prop} {q : Bool} {e : Nat} (hS : S3 → ¬ S) (hq : q = false) (s : S3) (r : (e = 1 ∧ q = true ∧ O) ∨ (e = 2 ∧ q = false ∧ S ∧ O) ∨ (e = 0 ∧ q = false ∧ S3 ∧ T)) : e = 0 ∧ T := by
  rcases r with ⟨r1, r3, r4⟩ | ⟨r1, r3, r4, r5⟩ | ⟨r1, r3, r4, r5⟩
  · rw [hq] at r3; cases r3
  · exact absurd r4 (hS s)
  · exact ⟨r1, r5⟩
theorem mt_n {P S S3 O T : Prop} {q : Bool} {e k : Nat} (hS : S3 → ¬ S) (x : (k = 1 ∧ ¬ P) ∨ (k = 2 ∧ P ∧ q = true) ∨ (k = 3 ∧ P ∧ q = false ∧ S)) (r : (e = 1 ∧ ¬ P ∧ O) ∨ (e = 2 ∧ P ∧ q = true ∧ O) ∨ (e = 3 ∧ P ∧ q = false ∧ S ∧ O) ∨ (e = 0 ∧ P ∧ q = false ∧ S3 ∧ T)) : e = k ∧ (k ≠ 0 ∧ k < 4) ∧ O := by
  rcases x with ⟨h1, h2⟩ | ⟨h1, h2, h3⟩ | ⟨h1, h2, h3, h4⟩ <;> rcases r with ⟨r1, r2, r3⟩ | ⟨r1, r2, r3, r4⟩ | ⟨r1, r2, r3, r4, r5⟩ | ⟨r1, r2, r3, r4, r5⟩ <;> first | exact ⟨by omega, by omega, by assumption⟩ | exact absurd r2 h2 | exact absurd h2 r2 | exact absurd (h3.symm.trans r3) (by decide) | exact absurd h4 (hS r4)
theorem mt_nr {P S S3 O T : Prop} {q : Bool} {e : Nat} (hS : S3 → ¬ S) (p : P) (hq : q = false) (s : S3) (r : (e = 1 ∧ ¬ P ∧ O) ∨ (e = 2 ∧ P ∧ q = true ∧ O) ∨ (e = 3 ∧ P ∧ q = false ∧ S ∧ O) ∨ (e = 0 ∧ P ∧ q = false ∧ S3 ∧ T)) : e = 0 ∧ T := by
  rcases r with ⟨r1, r2, r3⟩ | ⟨r1, r2, r3, r4⟩ | ⟨r1, r2, r3, r4, r5⟩ | ⟨r1, r2, r3, r4, r5⟩
  · exact absurd p r2
  · rw [hq] at r3; cases r3
  · exact absurd r4 (hS s)
  · exact ⟨r1, r5⟩
theorem er_lt {B dw : Nat → Int64} {du : Nat → Int} {dn er : Int} {df : Bool} (h : DR B dw du dn df) (he : er = erF dn df du) : er < 0 ↔ df = true := by
  obtain ⟨h1, h2, h3, h4, h5, h6, -⟩ := h
  rw [he]; unfold erF
  by_cases e : dn = -1
  · rw [if_pos e, h4 e]; simp
  · rw [if_neg e]
    cases df with
    | true => simp
    | false =>
      have := h2 dn.toNat (by omega)
      simp; omega
theorem er_du {du : Nat → Int} {dn er : Int} {df : Bool} (he : er = erF dn df du) (h : 0 ≤ dn ∧ df = false) : er = du dn.toNat := by
  rw [he]; unfold erF; rw [if_neg (by omega), if_neg (by rw [h.2]; simp)]
theorem CI_dr {B : Nat → Int64} {ro ih : Nat → Nat} {iN : Nat} {gk gf go : Nat → Nat} {gv : Nat → Int64} {gl : Nat} {pu : Nat → Bool} {pf : Int} {ms : Nat → Int} {mw : Nat → Int64} {mi mp : Nat → Nat} {mb : Nat → BitVec 32} {mc : BitVec 32} {dw dw1 : Nat → Int64} {du du1 : Nat → Int} {dn dn1 : Int} {df df1 : Bool} (h : CI B ro ih iN gk gf go gv gl pu pf ms mw mi mp mb mc dw du dn df) (hd : DR B dw1 du1 dn1 df1) : CI B ro ih iN gk gf go gv gl pu pf ms mw mi mp mb mc dw1 du1 dn1 df1 :=
  ⟨h.1, h.2.1, hd, h.2.2.2⟩
theorem fail_er {B dw : Nat → Int64} {du du1 : Nat → Int} {dn dn1 d er er1 eb1 : Int} {df df1 db db1 ek1 : Bool} (h : DR B dw du dn df) (he : er = erF dn df du) (x : ((dn ≠ -1 ∧ dn ≠ d) ∧ db1 = true ∧ dn1 = dn ∧ df1 = df ∧ du1 = du) ∨ ((dn = -1 ∨ dn = d) ∧ db1 = db ∧ dn1 = d ∧ df1 = true ∧ du1 = va_up du d.toNat 0)) (r : ((dn ≠ -1 ∧ dn ≠ d) ∧ ek1 = true ∧ eb1 = dn ∧ er1 = er) ∨ ((dn = -1 ∨ dn = d) ∧ ek1 = db ∧ eb1 = d ∧ er1 = -1)) (hd : 0 ≤ d := by omega) : eb1 = dn1 ∧ ek1 = db1 ∧ er1 = erF dn1 df1 du1 := by
  rcases x with ⟨x1, x2, x3, x4, x5⟩ | ⟨x1, x2, x3, x4, x5⟩ <;> rcases r with ⟨r1, r2, r3, r4⟩ | ⟨r1, r2, r3, r4⟩
  · exact ⟨r3.trans x3.symm, r2.trans x2.symm, by rw [x3, x4, x5, r4, he]⟩
  · omega
  · omega
  · exact ⟨r3.trans x3.symm, r2.trans x2.symm, by rw [x3, x4, r4]; unfold erF; rw [if_neg (by omega), if_pos rfl]⟩
theorem mt_rp {e k : Nat} {dn er er1 : Int} {df db : Bool} (hl : er < 0 ↔ df = true) (x : k = 1 ∧ (db = true ∨ df = false)) (r : (e = 1 ∧ (db = true ∨ dn < 0 ∨ 0 ≤ er) ∧ er1 = er) ∨ (e = 0 ∧ db = false ∧ 0 ≤ dn ∧ er < 0 ∧ er1 = 0)) : e = k ∧ (k ≠ 0 ∧ k < 4) ∧ er1 = er := by
  rcases r with ⟨r1, r2, r3⟩ | ⟨r1, r2, r3, r4, r5⟩
  · exact ⟨by omega, by omega, r3⟩
  · have := hl.mp r4
    rcases x.2 with y | y
    · rw [y] at r2; cases r2
    · rw [y] at this; cases this
theorem mt_rpr {B dw : Nat → Int64} {du : Nat → Int} {e : Nat} {dn er er1 : Int} {df db : Bool} (hl : er < 0 ↔ df = true) (hd : -1 ≤ dn ∧ dn < 5) (hb : db = false) (hf : df = true) (h : DR B dw du dn df) (r : (e = 1 ∧ (db = true ∨ dn < 0 ∨ 0 ≤ er) ∧ er1 = er) ∨ (e = 0 ∧ db = false ∧ 0 ≤ dn ∧ er < 0 ∧ er1 = 0)) : e = 0 ∧ er1 = 0 := by
  rcases r with ⟨r1, r2, r3⟩ | ⟨r1, r2, r3, r4, r5⟩
  · have := hl.mpr hf
    rcases r2 with y | y | y
    · rw [hb] at y; cases y
    · have := h.2.2.2.1 (by omega); rw [hf] at this; cases this
    · omega
  · exact ⟨r1, r5⟩
theorem rp_er {B dw : Nat → Int64} {du : Nat → Int} {dn er1 : Int} {df : Bool} (h : DR B dw du dn df) (hf : df = true) (y : er1 = 0) : er1 = erF dn false du := by
  have h5 := h.2.2.2.2.1 hf
  have h4 : dn ≠ -1 := fun z => by have := h.2.2.2.1 z; rw [hf] at this; cases this
  rw [y]; unfold erF; rw [if_neg h4, if_neg (by simp), h5]
theorem mt_rb {e k : Nat} {dn er er1 eb1 n : Int} {T : Prop} {df db : Bool} (hl : er < 0 ↔ df = true) (hd : -1 ≤ dn ∧ dn < 5) (x : (k = 1 ∧ n < 0) ∨ (k = 2 ∧ 0 ≤ n ∧ (db = true ∨ dn = -1 ∨ df = true))) (r : (e = 1 ∧ n < 0 ∧ eb1 = dn ∧ er1 = er) ∨ (e = 2 ∧ 0 ≤ n ∧ (db = true ∨ dn < 0 ∨ er < 0) ∧ eb1 = dn ∧ er1 = er) ∨ (e = 0 ∧ 0 ≤ n ∧ db = false ∧ 0 ≤ dn ∧ 0 ≤ er ∧ T)) : e = k ∧ (k ≠ 0 ∧ k < 4) ∧ eb1 = dn ∧ er1 = er := by
  rcases x with ⟨h1, h2⟩ | ⟨h1, h2, h3⟩ <;> rcases r with ⟨r1, r2, r3, r4⟩ | ⟨r1, r2, r3, r4, r5⟩ | ⟨r1, r2, r3, r4, r5, r6⟩
  · exact ⟨by omega, by omega, r3, r4⟩
  · omega
  · omega
  · omega
  · exact ⟨by omega, by omega, r4, r5⟩
  · rcases h3 with y | y | y
    · rw [y] at r3; cases r3
    · omega
    · have := hl.mpr y; omega
theorem mt_rbr {e : Nat} {dn er er1 eb1 n rv X Y Z : Int} {df db : Bool} (hl : er < 0 ↔ df = true) (p : 0 ≤ n) (hb : db = false ∧ 0 ≤ dn ∧ df = false) (r : (e = 1 ∧ n < 0 ∧ eb1 = dn ∧ er1 = er) ∨ (e = 2 ∧ 0 ≤ n ∧ (db = true ∨ dn < 0 ∨ er < 0) ∧ eb1 = dn ∧ er1 = er) ∨ (e = 0 ∧ 0 ≤ n ∧ db = false ∧ 0 ≤ dn ∧ 0 ≤ er ∧ er1 = X ∧ eb1 = Y ∧ rv = Z)) : e = 0 ∧ er1 = X ∧ eb1 = Y ∧ rv = Z := by
  rcases r with ⟨r1, r2, r3, r4⟩ | ⟨r1, r2, r3, r4, r5⟩ | ⟨r1, r2, r3, r4, r5, r6⟩
  · omega
  · rcases r3 with y | y | y
    · rw [hb.1] at y; cases y
    · omega
    · have := hl.mp y; rw [hb.2.2] at this; cases this
  · exact ⟨r1, r6⟩
theorem rb_er {du du1 : Nat → Int} {dn dn1 er1 n : Int} {df : Bool} (h : 0 ≤ dn ∧ df = false) (y : er1 = if 150 ≤ du dn.toNat + n then 150 else du dn.toNat + n) (h2 : dn1 = if 150 ≤ du dn.toNat + n then -1 else dn) (h3 : du1 = va_up du dn.toNat (if 150 ≤ du dn.toNat + n then 150 else du dn.toNat + n)) : er1 = erF dn1 df du1 := by
  rw [y, h2, h3]; unfold erF
  by_cases e : 150 ≤ du dn.toNat + n
  · rw [if_pos e, if_pos e, if_pos rfl]
  · rw [if_neg e, if_neg e, if_neg (by omega), if_neg (by rw [h.2]; simp), vs]
theorem mt_b {e k : Nat} {dn er d : Int} {P T : Prop} {df : Bool} (hl : er < 0 ↔ df = true) (x : (k = 1 ∧ ¬ P) ∨ (k = 2 ∧ P ∧ df = true ∧ d = dn)) (r : (e = 1 ∧ ¬ P) ∨ (e = 2 ∧ P ∧ d = dn ∧ er < 0) ∨ (e = 0 ∧ P ∧ ¬ (d = dn ∧ er < 0) ∧ T)) : e = k ∧ (k ≠ 0 ∧ k < 4) := by
  rcases x with ⟨h1, h2⟩ | ⟨h1, h2, h3, h4⟩ <;> rcases r with ⟨r1, r2⟩ | ⟨r1, r2, r3, r4⟩ | ⟨r1, r2, r3, r4⟩ <;> first | exact ⟨by omega, by omega⟩ | exact absurd r2 h2 | exact absurd h2 r2 | exact absurd ⟨h4, hl.mpr h3⟩ r3
theorem mt_br {e : Nat} {dn er d : Int} {P T : Prop} {df : Bool} (hl : er < 0 ↔ df = true) (p : P) (hb : ¬ (df = true ∧ d = dn)) (r : (e = 1 ∧ ¬ P) ∨ (e = 2 ∧ P ∧ d = dn ∧ er < 0) ∨ (e = 0 ∧ P ∧ ¬ (d = dn ∧ er < 0) ∧ T)) : e = 0 ∧ T := by
  rcases r with ⟨r1, r2⟩ | ⟨r1, r2, r3, r4⟩ | ⟨r1, r2, r3, r4⟩
  · exact absurd p r2
  · exact absurd ⟨hl.mp r4, r3⟩ hb
  · exact ⟨r1, r4⟩
theorem blk_eq {B dw : Nat → Int64} {du : Nat → Int} {dn er d b w : Int} {df : Bool} (h : DR B dw du dn df) (he : er = erF dn df du) (p : 0 ≤ d ∧ d < 5 ∧ 0 ≤ b ∧ b < 150 ∧ 0 ≤ w ∧ w < 4) (hb : ¬ (df = true ∧ d = dn)) : dw (d.toNat * 600 + b.toNat * 4 + w.toNat) = if d = dn ∧ er ≤ b then 0 else Bd B d.toNat (b.toNat * 4 + w.toNat) := by
  obtain ⟨h1, h2, h3, h4, h5, h6, h7, h8⟩ := h
  rw [Nat.add_assoc]
  have hq : (b.toNat * 4 + w.toNat) / 4 = b.toNat := by omega
  by_cases e : d = dn
  · have hf : df = false := by
      cases z : df
      · rfl
      · exact absurd ⟨z, e⟩ hb
    have hd : er = du dn.toNat := er_du he ⟨by omega, hf⟩
    by_cases y : er ≤ b
    · rw [if_pos ⟨e, y⟩, e]
      exact h8 (by omega) hf _ (by omega) (by rw [hq]; omega)
    · rw [if_neg (fun z => y z.2)]
      exact h7 _ _ (by omega) (by omega) (by rw [hq, e]; omega)
  · rw [if_neg (fun z => e z.1)]
    have := h3 d.toNat (by omega) (by omega)
    exact h7 _ _ (by omega) (by omega) (by rw [hq]; omega)
theorem mt_c {e k : Nat} {P T : Prop} (x : k = 1 ∧ ¬ P) (r : (e = 1 ∧ ¬ P) ∨ (e = 0 ∧ P ∧ T)) : e = k ∧ (k ≠ 0 ∧ k < 4) := by
  rcases r with ⟨r1, r2⟩ | ⟨r1, r2, r3⟩
  · exact ⟨by omega, by omega⟩
  · exact absurd r2 x.2
theorem mt_cr {e : Nat} {P T : Prop} (p : P) (r : (e = 1 ∧ ¬ P) ∨ (e = 0 ∧ P ∧ T)) : e = 0 ∧ T := by
  rcases r with ⟨r1, r2⟩ | ⟨r1, r2, r3⟩
  · exact absurd p r2
  · exact ⟨r1, r3⟩
theorem cnt_er {B dw : Nat → Int64} {du : Nat → Int} {dn er : Int} {df : Bool} (h : DR B dw du dn df) (he : er = erF dn df du) : (if dn < 0 then 150 else (if er < 0 then 0 else er)) = (if 0 ≤ dn then du dn.toNat else 150) := by
  obtain ⟨h1, h2, h3, h4, h5, h6, h7, h8⟩ := h
  by_cases e : 0 ≤ dn
  · rw [if_neg (by omega), if_pos e]
    cases hf : df with
    | true =>
      have : er = -1 := by rw [he]; unfold erF; rw [if_neg (by omega), if_pos hf]
      rw [if_pos (by omega), h5 hf]
    | false =>
      have := er_du he ⟨e, hf⟩
      have := h2 dn.toNat (by omega)
      rw [if_neg (by omega)]; omega
  · rw [if_pos (by omega), if_neg e]
theorem cntF_congr {f g : Nat → Int} : ∀ n, (∀ i, i < n → f i = g i) → cntF f n = cntF g n
  | 0, _ => rfl
  | n + 1, h => by
    show (if f n = -1 then cntF f n else cntF f n + 1) = if g n = -1 then cntF g n else cntF g n + 1
    rw [h n (by omega), cntF_congr n (fun i hi => h i (by omega))]
theorem cnt_sz {ms es : Nat → Int} {mw : Nat → Int64} {mb : Nat → BitVec 32} {mc : BitVec 32} {ed : Nat → Nat → Nat} {ew : Nat → Nat → Bool} {ec : Nat → Bool} {a : aM} (hR : MR ms mw mb mc a) (hM : RM es ed ew ec a) : cntF es 32 = cntF ms 32 := cntF_congr 32 (fun i hi => (hM.1 i hi).trans (hR.1 i hi).symm)
theorem CI_0 {gk gf go : Nat → Nat} {gv mw : Nat → Int64} {pu : Nat → Bool} {pf : Int} {mp : Nat → Nat} (hu : ∀ p, pu p = true ↔ UA (fun _ => 0) (fun _ => 0) 12 p) (hf : pf = (fc pu 600 : Int)) (hp : ∀ j, mp j < 65536) : CI (fun _ => 0) (fun _ => 0) (fun _ => 0) 0 gk gf go gv 0 pu pf (fun _ => -1) mw (fun _ => 0) mp (fun _ => 0#32) 0#32 (fun _ => 0) (fun _ => 150) (-1) false := by
  refine ⟨⟨TY_0, fun _ _ => Or.inl rfl, fun j hj => ?_⟩, LOK_0, DR_0, hu, hf, ⟨fun g _ => lod_0.symm, (fun g k _ hk => by rw [show aRun gk gf go gv (lodA (fun _ => 0) (fun _ => 0)) 0 = lodA (fun _ => 0) (fun _ => 0) from rfl, lod_0] at hk; omega), (fun g q _ _ => by simp; rfl), (fun g _ => by simp; rfl)⟩, fun f _ => rfl, ?_, fun _ => (by decide : (0 : Nat) < 65536), hp, fun _ => (by decide : (0 : Nat) < 65536)⟩
  · unfold infoN num nm
    rw [wN_0]
    simp
  · intro g q hg hq hs _
    rw [show aRun gk gf go gv (lodA (fun _ => 0) (fun _ => 0)) 0 = lodA (fun _ => 0) (fun _ => 0) from rfl, lod_0] at hs
    omega
