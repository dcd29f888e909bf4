/-! rows of arrays, and calls whose world is a part of the caller's -/
def va_up2 {α : Type} (g : Nat → Nat → α) (i k : Nat) (v : α) : Nat → Nat → α := fun y x => if y = i ∧ x = k then v else g y x
theorem va_nd_iff : ∀ l : List Nat, va_nd l = true ↔ l.Nodup
  | [] => by simp [va_nd]
  | a :: l => by
    unfold va_nd
    rw [Bool.and_eq_true, va_nd_iff l, List.nodup_cons, decide_eq_true_eq]
theorem sub_l (wr wc : va_W) : (List.range wr.length).map (fun i => (wr ++ wc)[i]?) = wr.map some := by
  apply List.ext_getElem?
  intro k
  rw [List.getElem?_map, List.getElem?_map]
  by_cases h : k < wr.length
  · rw [List.getElem?_range h, List.getElem?_eq_getElem h]
    show some ((wr ++ wc)[k]?) = _
    rw [List.getElem?_append_left h, List.getElem?_eq_getElem h]
    rfl
  · rw [List.getElem?_eq_none (by rw [List.length_range]; omega), List.getElem?_eq_none (by omega)]
    rfl
theorem sub_r (wr wc : va_W) : ((List.range wc.length).map (fun i => wr.length + i)).map (fun i => (wr ++ wc)[i]?) = wc.map some := by
  apply List.ext_getElem?
  intro k
  rw [List.map_map, List.getElem?_map, List.getElem?_map]
  by_cases h : k < wc.length
  · rw [List.getElem?_range h, List.getElem?_eq_getElem h]
    show some ((wr ++ wc)[wr.length + k]?) = _
    rw [List.getElem?_append_right (by omega), Nat.add_sub_cancel_left, List.getElem?_eq_getElem h]
    rfl
  · rw [List.getElem?_eq_none (by rw [List.length_range]; omega), List.getElem?_eq_none (by omega)]
    rfl
theorem sub_d (a b : Nat) : va_nd (List.range a) = true ∧ va_nd ((List.range b).map (fun i => a + i)) = true ∧ ∀ i ∈ List.range a, i ∉ (List.range b).map (fun i => a + i) := by
  refine ⟨(va_nd_iff _).mpr List.nodup_range, (va_nd_iff _).mpr ?_, fun i hi hj => ?_⟩
  · rw [List.nodup_iff_pairwise_ne, List.pairwise_map]
    exact (List.nodup_iff_pairwise_ne.mp List.nodup_range).imp (fun h e => h (by omega))
  · obtain ⟨j, -, e⟩ := List.mem_map.mp hj
    have := List.mem_range.mp hi
    omega
/-- the literal part of a world, X in front of it, R behind it -/
theorem pm_mid (F X R : va_W) : ((F ++ X) ++ R).Perm (X ++ (F ++ R)) := by
  rw [← List.append_assoc]
  exact List.Perm.append_right R List.perm_append_comm
section ZKP
variable {p : Program} {l : Launch} {e : Env} {R : Room} {s : State} {m : MethodId} {args : Array Value} {below : List Frame} {meth : Method} {c : Code} {H : Heap} {locs : List Loc} {cells slots : Nat} {Q : State → Prop}
variable {cc b : ByteArray} {pc nL n k idx ci : Nat} {ls : Array Slot} {rest st0 As : List Value} {D : va_G} {A : Nat → Prop} {a : Nat} {tys : List (ClassId × FieldType)} {ws wc : va_W} {own host : String} {y : MethodName} {r : Option FieldType} {rm : Room} {S : Type} {Qr : S → Option Value} {post : S → Prop} {ws' : S → va_W}
theorem z_kVp (hE : zE p s m args c cc nL own D tys) (hZ : zS D A s.heap H locs ws) (hM : zC l y b n r rm D tys (.ref a :: As) wc Qr post ws') (hL : zL y b n r k) (hLV : zLV own idx y) (hci : (vwCl[ci]?).map (fun q => q.1) = some y.cls) (wr : va_W) (hp1 : ws.Perm (wr ++ wc)) (wsn : S → va_W) (hp2 : ∀ u, (wr ++ ws' u).Perm (wsn u)) (q0 : Nat) {fs : List Value} (he : wc[q0]? = some (a, .inr (ci, fs)))
    (hR : rm.frames + 1 ≤ R.frames ∧ 8 + (n + 11) + rm.locals ≤ R.locals) (c1 s1 : Nat) (hc1 : cells + rm.cells = c1) (hs1 : slots + rm.slots = s1) (hf : c1 ≤ R.cells ∧ s1 ≤ R.slots)
    (hAs : As.length = k) (hls : ls.size = nL) (hst : st0 = As.reverse ++ .ref a :: rest) (hW : (rest.map fun v => v.category).sum ≤ 8) (hdg : decode cc pc = .ok (.invokevirtual idx, 3))
    (kk : ∀ (u : S) (H1 : Heap) (locs1 : List Loc), post u → zS D A s.heap H1 locs1 (wsn u) → W p l e R s m args below meth c H1 locs1 c1 s1 Q (F0 m (pc + 3) ls ((Qr u).toList ++ rest))) : W p l e R s m args below meth c H locs cells slots Q (F0 m pc ls st0) := by
  subst hc1; subst hs1
  exact z_callV hE (z_perm hp1 hZ) hM hL hLV hci ((List.range wc.length).map (fun i => wr.length + i)) (List.range wr.length) q0 he (sub_r wr wc) (sub_l wr wc) (sub_d wr.length wc.length) hR hf hAs hls hst hW hdg (fun u H1 locs1 h1 h2 => kk u H1 locs1 h1 (z_perm (hp2 u) h2))
theorem z_kIp (hE : zE p s m args c cc nL own D tys) (hZ : zS D A s.heap H locs ws) (hM : zC l y b n none rm D tys (.ref a :: As) wc Qr post ws') (hL : zL y b n none k) (hLI : zLI own idx y) (wr : va_W) (hp1 : ws.Perm (wr ++ wc)) (wsn : S → va_W) (hp2 : ∀ u, (wr ++ ws' u).Perm (wsn u))
    (hR : rm.frames + 1 ≤ R.frames ∧ 8 + (n + 11) + rm.locals ≤ R.locals) (c1 s1 : Nat) (hc1 : cells + rm.cells = c1) (hs1 : slots + rm.slots = s1) (hf : c1 ≤ R.cells ∧ s1 ≤ R.slots)
    (hAs : As.length = k) (hls : ls.size = nL) (hst : st0 = As.reverse ++ .ref a :: rest) (hW : (rest.map fun v => v.category).sum ≤ 8) (hdg : decode cc pc = .ok (.invokespecial idx, 3))
    (kk : ∀ (u : S) (H1 : Heap) (locs1 : List Loc), post u → zS D A s.heap H1 locs1 (wsn u) → W p l e R s m args below meth c H1 locs1 c1 s1 Q (F0 m (pc + 3) ls ((Qr u).toList ++ rest))) : W p l e R s m args below meth c H locs cells slots Q (F0 m pc ls st0) := by
  subst hc1; subst hs1
  exact z_callI hE (z_perm hp1 hZ) hM hL hLI ((List.range wc.length).map (fun i => wr.length + i)) (List.range wr.length) (sub_r wr wc) (sub_l wr wc) (sub_d wr.length wc.length) hR hf hAs hls hst hW hdg (fun u H1 locs1 h1 h2 => kk u H1 locs1 h1 (z_perm (hp2 u) h2))
/-! rows: the ints' come first, behind the literal part F -/
variable {F : va_W} {cA cB : ClassId} {nA nB : Nat} {rA rB : Nat → Nat} {fB fA : Nat → Nat → Int32} {H0 : Heap}
theorem z_riald {φ : Nat → Nat → Int32} (hE : zE p s m args c cc nL own D tys) (hZ : zS D A H0 H locs (F ++ (zRow cA nA rA φ ++ zRow cB nB rB fB))) (t0 : Nat) (ht : tys[t0]? = some (cA, .int)) (hn : nA < 2 ^ 31) {i j : Nat} (hi : i < 32) (hj : j < nA) (hdg : decode cc pc = .ok (.iaload, 1))
    (kk : W p l e R s m args below meth c H locs cells slots Q (F0 m (pc + 1) ls (.int (φ i j) :: rest))) : W p l e R s m args below meth c H locs cells slots Q (F0 m pc ls (.int (nI j) :: .ref (rA i) :: rest)) :=
  z_iald hE hZ (F.length + i) t0 (app_get rfl (app_getl (zRow_get hi))) ht hn hj hdg kk
theorem z_rzald {φ : Nat → Nat → Int32} (hE : zE p s m args c cc nL own D tys) (hZ : zS D A H0 H locs (F ++ (zRow cA nA rA fA ++ zRow cB nB rB φ))) (t0 : Nat) (ht : tys[t0]? = some (cB, .boolean)) (hn : nB < 2 ^ 31) {i j : Nat} (hi : i < 32) (hj : j < nB) (hdg : decode cc pc = .ok (.baload, 1))
    (kk : W p l e R s m args below meth c H locs cells slots Q (F0 m (pc + 1) ls (.int (φ i j) :: rest))) : W p l e R s m args below meth c H locs cells slots Q (F0 m pc ls (.int (nI j) :: .ref (rB i) :: rest)) :=
  z_zald hE hZ (F.length + (32 + i)) t0 (app_get rfl (app_get (zRow_len _ _ _ _) (zRow_get hi))) ht hn hj hdg kk
theorem z_riast (g : Nat → Nat → Nat) (v : Nat) (hE : zE p s m args c cc nL own D tys) (hZ : zS D A H0 H locs (F ++ (zRow cA nA rA (fun y9 x9 => nI (g y9 x9)) ++ zRow cB nB rB fB))) (t0 : Nat) (ht : tys[t0]? = some (cA, .int)) (hn : nA < 2 ^ 31) {i j : Nat} (hi : i < 32) (hj : j < nA) (hdg : decode cc pc = .ok (.iastore, 1))
    (kk : ∀ (H1 : Heap) (locs1 : List Loc), zS D A H0 H1 locs1 (F ++ (zRow cA nA rA (fun y9 x9 => nI (va_up2 g i j v y9 x9)) ++ zRow cB nB rB fB)) → W p l e R s m args below meth c H1 locs1 cells slots Q (F0 m (pc + 1) ls rest)) : W p l e R s m args below meth c H locs cells slots Q (F0 m pc ls (.int (nI v) :: .int (nI j) :: .ref (rA i) :: rest)) := by
  refine z_iast nI (g i) v hE hZ (F.length + i) t0 (app_get rfl (app_getl (zRow_get hi))) ht hn hj hdg _ rfl (fun H1 locs1 hZ1 => kk H1 locs1 ?_)
  rw [app_set rfl, app_setl (zRow_get hi), zRow_set hi] at hZ1
  refine Eq.mp (congrArg (fun w => zS D A H0 H1 locs1 (F ++ (zRow cA nA rA w ++ zRow cB nB rB fB))) ?_) hZ1
  funext y x
  unfold va_up va_up2
  by_cases e : y = i
  · by_cases e2 : x = j <;> simp [e, e2]
  · simp [e]
theorem z_rzast (g : Nat → Nat → Bool) (v : Bool) (hE : zE p s m args c cc nL own D tys) (hZ : zS D A H0 H locs (F ++ (zRow cA nA rA fA ++ zRow cB nB rB (fun y9 x9 => zB (g y9 x9))))) (t0 : Nat) (ht : tys[t0]? = some (cB, .boolean)) (hn : nB < 2 ^ 31) {i j : Nat} (hi : i < 32) (hj : j < nB) (hdg : decode cc pc = .ok (.bastore, 1))
    (kk : ∀ (H1 : Heap) (locs1 : List Loc), zS D A H0 H1 locs1 (F ++ (zRow cA nA rA fA ++ zRow cB nB rB (fun y9 x9 => zB (va_up2 g i j v y9 x9)))) → W p l e R s m args below meth c H1 locs1 cells slots Q (F0 m (pc + 1) ls rest)) : W p l e R s m args below meth c H locs cells slots Q (F0 m pc ls (.int (zB v) :: .int (nI j) :: .ref (rB i) :: rest)) := by
  refine z_zast (g i) v hE hZ (F.length + (32 + i)) t0 (app_get rfl (app_get (zRow_len _ _ _ _) (zRow_get hi))) ht hn hj hdg _ rfl (fun H1 locs1 hZ1 => kk H1 locs1 ?_)
  rw [app_set rfl, app_set (zRow_len _ _ _ _), zRow_set hi] at hZ1
  refine Eq.mp (congrArg (fun w => zS D A H0 H1 locs1 (F ++ (zRow cA nA rA fA ++ zRow cB nB rB w))) ?_) hZ1
  funext y x
  unfold va_up va_up2
  by_cases e : y = i
  · by_cases e2 : x = j <;> simp [e, e2]
  · simp [e]
end ZKP
/-- the world of the reference, X behind its own literal part -/
def WQ (cI cJ cZ cII cZZ : ClassId) (X : va_W) (t0 : Nat) (t1 : Nat) (t2 : Nat) (t3 : Nat) (t4 : Nat) (t5 : Nat) (t6 : Nat) (t7 : Nat) (t8 : Nat) (t9 : Nat) (tA : Nat) (tB : Nat) (tC : Nat) (tD : Nat) (tR : Nat → Nat) (tS : Nat → Nat) (e0 : Nat) (eP : Nat → Nat) (eb : Int) (er : Int) (ek : Bool) (es : Nat → Int) (ed : Nat → Nat → Nat) (ec : Nat → Bool) (ew : Nat → Nat → Bool) (lk : Nat → Nat) (lf : Nat → Nat) (lo : Nat → Nat) (lv : Nat → Int64) (le : Nat) (eW : Int) (et : Nat → Nat) (eh : Nat → Nat) (ei : Nat → Int) (eu : Nat → Bool) (em : Nat) : va_W :=
  (([(t0, .inr (7, [.int (nI e0), .ref t1, .int (zI eb), .int (zI er), .int (zB ek), .ref t2, .ref t3, .ref t4, .ref t5, .ref t6, .ref t7, .ref t8, .ref t9, .int (nI le), .int (zI eW), .ref tA, .ref tB, .ref tC, .ref tD, .int (nI em)])),
    (t1, .inl (cI, 19200, .inl (fun x9 => nI (eP x9)))),
    (t2, .inl (cI, 32, .inl (fun x9 => zI (es x9)))),
    (t3, .inl (cII, 32, .inr (.inr (.inr (.inr (fun x9 => if x9 < 32 then some (tR x9) else none)))))),
    (t4, .inl (cZ, 32, .inl (fun x9 => zB (ec x9)))),
    (t5, .inl (cZZ, 32, .inr (.inr (.inr (.inr (fun x9 => if x9 < 32 then some (tS x9) else none)))))),
    (t6, .inl (cI, 40, .inl (fun x9 => nI (lk x9)))),
    (t7, .inl (cI, 40, .inl (fun x9 => nI (lf x9)))),
    (t8, .inl (cI, 40, .inl (fun x9 => nI (lo x9)))),
    (t9, .inl (cJ, 40, .inr (.inl lv))),
    (tA, .inl (cI, 600, .inl (fun x9 => nI (et x9)))),
    (tB, .inl (cI, 19200, .inl (fun x9 => nI (eh x9)))),
    (tC, .inl (cI, 32, .inl (fun x9 => zI (ei x9)))),
    (tD, .inl (cZ, 600, .inl (fun x9 => zB (eu x9))))] : va_W) ++ X) ++ (zRow cI 448 tR (fun y9 x9 => nI (ed y9 x9)) ++ zRow cZ 14 tS (fun y9 x9 => zB (ew y9 x9)))
theorem WQ_pm {cI cJ cZ cII cZZ : ClassId} {X : va_W} {t0 : Nat} {t1 : Nat} {t2 : Nat} {t3 : Nat} {t4 : Nat} {t5 : Nat} {t6 : Nat} {t7 : Nat} {t8 : Nat} {t9 : Nat} {tA : Nat} {tB : Nat} {tC : Nat} {tD : Nat} {tR : Nat → Nat} {tS : Nat → Nat} {e0 : Nat} {eP : Nat → Nat} {eb : Int} {er : Int} {ek : Bool} {es : Nat → Int} {ed : Nat → Nat → Nat} {ec : Nat → Bool} {ew : Nat → Nat → Bool} {lk : Nat → Nat} {lf : Nat → Nat} {lo : Nat → Nat} {lv : Nat → Int64} {le : Nat} {eW : Int} {et : Nat → Nat} {eh : Nat → Nat} {ei : Nat → Int} {eu : Nat → Bool} {em : Nat} : (WQ cI cJ cZ cII cZZ X t0 t1 t2 t3 t4 t5 t6 t7 t8 t9 tA tB tC tD tR tS e0 eP eb er ek es ed ec ew lk lf lo lv le eW et eh ei eu em).Perm (X ++ WQ cI cJ cZ cII cZZ [] t0 t1 t2 t3 t4 t5 t6 t7 t8 t9 tA tB tC tD tR tS e0 eP eb er ek es ed ec ew lk lf lo lv le eW et eh ei eu em) := by
  unfold WQ
  rw [List.append_nil]
  exact pm_mid _ _ _
