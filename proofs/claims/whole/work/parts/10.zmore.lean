theorem zB_nar (b : Bool) : narrow .boolean (.int (zB b)) = .int (zB b) := by cases b <;> rfl
theorem zB_fit (b : Bool) : fits .boolean (.int (zB b)) = true := by cases b <;> rfl
theorem zB_n (b : Bool) : zB b = nI (if b then 1 else 0) := by cases b <;> rfl
section ZH2
variable {p : Program} {l : Launch} {e : Env} {R : Room} {s : State} {m : MethodId} {args : Array Value} {below : List Frame} {meth : Method} {c : Code} {H : Heap} {locs : List Loc} {cells slots : Nat} {Q : State → Prop}
variable {cc : ByteArray} {pc nL : Nat} {ls : Array Slot} {rest : List Value} {D : va_G} {A : Nat → Prop} {a : Nat} {tys : List (ClassId × FieldType)} {ws : va_W} {H0 : Heap} {own : String}
theorem z_iast0 (g : Nat → Int32) (v : Int32) (hE : zE p s m args c cc nL own D tys) (hZ : zS D A H0 H locs ws) (q0 t0 : Nat) {cA : ClassId} {n : Nat} (ha : ws[q0]? = some (a, .inl (cA, n, .inl g))) (ht : tys[t0]? = some (cA, .int)) {i : Nat} (hn : n < 2 ^ 31) (hin : i < n) (hdg : decode cc pc = .ok (.iastore, 1))
    (ws' : va_W) (hw : ws.set q0 (a, .inl (cA, n, .inl (va_up g i v))) = ws') (kk : ∀ (H1 : Heap) (locs1 : List Loc), zS D A H0 H1 locs1 ws' → W p l e R s m args below meth c H1 locs1 cells slots Q (F0 m (pc + 1) ls rest)) : W p l e R s m args below meth c H locs cells slots Q (F0 m pc ls (.int v :: .int (nI i) :: .ref a :: rest)) :=
  z_iast (fun x : Int32 => x) g v hE hZ q0 t0 ha ht hn hin hdg ws' hw kk
end ZH2
section ZMM
variable {p : Program} {l : Launch} {e : Env} {R : Room} {s : State} {m : MethodId} {args : Array Value} {below : List Frame} {meth : Method} {c : Code} {H : Heap} {locs : List Loc} {cells slots : Nat} {Q : State → Prop}
variable {cc : ByteArray} {pc nL idx : Nat} {ls : Array Slot} {rest : List Value} {D : va_G} {tys : List (ClassId × FieldType)} {own : String}
theorem z_mmax (hE : zE p s m args c cc nL own D tys) (hls : ls.size = nL) (hL : zLS own idx yJ9_max_7cf53) (hframes : 1 ≤ R.frames) (hlocals : (rest.map fun v => v.category).sum + 13 ≤ R.locals) (hc : cells ≤ R.cells) (hs : slots ≤ R.slots) {x y : Int32} (a b : Int) (hx : x = zI a) (hy : y = zI b) (ha : zOk a) (hb : zOk b) (hdg : decode cc pc = .ok (.invokestatic idx, 3))
    (kk : W p l e R s m args below meth c H locs cells slots Q (F0 m (pc + 3) ls (.int (zI (if a < b then b else a)) :: rest))) : W p l e R s m args below meth c H locs cells slots Q (F0 m pc ls (.int y :: .int x :: rest)) := by
  subst hx; subst hy
  refine va_mmax hE.1 hE.2.1 (hE.2.2.1.trans hls.symm) hE.2.2.2.1 (hE.2.2.2.2.1 _ hL.1) (hE.2.2.2.2.1 _ hL.2) (hE.2.2.2.2.1 _ lL_J9_max_7cf53.2.1) (hE.2.2.2.2.1 _ lL_J9_max_7cf53.1) hframes hlocals hc hs hdg ?_
  by_cases h : a < b
  · rw [if_pos ((zI_lt ha hb).mpr h)]; rw [if_pos h] at kk; exact kk
  · rw [if_neg (fun q => h ((zI_lt ha hb).mp q))]; rw [if_neg h] at kk; exact kk
theorem z_mmin (hE : zE p s m args c cc nL own D tys) (hls : ls.size = nL) (hL : zLS own idx yJ9_min_7cf53) (hframes : 1 ≤ R.frames) (hlocals : (rest.map fun v => v.category).sum + 13 ≤ R.locals) (hc : cells ≤ R.cells) (hs : slots ≤ R.slots) {x y : Int32} (a b : Int) (hx : x = zI a) (hy : y = zI b) (ha : zOk a) (hb : zOk b) (hdg : decode cc pc = .ok (.invokestatic idx, 3))
    (kk : W p l e R s m args below meth c H locs cells slots Q (F0 m (pc + 3) ls (.int (zI (if b < a then b else a)) :: rest))) : W p l e R s m args below meth c H locs cells slots Q (F0 m pc ls (.int y :: .int x :: rest)) := by
  subst hx; subst hy
  refine va_mmin hE.1 hE.2.1 (hE.2.2.1.trans hls.symm) hE.2.2.2.1 (hE.2.2.2.2.1 _ hL.1) (hE.2.2.2.2.1 _ hL.2) (hE.2.2.2.2.1 _ lL_J9_min_7cf53.2.1) (hE.2.2.2.2.1 _ lL_J9_min_7cf53.1) hframes hlocals hc hs hdg ?_
  by_cases h : b < a
  · rw [if_pos ((zI_lt hb ha).mpr h)]; rw [if_pos h] at kk; exact kk
  · rw [if_neg (fun q => h ((zI_lt hb ha).mp q))]; rw [if_neg h] at kk; exact kk
end ZMM
theorem bitCount_plain : plainName "java/lang/Integer" = true := by decide
