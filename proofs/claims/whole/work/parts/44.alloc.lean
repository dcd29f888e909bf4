/-! new objects and arrays; rows of arrays; worlds that are put together otherwise -/
theorem nd_of {A : Nat → Prop} {ws : va_W} : va_D A ws ↔ (ws.map (fun q => q.1)).Nodup ∧ ∀ q, q ∈ ws → A q.1 := by
  constructor
  · intro h
    refine ⟨?_, fun q hq => ?_⟩
    · rw [List.nodup_iff_pairwise_ne, List.pairwise_iff_getElem]
      intro i j hi hj hij e
      rw [List.length_map] at hi hj
      rw [List.getElem_map, List.getElem_map] at e
      have := h.1 i j _ _ (List.getElem?_eq_getElem hi) (List.getElem?_eq_getElem hj) e
      omega
    · obtain ⟨i, hi, e⟩ := List.getElem_of_mem hq
      exact h.2 i q (by rw [List.getElem?_eq_getElem hi, e])
  · rintro ⟨h1, h2⟩
    refine ⟨fun i j p q hp hq e => ?_, fun k q hk => h2 q (List.mem_of_getElem? hk)⟩
    obtain ⟨hi, ei⟩ := List.getElem?_eq_some_iff.mp hp
    obtain ⟨hj, ej⟩ := List.getElem?_eq_some_iff.mp hq
    rw [List.nodup_iff_pairwise_ne, List.pairwise_iff_getElem] at h1
    rcases Nat.lt_trichotomy i j with z | z | z
    · exact absurd (by rw [List.getElem_map, List.getElem_map, ei, ej]; exact e) (h1 i j (by rw [List.length_map]; exact hi) (by rw [List.length_map]; exact hj) z)
    · exact z
    · exact absurd (by rw [List.getElem_map, List.getElem_map, ei, ej]; exact e.symm) (h1 j i (by rw [List.length_map]; exact hj) (by rw [List.length_map]; exact hi) z)
theorem z_perm {D : va_G} {A : Nat → Prop} {H0 H : Heap} {locs : List Loc} {ws ws' : va_W} (hp : ws.Perm ws') (h : zS D A H0 H locs ws) : zS D A H0 H locs ws' := by
  refine ⟨fun k q hk => ?_, nd_of.mpr ?_, h.2.2.1, h.2.2.2⟩
  · obtain ⟨i, hi, e⟩ := List.getElem_of_mem (hp.mem_iff.mpr (List.mem_of_getElem? hk))
    exact h.1 i q (by rw [List.getElem?_eq_getElem hi, e])
  · obtain ⟨h1, h2⟩ := nd_of.mp h.2.1
    exact ⟨(hp.map _).nodup_iff.mp h1, fun q hq => h2 q (hp.mem_iff.mpr hq)⟩
/-- thirty-two rows -/
def zRow (c : ClassId) (n : Nat) (r : Nat → Nat) (f : Nat → (Nat → Int32)) : va_W := (List.range 32).map (fun i => (r i, .inl (c, n, .inl (f i))))
theorem zRow_len (c : ClassId) (n : Nat) (r : Nat → Nat) (f : Nat → (Nat → Int32)) : (zRow c n r f).length = 32 := by unfold zRow; rw [List.length_map, List.length_range]
theorem zRow_get {c : ClassId} {n : Nat} {r : Nat → Nat} {f : Nat → (Nat → Int32)} {i : Nat} (hi : i < 32) : (zRow c n r f)[i]? = some (r i, .inl (c, n, .inl (f i))) := by
  unfold zRow
  rw [List.getElem?_map, List.getElem?_range hi]
  rfl
theorem zRow_set {c : ClassId} {n : Nat} {r : Nat → Nat} {f : Nat → (Nat → Int32)} {i : Nat} (hi : i < 32) (v : Nat → Int32) : (zRow c n r f).set i (r i, .inl (c, n, .inl v)) = zRow c n r (va_up f i v) := by
  apply List.ext_getElem?
  intro k
  rw [List.getElem?_set]
  by_cases e : i = k
  · subst e
    rw [if_pos rfl, if_pos (by rw [zRow_len]; exact hi), zRow_get hi]
    unfold va_up; rw [if_pos rfl]
  · rw [if_neg e]
    by_cases h : k < 32
    · rw [zRow_get h, zRow_get h]
      unfold va_up; rw [if_neg (Ne.symm e)]
    · rw [List.getElem?_eq_none (by rw [zRow_len]; omega), List.getElem?_eq_none (by rw [zRow_len]; omega)]
theorem app_get {α : Type} {F G : List α} {n i : Nat} {x : α} (hn : F.length = n) (h : G[i]? = some x) : (F ++ G)[n + i]? = some x := by
  subst hn; rw [List.getElem?_append_right (by omega)]; simpa using h
theorem app_set {α : Type} {F G : List α} {n i : Nat} {x : α} (hn : F.length = n) : (F ++ G).set (n + i) x = F ++ G.set i x := by
  subst hn; rw [List.set_append_right _ _ (by omega)]; simp
theorem app_getl {α : Type} {F G : List α} {i : Nat} {x : α} (h : F[i]? = some x) : (F ++ G)[i]? = some x := by
  rw [List.getElem?_append_left (List.getElem?_eq_some_iff.mp h).1]; exact h
theorem app_setl {α : Type} {F G : List α} {i : Nat} {x y : α} (h : F[i]? = some y) : (F ++ G).set i x = F.set i x ++ G := List.set_append_left _ _ (List.getElem?_eq_some_iff.mp h).1
section ZNW
variable {p : Program} {l : Launch} {e : Env} {R : Room} {s : State} {m : MethodId} {args : Array Value} {below : List Frame} {meth : Method} {c : Code} {H : Heap} {locs : List Loc} {cells slots : Nat} {Q : State → Prop}
variable {cc : ByteArray} {pc nL : Nat} {ls : Array Slot} {rest : List Value} {D : va_G} {A : Nat → Prop} {a : Nat} {tys : List (ClassId × FieldType)} {ws : va_W} {H0 : Heap} {own C : String} {T : u_T} {idx ci N k : Nat}
theorem z_newa {atype : ArrayType} {ty : FieldType} (hty : newarray.typeOf atype = ty) (hE : zE p s m args c cc nL own D tys) (hZ : zS D A H0 H locs ws) (t0 : Nat) {cA : ClassId} (ht : tys[t0]? = some (cA, ty)) (hra : ∀ c9, va_RA s c9 ty → s.vm.findClass ("[" ++ ty.toString) = some c9) (harr : Cond.arrayClass ty ∈ wG) (N : Nat) (x : vp_A) (hx : ∀ cA : ClassId, vp_cell cA x = arrV cA N (fun _ => defaultValue ty)) (hN : N < 2 ^ 31) (hbytes : N * componentBytes ty ≤ 536870912)
    (c1 s1 : Nat) (hc1 : cells + 1 = c1) (hs1 : slots + N = s1) (hf : c1 ≤ R.cells ∧ s1 ≤ R.slots) (hdg : decode cc pc = .ok (.newarray atype, 2)) (ws' : Nat → va_W) (hw : ∀ q, ws ++ [(q, .inl (cA, x))] = ws' q)
    (kk : ∀ (q : Nat) (H1 : Heap), zS D A H0 H1 locs (ws' q) → W p l e R s m args below meth c H1 locs c1 s1 Q (F0 m (pc + 2) ls (.ref q :: rest))) : W p l e R s m args below meth c H locs cells slots Q (F0 m pc ls (.int (nI N) :: rest)) := by
  subst hc1; subst hs1
  refine va_newa hE.1 hE.2.1 (atype := atype) (by rw [hty]; exact hE.2.2.2.2.1 _ harr) hty hE.2.2.2.2.2.1 hZ.1 hZ.2.1 hZ.2.2.1 hZ.2.2.2 hx (by rw [nI_lt0 hN]; exact id) (nI_clamp hN) hbytes hf.1 hf.2 hdg ?_
  intro q cB H1 hK hP hD hS
  have h1 := hra _ (hK.2 tys.length (cB, ty) (by rw [List.getElem?_append_right (Nat.le_refl _)]; simp)).2
  have h2 := hra _ (hE.2.2.2.2.2.1.2 t0 _ ht).2
  cases h1.symm.trans h2
  exact kk q H1 (by rw [← hw q]; exact ⟨hP, hD, hS, hZ.2.2.2⟩)
theorem z_newI (hE : zE p s m args c cc nL own D tys) (hZ : zS D A H0 H locs ws) (t0 : Nat) {cA : ClassId} (ht : tys[t0]? = some (cA, .int)) (harr : Cond.arrayClass .int ∈ wG) (N : Nat) {f : Nat → Int32} (hx : f = fun _ => 0) (hN : N < 100000)
    (c1 s1 : Nat) (hc1 : cells + 1 = c1) (hs1 : slots + N = s1) (hf : c1 ≤ R.cells ∧ s1 ≤ R.slots) (hdg : decode cc pc = .ok (.newarray .int, 2)) (ws' : Nat → va_W) (hw : ∀ q, ws ++ [(q, .inl (cA, N, .inl f))] = ws' q)
    (kk : ∀ (q : Nat) (H1 : Heap), zS D A H0 H1 locs (ws' q) → W p l e R s m args below meth c H1 locs c1 s1 Q (F0 m (pc + 2) ls (.ref q :: rest))) : W p l e R s m args below meth c H locs cells slots Q (F0 m pc ls (.int (nI N) :: rest)) := by
  subst hx
  exact z_newa (ty := .int) rfl hE hZ t0 ht (fun _ h => h) harr N _ (fun _ => rfl) (by omega) (by show N * 4 ≤ _; omega) c1 s1 hc1 hs1 hf hdg ws' hw kk
theorem z_newJ (hE : zE p s m args c cc nL own D tys) (hZ : zS D A H0 H locs ws) (t0 : Nat) {cA : ClassId} (ht : tys[t0]? = some (cA, .long)) (harr : Cond.arrayClass .long ∈ wG) (N : Nat) {f : Nat → Int64} (hx : f = fun _ => 0) (hN : N < 100000)
    (c1 s1 : Nat) (hc1 : cells + 1 = c1) (hs1 : slots + N = s1) (hf : c1 ≤ R.cells ∧ s1 ≤ R.slots) (hdg : decode cc pc = .ok (.newarray .long, 2)) (ws' : Nat → va_W) (hw : ∀ q, ws ++ [(q, .inl (cA, N, .inr (.inl f)))] = ws' q)
    (kk : ∀ (q : Nat) (H1 : Heap), zS D A H0 H1 locs (ws' q) → W p l e R s m args below meth c H1 locs c1 s1 Q (F0 m (pc + 2) ls (.ref q :: rest))) : W p l e R s m args below meth c H locs cells slots Q (F0 m pc ls (.int (nI N) :: rest)) := by
  subst hx
  exact z_newa (ty := .long) rfl hE hZ t0 ht (fun _ h => h) harr N _ (fun _ => rfl) (by omega) (by show N * 8 ≤ _; omega) c1 s1 hc1 hs1 hf hdg ws' hw kk
theorem z_newZ (hE : zE p s m args c cc nL own D tys) (hZ : zS D A H0 H locs ws) (t0 : Nat) {cA : ClassId} (ht : tys[t0]? = some (cA, .boolean)) (harr : Cond.arrayClass .boolean ∈ wG) (N : Nat) {f : Nat → Int32} (hx : f = fun _ => 0) (hN : N < 100000)
    (c1 s1 : Nat) (hc1 : cells + 1 = c1) (hs1 : slots + N = s1) (hf : c1 ≤ R.cells ∧ s1 ≤ R.slots) (hdg : decode cc pc = .ok (.newarray .boolean, 2)) (ws' : Nat → va_W) (hw : ∀ q, ws ++ [(q, .inl (cA, N, .inl f))] = ws' q)
    (kk : ∀ (q : Nat) (H1 : Heap), zS D A H0 H1 locs (ws' q) → W p l e R s m args below meth c H1 locs c1 s1 Q (F0 m (pc + 2) ls (.ref q :: rest))) : W p l e R s m args below meth c H locs cells slots Q (F0 m pc ls (.int (nI N) :: rest)) := by
  subst hx
  exact z_newa (ty := .boolean) rfl hE hZ t0 ht (fun _ h => h) harr N _ (fun _ => rfl) (by omega) (by show N * 1 ≤ _; omega) c1 s1 hc1 hs1 hf hdg ws' hw kk
theorem z_new {ty : Nat → FieldType} (hE : zE p s m args c cc nL own D tys) (hZ : zS D A H0 H locs ws) (hc : vwCl[ci]? = some (C, T, N)) (hu : ∀ w ∈ u_ws C T N, w ∈ wG) (hG : zFp C T N ty) (hk : Cond.classLink own idx C ∈ wG) (hins : Cond.instantiable C N ∈ wG) (hini : Cond.initialized C ∈ wG) (fs : List Value) (hfs : ∀ j, j < N → defaultValue (ty j) = vp_V fs j)
    (c1 s1 : Nat) (hc1 : cells + 1 = c1) (hs1 : slots + N = s1) (hf : c1 ≤ R.cells ∧ s1 ≤ R.slots) (hdg : decode cc pc = .ok (.new idx, 3)) (ws' : Nat → va_W) (hw : ∀ q, ws ++ [(q, .inr (ci, fs))] = ws' q)
    (kk : ∀ (q : Nat) (H1 : Heap), zS D A H0 H1 locs (ws' q) → W p l e R s m args below meth c H1 locs c1 s1 Q (F0 m (pc + 3) ls (.ref q :: rest))) : W p l e R s m args below meth c H locs cells slots Q (F0 m pc ls rest) := by
  subst hc1; subst hs1
  exact va_new hE.1 hE.2.1 hE.2.2.2.2.1 hu ty hG.1 hE.2.2.2.1 (hE.2.2.2.2.1 _ hk) (hE.2.2.2.2.1 _ hins) (hE.2.2.2.2.1 _ hini) hE.2.2.2.2.2.1 hZ.1 hZ.2.1 hZ.2.2.1 hZ.2.2.2 hc hfs hf.1 hf.2 hdg (fun q H1 h1 h2 h3 => kk q H1 (by rw [← hw q]; exact ⟨h1, h2, h3, hZ.2.2.2⟩))
/-- an array of rows: its row i -/
theorem z_aald (hE : zE p s m args c cc nL own D tys) (hZ : zS D A H0 H locs ws) (q0 t0 : Nat) {cA : ClassId} {n : Nat} {f : Nat → Option Nat} {t : FieldType} (ha : ws[q0]? = some (a, .inl (cA, n, .inr (.inr (.inr (.inr f)))))) (ht : tys[t0]? = some (cA, .array t)) {i : Nat} (hn : n < 2 ^ 31) (hin : i < n) (v : Nat) (hv : f i = some v) (hdg : decode cc pc = .ok (.aaload, 1))
    (kk : W p l e R s m args below meth c H locs cells slots Q (F0 m (pc + 1) ls (.ref v :: rest))) : W p l e R s m args below meth c H locs cells slots Q (F0 m pc ls (.int (nI i) :: .ref a :: rest)) := by
  have hc := nI_clamp (Nat.lt_trans hin hn)
  exact W.aald (v := .ref v) (ty := .array t) hE.1 hE.2.1 (hZ.1 q0 _ ha) ((hE.2.2.2.2.2.1.2 t0 _ ht).1 n (fun j => va_rf (f j))) rfl (fun q => by cases q) (by
    show ¬ (nI i < 0 ∨ (arrV cA n (fun j => va_rf (f j))).slots.size ≤ _)
    rw [arrV_size]
    rintro (z | z)
    · exact (nI_lt0 (Nat.lt_trans hin hn)).mp z
    · rw [hc] at z; omega) (by
    show (arrV cA n (fun j => va_rf (f j))).slots[(nI i).toNatClampNeg]? = _
    rw [hc]
    unfold arrV
    simp [hin, hv, va_rf]) rfl rfl hdg kk
end ZNW
