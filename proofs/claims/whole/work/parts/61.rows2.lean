/-! arrays of arrays: what the machine must have at hand, and the reference's own constructor -/
def zAO (U : State) : Prop := va_AOA .int U ∧ va_AOA .boolean U
theorem va_AOA.moved {t : FieldType} {u U : State} (hvm : u.vm.Alike U.vm) (h : va_AOA t u) : va_AOA t U := by
  have h1 := Cond.arrayOver_setVmC (args := #[]) (s := u) (vm' := U.vm) hvm (.array t)
  rw [show (Cond.arrayOver (.array t)).before #[] u = true from h] at h1
  have h2 : (Cond.arrayOver (.array t)).before #[] U = (Cond.arrayOver (.array t)).before #[] (u.setVm U.vm) := by
    simp only [Cond.before, Cond.holds, Cond.value, State.vm_setVm]
    rfl
  show (Cond.arrayOver (.array t)).before #[] U = true
  rw [h2, h1]
theorem zAO.moved {u U : State} (hvm : u.vm.Alike U.vm) (h : zAO u) : zAO U := ⟨h.1.moved hvm, h.2.moved hvm⟩
def zC2 (l : Launch) (y : MethodName) (b : ByteArray) (n : Nat) (r : Option FieldType) (rm : Room) (D : va_G) (tys : List (ClassId × FieldType)) (av : List Value) (ws : va_W) {S : Type} (Qr : S → Option Value) (post : S → Prop) (ws' : S → va_W) : Prop :=
  ∀ sz, Met l y (wM y b n r) rm (va_Pc av (fun U => zPre D tys ws sz U ∧ zAO U)) (zQ D (va_A ws sz) Qr post ws') rm.cells rm.slots (va_A ws sz)
theorem zC2_of {l : Launch} {y : MethodName} {b : ByteArray} {n : Nat} {r : Option FieldType} {rm : Room} {D : va_G} {tys : List (ClassId × FieldType)} {av : List Value} {ws : va_W} {S : Type} {Qr : S → Option Value} {post : S → Prop} {ws' : S → va_W}
    (hy : plainName y.cls = true) (hn : (lg_sl av).length ≤ n)
    (body : ∀ (p : Program) (e : Env) (s : State) (m : MethodId) (below : List Frame) (meth : Method) (c : Code) (A : Nat → Prop) (ls : Array Slot), zE p s m av.toArray c b n y.cls D tys → meth.sig.returnType = r → meth.locks = false → meth.name = y.name → zAO s → zS D A s.heap s.heap [] ws → lv_has ls n (lv_args 0 av) →
      W p l e rm s m av.toArray below meth c s.heap [] 0 0 (MQ below (zQ D A Qr post ws') av.toArray s rm.cells rm.slots A) (F0 m 0 ls [])) : zC2 l y b n r rm D tys av ws Qr post ws' := by
  intro sz
  refine Met.ofW (cc := b) (maxL := n) (ret := r) hy rfl ?_
  intro p e s m args below meth c s₁ B hml hv
  obtain ⟨rfl, ⟨hsz, hP, hK, hN, hD0⟩, hO⟩ := hv
  subst hsz
  have hts := atoms_spec (ws := wM y b n r) B.pre
  have hD := hD0.self (sz := s.heap.size)
  have hA : ∀ q : Nat, s.heap.size ≤ q → va_A ws s.heap.size q := fun q h => Or.inr h
  have hl := lv_entry av (n := n) hn
  rw [lg_entry_eq]
  exact body p e s m below meth c (va_A ws s.heap.size) _ ⟨B.exec, B.bytes, hml, findClass_of_methodNamed B.named, fun w h => hts w (List.mem_cons_of_mem _ h), hK, hN⟩ B.returns B.notSynchronized (name_of_methodNamed B.named B.method).1 hO ⟨hP, hD, va_S.rf, hA⟩ hl
section ZM
variable {p : Program} {l : Launch} {e : Env} {R : Room} {s : State} {m : MethodId} {args : Array Value} {below : List Frame} {meth : Method} {c : Code} {H : Heap} {locs : List Loc} {cells slots : Nat} {Q : State → Prop}
variable {cc b : ByteArray} {pc nL n k idx ci : Nat} {ls : Array Slot} {rest st0 As : List Value} {D : va_G} {A : Nat → Prop} {a : Nat} {tys : List (ClassId × FieldType)} {ws wc : va_W} {own host : String} {y : MethodName} {r : Option FieldType} {rm : Room} {S : Type} {Qr : S → Option Value} {post : S → Prop} {ws' : S → va_W} {H0 : Heap}
theorem z_kI2 (hE : zE p s m args c cc nL own D tys) (hO : zAO s) (hZ : zS D A s.heap H locs ws) (hM : zC2 l y b n none rm D tys (.ref a :: As) wc Qr post ws') (hL : zL y b n none k) (hLI : zLI own idx y) (wr : va_W) (hp1 : ws.Perm (wr ++ wc)) (wsn : S → va_W) (hp2 : ∀ u, (wr ++ ws' u).Perm (wsn u))
    (hR : rm.frames + 1 ≤ R.frames ∧ 8 + (n + 11) + rm.locals ≤ R.locals) (c1 s1 : Nat) (hc1 : cells + rm.cells = c1) (hs1 : slots + rm.slots = s1) (hf : c1 ≤ R.cells ∧ s1 ≤ R.slots)
    (hAs : As.length = k) (hls : ls.size = nL) (hst : st0 = As.reverse ++ .ref a :: rest) (hW : (rest.map fun v => v.category).sum ≤ 8) (hdg : decode cc pc = .ok (.invokespecial idx, 3))
    (kk : ∀ (u : S) (H1 : Heap) (locs1 : List Loc), post u → zS D A s.heap H1 locs1 (wsn u) → W p l e R s m args below meth c H1 locs1 c1 s1 Q (F0 m (pc + 3) ls ((Qr u).toList ++ rest))) : W p l e R s m args below meth c H locs cells slots Q (F0 m pc ls st0) := by
  subst hc1; subst hs1
  have hZ1 := z_perm hp1 hZ
  have hd := sub_d wr.length wc.length
  have hp := z_preS hE hZ1 ((List.range wc.length).map (fun i => wr.length + i)) hd.2.1 (sub_r wr wc) (.ref a :: As)
  have hp3 : PreS s H (va_Pc (.ref a :: As) (fun U => zPre D tys wc H.size U ∧ zAO U)) (.ref a :: As) :=
    ⟨fun a9 U g mk q => by
      obtain ⟨q0, ⟨q1, q2, q3, q4, q5⟩, q6⟩ := q
      exact ⟨q0, ⟨q1, q2, va_K.moved (u := U) (U := U.calling g mk a9) (Vm.Alike.refl U.vm) q3, zN.same (s := U) (U := U.calling g mk a9) rfl q4, q5⟩, zAO.moved (u := U) (U := U.calling g mk a9) (Vm.Alike.refl U.vm) q6⟩,
     fun U hU hW => ⟨(hp.2 U hU hW).1, (hp.2 U hU hW).2, hO.moved hW.alike⟩⟩
  refine z_back (F := fun _ => True) hZ1 ((List.range wc.length).map (fun i => wr.length + i)) (List.range wr.length) (sub_r wr wc) (sub_l wr wc) hd.1 hd.2.2 ?_ (fun u H1 locs1 h1 h2 => kk u H1 locs1 h1 (z_perm (hp2 u) h2))
  exact va_runI (As := As) (rest := rest) ⟨hE.1, hE.2.1, hE.2.2.1, hE.2.2.2.1, hE.2.2.2.2.1⟩ (hM H.size) ⟨z_callB hE hL hLI.1 hR, hLI.2.2, hE.2.2.2.2.1 _ hLI.2.1⟩ hp3 rfl hAs hls hst (lv_room (st := rest) (rest := st0) hW) hdg hf
theorem z_mna {ty : FieldType} (hE : zE p s m args c cc nL own D tys) (hO : va_AOA ty s) (hZ : zS D A H0 H locs ws) (t0 t1 : Nat) {cA cy : ClassId} (ht : tys[t0]? = some (cA, .array ty)) (ht1 : tys[t1]? = some (cy, ty)) (hcy : va_RA s cy ty → s.vm.findClass (FieldType.array ty).toString = some cy) (harr : Cond.arrayClass ty ∈ wG) (hcl : Cond.classLink own idx ("[" ++ (FieldType.array ty).toString) ∈ wG) (K : Nat) (hz : ∀ c, Jvm.Free.Multi.innerC c K (defaultValue ty) = vp_cell c (K, .inl (fun _ => 0))) (hb2 : K * componentBytes ty ≤ 536870912) (hK3 : K < 100000) (hdf : fits ty (defaultValue ty) = true) (hdd : (defaultValue ty).isDefault = true)
    (c1 s1 : Nat) (hc1 : cells + 33 = c1) (hs1 : slots + (32 + 32 * K) = s1) (hf : c1 ≤ R.cells ∧ s1 ≤ R.slots) (hdg : decode cc pc = .ok (.multianewarray idx 2, 4))
    (kk : ∀ (q : Nat) (r : Nat → Nat) (H1 : Heap), zS D A H0 H1 locs ((ws ++ [(q, .inl (cA, 32, .inr (.inr (.inr (.inr (fun i => if i < 32 then some (r i) else none))))))]) ++ zRow cy K r (fun _ _ => 0)) → W p l e R s m args below meth c H1 locs c1 s1 Q (F0 m (pc + 4) ls (.ref q :: rest))) : W p l e R s m args below meth c H locs cells slots Q (F0 m pc ls (.int (nI K) :: .int (nI 32) :: rest)) := by
  subst hc1; subst hs1
  have hZ0 : va_P D vwCl (ws ++ va_pl [] (fun _ => .inr (0, []))) H := by
    show va_P D vwCl (ws ++ []) H
    rw [List.append_nil]; exact hZ.1
  have hD0 : va_D A (ws ++ va_pl [] (fun _ => .inr (0, []))) := by
    show va_D A (ws ++ [])
    rw [List.append_nil]; exact hZ.2.1
  refine va_mna (X := ws) (L := []) (f := fun _ => .inr (0, [])) (z := (K, .inl (fun _ => 0))) (N' := 32) (K' := K) hE.1 hE.2.1 hE.2.2.2.1 (hE.2.2.2.2.1 _ hcl) hO (hE.2.2.2.2.1 _ harr) (hcy (hE.2.2.2.2.2.1.2 t1 _ ht1).2) hE.2.2.2.2.2.1 hZ0 hD0 hZ.2.2.1 hZ.2.2.2 (by rw [nI_lt0 (by omega)]; exact id) (by rw [nI_lt0 (by omega)]; exact id) (nI_clamp (by omega)) (nI_clamp (by omega)) (by omega) hb2 (by omega) hdf hdd (by omega) (by omega) hz hdg ?_
  intro q r cB H1 _ _ hK hP hD hS
  have h1 : s.vm.findClass ("[" ++ (FieldType.array ty).toString) = some cB := (hK.2 tys.length (cB, .array ty) (by rw [List.getElem?_append_right (Nat.le_refl _)]; simp)).2
  have h2 : s.vm.findClass ("[" ++ (FieldType.array ty).toString) = some cA := (hE.2.2.2.2.2.1.2 t0 _ ht).2
  cases h1.symm.trans h2
  have e : va_pl ([] ++ (List.range 32).map r) (vr_up (fun _ => .inr (0, [])) ((List.range 32).map r) (.inl (cy, (K, .inl (fun _ => 0))))) = zRow cy K r (fun _ _ => 0) := by
    unfold va_pl zRow
    rw [List.nil_append, List.map_map]
    apply List.map_congr_left
    intro i hi
    show (r i, vr_up _ _ _ (r i)) = _
    rw [vr_up_in (List.mem_map.mpr ⟨i, hi, rfl⟩)]
  rw [e] at hP hD
  have hk := kk q r H1 ⟨hP, hD, hS, hZ.2.2.2⟩
  rw [show cells + 1 + 32 = cells + 33 by omega, show slots + 32 + 32 * K = slots + (32 + 32 * K) by omega]
  exact hk
end ZM
/-- a literal part, rows behind it -/
def zFR (F R : va_W) : va_W := F ++ R
theorem pm_new (F R : va_W) (x : Nat × va_E) : (zFR F R ++ [x]).Perm (zFR (F ++ [x]) R) := by
  unfold zFR
  rw [List.append_assoc, List.append_assoc]
  exact List.Perm.append_left F List.perm_append_comm
theorem pm_row (F R S : va_W) (x : Nat × va_E) : ((zFR F R ++ [x]) ++ S).Perm (zFR (F ++ [x]) (R ++ S)) := by
  have h := (pm_new F R x).append_right S
  unfold zFR at *
  rw [List.append_assoc (F ++ [x])] at h
  exact h
