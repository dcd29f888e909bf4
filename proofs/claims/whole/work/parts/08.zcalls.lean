/-! a contract's form: a method that returns; its world is the cells ws, those behind it ws' u, the answer Qr u -/
abbrev zPre (D : va_G) (tys : List (ClassId × FieldType)) (ws : va_W) (sz : Nat) : State → Prop := fun U => U.heap.size = sz ∧ va_P D vwCl ws U.heap ∧ va_K D vwCl tys U ∧ zN U ∧ va_D (fun _ => True) ws
def zQ (D : va_G) (A : Nat → Prop) {S : Type} (Qr : S → Option Value) (post : S → Prop) (ws' : S → va_W) : Array Value → State → Outcome → State → Prop := fun _ st oc t => (∃ u : S, oc = .returned (Qr u) ∧ post u ∧ va_P D vwCl (ws' u) t.heap ∧ va_D A (ws' u)) ∧ va_F A st t
def zC (l : Launch) (y : MethodName) (b : ByteArray) (n : Nat) (r : Option FieldType) (rm : Room) (D : va_G) (tys : List (ClassId × FieldType)) (av : List Value) (ws : va_W) {S : Type} (Qr : S → Option Value) (post : S → Prop) (ws' : S → va_W) : Prop :=
  ∀ sz, Met l y (wM y b n r) rm (va_Pc av (zPre D tys ws sz)) (zQ D (va_A ws sz) Qr post ws') rm.cells rm.slots (va_A ws sz)
theorem z_blind (D : va_G) (tys : List (ClassId × FieldType)) (ws : va_W) (sz : Nat) (av : List Value) : FrameBlind (va_Pc av (zPre D tys ws sz)) := fun a U g mk q => by
  obtain ⟨q0, q1, q2, q3, q4, q5⟩ := q
  exact ⟨q0, q1, q2, va_K.moved (u := U) (U := U.calling g mk a) (Vm.Alike.refl U.vm) q3, zN.same (s := U) (U := U.calling g mk a) rfl q4, q5⟩
/-- from a method's body to its contract -/
theorem zC_of {l : Launch} {y : MethodName} {b : ByteArray} {n : Nat} {r : Option FieldType} {rm : Room} {D : va_G} {tys : List (ClassId × FieldType)} {av : List Value} {ws : va_W} {S : Type} {Qr : S → Option Value} {post : S → Prop} {ws' : S → va_W}
    (hy : plainName y.cls = true) (hn : (lg_sl av).length ≤ n)
    (body : ∀ (p : Program) (e : Env) (s : State) (m : MethodId) (below : List Frame) (meth : Method) (c : Code) (A : Nat → Prop) (ls : Array Slot), zE p s m av.toArray c b n y.cls D tys → meth.sig.returnType = r → meth.locks = false → meth.name = y.name → zS D A s.heap s.heap [] ws → lv_has ls n (lv_args 0 av) →
      W p l e rm s m av.toArray below meth c s.heap [] 0 0 (MQ below (zQ D A Qr post ws') av.toArray s rm.cells rm.slots A) (F0 m 0 ls [])) : zC l y b n r rm D tys av ws Qr post ws' := by
  intro sz
  refine Met.ofW (cc := b) (maxL := n) (ret := r) hy rfl ?_
  intro p e s m args below meth c s₁ B hml hv
  obtain ⟨rfl, hsz, hP, hK, hN, hD0⟩ := hv
  subst hsz
  have hts := atoms_spec (ws := wM y b n r) B.pre
  have hD := hD0.self (sz := s.heap.size)
  have hA : ∀ q : Nat, s.heap.size ≤ q → va_A ws s.heap.size q := fun q h => Or.inr h
  have hl := lv_entry av (n := n) hn
  rw [lg_entry_eq]
  exact body p e s m below meth c (va_A ws s.heap.size) _ ⟨B.exec, B.bytes, hml, findClass_of_methodNamed B.named, fun w h => hts w (List.mem_cons_of_mem _ h), hK, hN⟩ B.returns B.notSynchronized (name_of_methodNamed B.named B.method).1 ⟨hP, hD, va_S.rf, hA⟩ hl
section ZE
variable {p : Program} {l : Launch} {e : Env} {R : Room} {s : State} {m : MethodId} {args : Array Value} {below : List Frame} {meth : Method} {c : Code} {H : Heap} {locs : List Loc} {cells slots mc ms : Nat} {Q : State → Prop}
variable {cc : ByteArray} {pc nL : Nat} {ls : Array Slot} {rest st0 : List Value} {D : va_G} {A : Nat → Prop} {a : Nat} {tys : List (ClassId × FieldType)} {ws : va_W} {own : String}
/-- ends -/
theorem z_iret {S : Type} {Qr : S → Option Value} {post : S → Prop} {ws' : S → va_W} {v : Int32} (hE : zE p s m args c cc nL own D tys) (hr : meth.sig.returnType = some .int) (hlocks : meth.locks = false) (hZ : zS D A s.heap H locs ws) (u : S) (hv : Qr u = some (.int v)) (hp : post u) (hw : ws' u = ws) (hdg : decode cc pc = .ok (.ireturn, 1)) (hc : cells ≤ mc) (hs : slots ≤ ms) :
    W p l e R s m args below meth c H locs cells slots (MQ below (zQ D A Qr post ws') args s mc ms A) (F0 m pc ls [.int v]) := by
  refine W.widen (k := mc) (n := ms) hc hs ?_
  exact W.iret (v := v) hE.1 hE.2.1 hr (fun t ht hW => ⟨⟨u, by rw [hv], hp, by rw [ht, hw]; exact hZ.1, by rw [hw]; exact hZ.2.1⟩, hZ.2.2.1.F ht⟩) hZ.2.2.1.2.2 hdg
theorem z_zret {S : Type} {Qr : S → Option Value} {post : S → Prop} {ws' : S → va_W} {v : Int32} (b : Bool) (hb : v = zB b) (hE : zE p s m args c cc nL own D tys) (hr : meth.sig.returnType = some .boolean) (hlocks : meth.locks = false) (hZ : zS D A s.heap H locs ws) (u : S) (hv : Qr u = some (.int (zB b))) (hp : post u) (hw : ws' u = ws) (hdg : decode cc pc = .ok (.ireturn, 1)) (hc : cells ≤ mc) (hs : slots ≤ ms) :
    W p l e R s m args below meth c H locs cells slots (MQ below (zQ D A Qr post ws') args s mc ms A) (F0 m pc ls [.int v]) := by
  subst hb
  refine W.widen (k := mc) (n := ms) hc hs ?_
  exact W.zret (v := zB b) hE.1 hE.2.1 hr (by cases b <;> rfl) (fun t ht hW => ⟨⟨u, by rw [hv], hp, by rw [ht, hw]; exact hZ.1, by rw [hw]; exact hZ.2.1⟩, hZ.2.2.1.F ht⟩) hZ.2.2.1.2.2 hdg
theorem z_lret {S : Type} {Qr : S → Option Value} {post : S → Prop} {ws' : S → va_W} {v : Int64} (hE : zE p s m args c cc nL own D tys) (hr : meth.sig.returnType = some .long) (hlocks : meth.locks = false) (hZ : zS D A s.heap H locs ws) (u : S) (hv : Qr u = some (.long v)) (hp : post u) (hw : ws' u = ws) (hdg : decode cc pc = .ok (.lreturn, 1)) (hc : cells ≤ mc) (hs : slots ≤ ms) :
    W p l e R s m args below meth c H locs cells slots (MQ below (zQ D A Qr post ws') args s mc ms A) (F0 m pc ls [.long v]) := by
  refine W.widen (k := mc) (n := ms) hc hs ?_
  exact W.lret (v := v) hE.1 hE.2.1 hr (fun t ht hW => ⟨⟨u, by rw [hv], hp, by rw [ht, hw]; exact hZ.1, by rw [hw]; exact hZ.2.1⟩, hZ.2.2.1.F ht⟩) hZ.2.2.1.2.2 hdg
theorem z_vret {S : Type} {Qr : S → Option Value} {post : S → Prop} {ws' : S → va_W} (hE : zE p s m args c cc nL own D tys) (hr : meth.sig.returnType = none) (hlocks : meth.locks = false) (hZ : zS D A s.heap H locs ws) (u : S) (hv : Qr u = none) (hp : post u) (hw : ws' u = ws) (hdg : decode cc pc = .ok (.return_, 1)) (hc : cells ≤ mc) (hs : slots ≤ ms) :
    W p l e R s m args below meth c H locs cells slots (MQ below (zQ D A Qr post ws') args s mc ms A) (F0 m pc ls []) := by
  refine W.widen (k := mc) (n := ms) hc hs ?_
  exact W.vret hE.1 hE.2.1 hr (fun t ht hW => ⟨⟨u, by rw [hv], hp, by rw [ht, hw]; exact hZ.1, by rw [hw]; exact hZ.2.1⟩, hZ.2.2.1.F ht⟩) hZ.2.2.1.2.2 hdg
end ZE
/-- the words of a call: by its receiver; of a static method; of a constructor; of a private static method of the host -/
def zL (y : MethodName) (b : ByteArray) (n : Nat) (r : Option FieldType) (k : Nat) : Prop := Cond.code y b n r ∈ wG ∧ Cond.initialized y.cls ∈ wG ∧ y.cls ≠ "java/lang/invoke/MethodHandle" ∧ y.cls ≠ "java/lang/invoke/VarHandle" ∧ (parseMethodDescriptor y.desc).map (fun d => d.parameters.length) = some k
def zLV (own : String) (idx : Nat) (y : MethodName) : Prop := Cond.methodLink own idx y ∈ wG ∧ Cond.instanceMethod y ∈ wG ∧ Cond.selects y.cls y y ∈ wG
def zLS (own : String) (idx : Nat) (y : MethodName) : Prop := Cond.methodLink own idx y ∈ wG ∧ Cond.static y ∈ wG
def zLI (own : String) (idx : Nat) (y : MethodName) : Prop := Cond.methodLink own idx y ∈ wG ∧ Cond.instanceMethod y ∈ wG ∧ y.name = "<init>"
def zLN (own : String) (idx : Nat) (y : MethodName) (host : String) : Prop := Cond.methodLinkNest own idx y host ∈ zNest ∧ Cond.static y ∈ wG
section ZK
variable {p : Program} {l : Launch} {e : Env} {R : Room} {s : State} {m : MethodId} {args : Array Value} {below : List Frame} {meth : Method} {c : Code} {H : Heap} {locs : List Loc} {cells slots : Nat} {Q : State → Prop}
variable {cc b : ByteArray} {pc nL n k idx ci : Nat} {ls : Array Slot} {rest st0 As : List Value} {D : va_G} {A : Nat → Prop} {a : Nat} {tys : List (ClassId × FieldType)} {ws wc wr : va_W} {own host : String} {y : MethodName} {r : Option FieldType} {rm : Room} {S : Type} {Qr : S → Option Value} {post : S → Prop} {ws' : S → va_W}
theorem z_callB (hE : zE p s m args c cc nL own D tys) (hL : zL y b n r k) (hl : Cond.methodLink own idx y ∈ wG) (hR : rm.frames + 1 ≤ R.frames ∧ 8 + (n + 11) + rm.locals ≤ R.locals) : CallB R s args own idx y b n r (wM y b n r) rm rm.cells rm.slots k :=
  callB_of k hE.2.2.2.2.1 (wM_good hL.1) rfl rfl rfl (hE.2.2.2.2.1 _ hL.2.1) (hE.2.2.2.2.1 _ hl) ⟨hL.2.2.1, hL.2.2.2.1, hL.2.2.2.2⟩ hR
/-- behind a call: the cells that the callee was given stand as it left them, the others as they were -/
theorem z_back {F : State → Prop} (hZ : zS D A s.heap H locs ws) (isC isR : List Nat) (hC : isC.map (fun i => ws[i]?) = wc.map some) (hRr : isR.map (fun i => ws[i]?) = wr.map some) (hn : va_nd isR = true) (hdis : ∀ i ∈ isR, i ∉ isC)
    (hr : va_Run p l e R s m args below meth c H locs cells slots rm.cells rm.slots (F0 m pc ls st0) rest (fun st oc t => zQ D (va_A wc H.size) Qr post ws' args st oc t) (va_A wc H.size))
    (kk : ∀ (u : S) (H1 : Heap) (locs1 : List Loc), post u → zS D A s.heap H1 locs1 (wr ++ ws' u) → W p l e R s m args below meth c H1 locs1 (cells + rm.cells) (slots + rm.slots) Q (F0 m (pc + 3) ls ((Qr u).toList ++ rest))) : W p l e R s m args below meth c H locs cells slots Q (F0 m pc ls st0) := by
  have hFc := va_free (wc := wc) hZ.2.1 hZ.2.2.1 hZ.2.2.2 isC hC
  intro T hT X
  obtain ⟨v, st₀, t, T', L, h0, X', hL, e1, e2, ⟨⟨u, hv, hp, hP1, hD1⟩, hz, hk⟩, st⟩ := hr T hT X
  cases hv
  rw [h0] at hz hk
  have hS := hZ.2.2.1
  have hS' : va_S A s.heap T'.heap (locs ++ L) := ⟨Nat.le_trans hS.1 (by rw [e1]; exact hz), fun q h1 h2 => by rw [e1, hk q (Nat.lt_of_lt_of_le h1 hS.1) (fun z => h2 (hFc q z))]; exact hS.2.1 q h1 h2, fun q hq => by
      rcases List.mem_append.mp hq with h | h
      · exact hS.2.2 q h
      · exact hFc _ (hL q h)⟩
  have hk2 : ∀ q : Nat, q < H.size → ¬ va_A wc H.size q → T'.heap[q]? = H[q]? := fun q h1 h2 => by rw [e1]; exact hk q h1 h2
  have hP3 : va_P D vwCl (ws' u) T'.heap := by rw [e1]; exact hP1
  obtain ⟨hP2, hD2⟩ := va_join (H1 := T'.heap) hZ.1 hZ.2.1 isC isR hC hRr hn hdis hk2 hFc hP3 hD1
  obtain ⟨t2, a1, b1⟩ := kk u T'.heap (locs ++ L) hp ⟨hP2, hD2, hS', hZ.2.2.2⟩ T' rfl X'
  exact ⟨t2, st t2 a1, b1⟩
theorem z_sub {A : Nat → Prop} {H0 : Heap} (hZ : zS D A H0 H locs ws) (is : List Nat) {ws2 : va_W} (hn : va_nd is = true) (hs : is.map (fun i => ws[i]?) = ws2.map some) : zS D A H0 H locs ws2 :=
  ⟨fun k q hk => by
    have h1 : (is.map (fun i => ws[i]?))[k]? = some (some q) := by rw [hs, List.getElem?_map, hk]; rfl
    rw [List.getElem?_map] at h1
    cases hi : is[k]? with
    | none => rw [hi] at h1; cases h1
    | some i => rw [hi] at h1; exact hZ.1 i q (Option.some.inj h1), hZ.2.1.sub is hn hs, hZ.2.2.1, hZ.2.2.2⟩
theorem z_preS (hE : zE p s m args c cc nL own D tys) (hZ : zS D A s.heap H locs ws) (isC : List Nat) (hnC : va_nd isC = true) (hC : isC.map (fun i => ws[i]?) = wc.map some) (av : List Value) : PreS s H (va_Pc av (zPre D tys wc H.size)) av := by
  have hZ2 := z_sub hZ isC hnC hC
  exact ⟨z_blind D tys wc H.size av, fun U hU hW => ⟨rfl, by rw [hU], by rw [hU]; exact hZ2.1, va_K.moved hW.alike hE.2.2.2.2.2.1, zN.warm hW hE.2.2.2.2.2.2, hZ2.2.1.weaken (fun _ _ _ _ => trivial)⟩⟩
/-- calls: the callee's cells stand at the places isC, the rest at isR -/
theorem z_callV (hE : zE p s m args c cc nL own D tys) (hZ : zS D A s.heap H locs ws) (hM : zC l y b n r rm D tys (.ref a :: As) wc Qr post ws') (hL : zL y b n r k) (hLV : zLV own idx y) (hci : (vwCl[ci]?).map (fun q => q.1) = some y.cls) (isC isR : List Nat) (q0 : Nat) {fs : List Value} (he : wc[q0]? = some (a, .inr (ci, fs)))
    (hC : isC.map (fun i => ws[i]?) = wc.map some) (hRr : isR.map (fun i => ws[i]?) = wr.map some) (hd : va_nd isR = true ∧ va_nd isC = true ∧ ∀ i ∈ isR, i ∉ isC) (hR : rm.frames + 1 ≤ R.frames ∧ 8 + (n + 11) + rm.locals ≤ R.locals) (hf : cells + rm.cells ≤ R.cells ∧ slots + rm.slots ≤ R.slots)
    (hAs : As.length = k) (hls : ls.size = nL) (hst : st0 = As.reverse ++ .ref a :: rest) (hW : (rest.map fun v => v.category).sum ≤ 8) (hdg : decode cc pc = .ok (.invokevirtual idx, 3))
    (kk : ∀ (u : S) (H1 : Heap) (locs1 : List Loc), post u → zS D A s.heap H1 locs1 (wr ++ ws' u) → W p l e R s m args below meth c H1 locs1 (cells + rm.cells) (slots + rm.slots) Q (F0 m (pc + 3) ls ((Qr u).toList ++ rest))) : W p l e R s m args below meth c H locs cells slots Q (F0 m pc ls st0) := by
  have hp := z_preS hE hZ isC hd.2.1 hC (.ref a :: As)
  have hZ2 := z_sub hZ isC hd.2.1 hC
  have hrec : ∃ cell : Cell, H[a]? = some cell ∧ cell.vm.isStatics = false ∧ s.vm.findClass y.cls = some cell.cls := by
    cases hq : vwCl[ci]? with
    | none => rw [hq] at hci; cases hci
    | some q =>
      rw [hq] at hci
      have := va_recv hE.2.2.2.2.2.1 hZ2.1 hq he
      rw [show q.1 = y.cls from Option.some.inj hci] at this
      exact this
  refine z_back (F := fun _ => True) hZ isC isR hC hRr hd.1 hd.2.2 ?_ kk
  exact va_runV (C := y.cls) (As := As) (rest := rest) ⟨hE.1, hE.2.1, hE.2.2.1, hE.2.2.2.1, hE.2.2.2.2.1⟩ (hM H.size) ⟨z_callB hE hL hLV.1 hR, hE.2.2.2.2.1 _ hLV.2.1, hE.2.2.2.2.1 _ hLV.2.2⟩ ⟨hp.1, hrec, hp.2⟩ rfl hAs hls hst (lv_room (st := rest) (rest := st0) hW) hdg hf
theorem z_callS (hE : zE p s m args c cc nL own D tys) (hZ : zS D A s.heap H locs ws) (hM : zC l y b n r rm D tys As wc Qr post ws') (hL : zL y b n r k) (hLS : zLS own idx y) (isC isR : List Nat)
    (hC : isC.map (fun i => ws[i]?) = wc.map some) (hRr : isR.map (fun i => ws[i]?) = wr.map some) (hd : va_nd isR = true ∧ va_nd isC = true ∧ ∀ i ∈ isR, i ∉ isC) (hR : rm.frames + 1 ≤ R.frames ∧ 8 + (n + 11) + rm.locals ≤ R.locals) (hf : cells + rm.cells ≤ R.cells ∧ slots + rm.slots ≤ R.slots)
    (hAs : As.length = k) (hls : ls.size = nL) (hst : st0 = As.reverse ++ rest) (hW : (rest.map fun v => v.category).sum ≤ 8) (hdg : decode cc pc = .ok (.invokestatic idx, 3))
    (kk : ∀ (u : S) (H1 : Heap) (locs1 : List Loc), post u → zS D A s.heap H1 locs1 (wr ++ ws' u) → W p l e R s m args below meth c H1 locs1 (cells + rm.cells) (slots + rm.slots) Q (F0 m (pc + 3) ls ((Qr u).toList ++ rest))) : W p l e R s m args below meth c H locs cells slots Q (F0 m pc ls st0) := by
  have hp := z_preS hE hZ isC hd.2.1 hC As
  refine z_back (F := fun _ => True) hZ isC isR hC hRr hd.1 hd.2.2 ?_ kk
  exact va_runS (As := As) (rest := rest) ⟨hE.1, hE.2.1, hE.2.2.1, hE.2.2.2.1, hE.2.2.2.2.1⟩ (hM H.size) ⟨z_callB hE hL hLS.1 hR, hE.2.2.2.2.1 _ hLS.2⟩ hp rfl hAs hls hst (lv_room (st := rest) (rest := st0) hW) hdg hf
theorem z_callI (hE : zE p s m args c cc nL own D tys) (hZ : zS D A s.heap H locs ws) (hM : zC l y b n none rm D tys (.ref a :: As) wc Qr post ws') (hL : zL y b n none k) (hLI : zLI own idx y) (isC isR : List Nat)
    (hC : isC.map (fun i => ws[i]?) = wc.map some) (hRr : isR.map (fun i => ws[i]?) = wr.map some) (hd : va_nd isR = true ∧ va_nd isC = true ∧ ∀ i ∈ isR, i ∉ isC) (hR : rm.frames + 1 ≤ R.frames ∧ 8 + (n + 11) + rm.locals ≤ R.locals) (hf : cells + rm.cells ≤ R.cells ∧ slots + rm.slots ≤ R.slots)
    (hAs : As.length = k) (hls : ls.size = nL) (hst : st0 = As.reverse ++ .ref a :: rest) (hW : (rest.map fun v => v.category).sum ≤ 8) (hdg : decode cc pc = .ok (.invokespecial idx, 3))
    (kk : ∀ (u : S) (H1 : Heap) (locs1 : List Loc), post u → zS D A s.heap H1 locs1 (wr ++ ws' u) → W p l e R s m args below meth c H1 locs1 (cells + rm.cells) (slots + rm.slots) Q (F0 m (pc + 3) ls ((Qr u).toList ++ rest))) : W p l e R s m args below meth c H locs cells slots Q (F0 m pc ls st0) := by
  have hp := z_preS hE hZ isC hd.2.1 hC (.ref a :: As)
  refine z_back (F := fun _ => True) hZ isC isR hC hRr hd.1 hd.2.2 ?_ kk
  exact va_runI (As := As) (rest := rest) ⟨hE.1, hE.2.1, hE.2.2.1, hE.2.2.2.1, hE.2.2.2.2.1⟩ (hM H.size) ⟨z_callB hE hL hLI.1 hR, hLI.2.2, hE.2.2.2.2.1 _ hLI.2.1⟩ hp rfl hAs hls hst (lv_room (st := rest) (rest := st0) hW) hdg hf
theorem z_callN (hE : zE p s m args c cc nL own D tys) (hZ : zS D A s.heap H locs ws) (hM : zC l y b n r rm D tys As wc Qr post ws') (hL : zL y b n r k) (hLN : zLN own idx y host) (isC isR : List Nat)
    (hC : isC.map (fun i => ws[i]?) = wc.map some) (hRr : isR.map (fun i => ws[i]?) = wr.map some) (hd : va_nd isR = true ∧ va_nd isC = true ∧ ∀ i ∈ isR, i ∉ isC) (hR : rm.frames + 1 ≤ R.frames ∧ 8 + (n + 11) + rm.locals ≤ R.locals) (hf : cells + rm.cells ≤ R.cells ∧ slots + rm.slots ≤ R.slots)
    (hAs : As.length = k) (hls : ls.size = nL) (hst : st0 = As.reverse ++ rest) (hW : (rest.map fun v => v.category).sum ≤ 8) (hdg : decode cc pc = .ok (.invokestatic idx, 3))
    (kk : ∀ (u : S) (H1 : Heap) (locs1 : List Loc), post u → zS D A s.heap H1 locs1 (wr ++ ws' u) → W p l e R s m args below meth c H1 locs1 (cells + rm.cells) (slots + rm.slots) Q (F0 m (pc + 3) ls ((Qr u).toList ++ rest))) : W p l e R s m args below meth c H locs cells slots Q (F0 m pc ls st0) := by
  have hp := z_preS hE hZ isC hd.2.1 hC As
  refine z_back (F := fun _ => True) hZ isC isR hC hRr hd.1 hd.2.2 ?_ kk
  exact va_runSN (host := host) (As := As) (rest := rest) ⟨hE.1, hE.2.1, hE.2.2.1, hE.2.2.2.1, hE.2.2.2.2.1⟩ (hM H.size) ⟨va_cnB k hE.2.2.2.2.1 (wM_good hL.1) rfl rfl rfl (hE.2.2.2.2.2.2 _ hLN.1) (hE.2.2.2.2.1 _ hL.2.1) ⟨hL.2.2.1, hL.2.2.2.1, hL.2.2.2.2⟩ hR, hE.2.2.2.2.1 _ hLN.2, trivial⟩ hp rfl hAs hls hst (lv_room (st := rest) (rest := st0) hW) hdg hf
end ZK

section ZL
variable {p : Program} {l : Launch} {e : Env} {R : Room} {s : State} {m : MethodId} {args : Array Value} {below : List Frame} {meth : Method} {c : Code} {H : Heap} {locs : List Loc} {cells slots : Nat} {Q : State → Prop}
variable {cc b : ByteArray} {pc nL n k idx ci : Nat} {ls : Array Slot} {rest st0 As : List Value} {D : va_G} {A : Nat → Prop} {a : Nat} {tys : List (ClassId × FieldType)} {ws wc : va_W} {own host : String} {y : MethodName} {r : Option FieldType} {rm : Room} {S : Type} {Qr : S → Option Value} {post : S → Prop} {ws' : S → va_W}
/-- a loop: I is what holds at its head, μ falls -/
theorem z_loop {σ : Type} (I : σ → Heap → List Loc → Array Slot → Prop) (μ : σ → Nat) (stk : List Value) (x0 : σ) (h0 : I x0 H locs ls)
    (step : ∀ (x : σ) (H : Heap) (locs : List Loc) (ls : Array Slot), I x H locs ls → (∀ (y : σ) (H1 : Heap) (locs1 : List Loc) (ls1 : Array Slot), I y H1 locs1 ls1 → μ y < μ x → W p l e R s m args below meth c H1 locs1 cells slots Q (F0 m pc ls1 stk)) → W p l e R s m args below meth c H locs cells slots Q (F0 m pc ls stk)) :
    W p l e R s m args below meth c H locs cells slots Q (F0 m pc ls stk) := by
  have key : ∀ (N : Nat) (x : σ) (H : Heap) (locs : List Loc) (ls : Array Slot), μ x < N → I x H locs ls → W p l e R s m args below meth c H locs cells slots Q (F0 m pc ls stk) := by
    intro N
    induction N with
    | zero => intro x H locs ls h; exact absurd h (Nat.not_lt_zero _)
    | succ N ih =>
      intro x H locs ls h hI
      exact step x H locs ls hI (fun y H1 locs1 ls1 hy hlt => ih y H1 locs1 ls1 (by omega) hy)
  exact key (μ x0 + 1) x0 H locs ls (Nat.lt_succ_self _) h0
/-- where roads meet: what holds there is proved once -/
theorem z_join {σ : Type} (I : σ → Heap → List Loc → Array Slot → Prop) (pcj : Nat) (stk : List Value) (g : JFrame)
    (step : ∀ (x : σ) (H : Heap) (locs : List Loc) (ls : Array Slot), I x H locs ls → W p l e R s m args below meth c H locs cells slots Q (F0 m pcj ls stk))
    (main : (∀ (x : σ) (H : Heap) (locs : List Loc) (ls : Array Slot), I x H locs ls → W p l e R s m args below meth c H locs cells slots Q (F0 m pcj ls stk)) → W p l e R s m args below meth c H locs cells slots Q g) :
    W p l e R s m args below meth c H locs cells slots Q g := main step
theorem z_kV (hE : zE p s m args c cc nL own D tys) (hZ : zS D A s.heap H locs ws) (hM : zC l y b n r rm D tys (.ref a :: As) wc Qr post ws') (hL : zL y b n r k) (hLV : zLV own idx y) (hci : (vwCl[ci]?).map (fun q => q.1) = some y.cls) (isC isR perm : List Nat) (wr : va_W) (wsn : S → va_W) (q0 : Nat) {fs : List Value} (he : wc[q0]? = some (a, .inr (ci, fs)))
    (hC : isC.map (fun i => ws[i]?) = wc.map some) (hRr : isR.map (fun i => ws[i]?) = wr.map some) (hp : ∀ u, perm.map (fun i => (wr ++ ws' u)[i]?) = (wsn u).map some) (hd : va_nd perm = true ∧ va_nd isR = true ∧ va_nd isC = true ∧ ∀ i ∈ isR, i ∉ isC) (hR : rm.frames + 1 ≤ R.frames ∧ 8 + (n + 11) + rm.locals ≤ R.locals) (c1 s1 : Nat) (hc1 : cells + rm.cells = c1) (hs1 : slots + rm.slots = s1) (hf : c1 ≤ R.cells ∧ s1 ≤ R.slots)
    (hAs : As.length = k) (hls : ls.size = nL) (hst : st0 = As.reverse ++ .ref a :: rest) (hW : (rest.map fun v => v.category).sum ≤ 8) (hdg : decode cc pc = .ok (.invokevirtual idx, 3))
    (kk : ∀ (u : S) (H1 : Heap) (locs1 : List Loc), post u → zS D A s.heap H1 locs1 (wsn u) → W p l e R s m args below meth c H1 locs1 c1 s1 Q (F0 m (pc + 3) ls ((Qr u).toList ++ rest))) : W p l e R s m args below meth c H locs cells slots Q (F0 m pc ls st0) := by
  subst hc1; subst hs1
  exact z_callV hE hZ hM hL hLV hci isC isR q0 he hC hRr hd.2 hR hf hAs hls hst hW hdg (fun u H1 locs1 h1 h2 => kk u H1 locs1 h1 (z_sub h2 perm hd.1 (hp u)))
theorem z_kS (hE : zE p s m args c cc nL own D tys) (hZ : zS D A s.heap H locs ws) (hM : zC l y b n r rm D tys As wc Qr post ws') (hL : zL y b n r k) (hLS : zLS own idx y) (isC isR perm : List Nat) (wr : va_W) (wsn : S → va_W)
    (hC : isC.map (fun i => ws[i]?) = wc.map some) (hRr : isR.map (fun i => ws[i]?) = wr.map some) (hp : ∀ u, perm.map (fun i => (wr ++ ws' u)[i]?) = (wsn u).map some) (hd : va_nd perm = true ∧ va_nd isR = true ∧ va_nd isC = true ∧ ∀ i ∈ isR, i ∉ isC) (hR : rm.frames + 1 ≤ R.frames ∧ 8 + (n + 11) + rm.locals ≤ R.locals) (c1 s1 : Nat) (hc1 : cells + rm.cells = c1) (hs1 : slots + rm.slots = s1) (hf : c1 ≤ R.cells ∧ s1 ≤ R.slots)
    (hAs : As.length = k) (hls : ls.size = nL) (hst : st0 = As.reverse ++ rest) (hW : (rest.map fun v => v.category).sum ≤ 8) (hdg : decode cc pc = .ok (.invokestatic idx, 3))
    (kk : ∀ (u : S) (H1 : Heap) (locs1 : List Loc), post u → zS D A s.heap H1 locs1 (wsn u) → W p l e R s m args below meth c H1 locs1 c1 s1 Q (F0 m (pc + 3) ls ((Qr u).toList ++ rest))) : W p l e R s m args below meth c H locs cells slots Q (F0 m pc ls st0) := by
  subst hc1; subst hs1
  exact z_callS hE hZ hM hL hLS isC isR hC hRr hd.2 hR hf hAs hls hst hW hdg (fun u H1 locs1 h1 h2 => kk u H1 locs1 h1 (z_sub h2 perm hd.1 (hp u)))
theorem z_kI (hE : zE p s m args c cc nL own D tys) (hZ : zS D A s.heap H locs ws) (hM : zC l y b n none rm D tys (.ref a :: As) wc Qr post ws') (hL : zL y b n none k) (hLI : zLI own idx y) (isC isR perm : List Nat) (wr : va_W) (wsn : S → va_W)
    (hC : isC.map (fun i => ws[i]?) = wc.map some) (hRr : isR.map (fun i => ws[i]?) = wr.map some) (hp : ∀ u, perm.map (fun i => (wr ++ ws' u)[i]?) = (wsn u).map some) (hd : va_nd perm = true ∧ va_nd isR = true ∧ va_nd isC = true ∧ ∀ i ∈ isR, i ∉ isC) (hR : rm.frames + 1 ≤ R.frames ∧ 8 + (n + 11) + rm.locals ≤ R.locals) (c1 s1 : Nat) (hc1 : cells + rm.cells = c1) (hs1 : slots + rm.slots = s1) (hf : c1 ≤ R.cells ∧ s1 ≤ R.slots)
    (hAs : As.length = k) (hls : ls.size = nL) (hst : st0 = As.reverse ++ .ref a :: rest) (hW : (rest.map fun v => v.category).sum ≤ 8) (hdg : decode cc pc = .ok (.invokespecial idx, 3))
    (kk : ∀ (u : S) (H1 : Heap) (locs1 : List Loc), post u → zS D A s.heap H1 locs1 (wsn u) → W p l e R s m args below meth c H1 locs1 c1 s1 Q (F0 m (pc + 3) ls ((Qr u).toList ++ rest))) : W p l e R s m args below meth c H locs cells slots Q (F0 m pc ls st0) := by
  subst hc1; subst hs1
  exact z_callI hE hZ hM hL hLI isC isR hC hRr hd.2 hR hf hAs hls hst hW hdg (fun u H1 locs1 h1 h2 => kk u H1 locs1 h1 (z_sub h2 perm hd.1 (hp u)))
theorem z_kN (hE : zE p s m args c cc nL own D tys) (hZ : zS D A s.heap H locs ws) (hM : zC l y b n r rm D tys As wc Qr post ws') (hL : zL y b n r k) (hLN : zLN own idx y host) (isC isR perm : List Nat) (wr : va_W) (wsn : S → va_W)
    (hC : isC.map (fun i => ws[i]?) = wc.map some) (hRr : isR.map (fun i => ws[i]?) = wr.map some) (hp : ∀ u, perm.map (fun i => (wr ++ ws' u)[i]?) = (wsn u).map some) (hd : va_nd perm = true ∧ va_nd isR = true ∧ va_nd isC = true ∧ ∀ i ∈ isR, i ∉ isC) (hR : rm.frames + 1 ≤ R.frames ∧ 8 + (n + 11) + rm.locals ≤ R.locals) (c1 s1 : Nat) (hc1 : cells + rm.cells = c1) (hs1 : slots + rm.slots = s1) (hf : c1 ≤ R.cells ∧ s1 ≤ R.slots)
    (hAs : As.length = k) (hls : ls.size = nL) (hst : st0 = As.reverse ++ rest) (hW : (rest.map fun v => v.category).sum ≤ 8) (hdg : decode cc pc = .ok (.invokestatic idx, 3))
    (kk : ∀ (u : S) (H1 : Heap) (locs1 : List Loc), post u → zS D A s.heap H1 locs1 (wsn u) → W p l e R s m args below meth c H1 locs1 c1 s1 Q (F0 m (pc + 3) ls ((Qr u).toList ++ rest))) : W p l e R s m args below meth c H locs cells slots Q (F0 m pc ls st0) := by
  subst hc1; subst hs1
  exact z_callN hE hZ hM hL hLN isC isR hC hRr hd.2 hR hf hAs hls hst hW hdg (fun u H1 locs1 h1 h2 => kk u H1 locs1 h1 (z_sub h2 perm hd.1 (hp u)))
end ZL
theorem nI_eq0 {a : Nat} (h : a < 2 ^ 31) : nI a = 0 ↔ a = 0 := by rw [← nI_0, nI_eq h (by omega)]
theorem nI_lt0 {a : Nat} (h : a < 2 ^ 31) : nI a < 0 ↔ False := ⟨fun q => nI_pos h q, False.elim⟩
theorem nI_ge0 {a : Nat} (h : a < 2 ^ 31) : 0 ≤ nI a ↔ True := ⟨fun _ => trivial, fun _ => nI_pos' h⟩
theorem nI_gt0 {a : Nat} (h : a < 2 ^ 31) : 0 < nI a ↔ 0 < a := by rw [← nI_0, nI_ltI (by omega) h]
theorem nI_le0 {a : Nat} (h : a < 2 ^ 31) : nI a ≤ 0 ↔ a = 0 := by rw [← nI_0, nI_leI h (by omega)]; omega
theorem zI_eq0 {a : Int} (h : zOk a) : zI a = 0 ↔ a = 0 := zI_eq (b := 0) h ⟨by omega, by omega⟩
theorem zI_lt0 {a : Int} (h : zOk a) : zI a < 0 ↔ a < 0 := zI_lt (b := 0) h ⟨by omega, by omega⟩
theorem zI_ge0 {a : Int} (h : zOk a) : 0 ≤ zI a ↔ 0 ≤ a := zI_le (a := 0) ⟨by omega, by omega⟩ h
theorem zI_gt0 {a : Int} (h : zOk a) : 0 < zI a ↔ 0 < a := zI_lt (a := 0) ⟨by omega, by omega⟩ h
theorem zI_le0 {a : Int} (h : zOk a) : zI a ≤ 0 ↔ a ≤ 0 := zI_le (b := 0) h ⟨by omega, by omega⟩
theorem zI_inN {a : Int} {n : Nat} (h0 : 0 ≤ a) (h : a = n) : zI a = nI n := by rw [zI_n, h]
