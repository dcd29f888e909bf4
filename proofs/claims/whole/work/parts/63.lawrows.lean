/-! methods with a table of handlers: their contract's form, calls in them, calls of them -/
def xIAE : String := "java/lang/IllegalArgumentException"
def xISE : String := "java/lang/IllegalStateException"
def xUOE : String := "java/lang/UnsupportedOperationException"
def xIOE : String := "java/lang/IndexOutOfBoundsException"
def zNc (U : State) : Prop := va_Nc xISE xIAE U ∧ va_Nc xUOE xIAE U ∧ va_Nc xUOE xISE U ∧ va_Nc xIOE xIAE U ∧ va_Nc xIOE xISE U
theorem zNc.moved {u U : State} (hvm : u.vm.Alike U.vm) (h : zNc u) : zNc U := ⟨h.1.moved hvm, h.2.1.moved hvm, h.2.2.1.moved hvm, h.2.2.2.1.moved hvm, h.2.2.2.2.moved hvm⟩
abbrev wH (y : MethodName) (b : ByteArray) (n : Nat) (r : Option FieldType) (hh : List (Nat × Nat × Nat × Nat)) : List Cond := Cond.codeWith y b n r hh :: wG
theorem wH_in {y : MethodName} {b : ByteArray} {n : Nat} {r : Option FieldType} {hh : List (Nat × Nat × Nat × Nat)} (h : Cond.codeWith y b n r hh ∈ wG) {w : Cond} (hw : w ∈ wH y b n r hh) : w ∈ wG := (List.mem_cons.mp hw).elim (fun e => by rw [e]; exact h) id
theorem wH_good {y : MethodName} {b : ByteArray} {n : Nat} {r : Option FieldType} {hh : List (Nat × Nat × Nat × Nat)} (h : Cond.codeWith y b n r hh ∈ wG) : GoodIn wG (wH y b n r hh) := fun _ hw => ⟨wH_in h hw, good_of_word (wG_good (wH_in h hw))⟩
abbrev zPreH (D : va_G) (tys : List (ClassId × FieldType)) (ws : va_W) (sa : Nat → Nat) (sz : Nat) : State → Prop := fun U => zPreX D tys ws sa sz U ∧ zNc U
def zH (l : Launch) (y : MethodName) (b : ByteArray) (n : Nat) (r : Option FieldType) (hh : List (Nat × Nat × Nat × Nat)) (rm : Room) (D : va_G) (tys : List (ClassId × FieldType)) (sa : Nat → Nat) (av : List Value) (ws : va_W) {S : Type} (Qr : S → Option Value) (post : S → Prop) (ws' : S → va_W) : Prop :=
  ∀ sz, Met l y (wH y b n r hh) rm (va_Pc av (zPreH D tys ws sa sz)) (zQ D (va_A ws sz) Qr post ws') rm.cells rm.slots (va_A ws sz)
theorem zH_of {l : Launch} {y : MethodName} {b : ByteArray} {n : Nat} {r : Option FieldType} {hh : List (Nat × Nat × Nat × Nat)} {rm : Room} {D : va_G} {tys : List (ClassId × FieldType)} {sa : Nat → Nat} {av : List Value} {ws : va_W} {S : Type} {Qr : S → Option Value} {post : S → Prop} {ws' : S → va_W}
    (hy : plainName y.cls = true) (hn : (lg_sl av).length ≤ n)
    (body : ∀ (p : Program) (e : Env) (s : State) (m : MethodId) (below : List Frame) (meth : Method) (c : Code) (A : Nat → Prop) (ls : Array Slot), zE p s m av.toArray c b n y.cls D tys → meth.sig.returnType = r → meth.locks = false → c.exceptionTable.toList = tableOf hh → zTh sa A s s.heap → zNc s → zS D A s.heap s.heap [] ws → lv_has ls n (lv_args 0 av) →
      W p l e rm s m av.toArray below meth c s.heap [] 0 0 (MQ below (zQ D A Qr post ws') av.toArray s rm.cells rm.slots A) (F0 m 0 ls [])) : zH l y b n r hh rm D tys sa av ws Qr post ws' := by
  intro sz
  refine MetFree.of_bodyS (code := b) (maxLocals := n) (ret := r) hy ?_ ?_
  · intro args s m h hn
    obtain ⟨m9, meth, c, hn9, h1, h2, h3, h4, -, h5, h6, -⟩ := Cond.codeWith_spec (atoms_spec (ws := wH y b n r hh) h _ List.mem_cons_self)
    cases hn.symm.trans hn9
    exact ⟨meth, c, h1, h2, h3, h4, h5, h6⟩
  · intro p e s m args below meth c s₁ B hml hv _
    have hh0 : s₁.heap = s.heap := by rw [B.state]; rfl
    obtain ⟨rfl, ⟨⟨hsz, hP, hK, hN, hD0⟩, hTh⟩, hNc⟩ := hv
    subst hsz
    have hts := atoms_spec (ws := wH y b n r hh) B.pre
    have hD := hD0.self (sz := s.heap.size)
    have hA : ∀ q : Nat, s.heap.size ≤ q → va_A ws s.heap.size q := fun q h => Or.inr h
    have hl := lv_entry av (n := n) hn
    have htab : c.exceptionTable.toList = tableOf hh := vx_table (x := y) B (hts _ List.mem_cons_self)
    have K := body p e s m below meth c (va_A ws s.heap.size) _ ⟨B.exec, B.bytes, hml, findClass_of_methodNamed B.named, fun w h => hts w (List.mem_cons_of_mem _ h), hK, hN⟩ B.returns B.notSynchronized htab hTh hNc ⟨hP, hD, va_S.rf, hA⟩ hl
    rw [← lg_entry_eq] at K
    obtain ⟨t, a1, o, b1, b2, b3⟩ := K s₁ hh0 (Stand.of_body B)
    exact ⟨t, o, a1, b1, b2, ⟨b3.1, b3.2⟩⟩
def zLH (y : MethodName) (b : ByteArray) (n : Nat) (r : Option FieldType) (hh : List (Nat × Nat × Nat × Nat)) (k : Nat) : Prop := Cond.codeWith y b n r hh ∈ wG ∧ Cond.initialized y.cls ∈ wG ∧ y.cls ≠ "java/lang/invoke/MethodHandle" ∧ y.cls ≠ "java/lang/invoke/VarHandle" ∧ (parseMethodDescriptor y.desc).map (fun d => d.parameters.length) = some k
section ZHH
variable {p : Program} {l : Launch} {e : Env} {R : Room} {s : State} {m : MethodId} {args : Array Value} {below : List Frame} {meth : Method} {c : Code} {H : Heap} {locs : List Loc} {cells slots mc ms : Nat} {Q : State → Prop}
variable {cc b : ByteArray} {pc nL n k idx ci : Nat} {ls : Array Slot} {rest st0 As : List Value} {D : va_G} {A : Nat → Prop} {a : Nat} {tys : List (ClassId × FieldType)} {ws wc : va_W} {own : String} {y : MethodName} {r : Option FieldType} {rm : Room} {S : Type} {Qr : S → Option Value} {post : S → Prop} {ws' : S → va_W} {sa : Nat → Nat} {hh : List (Nat × Nat × Nat × Nat)}
/-- a call that may throw, in a method with handlers -/
theorem z_hV {pxc : String → Prop} (hE : zE p s m args c cc nL own D tys) (hTh : zTh sa A s s.heap) (hZ : zS D A s.heap H locs ws) (hM : zX l y b n r rm D tys sa (.ref a :: As) wc Qr post ws' pxc) (hL : zL y b n r k) (hLV : zLV own idx y) (hci : (vwCl[ci]?).map (fun q => q.1) = some y.cls) (isC isR perm : List Nat) (wr : va_W) (wsn : S → va_W) (q0 : Nat) {fs : List Value} (he : wc[q0]? = some (a, .inr (ci, fs)))
    (hC : isC.map (fun i => ws[i]?) = wc.map some) (hRr : isR.map (fun i => ws[i]?) = wr.map some) (hp : ∀ u, perm.map (fun i => (wr ++ ws' u)[i]?) = (wsn u).map some) (hp0 : perm.map (fun i => (wr ++ wc)[i]?) = ws.map some) (hd : va_nd perm = true ∧ va_nd isR = true ∧ va_nd isC = true ∧ ∀ i ∈ isR, i ∉ isC) (hR : rm.frames + 1 ≤ R.frames ∧ 8 + (n + 11) + rm.locals ≤ R.locals) (c1 s1 : Nat) (hc1 : cells + rm.cells = c1) (hs1 : slots + rm.slots = s1) (hf : c1 ≤ R.cells ∧ s1 ≤ R.slots)
    (hAs : As.length = k) (hls : ls.size = nL) (hst : st0 = As.reverse ++ .ref a :: rest) (hW : (rest.map fun v => v.category).sum ≤ 8) (hdg : decode cc pc = .ok (.invokevirtual idx, 3))
    (kx : ∀ (E : String) (q : Addr) (ce : Cell) (H1 : Heap) (locs1 : List Loc), pxc E → zS D A s.heap H1 locs1 ws → H1[q]? = some ce → ce.vm = .none → s.vm.findClass E = some ce.cls → vx_W p l e R s m args below meth c H1 locs1 c1 s1 Q (F0 m pc ls rest) q)
    (kk : ∀ (u : S) (H1 : Heap) (locs1 : List Loc), post u → zS D A s.heap H1 locs1 (wsn u) → W p l e R s m args below meth c H1 locs1 c1 s1 Q (F0 m (pc + 3) ls ((Qr u).toList ++ rest))) : W p l e R s m args below meth c H locs cells slots Q (F0 m pc ls st0) := by
  subst hc1; subst hs1
  have hpre := z_preS hE hZ isC hd.2.2.1 hC (.ref a :: As)
  have hZ2 := z_sub hZ isC hd.2.2.1 hC
  have hFc := va_free (wc := wc) hZ.2.1 hZ.2.2.1 hZ.2.2.2 isC hC
  have hrec : ∃ cell : Cell, H[a]? = some cell ∧ cell.vm.isStatics = false ∧ s.vm.findClass y.cls = some cell.cls := by
    cases hq : vwCl[ci]? with
    | none => rw [hq] at hci; cases hci
    | some q =>
      rw [hq] at hci
      have := va_recv hE.2.2.2.2.2.1 hZ2.1 hq he
      rw [show q.1 = y.cls from Option.some.inj hci] at this
      exact this
  have hS := hZ.2.2.1
  have hr := vx_runV (locs := locs) (cells := cells) (slots := slots) (g := F0 m pc ls st0) (below := below) (meth := meth) (e := e) (R := R) (C := y.cls) (As := As) (rest := rest) ⟨hE.1, hE.2.1, hE.2.2.1, hE.2.2.2.1, hE.2.2.2.2.1⟩ (hM H.size) ⟨z_callB hE hL hLV.1 hR, hE.2.2.2.2.1 _ hLV.2.1, hE.2.2.2.2.1 _ hLV.2.2⟩
    ⟨z_blindX D tys wc sa H.size _, hrec, fun U hU hW => ⟨rfl, (hpre.2 U hU hW).2, hTh.go hW (fun q h1 h2 => by rw [hU]; exact hS.2.1 q h1 h2) hFc⟩⟩ rfl hAs hls hst (lv_room (st := rest) (rest := st0) hW) hdg hf
  have hA' : ∀ {st₀ t T' : State} {L : List Loc}, st₀.heap = H → T'.heap = t.heap → va_F (va_A wc H.size) st₀ t → (∀ q ∈ L, va_A wc H.size q.base) → va_S A s.heap T'.heap (locs ++ L) ∧ ∀ q : Nat, q < H.size → ¬ va_A wc H.size q → T'.heap[q]? = H[q]? := by
    intro st₀ t T' L h0 e1 hF hL
    obtain ⟨hz, hk⟩ := hF
    rw [h0] at hz hk
    exact ⟨⟨Nat.le_trans hS.1 (by rw [e1]; exact hz), fun q h1 h2 => by rw [e1, hk q (Nat.lt_of_lt_of_le h1 hS.1) (fun z => h2 (hFc q z))]; exact hS.2.1 q h1 h2, fun q hq => by
      rcases List.mem_append.mp hq with h | h
      · exact hS.2.2 q h
      · exact hFc _ (hL q h)⟩, fun q h1 h2 => by rw [e1]; exact hk q h1 h2⟩
  intro T hT X
  rcases hr T hT X with ⟨v, st₀, t, T', L, h0, X', hL, e1, e2, ⟨⟨u, hv, hpo, hP1, hD1⟩, hF⟩, st⟩ | ⟨q, st₀, t, T', L, E, ce, h0, X', hL, e1, e2, ⟨hpE, hPx, hF⟩, hce, hcv, hcl, st⟩
  · cases hv
    obtain ⟨hS', hk2⟩ := hA' h0 e1 hF hL
    have hP3 : va_P D vwCl (ws' u) T'.heap := by rw [e1]; exact hP1
    obtain ⟨hP2, hD2⟩ := va_join (H1 := T'.heap) hZ.1 hZ.2.1 isC isR hC hRr hd.2.1 hd.2.2.2 hk2 hFc hP3 hD1
    obtain ⟨t2, a1, b1⟩ := kk u T'.heap (locs ++ L) hpo (z_sub ⟨hP2, hD2, hS', hZ.2.2.2⟩ perm hd.1 (hp u)) T' rfl X'
    exact ⟨t2, st t2 a1, b1⟩
  · obtain ⟨hS', hk2⟩ := hA' h0 e1 hF hL
    have hP3 : va_P D vwCl wc T'.heap := by rw [e1]; exact hPx
    obtain ⟨hP2, hD2⟩ := va_join (H1 := T'.heap) hZ.1 hZ.2.1 isC isR hC hRr hd.2.1 hd.2.2.2 hk2 hFc hP3 (hZ2.2.1.self)
    have hZ3 := z_sub (⟨hP2, hD2, hS', hZ.2.2.2⟩ : zS D A s.heap T'.heap (locs ++ L) (wr ++ wc)) perm hd.1 hp0
    obtain ⟨t2, a1, b1⟩ := kx E q ce T'.heap (locs ++ L) hpE hZ3 (by rw [e1]; exact hce) hcv hcl T' rfl X'
    exact ⟨t2, st.trans a1, b1⟩
/-- a call of a method with handlers; its world wc is a part of the caller's -/
theorem z_kH (hE : zE p s m args c cc nL own D tys) (hTh : zTh sa A s s.heap) (hNc : zNc s) (hZ : zS D A s.heap H locs ws) (hM : zH l y b n r hh rm D tys sa As wc Qr post ws') (hL : zLH y b n r hh k) (hLS : zLS own idx y) (wr : va_W) (hp1 : ws.Perm (wr ++ wc)) (wsn : S → va_W) (hp2 : ∀ u, (wr ++ ws' u).Perm (wsn u))
    (hR : rm.frames + 1 ≤ R.frames ∧ 8 + (n + 11) + rm.locals ≤ R.locals) (c1 s1 : Nat) (hc1 : cells + rm.cells = c1) (hs1 : slots + rm.slots = s1) (hf : c1 ≤ R.cells ∧ s1 ≤ R.slots)
    (hAs : As.length = k) (hls : ls.size = nL) (hst : st0 = As.reverse ++ rest) (hW : (rest.map fun v => v.category).sum ≤ 8) (hdg : decode cc pc = .ok (.invokestatic idx, 3))
    (kk : ∀ (u : S) (H1 : Heap) (locs1 : List Loc), post u → zS D A s.heap H1 locs1 (wsn u) → W p l e R s m args below meth c H1 locs1 c1 s1 Q (F0 m (pc + 3) ls ((Qr u).toList ++ rest))) : W p l e R s m args below meth c H locs cells slots Q (F0 m pc ls st0) := by
  subst hc1; subst hs1
  have hZ1 := z_perm hp1 hZ
  have hd := sub_d wr.length wc.length
  have hC := sub_r wr wc
  have hp := z_preS hE hZ1 ((List.range wc.length).map (fun i => wr.length + i)) hd.2.1 hC As
  have hFc := va_free (wc := wc) hZ1.2.1 hZ1.2.2.1 hZ1.2.2.2 _ hC
  have hS := hZ1.2.2.1
  have hp3 : PreS s H (va_Pc As (zPreH D tys wc sa H.size)) As :=
    ⟨fun a9 U g mk q => ⟨(z_blindX D tys wc sa H.size As a9 U g mk ⟨q.1, q.2.1⟩).1, (z_blindX D tys wc sa H.size As a9 U g mk ⟨q.1, q.2.1⟩).2, zNc.moved (u := U) (U := U.calling g mk a9) (Vm.Alike.refl U.vm) q.2.2⟩,
     fun U hU hW => ⟨rfl, ⟨(hp.2 U hU hW).2, hTh.go hW (fun q h1 h2 => by rw [hU]; exact hS.2.1 q h1 h2) hFc⟩, hNc.moved hW.alike⟩⟩
  refine z_back (F := fun _ => True) hZ1 ((List.range wc.length).map (fun i => wr.length + i)) (List.range wr.length) hC (sub_l wr wc) hd.1 hd.2.2 ?_ (fun u H1 locs1 h1 h2 => kk u H1 locs1 h1 (z_perm (hp2 u) h2))
  exact vx_runSW (As := As) (rest := rest) ⟨hE.1, hE.2.1, hE.2.2.1, hE.2.2.2.1, hE.2.2.2.2.1⟩ (hM H.size) ⟨⟨rfl, rfl, hR.1, hR.2, pay_in hE.2.2.2.2.1 (wH_good hL.1), List.mem_cons_self⟩, hE.2.2.2.2.1 _ hL.1, hE.2.2.2.2.1 _ hL.2.1, ⟨hL.2.2.1, hL.2.2.2.1⟩, (fun sig h => by have h2 := hL.2.2.2.2; rw [h] at h2; exact (Option.some.inj h2).symm), hE.2.2.2.2.1 _ hLS.1, hE.2.2.2.2.1 _ hLS.2⟩ hp3 rfl hAs hls hst (lv_room (st := rest) (rest := st0) hW) hdg hf
end ZHH
theorem zDe_cast {A : Nat → Prop} {sa : Nat → Nat} {s : State} {H : Heap} {args : Array Value} {E : String} (h : zTh sa A s H) (hE : Cond.castable E E ∈ zDe) : (Cond.castable E E).before args s = true := va_Nw.use (zDe_ot _ hE) (h.2.1 _ hE)
