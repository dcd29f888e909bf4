/-! methods that throw: their contract's form; what a throw finds -/
def zDe : List Cond := [(Jvm.Cond.castable "java/lang/IllegalArgumentException" "java/lang/IllegalArgumentException"), (Jvm.Cond.declares ({ cls := "java/lang/RuntimeException", name := "<init>", desc := "()V" } : Jvm.MethodName)), (Jvm.Cond.declares ({ cls := "java/lang/RuntimeException", name := "<init>", desc := "(Ljava/lang/String;)V" } : Jvm.MethodName)), (Jvm.Cond.declares ({ cls := "java/lang/Exception", name := "<init>", desc := "()V" } : Jvm.MethodName)), (Jvm.Cond.declares ({ cls := "java/lang/Exception", name := "<init>", desc := "(Ljava/lang/String;)V" } : Jvm.MethodName)), (Jvm.Cond.declares ({ cls := "java/lang/Throwable", name := "<init>", desc := "()V" } : Jvm.MethodName)), (Jvm.Cond.declares ({ cls := "java/lang/Throwable", name := "<init>", desc := "(Ljava/lang/String;)V" } : Jvm.MethodName)), (Jvm.Cond.castable "java/lang/IllegalStateException" "java/lang/IllegalStateException"), (Jvm.Cond.castable "java/lang/UnsupportedOperationException" "java/lang/UnsupportedOperationException"), (Jvm.Cond.castable "java/lang/IndexOutOfBoundsException" "java/lang/IndexOutOfBoundsException")]
def zStr : List (Nat × String) := [(80, "no such FILE, or nothing can be written from there on"), (231, "all is BROKEN"), (240, "FULL"), (103, "no such FILE, or it has not so many octets"), (109, "no such FILE"), (233, "no such FILE or SNAPSHOT"), (123, "the FILE has no such octet"), (147, "no SNAPSHOT has that number"), (158, "no such SNAPSHOT"), (163, "less than no WRITINGS"), (177, "no such DISK"), (190, "no DISK has FAILED"), (196, "less than no STRIPES"), (198, "no DISK is being REBUILT"), (206, "no such DISK, BLOCK or word"), (208, "the DISK FAILED"), (229, "nothing with that number is counted")]
theorem zDe_ot : ∀ w ∈ zDe, w.onTables = true := by decide
theorem zDe_warm {s U : State} (hW : s.WarmedH U.vm) (h : ∀ w ∈ zDe, va_Nw w s) : ∀ w ∈ zDe, va_Nw w U := by
  intro w hw
  have hs := h w hw
  unfold zDe at hw
  simp only [List.mem_cons, List.not_mem_nil, or_false] at hw
  rcases hw with rfl | rfl | rfl | rfl | rfl | rfl | rfl | rfl | rfl | rfl <;> first | exact va_Nw.warmD hW hs | exact va_Nw.warmC hW hs
def zTh (sa : Nat → Nat) (A : Nat → Prop) (U : State) (H : Heap) : Prop := (∀ q ∈ zStr, vk_R RX6 q.1 q.2 (sa q.1) U) ∧ (∀ w ∈ zDe, va_Nw w U) ∧ vx_Zq Bundle.tN "UNASSIGNED_STACK" Bundle.steD A U H ∧ vx_Zq Bundle.tN "SUPPRESSED_SENTINEL" Bundle.listD A U H
theorem zTh.go {sa : Nat → Nat} {A B : Nat → Prop} {s U : State} {H H1 : Heap} (h : zTh sa A s H) (hW : s.WarmedH U.vm) (hk : ∀ a : Nat, a < H.size → ¬ A a → H1[a]? = H[a]?) (hAB : ∀ q, B q → A q) : zTh sa B U H1 :=
  ⟨fun q hq => vk_R.warm hW (h.1 q hq), zDe_warm hW h.2.1, vx_Zq.narrow (vx_Zq.moved hW.alike (vx_Zq.kept h.2.2.1 hk)) hAB, vx_Zq.narrow (vx_Zq.moved hW.alike (vx_Zq.kept h.2.2.2 hk)) hAB⟩
theorem zTh.same {sa : Nat → Nat} {A : Nat → Prop} {s U : State} {H : Heap} (h : zTh sa A s H) (hvm : s.vm = U.vm) : zTh sa A U H :=
  ⟨fun q hq => vk_R.same hvm.symm (h.1 q hq), fun w hw => va_Nw.same (zDe_ot w hw) hvm (h.2.1 w hw), vx_Zq.moved (by rw [hvm]; exact Vm.Alike.refl _) h.2.2.1, vx_Zq.moved (by rw [hvm]; exact Vm.Alike.refl _) h.2.2.2⟩
abbrev zPreX (D : va_G) (tys : List (ClassId × FieldType)) (ws : va_W) (sa : Nat → Nat) (sz : Nat) : State → Prop := fun U => zPre D tys ws sz U ∧ zTh sa (va_A ws sz) U U.heap
/-- a throw leaves the world as it was -/
def zXq (D : va_G) (A : Nat → Prop) (ws : va_W) (px : String → Prop) : String → State → State → Prop := fun E st t => px E ∧ va_P D vwCl ws t.heap ∧ va_F A st t
def zX (l : Launch) (y : MethodName) (b : ByteArray) (n : Nat) (r : Option FieldType) (rm : Room) (D : va_G) (tys : List (ClassId × FieldType)) (sa : Nat → Nat) (av : List Value) (ws : va_W) {S : Type} (Qr : S → Option Value) (post : S → Prop) (ws' : S → va_W) (px : String → Prop) : Prop :=
  ∀ sz, vx_Met l y (wM y b n r) rm (va_Pc av (zPreX D tys ws sa sz)) (zQ D (va_A ws sz) Qr post ws') (zXq D (va_A ws sz) ws px) rm.cells rm.slots (va_A ws sz)
theorem z_blindX (D : va_G) (tys : List (ClassId × FieldType)) (ws : va_W) (sa : Nat → Nat) (sz : Nat) (av : List Value) : FrameBlind (va_Pc av (zPreX D tys ws sa sz)) := fun a U g mk q =>
  ⟨q.1, (z_blind D tys ws sz av a U g mk ⟨q.1, q.2.1⟩).2, zTh.same (U := U.calling g mk a) q.2.2 rfl⟩
theorem zX_of {l : Launch} {y : MethodName} {b : ByteArray} {n : Nat} {r : Option FieldType} {rm : Room} {D : va_G} {tys : List (ClassId × FieldType)} {sa : Nat → Nat} {av : List Value} {ws : va_W} {S : Type} {Qr : S → Option Value} {post : S → Prop} {ws' : S → va_W} {px : String → Prop}
    (hy : plainName y.cls = true) (hn : (lg_sl av).length ≤ n)
    (body : ∀ (p : Program) (e : Env) (s : State) (m : MethodId) (below : List Frame) (meth : Method) (c : Code) (A : Nat → Prop) (ls : Array Slot), zE p s m av.toArray c b n y.cls D tys → meth.sig.returnType = r → meth.locks = false → c.exceptionTable.toList = [] → zTh sa A s s.heap → zS D A s.heap s.heap [] ws → lv_has ls n (lv_args 0 av) →
      W p l e rm s m av.toArray below meth c s.heap [] 0 0 (vx_MQ below (zQ D A Qr post ws') (zXq D A ws px) av.toArray s rm.cells rm.slots A) (F0 m 0 ls [])) : zX l y b n r rm D tys sa av ws Qr post ws' px := by
  intro sz
  refine vx_ofW (cc := b) (maxL := n) (ret := r) hy rfl ?_
  intro p e s m args below meth c s₁ B hml hno hv
  obtain ⟨rfl, ⟨hsz, hP, hK, hN, hD0⟩, hTh⟩ := hv
  subst hsz
  have hts := atoms_spec (ws := wM y b n r) B.pre
  have hD := hD0.self (sz := s.heap.size)
  have hA : ∀ q : Nat, s.heap.size ≤ q → va_A ws s.heap.size q := fun q h => Or.inr h
  have hl := lv_entry av (n := n) hn
  have hem : c.exceptionTable.toList = [] := List.eq_nil_iff_forall_not_mem.mpr hno
  rw [lg_entry_eq]
  exact body p e s m below meth c (va_A ws s.heap.size) _ ⟨B.exec, B.bytes, hml, findClass_of_methodNamed B.named, fun w h => hts w (List.mem_cons_of_mem _ h), hK, hN⟩ B.returns B.notSynchronized hem hTh ⟨hP, hD, va_S.rf, hA⟩ hl
section ZXE
variable {p : Program} {l : Launch} {e : Env} {R : Room} {s : State} {m : MethodId} {args : Array Value} {below : List Frame} {meth : Method} {c : Code} {H : Heap} {locs : List Loc} {cells slots mc ms : Nat} {Q : State → Prop}
variable {cc b : ByteArray} {pc nL n k idx ci : Nat} {ls : Array Slot} {rest st0 As : List Value} {D : va_G} {A : Nat → Prop} {a : Nat} {tys : List (ClassId × FieldType)} {ws wc : va_W} {own : String} {y : MethodName} {r : Option FieldType} {rm : Room} {S : Type} {Qr : S → Option Value} {post : S → Prop} {ws' : S → va_W} {sa : Nat → Nat}
/-- throw new E("text") -/
theorem z_throw {S0 : Type} {Qr0 : S0 → Option Value} {post0 : S0 → Prop} {ws0 : S0 → va_W} {px : String → Prop} {cls text : String} {ik is ic : Nat} (hE : zE p s m args c cc nL RX6 D tys) (hls : ls.size = nL) (hlt : l.stackTraces = false) (hTh : zTh sa A s s.heap) (hem : c.exceptionTable.toList = []) (hlocks : meth.locks = false) (hZ : zS D A s.heap H locs ws)
    (hk : Cond.classLink RX6 ik cls ∈ wG) (hini : Cond.initialized cls ∈ wG) (hs : (is, text) ∈ zStr) (hfit : Bundle.fit cls = true) (hat1 : ∀ w ∈ (vx_atS RX6 ic cls ["java/lang/RuntimeException", "java/lang/Exception"]).filter goodWord, w ∈ wG) (hat2 : ∀ w ∈ (vx_atS RX6 ic cls ["java/lang/RuntimeException", "java/lang/Exception"]).filter (fun w => !goodWord w), w ∈ zDe)
    (d0 : decode cc pc = .ok (.new ik, 3)) (d3 : decode cc (pc + 3) = .ok (.dup, 1)) (d4 : decode cc (pc + 4) = .ok (.ldc is, 2)) (d6 : decode cc (pc + 6) = .ok (.invokespecial ic, 3)) (d9 : decode cc (pc + 9) = .ok (.athrow, 1))
    (hR : 5 < R.frames ∧ (rest.map fun v => v.category).sum + 82 ≤ R.locals ∧ cells + 1 ≤ R.cells ∧ slots + 6 ≤ R.slots) (hpx : px cls) (hc : cells + 1 ≤ mc) (hsl : slots + 6 ≤ ms) :
    W p l e R s m args below meth c H locs cells slots (vx_MQ below (zQ D A Qr0 post0 ws0) (zXq D A ws px) args s mc ms A) (F0 m pc ls rest) := by
  have hat : ∀ w ∈ vx_atS RX6 ic cls ["java/lang/RuntimeException", "java/lang/Exception"], w.before args s = true := vx_hat (B := zDe) (fun w hw => hE.2.2.2.2.1 w (hat1 w hw)) hat2 (fun w hw => va_Nw.use (zDe_ot w hw) (hTh.2.1 w hw))
  have hgood : ∀ w ∈ Cond.classLink RX6 ik cls :: Cond.initialized cls :: vx_atS RX6 ic cls ["java/lang/RuntimeException", "java/lang/Exception"], vx_ot w = true := by
    intro w hw
    rcases List.mem_cons.mp hw with e1 | hw
    · rw [e1]; rfl
    · rcases List.mem_cons.mp hw with e1 | hw
      · rw [e1]; rfl
      · cases hg : goodWord w with
        | true => unfold vx_ot; rw [hg]; simp
        | false =>
          have := hat2 w (List.mem_filter.mpr ⟨hw, by simp [hg]⟩)
          unfold vx_ot; rw [zDe_ot w this]; rfl
  refine vx_throwS (sa := sa is) (A := A) hE.1 hE.2.1 hlt hE.2.2.2.1 hfit (by decide) (hE.2.2.2.2.1 _ hk) (hE.2.2.2.2.1 _ hini) (hTh.1 (is, text) hs) hat hgood hTh.2.2.1 hTh.2.2.2 hZ.2.2.1 (hls.trans hE.2.2.1.symm) d0 d3 d4 d6 d9 (by rw [hem]; intro x hx; cases hx) (Nat.lt_of_le_of_lt (Nat.le_of_ble_eq_true rfl) hR.1) (by have := hR.2.1; simpa using this) hR.2.2.1 hR.2.2.2 hlocks ?_ hZ.2.2.1.2.2 hc hsl
  intro t _ hz hq
  refine ⟨hpx, fun k q hk => (hZ.1 k q hk).kept (hq q.1 (hZ.1 k q hk).lt), Nat.le_trans hZ.2.2.1.1 hz, fun q h1 h2 => ?_⟩
  rw [hq q (Nat.lt_of_lt_of_le h1 hZ.2.2.1.1)]
  exact hZ.2.2.1.2.1 q h1 h2
/-- a call that may throw, in a method without handlers; nothing has been changed yet -/
theorem z_xV {S0 : Type} {Qr0 : S0 → Option Value} {post0 : S0 → Prop} {ws0 : S0 → va_W} {px pxc : String → Prop} (hE : zE p s m args c cc nL own D tys) (hTh : zTh sa A s s.heap) (hem : c.exceptionTable.toList = []) (hlocks : meth.locks = false) (hZ : zS D A s.heap H locs ws) (hM : zX l y b n r rm D tys sa (.ref a :: As) wc Qr post ws' pxc) (hL : zL y b n r k) (hLV : zLV own idx y) (hci : (vwCl[ci]?).map (fun q => q.1) = some y.cls) (isC isR perm : List Nat) (wr : va_W) (wsn : S → va_W) (q0 : Nat) {fs : List Value} (he : wc[q0]? = some (a, .inr (ci, fs)))
    (hC : isC.map (fun i => ws[i]?) = wc.map some) (hRr : isR.map (fun i => ws[i]?) = wr.map some) (hp : ∀ u, perm.map (fun i => (wr ++ ws' u)[i]?) = (wsn u).map some) (hp0 : perm.map (fun i => (wr ++ wc)[i]?) = ws.map some) (hd : va_nd perm = true ∧ va_nd isR = true ∧ va_nd isC = true ∧ ∀ i ∈ isR, i ∉ isC) (hR : rm.frames + 1 ≤ R.frames ∧ 8 + (n + 11) + rm.locals ≤ R.locals) (c1 s1 : Nat) (hc1 : cells + rm.cells = c1) (hs1 : slots + rm.slots = s1) (hf : c1 ≤ R.cells ∧ s1 ≤ R.slots)
    (hAs : As.length = k) (hls : ls.size = nL) (hst : st0 = As.reverse ++ .ref a :: rest) (hW : (rest.map fun v => v.category).sum ≤ 8) (hdg : decode cc pc = .ok (.invokevirtual idx, 3)) (hpx : ∀ E, pxc E → px E) (hmc : c1 ≤ mc) (hms : s1 ≤ ms)
    (kk : ∀ (u : S) (H1 : Heap) (locs1 : List Loc), post u → zS D A s.heap H1 locs1 (wsn u) → W p l e R s m args below meth c H1 locs1 c1 s1 (vx_MQ below (zQ D A Qr0 post0 ws0) (zXq D A ws px) args s mc ms A) (F0 m (pc + 3) ls ((Qr u).toList ++ rest))) : W p l e R s m args below meth c H locs cells slots (vx_MQ below (zQ D A Qr0 post0 ws0) (zXq D A ws px) args s mc ms A) (F0 m pc ls st0) := by
  subst hc1; subst hs1
  have hpre := z_preS hE hZ isC hd.2.2.1 hC (.ref a :: As)
  have hZ2 := z_sub hZ isC hd.2.2.1 hC
  have hFc := va_free (wc := wc) hZ.2.1 hZ.2.2.1 hZ.2.2.2 isC hC
  have hrec : ∃ cell : Cell, H[a]? = some cell ∧ cell.vm.isStatics = false ∧ s.vm.findClass y.cls = some cell.cls := by
    cases hq : vwCl[ci]? with
    | none => rw [hq] at hci; cases hci
    | some q =>
      rw [hq] at hci
      have := va_recv hE.2.2.2.2.2.1 hZ2.1 hq he
      rw [show q.1 = y.cls from Option.some.inj hci] at this
      exact this
  have hS := hZ.2.2.1
  have hr := vx_runV (locs := locs) (cells := cells) (slots := slots) (g := F0 m pc ls st0) (below := below) (meth := meth) (e := e) (R := R) (C := y.cls) (As := As) (rest := rest) ⟨hE.1, hE.2.1, hE.2.2.1, hE.2.2.2.1, hE.2.2.2.2.1⟩ (hM H.size) ⟨z_callB hE hL hLV.1 hR, hE.2.2.2.2.1 _ hLV.2.1, hE.2.2.2.2.1 _ hLV.2.2⟩
    ⟨z_blindX D tys wc sa H.size _, hrec, fun U hU hW => ⟨rfl, (hpre.2 U hU hW).2, hTh.go hW (fun q h1 h2 => by rw [hU]; exact hS.2.1 q h1 h2) hFc⟩⟩ rfl hAs hls hst (lv_room (st := rest) (rest := st0) hW) hdg hf
  have hA' : ∀ {st₀ t T' : State} {L : List Loc}, st₀.heap = H → T'.heap = t.heap → va_F (va_A wc H.size) st₀ t → (∀ q ∈ L, va_A wc H.size q.base) → va_S A s.heap T'.heap (locs ++ L) ∧ ∀ q : Nat, q < H.size → ¬ va_A wc H.size q → T'.heap[q]? = H[q]? := by
    intro st₀ t T' L h0 e1 hF hL
    obtain ⟨hz, hk⟩ := hF
    rw [h0] at hz hk
    exact ⟨⟨Nat.le_trans hS.1 (by rw [e1]; exact hz), fun q h1 h2 => by rw [e1, hk q (Nat.lt_of_lt_of_le h1 hS.1) (fun z => h2 (hFc q z))]; exact hS.2.1 q h1 h2, fun q hq => by
      rcases List.mem_append.mp hq with h | h
      · exact hS.2.2 q h
      · exact hFc _ (hL q h)⟩, fun q h1 h2 => by rw [e1]; exact hk q h1 h2⟩
  intro T hT X
  rcases hr T hT X with ⟨v, st₀, t, T', L, h0, X', hL, e1, e2, ⟨⟨u, hv, hpo, hP1, hD1⟩, hF⟩, st⟩ | ⟨q, st₀, t, T', L, E, ce, h0, X', hL, e1, e2, ⟨hpE, hPx, hF⟩, hce, hcv, hcl, st⟩
  · cases hv
    obtain ⟨hS', hk2⟩ := hA' h0 e1 hF hL
    have hP3 : va_P D vwCl (ws' u) T'.heap := by rw [e1]; exact hP1
    obtain ⟨hP2, hD2⟩ := va_join (H1 := T'.heap) hZ.1 hZ.2.1 isC isR hC hRr hd.2.1 hd.2.2.2 hk2 hFc hP3 hD1
    obtain ⟨t2, a1, b1⟩ := kk u T'.heap (locs ++ L) hpo (z_sub ⟨hP2, hD2, hS', hZ.2.2.2⟩ perm hd.1 (hp u)) T' rfl X'
    exact ⟨t2, st t2 a1, b1⟩
  · obtain ⟨hS', hk2⟩ := hA' h0 e1 hF hL
    have hP3 : va_P D vwCl wc T'.heap := by rw [e1]; exact hPx
    obtain ⟨hP2, hD2⟩ := va_join (H1 := T'.heap) hZ.1 hZ.2.1 isC isR hC hRr hd.2.1 hd.2.2.2 hk2 hFc hP3 (hZ2.2.1.self)
    have hZ3 := z_sub (⟨hP2, hD2, hS', hZ.2.2.2⟩ : zS D A s.heap T'.heap (locs ++ L) (wr ++ wc)) perm hd.1 hp0
    obtain ⟨t2, a1, b1⟩ := vx_out (l := l) (p := p) (e := e) (R := R) (args := args) (below := below) (Qc := zQ D A Qr0 post0 ws0) (XC := zXq D A ws px) (free := A) (H := T'.heap) (locs := locs ++ L) (cells := cells + rm.cells) (slots := slots + rm.slots) (pc := pc) (ls := ls) (rest := rest) (q := q) (mc := mc) (ms := ms) (m := m) (meth := meth) (c := c) (s := s) (by rw [hem]; intro x hx; cases hx) hlocks (by rw [e1]; exact hce) hcv hcl
      (fun t9 ht9 _ => ⟨hpx E hpE, by rw [ht9]; exact hZ3.1, hS'.F ht9⟩) hS'.2.2 hmc hms T' rfl X'
    exact ⟨t2, st.trans a1, b1⟩
end ZXE
theorem zt1_IllegalArgumentException : ∀ w ∈ (vx_atS RX6 82 "java/lang/IllegalArgumentException" ["java/lang/RuntimeException", "java/lang/Exception"]).filter goodWord, w ∈ wG := fun w hw => List.mem_filter.mpr ⟨(show ∀ w ∈ (vx_atS RX6 82 "java/lang/IllegalArgumentException" ["java/lang/RuntimeException", "java/lang/Exception"]).filter goodWord, w ∈ lw_tbl by decide +kernel) w hw, (List.mem_filter.mp hw).2⟩
theorem zt2_IllegalArgumentException : ∀ w ∈ (vx_atS RX6 82 "java/lang/IllegalArgumentException" ["java/lang/RuntimeException", "java/lang/Exception"]).filter (fun w => !goodWord w), w ∈ zDe := by decide +kernel
theorem zt1_IllegalStateException : ∀ w ∈ (vx_atS RX6 192 "java/lang/IllegalStateException" ["java/lang/RuntimeException", "java/lang/Exception"]).filter goodWord, w ∈ wG := fun w hw => List.mem_filter.mpr ⟨(show ∀ w ∈ (vx_atS RX6 192 "java/lang/IllegalStateException" ["java/lang/RuntimeException", "java/lang/Exception"]).filter goodWord, w ∈ lw_tbl by decide +kernel) w hw, (List.mem_filter.mp hw).2⟩
theorem zt2_IllegalStateException : ∀ w ∈ (vx_atS RX6 192 "java/lang/IllegalStateException" ["java/lang/RuntimeException", "java/lang/Exception"]).filter (fun w => !goodWord w), w ∈ zDe := by decide +kernel
theorem zt1_UnsupportedOperationException : ∀ w ∈ (vx_atS RX6 242 "java/lang/UnsupportedOperationException" ["java/lang/RuntimeException", "java/lang/Exception"]).filter goodWord, w ∈ wG := fun w hw => List.mem_filter.mpr ⟨(show ∀ w ∈ (vx_atS RX6 242 "java/lang/UnsupportedOperationException" ["java/lang/RuntimeException", "java/lang/Exception"]).filter goodWord, w ∈ lw_tbl by decide +kernel) w hw, (List.mem_filter.mp hw).2⟩
theorem zt2_UnsupportedOperationException : ∀ w ∈ (vx_atS RX6 242 "java/lang/UnsupportedOperationException" ["java/lang/RuntimeException", "java/lang/Exception"]).filter (fun w => !goodWord w), w ∈ zDe := by decide +kernel
theorem zt1_IndexOutOfBoundsException : ∀ w ∈ (vx_atS RX6 125 "java/lang/IndexOutOfBoundsException" ["java/lang/RuntimeException", "java/lang/Exception"]).filter goodWord, w ∈ wG := fun w hw => List.mem_filter.mpr ⟨(show ∀ w ∈ (vx_atS RX6 125 "java/lang/IndexOutOfBoundsException" ["java/lang/RuntimeException", "java/lang/Exception"]).filter goodWord, w ∈ lw_tbl by decide +kernel) w hw, (List.mem_filter.mp hw).2⟩
theorem zt2_IndexOutOfBoundsException : ∀ w ∈ (vx_atS RX6 125 "java/lang/IndexOutOfBoundsException" ["java/lang/RuntimeException", "java/lang/Exception"]).filter (fun w => !goodWord w), w ∈ zDe := by decide +kernel
