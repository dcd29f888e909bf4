def R_law : String := "RaidVaultLaw"
def lw_P (b : Addr) (xs : List Int32) (args : Array Value) (s : State) : Prop := args = #[.ref b] ∧ s.IntsAt b xs ∧ xs.length ≤ 2560 ∧ (Jvm.Cond.and given_1 narrow_1).before args s = true
def lw_Q (_ : Array Value) (s : State) (o : Outcome) (t : State) : Prop := o = .returned (some (.int 1)) ∧ Framed s o t [] 601024 7293034
def lw_Z (below : List Frame) (a : Array Value) (s : State) : State → Prop := fun t => ∃ o, t.status = .running ∧ Ended t below o ∧ lw_Q a s o t
/-- the law's own end, with 1 on the stack, nothing written that was there before, its room as the claim has it -/
theorem lw_ret {p : Program} {l : Launch} {e : Env} {s : State} {m : MethodId} {below : List Frame} {meth : Method} {c : Code} {b : Nat} (hx : p.tables.exec = Jvm.exec) (hb : c.code = code) (hr : meth.sig.returnType = ret) (hlocks : meth.locks = false) {pc : Nat} {H : Heap} {ls : Array Slot} (hdg : decode code pc = .ok (.ireturn, 1)) : W p l e room_1 s m #[Value.ref b] below meth c H [] 601024 7293034 (lw_Z below #[Value.ref b] s) (F0 m pc ls [.int 1]) := by
  intro T hT X
  obtain ⟨fs, hret, hrun, hended, hW, hframe⟩ := X.leave (v := some (.int 1)) (hlocks := hlocks) (fun h => by rw [hr] at h; cases h)
  have hmeth' : T.vm.method? m = some meth := X.method'
  refine ⟨T.setFrames fs, ?_, .returned (some (.int 1)), hrun, hended, rfl, ⟨_, rfl⟩, hW, hframe⟩
  jvm_step X.here [X.here.top, hx, hb, hdg, hmeth', hr, ret, narrow_b1]
  (try refine ⟨rfl, ?_⟩); (try refine ⟨rfl, ?_⟩)
  first | (intro acts; rw [hret _ acts rfl rfl rfl]) | rw [hret _ _ rfl rfl rfl]
  exact Steps.refl _
/-- what holds at the law's entry: the machine, the code, the tables' words (any of lw_tbl by 'hts w (by decide +kernel)'), the script of L ints xs at the cell b, what the Statement gives of the start (any of its parts by flat_of_before) -/
def lw_At (p : Program) (s : State) (m : MethodId) (meth : Method) (c : Code) (b L : Nat) (xs : Nat → Int32) : Prop :=
  p.tables.exec = Jvm.exec ∧ c.code = code ∧ meth.sig.returnType = ret ∧ c.maxLocals = 8 ∧ s.vm.findClass R_law = some m.cls ∧ (∀ w ∈ lw_tbl, w.before #[Value.ref b] s = true) ∧ va_X b L xs s s.heap ∧ b < s.heap.size ∧ meth.locks = false ∧ (Jvm.Cond.and given_1 narrow_1).before #[Value.ref b] s = true

theorem lw_fl {l : Launch} (h : l.flags = flags0) : l.stackTraces = false := by
  unfold Launch.stackTraces
  rw [h]
  decide +kernel
theorem zNest_in : ∀ w ∈ zNest, w ∈ lw_tbl := by decide +kernel
theorem zNest_ot : ∀ w ∈ zNest, w.onTables = true := by decide
theorem zDe_in : ∀ w ∈ zDe, w ∈ lw_tbl := by decide +kernel
theorem zStr_in : ∀ q ∈ zStr, Cond.stringRef RX6 q.1 q.2 ∈ lw_tbl := by decide +kernel
theorem lw_arr {s : State} {args : Array Value} {ty : FieldType} (h : (Cond.arrayClass ty).before args s = true) : ∃ cA, ArrOfT s cA ty ∧ s.vm.findClass ("[" ++ ty.toString) = some cA := by
  obtain ⟨cA, kA, comp, h1, h2, h3⟩ := Cond.arrayClass_spec h
  exact ⟨cA, fun n z => ⟨fun k h => (by cases h), kA, h2, comp, h3⟩, h1⟩
theorem lw_arr2 {s : State} {args : Array Value} {ty : FieldType} (h : (Cond.arrayOver (.array ty)).before args s = true) : ∃ cA, ArrOfT s cA (.array ty) ∧ s.vm.findClass ("[" ++ (FieldType.array ty).toString) = some cA := by
  obtain ⟨comp, cA, kA, h0, h2, h3, h1⟩ := Cond.arrayOver_specA h
  exact ⟨cA, fun n z => ⟨fun k h => (by cases h), kA, h2, comp, h3⟩, h1⟩
theorem lw_str {s : State} {args : Array Value} {cur : ClassId} (hcur : s.vm.findClass RX6 = some cur) (h : ∀ q ∈ zStr, (Cond.stringRef RX6 q.1 q.2).before args s = true) : ∃ sa : Nat → Nat, ∀ q ∈ zStr, vk_R RX6 q.1 q.2 (sa q.1) s := by
  refine ⟨fun k => match (Term.string RX6 k).eval #[] s none [] s with | some (.ref a) => a | _ => 0, fun q hq => ?_⟩
  obtain ⟨k, cf, i, a, -, -, -, -, -, h6⟩ := Cond.stringRef_spec hcur (h q hq)
  have h7 : (Term.string RX6 q.1).eval #[] s none [] s = some (.ref a) := h6
  refine vk_R.of (A := args) (h q hq) ?_
  show (Term.string RX6 q.1).eval #[] s none [] s = some (.ref (match (Term.string RX6 q.1).eval #[] s none [] s with | some (.ref a) => a | _ => 0))
  rw [h7]
set_option maxRecDepth 100000 in
theorem lw_env {p : Program} {l : Launch} {s : State} {m : MethodId} {meth : Method} {c : Code} {b L : Nat} {xs : Nat → Int32} (hlt : l.stackTraces = false) (C0 : lw_At p s m meth c b L xs) : ∃ (D : va_G) (cI cJ cZ cII cZZ : ClassId) (A : Nat → Prop) (sa : Nat → Nat), LWE p l s m meth c D cI cJ cZ cII cZZ A sa b L xs ∧ (∀ q, A q → s.heap.size ≤ q) ∧ (∀ q, s.heap.size ≤ q → A q) := by
  obtain ⟨hx, hb, hr, hml, hown, hts, hX, hbl, hlocks, hgv⟩ := C0
  have hw : ∀ w ∈ wG, w.before #[Value.ref b] s = true := fun w h => hts w (List.mem_filter.mp h).1
  have hs := flat_of_before _ hgv
  obtain ⟨c0, iS0, hK0⟩ := u_known (C := RX0) (T := TX0) (N := 1) (n := 1) hw uG_X0 (hw _ mg849)
  obtain ⟨c1, iS1, hK1⟩ := u_known (C := RX1) (T := TX1) (N := 6) (n := 6) hw uG_X1 (hw _ mg844)
  obtain ⟨c2, iS2, hK2⟩ := u_known (C := RX2) (T := TX2) (N := 2) (n := 2) hw uG_X2 (hw _ mg845)
  obtain ⟨c3, iS3, hK3⟩ := u_known (C := RX3) (T := TX3) (N := 5) (n := 5) hw uG_X3 (hw _ mg848)
  obtain ⟨c4, iS4, hK4⟩ := u_known (C := RX4) (T := TX4) (N := 6) (n := 6) hw uG_X4 (hw _ mg847)
  obtain ⟨c5, iS5, hK5⟩ := u_known (C := RX5) (T := TX5) (N := 3) (n := 3) hw uG_X5 (hw _ mg846)
  obtain ⟨c6, iS6, hK6⟩ := u_known (C := RX6) (T := TX6) (N := 7) (n := 7) hw uG_X6 (hw _ mg843)
  obtain ⟨c7, iS7, hK7⟩ := u_known (C := RX7) (T := TX7) (N := 20) (n := 20) hw uG_X7 (hw _ mg855)
  obtain ⟨dC, dI, hKc⟩ : ∃ (dC : Nat → ClassId) (dI : Nat → Nat → Nat), ∀ (k : Nat) (q : vw_C), vwCl[k]? = some q → u_Kn s q.1 q.2.1 q.2.2 (dC k) (dI k) := by
    refine ⟨fun k => [c0, c1, c2, c3, c4, c5, c6, c7].getD k c0, fun k => [iS0, iS1, iS2, iS3, iS4, iS5, iS6, iS7].getD k iS0, ?_⟩
    intro k q hq
    match k, hq with
    | 0, hq => cases hq; exact hK0
    | 1, hq => cases hq; exact hK1
    | 2, hq => cases hq; exact hK2
    | 3, hq => cases hq; exact hK3
    | 4, hq => cases hq; exact hK4
    | 5, hq => cases hq; exact hK5
    | 6, hq => cases hq; exact hK6
    | 7, hq => cases hq; exact hK7
    | k + 8, hq => simp [vwCl] at hq
  obtain ⟨cI, aI, rI⟩ := lw_arr (hw _ mg822)
  obtain ⟨cJ, aJ, rJ⟩ := lw_arr (hw _ mg821)
  obtain ⟨cZ, aZ, rZ⟩ := lw_arr (hw _ mg824)
  have hO1 : (Cond.arrayOver (.array .int)).before #[Value.ref b] s = true := hts _ (by decide +kernel)
  have hO2 : (Cond.arrayOver (.array .boolean)).before #[Value.ref b] s = true := hts _ (by decide +kernel)
  obtain ⟨cII, aII, rII⟩ := lw_arr2 hO1
  obtain ⟨cZZ, aZZ, rZZ⟩ := lw_arr2 hO2
  have hK : va_K (dC, dI) vwCl (zT cI cJ cZ cII cZZ) s := by
    refine ⟨hKc, fun k q h => ?_⟩
    match k, h with
    | 0, h => cases h; exact ⟨aI, rI⟩
    | 1, h => cases h; exact ⟨aJ, rJ⟩
    | 2, h => cases h; exact ⟨aZ, rZ⟩
    | 3, h => cases h; exact ⟨aII, rII⟩
    | 4, h => cases h; exact ⟨aZZ, rZZ⟩
    | k + 5, h => simp at h
  have hcur : s.vm.findClass RX6 = some c6 := hK6.2.1
  obtain ⟨sa, hsa⟩ := lw_str hcur (fun q hq => hts _ (zStr_in q hq))
  have hAA : ∀ a : Nat, a < s.heap.size → ¬ (fun q : Nat => s.heap.size ≤ q) a := fun a h => Nat.not_le.mpr h
  refine ⟨(dC, dI), cI, cJ, cZ, cII, cZZ, fun q => s.heap.size ≤ q, sa, ⟨⟨hx, hb, hml, hown, hw, hK, fun w h => va_Nw.of (zNest_ot w h) (hts w (zNest_in w h))⟩, hX, hbl, Nat.not_le.mpr hbl, ⟨hsa, fun w h => va_Nw.of (zDe_ot w h) (hts w (zDe_in w h)), ?_, ?_⟩, ⟨?_, ?_, ?_, ?_, ?_⟩, ⟨hO1, hO2⟩, hlt⟩, fun q h => h, fun q h => h⟩
  · exact vx_Zqof (hts (.laysStatic Bundle.tN "UNASSIGNED_STACK" Bundle.steD) (by decide +kernel)) (hts (.initialized Bundle.tN) (by decide +kernel)) (hs (.isRef (.static "java/lang/Throwable" "UNASSIGNED_STACK" "[Ljava/lang/StackTraceElement;")) (by decide +kernel)) hAA
  · exact vx_Zqof (hts (.laysStatic Bundle.tN "SUPPRESSED_SENTINEL" Bundle.listD) (by decide +kernel)) (hts (.initialized Bundle.tN) (by decide +kernel)) (hs (.isRef (.static "java/lang/Throwable" "SUPPRESSED_SENTINEL" "Ljava/util/List;")) (by decide +kernel)) hAA
  · exact va_Nc.of (hs (.not (.castable "java/lang/IllegalStateException" "java/lang/IllegalArgumentException")) (by decide +kernel))
  · exact va_Nc.of (hs (.not (.castable "java/lang/UnsupportedOperationException" "java/lang/IllegalArgumentException")) (by decide +kernel))
  · exact va_Nc.of (hs (.not (.castable "java/lang/UnsupportedOperationException" "java/lang/IllegalStateException")) (by decide +kernel))
  · exact va_Nc.of (hs (.not (.castable "java/lang/IndexOutOfBoundsException" "java/lang/IllegalArgumentException")) (by decide +kernel))
  · exact va_Nc.of (hs (.not (.castable "java/lang/IndexOutOfBoundsException" "java/lang/IllegalStateException")) (by decide +kernel))
