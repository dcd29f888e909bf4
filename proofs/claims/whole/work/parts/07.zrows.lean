/-! own rows: one list of words for all methods; ints seen as numbers; a contract's form, and calls by it -/
def wG : List Cond := lw_tbl.filter goodWord
abbrev wM (y : MethodName) (b : ByteArray) (n : Nat) (r : Option FieldType) : List Cond := Cond.code y b n r :: wG
theorem mG {w : Cond} (h : w ∈ lw_tbl) (g : goodWord w = true) : w ∈ wG := List.mem_filter.mpr ⟨h, g⟩
theorem mG_code (y : MethodName) (b : ByteArray) (n : Nat) (r : Option FieldType) : goodWord (Cond.code y b n r) = true := rfl
theorem wG_good {w : Cond} (h : w ∈ wG) : goodWord w = true := (List.mem_filter.mp h).2
theorem wM_in {y : MethodName} {b : ByteArray} {n : Nat} {r : Option FieldType} (h : Cond.code y b n r ∈ wG) {w : Cond} (hw : w ∈ wM y b n r) : w ∈ wG := (List.mem_cons.mp hw).elim (fun e => by rw [e]; exact h) id
theorem wM_good {y : MethodName} {b : ByteArray} {n : Nat} {r : Option FieldType} (h : Cond.code y b n r ∈ wG) : GoodIn wG (wM y b n r) := fun _ hw => ⟨wM_in h hw, good_of_word (wG_good (wM_in h hw))⟩
/-- an int seen as a whole number; a truth value; 32 bits -/
def zI (z : Int) : Int32 := Int32.ofInt z
def zB (b : Bool) : Int32 := if b then 1 else 0
def zW (b : BitVec 32) : Int32 := ⟨⟨b⟩⟩
theorem zI_n (n : Nat) : nI n = zI (n : Int) := by
  unfold nI zI
  apply Int32.toBitVec_inj.mp
  simp
theorem zI_add (a b : Int) : zI a + zI b = zI (a + b) := by unfold zI; rw [Int32.ofInt_add]
theorem zI_sub (a b : Int) : zI a - zI b = zI (a - b) := by unfold zI; rw [Int32.ofInt_sub]
theorem zI_mul (a b : Int) : zI a * zI b = zI (a * b) := by unfold zI; rw [Int32.ofInt_mul]
def zOk (a : Int) : Prop := -2147483648 ≤ a ∧ a < 2147483648
theorem zI_toInt {a : Int} (h : zOk a) : (zI a).toInt = a := by
  unfold zI
  rw [Int32.toInt_ofInt]
  obtain ⟨h1, h2⟩ := h
  rw [show (Int32.size : Nat) = 4294967296 from rfl]
  exact Int.bmod_eq_of_le (by omega) (by omega)
theorem zI_lt {a b : Int} (ha : zOk a) (hb : zOk b) : zI a < zI b ↔ a < b := by rw [Int32.lt_iff_toInt_lt, zI_toInt ha, zI_toInt hb]
theorem zI_le {a b : Int} (ha : zOk a) (hb : zOk b) : zI a ≤ zI b ↔ a ≤ b := by rw [Int32.le_iff_toInt_le, zI_toInt ha, zI_toInt hb]
theorem zI_eq {a b : Int} (ha : zOk a) (hb : zOk b) : zI a = zI b ↔ a = b := by
  constructor
  · intro h
    have := congrArg Int32.toInt h
    rwa [zI_toInt ha, zI_toInt hb] at this
  · intro h; rw [h]
theorem zI_0 : (0 : Int32) = zI 0 := rfl
theorem zB_t : zB true = 1 := rfl
theorem zB_f : zB false = 0 := rfl
theorem zI_of (x : Int32) : ∃ a : Int, zOk a ∧ x = zI a := ⟨x.toInt, ⟨by have := x.le_toInt; omega, by have := x.toInt_lt; omega⟩, by unfold zI; rw [Int32.ofInt_toInt]⟩

section ZR
variable {p : Program} {l : Launch} {e : Env} {R : Room} {s : State} {m : MethodId} {args : Array Value} {below : List Frame} {meth : Method} {c : Code} {H : Heap} {locs : List Loc} {cells slots : Nat} {Q : State → Prop}
variable {cc : ByteArray} {pc : Nat} {ls : Array Slot} {rest : List Value}
theorem z_iconst (hexec : p.tables.exec = Jvm.exec) (hb : c.code = cc) {n : Int} (v : Int32) (hdg : decode cc pc = .ok (.iconst n, 1)) (hv : v = Int32.ofInt n)
    (k : W p l e R s m args below meth c H locs cells slots Q (F0 m (pc + 1) ls (.int v :: rest))) : W p l e R s m args below meth c H locs cells slots Q (F0 m pc ls rest) := lv_iconst hexec hb hdg hv.symm k
theorem z_bipush (hexec : p.tables.exec = Jvm.exec) (hb : c.code = cc) {n : Int} (v : Int32) (hdg : decode cc pc = .ok (.bipush n, 2)) (hv : v = (Int8.ofInt n).toInt32)
    (k : W p l e R s m args below meth c H locs cells slots Q (F0 m (pc + 2) ls (.int v :: rest))) : W p l e R s m args below meth c H locs cells slots Q (F0 m pc ls rest) := lv_bipush hexec hb hdg hv.symm k
theorem z_sipush (hexec : p.tables.exec = Jvm.exec) (hb : c.code = cc) {n : Int} (v : Int32) (hdg : decode cc pc = .ok (.sipush n, 3)) (hv : v = (Int16.ofInt n).toInt32)
    (k : W p l e R s m args below meth c H locs cells slots Q (F0 m (pc + 3) ls (.int v :: rest))) : W p l e R s m args below meth c H locs cells slots Q (F0 m pc ls rest) := lv_sipush hexec hb hdg hv.symm k
/-- the top is also ..: -/
theorem z_top {x y : Int32} (h : x = y) (k : W p l e R s m args below meth c H locs cells slots Q (F0 m pc ls (.int y :: rest))) : W p l e R s m args below meth c H locs cells slots Q (F0 m pc ls (.int x :: rest)) := h ▸ k
theorem z_topl {x y : Int64} (h : x = y) (k : W p l e R s m args below meth c H locs cells slots Q (F0 m pc ls (.long y :: rest))) : W p l e R s m args below meth c H locs cells slots Q (F0 m pc ls (.long x :: rest)) := h ▸ k
theorem z_iadd (hexec : p.tables.exec = Jvm.exec) (hb : c.code = cc) {x y : Int32} (hdg : decode cc pc = .ok (.iadd, 1)) {z : Int32} (h : x + y = z)
    (k : W p l e R s m args below meth c H locs cells slots Q (F0 m (pc + 1) ls (.int z :: rest))) : W p l e R s m args below meth c H locs cells slots Q (F0 m pc ls (.int y :: .int x :: rest)) := lv_iadd hexec hb hdg (h ▸ k)
theorem z_isub (hexec : p.tables.exec = Jvm.exec) (hb : c.code = cc) {x y : Int32} (hdg : decode cc pc = .ok (.isub, 1)) {z : Int32} (h : x - y = z)
    (k : W p l e R s m args below meth c H locs cells slots Q (F0 m (pc + 1) ls (.int z :: rest))) : W p l e R s m args below meth c H locs cells slots Q (F0 m pc ls (.int y :: .int x :: rest)) := lv_isub hexec hb hdg (h ▸ k)
theorem z_imul (hexec : p.tables.exec = Jvm.exec) (hb : c.code = cc) {x y : Int32} (hdg : decode cc pc = .ok (.imul, 1)) {z : Int32} (h : x * y = z)
    (k : W p l e R s m args below meth c H locs cells slots Q (F0 m (pc + 1) ls (.int z :: rest))) : W p l e R s m args below meth c H locs cells slots Q (F0 m pc ls (.int y :: .int x :: rest)) := lv_imul hexec hb hdg (h ▸ k)
theorem z_idiv (hexec : p.tables.exec = Jvm.exec) (hb : c.code = cc) {a b : Nat} (hdg : decode cc pc = .ok (.idiv, 1)) (ha : a < 2 ^ 31) (h0 : 0 < b) (hb2 : b < 2 ^ 31)
    (k : W p l e R s m args below meth c H locs cells slots Q (F0 m (pc + 1) ls (.int (nI (a / b)) :: rest))) : W p l e R s m args below meth c H locs cells slots Q (F0 m pc ls (.int (nI b) :: .int (nI a) :: rest)) := lv_idiv hexec hb hdg (nI_ne0 h0 hb2) (pk_div ha h0 hb2 ▸ k)
theorem z_irem (hexec : p.tables.exec = Jvm.exec) (hb : c.code = cc) {a b : Nat} (hdg : decode cc pc = .ok (.irem, 1)) (ha : a < 2 ^ 31) (h0 : 0 < b) (hb2 : b < 2 ^ 31)
    (k : W p l e R s m args below meth c H locs cells slots Q (F0 m (pc + 1) ls (.int (nI (a % b)) :: rest))) : W p l e R s m args below meth c H locs cells slots Q (F0 m pc ls (.int (nI b) :: .int (nI a) :: rest)) := lv_irem hexec hb hdg (nI_ne0 h0 hb2) (pk_rem ha h0 hb2 ▸ k)
theorem nIlt {a b : Nat} (ha : a < 2 ^ 31) (hb : b < 2 ^ 31) : nI a < nI b ↔ a < b := nI_ltI ha hb
theorem nIle {a b : Nat} (ha : a < 2 ^ 31) (hb : b < 2 ^ 31) : nI a ≤ nI b ↔ a ≤ b := nI_leI ha hb
/-- branches, with the condition in other words -/
theorem z_icmp_eq (hexec : p.tables.exec = Jvm.exec) (hb : c.code = cc) {x y : Int32} {off : Int} (tgt : Nat) (hdg : decode cc pc = .ok (.if_icmp .eq off, 3)) (ht : (pc : Int) + off = (tgt : Int)) {C : Prop} (hC : x = y ↔ C)
    (kt : C → W p l e R s m args below meth c H locs cells slots Q (F0 m tgt ls rest)) (kf : ¬ C → W p l e R s m args below meth c H locs cells slots Q (F0 m (pc + 3) ls rest)) : W p l e R s m args below meth c H locs cells slots Q (F0 m pc ls (.int y :: .int x :: rest)) := lv_icmp_eq hexec hb hdg ht (fun h => kt (hC.mp h)) (fun h => kf (fun q => h (hC.mpr q)))
theorem z_icmp_ne (hexec : p.tables.exec = Jvm.exec) (hb : c.code = cc) {x y : Int32} {off : Int} (tgt : Nat) (hdg : decode cc pc = .ok (.if_icmp .ne off, 3)) (ht : (pc : Int) + off = (tgt : Int)) {C : Prop} (hC : x = y ↔ C)
    (kt : ¬ C → W p l e R s m args below meth c H locs cells slots Q (F0 m tgt ls rest)) (kf : C → W p l e R s m args below meth c H locs cells slots Q (F0 m (pc + 3) ls rest)) : W p l e R s m args below meth c H locs cells slots Q (F0 m pc ls (.int y :: .int x :: rest)) := lv_icmp_ne hexec hb hdg ht (fun h => kt (fun q => h (hC.mpr q))) (fun h => kf (hC.mp h))
theorem z_icmp_lt (hexec : p.tables.exec = Jvm.exec) (hb : c.code = cc) {x y : Int32} {off : Int} (tgt : Nat) (hdg : decode cc pc = .ok (.if_icmp .lt off, 3)) (ht : (pc : Int) + off = (tgt : Int)) {C : Prop} (hC : x < y ↔ C)
    (kt : C → W p l e R s m args below meth c H locs cells slots Q (F0 m tgt ls rest)) (kf : ¬ C → W p l e R s m args below meth c H locs cells slots Q (F0 m (pc + 3) ls rest)) : W p l e R s m args below meth c H locs cells slots Q (F0 m pc ls (.int y :: .int x :: rest)) := lv_icmp_lt hexec hb hdg ht (fun h => kt (hC.mp h)) (fun h => kf (fun q => h (hC.mpr q)))
theorem z_icmp_ge (hexec : p.tables.exec = Jvm.exec) (hb : c.code = cc) {x y : Int32} {off : Int} (tgt : Nat) (hdg : decode cc pc = .ok (.if_icmp .ge off, 3)) (ht : (pc : Int) + off = (tgt : Int)) {C : Prop} (hC : y ≤ x ↔ C)
    (kt : C → W p l e R s m args below meth c H locs cells slots Q (F0 m tgt ls rest)) (kf : ¬ C → W p l e R s m args below meth c H locs cells slots Q (F0 m (pc + 3) ls rest)) : W p l e R s m args below meth c H locs cells slots Q (F0 m pc ls (.int y :: .int x :: rest)) := lv_icmp_ge hexec hb hdg ht (fun h => kt (hC.mp h)) (fun h => kf (fun q => h (hC.mpr q)))
theorem z_icmp_gt (hexec : p.tables.exec = Jvm.exec) (hb : c.code = cc) {x y : Int32} {off : Int} (tgt : Nat) (hdg : decode cc pc = .ok (.if_icmp .gt off, 3)) (ht : (pc : Int) + off = (tgt : Int)) {C : Prop} (hC : y < x ↔ C)
    (kt : C → W p l e R s m args below meth c H locs cells slots Q (F0 m tgt ls rest)) (kf : ¬ C → W p l e R s m args below meth c H locs cells slots Q (F0 m (pc + 3) ls rest)) : W p l e R s m args below meth c H locs cells slots Q (F0 m pc ls (.int y :: .int x :: rest)) := lv_icmp_gt hexec hb hdg ht (fun h => kt (hC.mp h)) (fun h => kf (fun q => h (hC.mpr q)))
theorem z_icmp_le (hexec : p.tables.exec = Jvm.exec) (hb : c.code = cc) {x y : Int32} {off : Int} (tgt : Nat) (hdg : decode cc pc = .ok (.if_icmp .le off, 3)) (ht : (pc : Int) + off = (tgt : Int)) {C : Prop} (hC : x ≤ y ↔ C)
    (kt : C → W p l e R s m args below meth c H locs cells slots Q (F0 m tgt ls rest)) (kf : ¬ C → W p l e R s m args below meth c H locs cells slots Q (F0 m (pc + 3) ls rest)) : W p l e R s m args below meth c H locs cells slots Q (F0 m pc ls (.int y :: .int x :: rest)) := lv_icmp_le hexec hb hdg ht (fun h => kt (hC.mp h)) (fun h => kf (fun q => h (hC.mpr q)))
theorem z_if_eq (hexec : p.tables.exec = Jvm.exec) (hb : c.code = cc) {x : Int32} {off : Int} (tgt : Nat) (hdg : decode cc pc = .ok (.ifCond .eq off, 3)) (ht : (pc : Int) + off = (tgt : Int)) {C : Prop} (hC : x = 0 ↔ C)
    (kt : C → W p l e R s m args below meth c H locs cells slots Q (F0 m tgt ls rest)) (kf : ¬ C → W p l e R s m args below meth c H locs cells slots Q (F0 m (pc + 3) ls rest)) : W p l e R s m args below meth c H locs cells slots Q (F0 m pc ls (.int x :: rest)) := lv_if_eq hexec hb hdg ht (fun h => kt (hC.mp h)) (fun h => kf (fun q => h (hC.mpr q)))
theorem z_if_ne (hexec : p.tables.exec = Jvm.exec) (hb : c.code = cc) {x : Int32} {off : Int} (tgt : Nat) (hdg : decode cc pc = .ok (.ifCond .ne off, 3)) (ht : (pc : Int) + off = (tgt : Int)) {C : Prop} (hC : x = 0 ↔ C)
    (kt : ¬ C → W p l e R s m args below meth c H locs cells slots Q (F0 m tgt ls rest)) (kf : C → W p l e R s m args below meth c H locs cells slots Q (F0 m (pc + 3) ls rest)) : W p l e R s m args below meth c H locs cells slots Q (F0 m pc ls (.int x :: rest)) := lv_if_ne hexec hb hdg ht (fun h => kt (fun q => h (hC.mpr q))) (fun h => kf (hC.mp h))
theorem z_if_lt (hexec : p.tables.exec = Jvm.exec) (hb : c.code = cc) {x : Int32} {off : Int} (tgt : Nat) (hdg : decode cc pc = .ok (.ifCond .lt off, 3)) (ht : (pc : Int) + off = (tgt : Int)) {C : Prop} (hC : x < 0 ↔ C)
    (kt : C → W p l e R s m args below meth c H locs cells slots Q (F0 m tgt ls rest)) (kf : ¬ C → W p l e R s m args below meth c H locs cells slots Q (F0 m (pc + 3) ls rest)) : W p l e R s m args below meth c H locs cells slots Q (F0 m pc ls (.int x :: rest)) := lv_if_lt hexec hb hdg ht (fun h => kt (hC.mp h)) (fun h => kf (fun q => h (hC.mpr q)))
theorem z_if_ge (hexec : p.tables.exec = Jvm.exec) (hb : c.code = cc) {x : Int32} {off : Int} (tgt : Nat) (hdg : decode cc pc = .ok (.ifCond .ge off, 3)) (ht : (pc : Int) + off = (tgt : Int)) {C : Prop} (hC : 0 ≤ x ↔ C)
    (kt : C → W p l e R s m args below meth c H locs cells slots Q (F0 m tgt ls rest)) (kf : ¬ C → W p l e R s m args below meth c H locs cells slots Q (F0 m (pc + 3) ls rest)) : W p l e R s m args below meth c H locs cells slots Q (F0 m pc ls (.int x :: rest)) := lv_if_ge hexec hb hdg ht (fun h => kt (hC.mp h)) (fun h => kf (fun q => h (hC.mpr q)))
theorem z_if_gt (hexec : p.tables.exec = Jvm.exec) (hb : c.code = cc) {x : Int32} {off : Int} (tgt : Nat) (hdg : decode cc pc = .ok (.ifCond .gt off, 3)) (ht : (pc : Int) + off = (tgt : Int)) {C : Prop} (hC : 0 < x ↔ C)
    (kt : C → W p l e R s m args below meth c H locs cells slots Q (F0 m tgt ls rest)) (kf : ¬ C → W p l e R s m args below meth c H locs cells slots Q (F0 m (pc + 3) ls rest)) : W p l e R s m args below meth c H locs cells slots Q (F0 m pc ls (.int x :: rest)) := lv_if_gt hexec hb hdg ht (fun h => kt (hC.mp h)) (fun h => kf (fun q => h (hC.mpr q)))
theorem z_if_le (hexec : p.tables.exec = Jvm.exec) (hb : c.code = cc) {x : Int32} {off : Int} (tgt : Nat) (hdg : decode cc pc = .ok (.ifCond .le off, 3)) (ht : (pc : Int) + off = (tgt : Int)) {C : Prop} (hC : x ≤ 0 ↔ C)
    (kt : C → W p l e R s m args below meth c H locs cells slots Q (F0 m tgt ls rest)) (kf : ¬ C → W p l e R s m args below meth c H locs cells slots Q (F0 m (pc + 3) ls rest)) : W p l e R s m args below meth c H locs cells slots Q (F0 m pc ls (.int x :: rest)) := lv_if_le hexec hb hdg ht (fun h => kt (hC.mp h)) (fun h => kf (fun q => h (hC.mpr q)))
end ZR
theorem zB_0 (b : Bool) : zB b = 0 ↔ b = false := by cases b <;> decide
theorem zB_inj (a b : Bool) : zB a = zB b ↔ a = b := by cases a <;> cases b <;> decide
/-- the six private methods of RaidVault that its nested ones call -/
def zNest : List Cond := [(Jvm.Cond.methodLinkNest "RaidVault$Disks" (46 : Nat) ({ cls := "RaidVault", name := "shiftOfNumber", desc := "(I)I" } : Jvm.MethodName) "RaidVault"), (Jvm.Cond.methodLinkNest "RaidVault$Space" (50 : Nat) ({ cls := "RaidVault", name := "piecesOf", desc := "(I)I" } : Jvm.MethodName) "RaidVault"), (Jvm.Cond.methodLinkNest "RaidVault$Memory" (41 : Nat) ({ cls := "RaidVault", name := "isFile", desc := "(I)Z" } : Jvm.MethodName) "RaidVault"), (Jvm.Cond.methodLinkNest "RaidVault$Block" (23 : Nat) ({ cls := "RaidVault", name := "shiftOfNumber", desc := "(I)I" } : Jvm.MethodName) "RaidVault"), (Jvm.Cond.methodLinkNest "RaidVault$Memory" (61 : Nat) ({ cls := "RaidVault", name := "piecesOf", desc := "(I)I" } : Jvm.MethodName) "RaidVault"), (Jvm.Cond.methodLinkNest "RaidVault$Memory" (49 : Nat) ({ cls := "RaidVault", name := "octetOf", desc := "(JI)I" } : Jvm.MethodName) "RaidVault")]
def zN (U : State) : Prop := ∀ w ∈ zNest, va_Nw w U
theorem zN.warm {s U : State} (hW : s.WarmedH U.vm) (h : zN s) : zN U := by
  unfold zN zNest at *
  intro w hw
  have hs := h w hw
  simp only [List.mem_cons, List.not_mem_nil, or_false] at hw
  rcases hw with rfl | rfl | rfl | rfl | rfl | rfl <;> exact va_Nw.warmM hW hs
theorem zN.same {s U : State} (hvm : s.vm = U.vm) (h : zN s) : zN U := by
  unfold zN zNest at *
  intro w hw
  have hs := h w hw
  simp only [List.mem_cons, List.not_mem_nil, or_false] at hw
  rcases hw with rfl | rfl | rfl | rfl | rfl | rfl <;> exact va_Nw.same rfl hvm hs
/-- what every method finds: the machine, its code, its class, the words, the classes of the cells -/
def zE (p : Program) (s : State) (m : MethodId) (args : Array Value) (c : Code) (cc : ByteArray) (nL : Nat) (own : String) (D : va_G) (tys : List (ClassId × FieldType)) : Prop :=
  p.tables.exec = Jvm.exec ∧ c.code = cc ∧ c.maxLocals = nL ∧ s.vm.findClass own = some m.cls ∧ (∀ w ∈ wG, w.before args s = true) ∧ va_K D vwCl tys s ∧ zN s
/-- the heap as it stands: the cells, apart, what was written since -/
def zS (D : va_G) (A : Nat → Prop) (H0 H : Heap) (locs : List Loc) (ws : va_W) : Prop := va_P D vwCl ws H ∧ va_D A ws ∧ va_S A H0 H locs ∧ ∀ q, H0.size ≤ q → A q
/-- the class-ids of arrays, always in this order -/
abbrev zT (cI cJ cZ cII cZZ : ClassId) : List (ClassId × FieldType) := [(cI, .int), (cJ, .long), (cZ, .boolean), (cII, .array .int), (cZZ, .array .boolean)]
/-- a field by its link -/
def zF (own : String) (idx ci : Nat) (C : String) (T : u_T) (N k : Nat) : Prop := vwCl[ci]? = some (C, T, N) ∧ (∀ w ∈ u_ws C T N, w ∈ wG) ∧ k < N ∧ Cond.fieldLink own idx (T k).1 (T k).2.1 (T k).2.2.1 ∈ wG
def zFp (C : String) (T : u_T) (N : Nat) (ty : Nat → FieldType) : Prop := (∀ k, k < N → parseFieldDescriptor (T k).2.2.1 = some (ty k)) ∧ (∀ a, a < N → ∀ b, b < N → a ≠ b → (T a).2.1 ≠ (T b).2.1)
section ZH
variable {p : Program} {l : Launch} {e : Env} {R : Room} {s : State} {m : MethodId} {args : Array Value} {below : List Frame} {meth : Method} {c : Code} {H : Heap} {locs : List Loc} {cells slots : Nat} {Q : State → Prop}
variable {cc : ByteArray} {pc nL : Nat} {ls : Array Slot} {rest : List Value} {D : va_G} {A : Nat → Prop} {a : Nat} {tys : List (ClassId × FieldType)} {ws : va_W} {H0 : Heap} {own C : String} {T : u_T} {idx ci N k : Nat}
theorem z_get (hE : zE p s m args c cc nL own D tys) (hF : zF own idx ci C T N k) (hZ : zS D A H0 H locs ws) (q0 : Nat) {fs : List Value} (he : ws[q0]? = some (a, .inr (ci, fs))) (v : Value) (hv : fs[k]? = some v) (hdg : decode cc pc = .ok (.getfield idx, 3))
    (kk : W p l e R s m args below meth c H locs cells slots Q (F0 m (pc + 3) ls (v :: rest))) : W p l e R s m args below meth c H locs cells slots Q (F0 m pc ls (.ref a :: rest)) :=
  va_get hE.1 hE.2.1 hE.2.2.2.2.1 hF.2.1 hE.2.2.2.1 hE.2.2.2.2.2.1 hZ.1 q0 he hF.1 k hF.2.2.1 (hE.2.2.2.2.1 _ hF.2.2.2) (fun _ h => h) hv hdg kk
theorem z_put {ty : Nat → FieldType} (hE : zE p s m args c cc nL own D tys) (hF : zF own idx ci C T N k) (hG : zFp C T N ty) (hfin : (T k).2.2.2 = false) (hZ : zS D A H0 H locs ws) (q0 : Nat) {fs : List Value} (he : ws[q0]? = some (a, .inr (ci, fs))) {v : Value} (hn : narrow (ty k) v = v) (hfit : fits (ty k) v = true) (hl : k < fs.length) (hdg : decode cc pc = .ok (.putfield idx, 3))
    (ws' : va_W) (hw : ws.set q0 (a, .inr (ci, fs.set k v)) = ws') (kk : ∀ (H1 : Heap) (locs1 : List Loc), zS D A H0 H1 locs1 ws' → W p l e R s m args below meth c H1 locs1 cells slots Q (F0 m (pc + 3) ls rest)) : W p l e R s m args below meth c H locs cells slots Q (F0 m pc ls (v :: .ref a :: rest)) := by
  subst hw
  exact va_put hE.1 hE.2.1 hE.2.2.2.2.1 hF.2.1 ty hG.1 hG.2 hE.2.2.2.1 hE.2.2.2.2.2.1 hZ.1 hZ.2.1 hZ.2.2.1 q0 he hF.1 k hF.2.2.1 (hE.2.2.2.2.1 _ hF.2.2.2) (fun _ h => h) hfin (hG.1 k hF.2.2.1) hn hfit hl hdg (fun H1 locs1 h1 h2 h3 => kk H1 locs1 ⟨h1, h2, h3, hZ.2.2.2⟩)
theorem z_putF {ty : Nat → FieldType} (hE : zE p s m args c cc nL own D tys) (hF : zF own idx ci C T N k) (hG : zFp C T N ty) (hfin : (T k).2.2.2 = true) (hin2 : meth.name = "<init>") (hdecl : (T k).1 = own) (hZ : zS D A H0 H locs ws) (q0 : Nat) {fs : List Value} (he : ws[q0]? = some (a, .inr (ci, fs))) {v : Value} (hn : narrow (ty k) v = v) (hfit : fits (ty k) v = true) (hl : k < fs.length) (hdg : decode cc pc = .ok (.putfield idx, 3))
    (ws' : va_W) (hw : ws.set q0 (a, .inr (ci, fs.set k v)) = ws') (kk : ∀ (H1 : Heap) (locs1 : List Loc), zS D A H0 H1 locs1 ws' → W p l e R s m args below meth c H1 locs1 cells slots Q (F0 m (pc + 3) ls rest)) : W p l e R s m args below meth c H locs cells slots Q (F0 m pc ls (v :: .ref a :: rest)) := by
  subst hw
  exact va_putF hE.1 hE.2.1 hE.2.2.2.2.1 hF.2.1 ty hG.1 hG.2 hE.2.2.2.1 hE.2.2.2.2.2.1 hZ.1 hZ.2.1 hZ.2.2.1 q0 he hF.1 k hF.2.2.1 (hE.2.2.2.2.1 _ hF.2.2.2) (fun _ h => h) hfin hin2 hdecl (hG.1 k hF.2.2.1) hn hfit hl hdg (fun H1 locs1 h1 h2 h3 => kk H1 locs1 ⟨h1, h2, h3, hZ.2.2.2⟩)
theorem z_inN {i n : Nat} (h : i < n) (hn : n < 2 ^ 31) : vp_in (nI i) n := vp_in_nI h hn
/-- loads: the index a number below the length -/
theorem z_iald (hE : zE p s m args c cc nL own D tys) (hZ : zS D A H0 H locs ws) (q0 t0 : Nat) {cA : ClassId} {n : Nat} {f : Nat → Int32} (ha : ws[q0]? = some (a, .inl (cA, n, .inl f))) (ht : tys[t0]? = some (cA, .int)) {i : Nat} (hn : n < 2 ^ 31) (hin : i < n) (hdg : decode cc pc = .ok (.iaload, 1))
    (kk : W p l e R s m args below meth c H locs cells slots Q (F0 m (pc + 1) ls (.int (f i) :: rest))) : W p l e R s m args below meth c H locs cells slots Q (F0 m pc ls (.int (nI i) :: .ref a :: rest)) :=
  va_iald hE.1 hE.2.1 hE.2.2.2.2.2.1 hZ.1 q0 t0 ha ht (z_inN hin hn) hdg (by rw [nI_clamp (Nat.lt_trans hin hn)]; exact kk)
theorem z_zald (hE : zE p s m args c cc nL own D tys) (hZ : zS D A H0 H locs ws) (q0 t0 : Nat) {cA : ClassId} {n : Nat} {f : Nat → Int32} (ha : ws[q0]? = some (a, .inl (cA, n, .inl f))) (ht : tys[t0]? = some (cA, .boolean)) {i : Nat} (hn : n < 2 ^ 31) (hin : i < n) (hdg : decode cc pc = .ok (.baload, 1))
    (kk : W p l e R s m args below meth c H locs cells slots Q (F0 m (pc + 1) ls (.int (f i) :: rest))) : W p l e R s m args below meth c H locs cells slots Q (F0 m pc ls (.int (nI i) :: .ref a :: rest)) :=
  va_zald hE.1 hE.2.1 hE.2.2.2.2.2.1 hZ.1 q0 t0 ha ht (z_inN hin hn) hdg (by rw [nI_clamp (Nat.lt_trans hin hn)]; exact kk)
theorem z_lald (hE : zE p s m args c cc nL own D tys) (hZ : zS D A H0 H locs ws) (q0 t0 : Nat) {cA : ClassId} {n : Nat} {f : Nat → Int64} (ha : ws[q0]? = some (a, .inl (cA, n, .inr (.inl f)))) (ht : tys[t0]? = some (cA, .long)) {i : Nat} (hn : n < 2 ^ 31) (hin : i < n) (hdg : decode cc pc = .ok (.laload, 1))
    (kk : W p l e R s m args below meth c H locs cells slots Q (F0 m (pc + 1) ls (.long (f i) :: rest))) : W p l e R s m args below meth c H locs cells slots Q (F0 m pc ls (.int (nI i) :: .ref a :: rest)) :=
  va_lald hE.1 hE.2.1 hE.2.2.2.2.2.1 hZ.1 q0 t0 ha ht (z_inN hin hn) hdg (by rw [nI_clamp (Nat.lt_trans hin hn)]; exact kk)
/-- stores: what the array holds is seen through φ -/
theorem z_iast {α : Type} (φ : α → Int32) (g : Nat → α) (v : α) (hE : zE p s m args c cc nL own D tys) (hZ : zS D A H0 H locs ws) (q0 t0 : Nat) {cA : ClassId} {n : Nat} (ha : ws[q0]? = some (a, .inl (cA, n, .inl (fun k => φ (g k))))) (ht : tys[t0]? = some (cA, .int)) {i : Nat} (hn : n < 2 ^ 31) (hin : i < n) (hdg : decode cc pc = .ok (.iastore, 1))
    (ws' : va_W) (hw : ws.set q0 (a, .inl (cA, n, .inl (fun k => φ (va_up g i v k)))) = ws') (kk : ∀ (H1 : Heap) (locs1 : List Loc), zS D A H0 H1 locs1 ws' → W p l e R s m args below meth c H1 locs1 cells slots Q (F0 m (pc + 1) ls rest)) : W p l e R s m args below meth c H locs cells slots Q (F0 m pc ls (.int (φ v) :: .int (nI i) :: .ref a :: rest)) := by
  subst hw
  refine va_iast hE.1 hE.2.1 hE.2.2.2.2.2.1 hZ.1 hZ.2.1 hZ.2.2.1 q0 t0 ha ht (z_inN hin hn) hdg (fun H1 locs1 h1 h2 h3 => kk H1 locs1 ?_)
  rw [nI_clamp (Nat.lt_trans hin hn)] at h1 h2
  have e1 : upd (fun k => φ (g k)) i (φ v) = fun k => φ (va_up g i v k) := by
    funext k
    unfold upd va_up
    by_cases h : k = i <;> simp [h]
  rw [e1] at h1 h2
  exact ⟨h1, h2, h3, hZ.2.2.2⟩
theorem z_last (g : Nat → Int64) (v : Int64) (hE : zE p s m args c cc nL own D tys) (hZ : zS D A H0 H locs ws) (q0 t0 : Nat) {cA : ClassId} {n : Nat} (ha : ws[q0]? = some (a, .inl (cA, n, .inr (.inl g)))) (ht : tys[t0]? = some (cA, .long)) {i : Nat} (hn : n < 2 ^ 31) (hin : i < n) (hdg : decode cc pc = .ok (.lastore, 1))
    (ws' : va_W) (hw : ws.set q0 (a, .inl (cA, n, .inr (.inl (va_up g i v)))) = ws') (kk : ∀ (H1 : Heap) (locs1 : List Loc), zS D A H0 H1 locs1 ws' → W p l e R s m args below meth c H1 locs1 cells slots Q (F0 m (pc + 1) ls rest)) : W p l e R s m args below meth c H locs cells slots Q (F0 m pc ls (.long v :: .int (nI i) :: .ref a :: rest)) := by
  subst hw
  refine va_last hE.1 hE.2.1 hE.2.2.2.2.2.1 hZ.1 hZ.2.1 hZ.2.2.1 q0 t0 ha ht (z_inN hin hn) hdg (fun H1 locs1 h1 h2 h3 => kk H1 locs1 ?_)
  rw [nI_clamp (Nat.lt_trans hin hn)] at h1 h2
  have e1 : vp_updL g i v = va_up g i v := by
    funext k
    unfold vp_updL va_up
    rfl
  rw [e1] at h1 h2
  exact ⟨h1, h2, h3, hZ.2.2.2⟩
theorem z_zast (g : Nat → Bool) (v : Bool) (hE : zE p s m args c cc nL own D tys) (hZ : zS D A H0 H locs ws) (q0 t0 : Nat) {cA : ClassId} {n : Nat} (ha : ws[q0]? = some (a, .inl (cA, n, .inl (fun k => zB (g k))))) (ht : tys[t0]? = some (cA, .boolean)) {i : Nat} (hn : n < 2 ^ 31) (hin : i < n) (hdg : decode cc pc = .ok (.bastore, 1))
    (ws' : va_W) (hw : ws.set q0 (a, .inl (cA, n, .inl (fun k => zB (va_up g i v k)))) = ws') (kk : ∀ (H1 : Heap) (locs1 : List Loc), zS D A H0 H1 locs1 ws' → W p l e R s m args below meth c H1 locs1 cells slots Q (F0 m (pc + 1) ls rest)) : W p l e R s m args below meth c H locs cells slots Q (F0 m pc ls (.int (zB v) :: .int (nI i) :: .ref a :: rest)) := by
  subst hw
  refine va_zast hE.1 hE.2.1 hE.2.2.2.2.2.1 hZ.1 hZ.2.1 hZ.2.2.1 q0 t0 ha ht (z_inN hin hn) hdg (fun H1 locs1 h1 h2 h3 => kk H1 locs1 ?_)
  rw [nI_clamp (Nat.lt_trans hin hn)] at h1 h2
  have e0 : vp_nar .boolean (zB v) = zB v := by cases v <;> rfl
  rw [e0] at h1 h2
  have e1 : upd (fun k => zB (g k)) i (zB v) = fun k => zB (va_up g i v k) := by
    funext k
    unfold upd va_up
    by_cases h : k = i <;> simp [h]
  rw [e1] at h1 h2
  exact ⟨h1, h2, h3, hZ.2.2.2⟩
theorem z_alen (hE : zE p s m args c cc nL own D tys) (hZ : zS D A H0 H locs ws) (q0 t0 : Nat) {cA : ClassId} {x : vp_A} (ha : ws[q0]? = some (a, .inl (cA, x))) {ty : FieldType} (ht : tys[t0]? = some (cA, ty)) (n : Nat) (hv : x.1 = n) (hdg : decode cc pc = .ok (.arraylength, 1))
    (kk : W p l e R s m args below meth c H locs cells slots Q (F0 m (pc + 1) ls (.int (nI n) :: rest))) : W p l e R s m args below meth c H locs cells slots Q (F0 m pc ls (.ref a :: rest)) :=
  va_alen hE.1 hE.2.1 hE.2.2.2.2.2.1 hZ.1 q0 t0 ha ht (v := nI n) (by rw [hv]; rfl) hdg kk
/-- what an array holds matters below its length alone -/
theorem z_ext (q0 : Nat) {cA : ClassId} {n : Nat} {f g : Nat → Int32} (hZ : zS D A H0 H locs ws) (ha : ws[q0]? = some (a, .inl (cA, n, .inl f))) (hfg : ∀ k, k < n → f k = g k) (ws' : va_W) (hw : ws.set q0 (a, .inl (cA, n, .inl g)) = ws') : zS D A H0 H locs ws' := by
  subst hw
  refine ⟨hZ.1.set hZ.2.1 ha ?_ (fun _ _ => rfl), hZ.2.1.set ha, hZ.2.2.1, hZ.2.2.2⟩
  have h := hZ.1 q0 _ ha
  show H[a]? = some (vp_cell cA (n, .inl g))
  have h2 : H[a]? = some (vp_cell cA (n, .inl f)) := h
  rw [h2, vp_cell_i, vp_cell_i]
  refine congrArg some ?_
  unfold arrV
  congr 1
  apply Array.ext
  · simp
  · intro i h1 h2
    simp at h1
    simp [hfg i h1]
theorem z_extl (q0 : Nat) {cA : ClassId} {n : Nat} {f g : Nat → Int64} (hZ : zS D A H0 H locs ws) (ha : ws[q0]? = some (a, .inl (cA, n, .inr (.inl f)))) (hfg : ∀ k, k < n → f k = g k) (ws' : va_W) (hw : ws.set q0 (a, .inl (cA, n, .inr (.inl g))) = ws') : zS D A H0 H locs ws' := by
  subst hw
  refine ⟨hZ.1.set hZ.2.1 ha ?_ (fun _ _ => rfl), hZ.2.1.set ha, hZ.2.2.1, hZ.2.2.2⟩
  have h := hZ.1 q0 _ ha
  show H[a]? = some (vp_cell cA (n, .inr (.inl g)))
  have h2 : H[a]? = some (vp_cell cA (n, .inr (.inl f))) := h
  rw [h2, vp_cell_l, vp_cell_l]
  refine congrArg some ?_
  unfold arrV
  congr 1
  apply Array.ext
  · simp
  · intro i h1 h2
    simp at h1
    simp [hfg i h1]
end ZH
