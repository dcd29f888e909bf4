theorem DR_lose {B dw : Nat → Int64} {du du1 : Nat → Int} {dn dn1 : Int} {df df1 db db1 : Bool} {q : Nat} (hq : q < 5) (h : DR B dw du dn df)
    (hl : ((dn ≠ -1 ∧ dn ≠ (q : Int)) ∧ db1 = true ∧ dn1 = dn ∧ df1 = df ∧ du1 = du) ∨ ((dn = -1 ∨ dn = (q : Int)) ∧ db1 = db ∧ dn1 = (q : Int) ∧ df1 = true ∧ du1 = va_up du q 0)) : DR B dw du1 dn1 df1 := by
  rcases hl with ⟨-, -, rfl, rfl, rfl⟩ | ⟨hc, -, rfl, rfl, rfl⟩
  · exact h
  · obtain ⟨h1, h2, h3, h4, h5, h6, h7, h8⟩ := h
    have u0 : va_up du q 0 q = 0 := by unfold va_up; rw [if_pos rfl]
    have un : ∀ d, d ≠ q → va_up du q 0 d = du d := fun d hd => by unfold va_up; rw [if_neg hd]
    refine ⟨by omega, fun d hd => ?_, fun d hd hne => ?_, (fun z => by omega), fun _ => ?_, (fun _ z => by cases z), fun d o hd ho hu => ?_, (fun _ z => by cases z)⟩
    · by_cases e : d = q
      · rw [e, u0]; omega
      · rw [un d e]; exact h2 d hd
    · rw [un d (by omega)]; exact h3 d hd (by omega)
    · rw [show ((q : Int)).toNat = q by omega]; exact u0
    · by_cases e : d = q
      · rw [e, u0] at hu; omega
      · rw [un d e] at hu; exact h7 d o hd ho hu
def cnt8 (w a0 a1 a2 a3 a4 a5 a6 a7 : Int) : Int := if w = 0 then a0 else if w = 1 then a1 else if w = 2 then a2 else if w = 3 then a3 else if w = 4 then a4 else if w = 5 then a5 else if w = 6 then a6 else a7
theorem DR_0 : DR (fun _ => 0) (fun _ => 0) (fun _ => 150) (-1) false := by
  refine ⟨by omega, (fun d hd => by dsimp only; omega), fun d hd _ => rfl, fun _ => rfl, (fun z => by cases z), fun z => by omega, fun d o hd ho hu => ?_, fun z => by omega⟩
  unfold Bd
  split <;> simp
theorem TY_0 : TY (fun _ => 0) (fun _ => 0) := ⟨rfl, (fun p _ h => by cases h), (fun p _ h => by cases h)⟩
/-- how many fresh PLACES a POINT takes -/
def needA (ms : Nat → Int) (mb : Nat → BitVec 32) (mc : BitVec 32) : Nat := needF ms mb mc 32 + (if halfC mc 0 then 1 else 0) + (if halfC mc 1 then 1 else 0)
theorem needF_le (ms : Nat → Int) (mb : Nat → BitVec 32) (mc : BitVec 32) : ∀ n, needF ms mb mc n ≤ 15 * n
  | 0 => Nat.le_refl 0
  | n + 1 => by
    have := needF_le ms mb mc n
    have := popc_le (mb n) 14
    unfold needF
    split <;> omega
theorem needA_le (ms : Nat → Int) (mb : Nat → BitVec 32) (mc : BitVec 32) : needA ms mb mc ≤ 482 := by
  have := needF_le ms mb mc 32
  unfold needA
  split <;> split <;> omega
