theorem sn_ok {B : Nat → Int64} {ro ih : Nat → Nat} {iN : Nat} {gk gf go : Nat → Nat} {gv : Nat → Int64} {gl : Nat} {pu : Nat → Bool} {pf : Int} {ms : Nat → Int} {mw : Nat → Int64} {mi mp : Nat → Nat} {mb : Nat → BitVec 32} {mc : BitVec 32} {dw : Nat → Int64} {du : Nat → Int} {dn : Int} {df : Bool} (hC : CI B ro ih iN gk gf go gv gl pu pf ms mw mi mp mb mc dw du dn df) {k : Nat} (hk : k < 5) :
    (∀ j, j < 12 → va_up (va_up ih ((k + 1) * 2) (ih 0)) ((k + 1) * 2 + 1) (ih 1) j = 0 ∨ (va_up (va_up ih ((k + 1) * 2) (ih 0)) ((k + 1) * 2 + 1) (ih 1) j < 600 ∧ ro (va_up (va_up ih ((k + 1) * 2) (ih 0)) ((k + 1) * 2 + 1) (ih 1) j) = 1)) ∧ (∀ j, va_up (va_up ih ((k + 1) * 2) (ih 0)) ((k + 1) * 2 + 1) (ih 1) j < 65536) ∧ va_up (va_up ih ((k + 1) * 2) (ih 0)) ((k + 1) * 2 + 1) (ih 1) 0 = ih 0 ∧ va_up (va_up ih ((k + 1) * 2) (ih 0)) ((k + 1) * 2 + 1) (ih 1) 1 = ih 1 := by
  obtain ⟨c1, c2, c3, c4, c5, c6, c7, c8, c9, c10, c11⟩ := hC
  refine ⟨fun j hj => ?_, fun j => ?_, ?_, ?_⟩
  · unfold va_up
    split
    · exact c1.2.1 1 (by omega)
    · split
      · exact c1.2.1 0 (by omega)
      · exact c1.2.1 j hj
  · unfold va_up
    split
    · exact c11 1
    · split
      · exact c11 0
      · exact c11 j
  · rw [vn (by omega), vn (by omega)]
  · rw [vn (by omega), vn (by omega)]
theorem dr_ok {B : Nat → Int64} {ro ih : Nat → Nat} {iN : Nat} {gk gf go : Nat → Nat} {gv : Nat → Int64} {gl : Nat} {pu : Nat → Bool} {pf : Int} {ms : Nat → Int} {mw : Nat → Int64} {mi mp : Nat → Nat} {mb : Nat → BitVec 32} {mc : BitVec 32} {dw : Nat → Int64} {du : Nat → Int} {dn : Int} {df : Bool} (hC : CI B ro ih iN gk gf go gv gl pu pf ms mw mi mp mb mc dw du dn df) {k : Nat} (hk : k < 5) :
    (∀ j, j < 12 → va_up (va_up ih ((k + 1) * 2) 0) ((k + 1) * 2 + 1) 0 j = 0 ∨ (va_up (va_up ih ((k + 1) * 2) 0) ((k + 1) * 2 + 1) 0 j < 600 ∧ ro (va_up (va_up ih ((k + 1) * 2) 0) ((k + 1) * 2 + 1) 0 j) = 1)) ∧ (∀ j, va_up (va_up ih ((k + 1) * 2) 0) ((k + 1) * 2 + 1) 0 j < 65536) ∧ va_up (va_up ih ((k + 1) * 2) 0) ((k + 1) * 2 + 1) 0 0 = ih 0 ∧ va_up (va_up ih ((k + 1) * 2) 0) ((k + 1) * 2 + 1) 0 1 = ih 1 := by
  obtain ⟨c1, c2, c3, c4, c5, c6, c7, c8, c9, c10, c11⟩ := hC
  refine ⟨fun j hj => ?_, fun j => ?_, ?_, ?_⟩
  · unfold va_up
    split
    · exact Or.inl rfl
    · split
      · exact Or.inl rfl
      · exact c1.2.1 j hj
  · unfold va_up
    split
    · omega
    · split
      · omega
      · exact c11 j
  · rw [vn (by omega), vn (by omega)]
  · rw [vn (by omega), vn (by omega)]
section ZJ2
variable {p : Program} {l : Launch} {e : Env} {R : Room} {s : State} {m : MethodId} {args : Array Value} {below : List Frame} {meth : Method} {c : Code} {H : Heap} {locs : List Loc} {cells slots : Nat} {Q : State → Prop}
theorem z_join2 (k n : Nat) {σ : Type} (I : σ → Heap → List Loc → Array Slot → Prop) (pcj : Nat) (stk : List Value) (g : JFrame)
    (step : ∀ (x : σ) (H : Heap) (locs : List Loc) (ls : Array Slot), I x H locs ls → W p l e R s m args below meth c H locs k n Q (F0 m pcj ls stk))
    (main : (∀ (x : σ) (H : Heap) (locs : List Loc) (ls : Array Slot), I x H locs ls → W p l e R s m args below meth c H locs k n Q (F0 m pcj ls stk)) → W p l e R s m args below meth c H locs cells slots Q g) :
    W p l e R s m args below meth c H locs cells slots Q g := main step
end ZJ2
