/-! each change, on both sides -/
section AC
variable {σ : Sh} {a : Ab}
theorem Z1 : iI ((1 : Nat) : Int) = (1 : Int32) := rfl
theorem Z2 : iI ((2 : Nat) : Int) = (2 : Int32) := rfl
theorem Z3 : iI ((3 : Nat) : Int) = (3 : Int32) := rfl
theorem upd_eq {f : Nat → Int32} {k : Nat} {v : Int32} : upd f k v k = v := by unfold upd; rw [if_pos rfl]
end AC
