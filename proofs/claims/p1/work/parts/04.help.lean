/-! helpers of this proof -/
theorem zt_one : (1 : Nat) = 1 := rfl
