theorem cat_rf (x : Option Nat) : (va_rf x).category = 1 := by cases x <;> rfl
theorem cat_i (x : Int32) : (Value.int x).category = 1 := rfl
theorem cat_r (x : Nat) : (Value.ref x).category = 1 := rfl
