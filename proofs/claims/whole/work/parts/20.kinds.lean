def bX3 (y : Nat → ClassId) (a : Nat → Nat) (v : St) : va_W := [(a 0, .inr (2, [.int (v 0 0), .int (v 1 0), .int (v 2 0), .int (v 3 0), .int (v 4 0), .int (v 5 0), .int (v 6 0), .int (v 7 0), .int (v 8 0), .ref (a 10), .ref (a 11), .ref (a 12), .ref (a 13), .ref (a 14), .ref (a 15), .ref (a 16), .ref (a 17), .ref (a 18), .ref (a 19), .ref (a 20)])), (a 10, .inl (y 0, 5, .inl (v 9))), (a 11, .inl (y 0, 5, .inl (v 10))), (a 12, .inl (y 1, 5, .inl (v 11))), (a 13, .inl (y 1, 5, .inl (v 12))), (a 14, .inl (y 0, 10, .inl (v 13))), (a 15, .inl (y 0, 10, .inl (v 14))), (a 16, .inl (y 0, 10, .inl (v 15))), (a 17, .inl (y 0, 10, .inl (v 16))), (a 18, .inl (y 0, 10, .inl (v 17))), (a 19, .inl (y 0, 10, .inl (v 18))), (a 20, .inl (y 0, 10, .inl (v 19)))]
theorem kb_m5 : (Int8.ofInt (-5)).toInt32 = (-5) := by decide
theorem kc_0 : Int32.ofInt 0 = 0 := by decide
theorem kc_1 : Int32.ofInt 1 = 1 := by decide
theorem kc_2 : Int32.ofInt 2 = 2 := by decide
theorem kc_5 : Int32.ofInt 5 = 5 := by decide
theorem ki_1 {x : Int32} : x + Int32.ofInt 1 = x + 1 := rfl
