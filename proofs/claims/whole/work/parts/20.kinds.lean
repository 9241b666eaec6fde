abbrev bAB400 (y : Nat → ClassId) (a : Nat → Nat) (v : St) : va_W := [(a 0, .inl (y 2, 400, .inl (v 0)))]
def bX1 (y : Nat → ClassId) (a : Nat → Nat) (v : St) : va_W := [(a 0, .inr (0, [.int (v 0 0), .ref (a 2)])), (a 2, .inl (y 0, 300, .inl (v 1)))]
def bX2 (y : Nat → ClassId) (a : Nat → Nat) (v : St) : va_W := [(a 0, .inr (1, [.int (v 0 0), .int (v 1 0), .ref (a 3), .ref (a 4)])), (a 3, .inl (y 0, 1024, .inl (v 2))), (a 4, .inl (y 0, 11, .inl (v 3)))]
def bX3 (y : Nat → ClassId) (a : Nat → Nat) (v : St) : va_W := [(a 0, .inr (2, [.int (v 0 0), .int (v 1 0), .int (v 2 0), .int (v 3 0), .int (v 4 0), .int (v 5 0), .int (v 6 0), .int (v 7 0), .int (v 8 0), .ref (a 10), .ref (a 11), .ref (a 12), .ref (a 13), .ref (a 14), .ref (a 15), .ref (a 16), .ref (a 17), .ref (a 18), .ref (a 19), .ref (a 20)])), (a 10, .inl (y 0, 5, .inl (v 9))), (a 11, .inl (y 0, 5, .inl (v 10))), (a 12, .inl (y 1, 5, .inl (v 11))), (a 13, .inl (y 1, 5, .inl (v 12))), (a 14, .inl (y 0, 10, .inl (v 13))), (a 15, .inl (y 0, 10, .inl (v 14))), (a 16, .inl (y 0, 10, .inl (v 15))), (a 17, .inl (y 0, 10, .inl (v 16))), (a 18, .inl (y 0, 10, .inl (v 17))), (a 19, .inl (y 0, 10, .inl (v 18))), (a 20, .inl (y 0, 10, .inl (v 19)))]
theorem kb_m5 : (Int8.ofInt (-5)).toInt32 = (-5) := by decide
theorem kb_m2 : (Int8.ofInt (-2)).toInt32 = (-2) := by decide
theorem kb_10 : (Int8.ofInt 10).toInt32 = 10 := by decide
theorem kb_16 : (Int8.ofInt 16).toInt32 = 16 := by decide
theorem kb_20 : (Int8.ofInt 20).toInt32 = 20 := by decide
theorem kb_40 : (Int8.ofInt 40).toInt32 = 40 := by decide
theorem kb_59 : (Int8.ofInt 59).toInt32 = 59 := by decide
theorem kb_60 : (Int8.ofInt 60).toInt32 = 60 := by decide
theorem kb_100 : (Int8.ofInt 100).toInt32 = 100 := by decide
theorem kc_m1 : Int32.ofInt (-1) = (-1) := by decide
theorem kc_0 : Int32.ofInt 0 = 0 := by decide
theorem kc_1 : Int32.ofInt 1 = 1 := by decide
theorem kc_2 : Int32.ofInt 2 = 2 := by decide
theorem kc_3 : Int32.ofInt 3 = 3 := by decide
theorem kc_4 : Int32.ofInt 4 = 4 := by decide
theorem kc_5 : Int32.ofInt 5 = 5 := by decide
theorem ki_1 {x : Int32} : x + Int32.ofInt 1 = x + 1 := rfl
theorem ki_2 {x : Int32} : x + Int32.ofInt 2 = x + 2 := rfl
theorem ks_295 : (Int16.ofInt 295).toInt32 = 295 := by decide
theorem ks_300 : (Int16.ofInt 300).toInt32 = 300 := by decide
theorem ks_1024 : (Int16.ofInt 1024).toInt32 = 1024 := by decide
theorem ks_1025 : (Int16.ofInt 1025).toInt32 = 1025 := by decide
theorem ks_9999 : (Int16.ofInt 9999).toInt32 = 9999 := by decide
theorem ks_12345 : (Int16.ofInt 12345).toInt32 = 12345 := by decide
theorem ks_32767 : (Int16.ofInt 32767).toInt32 = 32767 := by decide
