abbrev bAB400 (y : Nat → ClassId) (a : Nat → Nat) (v : St) : va_W := [(a 0, .inl (y 2, 400, .inl (v 0)))]
abbrev bAI10 (y : Nat → ClassId) (a : Nat → Nat) (v : St) : va_W := [(a 0, .inl (y 0, 10, .inl (v 0)))]
def bX1 (y : Nat → ClassId) (a : Nat → Nat) (v : St) : va_W := [(a 0, .inr (0, [.int (v 0 0), .ref (a 2)])), (a 2, .inl (y 0, 300, .inl (v 1)))]
def bX10 (y : Nat → ClassId) (a : Nat → Nat) (v : St) : va_W := [(a 0, .inr (7, [.ref (a 1), .ref (a 2), .ref (a 3), .int (v 3 0)])), (a 1, .inl (y 0, 401, .inl (v 0))), (a 2, .inl (y 0, 401, .inl (v 1))), (a 3, .inl (y 0, 401, .inl (v 2)))]
def bX11 (y : Nat → ClassId) (a : Nat → Nat) (l_tape : Nat) (l_tokens : Nat) (l_hillReader : Nat) (l_lawReader : Nat) (l_now : Nat) (l_rules : Nat) (l_diary : Nat) (l_spare : Nat) (l_draft : Nat) (l_spareDiary : Nat) (l_guess : Nat) (l_past : Nat) (l_imageHill : Nat) (l_imageRules : Nat) (l_imageDiary : Nat) (v : St) : va_W := [(a 0, .inr (8, [.ref l_tape, .int (v 1 0), .int (v 2 0), .ref l_tokens, .ref l_hillReader, .ref l_lawReader, .int (v 6 0), .ref l_now, .ref l_rules, .ref l_diary, .ref l_spare, .ref l_draft, .ref l_spareDiary, .ref l_guess, .ref l_past, .int (v 15 0), .int (v 16 0), .ref l_imageHill, .ref l_imageRules, .ref l_imageDiary]))]
def bX12 (y : Nat → ClassId) (a : Nat → Nat) (v : St) : va_W := [(a 0, .inr (9, [.int (v 0 0), .ref (a 2), .ref (a 3), .ref (a 4), .ref (a 5), .ref (a 6), .int (v 6 0), .int (v 7 0), .ref (a 9), .int (v 9 0), .int (v 10 0), .int (v 11 0), .int (v 12 0), .int (v 13 0), .int (v 14 0), .ref (a 16), .int (v 16 0), .ref (a 18), .ref (a 19), .ref (a 20)])), (a 2, .inl (y 0, 2080, .inl (v 1))), (a 3, .inl (y 0, 1231, .inl (v 2))), (a 4, .inl (y 0, 1231, .inl (v 3))), (a 5, .inl (y 0, 382, .inl (v 4))), (a 6, .inl (y 0, 4584, .inl (v 5))), (a 9, .inl (y 2, 400, .inl (v 8))), (a 16, .inl (y 0, 5, .inl (v 15))), (a 18, .inl (y 0, 400, .inl (v 17))), (a 19, .inl (y 0, 1024, .inl (v 18))), (a 20, .inl (y 0, 11, .inl (v 19)))]
def bX2 (y : Nat → ClassId) (a : Nat → Nat) (v : St) : va_W := [(a 0, .inr (1, [.int (v 0 0), .int (v 1 0), .ref (a 3), .ref (a 4)])), (a 3, .inl (y 0, 1024, .inl (v 2))), (a 4, .inl (y 0, 11, .inl (v 3)))]
def bX3 (y : Nat → ClassId) (a : Nat → Nat) (v : St) : va_W := [(a 0, .inr (2, [.int (v 0 0), .int (v 1 0), .int (v 2 0), .int (v 3 0), .int (v 4 0), .int (v 5 0), .int (v 6 0), .int (v 7 0), .int (v 8 0), .ref (a 10), .ref (a 11), .ref (a 12), .ref (a 13), .ref (a 14), .ref (a 15), .ref (a 16), .ref (a 17), .ref (a 18), .ref (a 19), .ref (a 20)])), (a 10, .inl (y 0, 5, .inl (v 9))), (a 11, .inl (y 0, 5, .inl (v 10))), (a 12, .inl (y 1, 5, .inl (v 11))), (a 13, .inl (y 1, 5, .inl (v 12))), (a 14, .inl (y 0, 10, .inl (v 13))), (a 15, .inl (y 0, 10, .inl (v 14))), (a 16, .inl (y 0, 10, .inl (v 15))), (a 17, .inl (y 0, 10, .inl (v 16))), (a 18, .inl (y 0, 10, .inl (v 17))), (a 19, .inl (y 0, 10, .inl (v 18))), (a 20, .inl (y 0, 10, .inl (v 19)))]
def bX4 (y : Nat → ClassId) (a : Nat → Nat) (l_tokens : Nat) (l_hill : Nat) (v : St) : va_W := [(a 0, .inr (3, [.ref l_tokens, .int (v 1 0), .int (v 2 0), .ref l_hill]))]
def bX5 (y : Nat → ClassId) (a : Nat → Nat) (v : St) : va_W := [(a 0, .inr (4, [.int (v 0 0), .ref (a 2), .ref (a 3), .ref (a 4), .ref (a 5), .int (v 5 0), .ref (a 7)])), (a 2, .inl (y 0, 12, .inl (v 1))), (a 3, .inl (y 0, 12, .inl (v 2))), (a 4, .inl (y 0, 12, .inl (v 3))), (a 5, .inl (y 0, 400, .inl (v 4))), (a 7, .inl (y 0, 64, .inl (v 6)))]
def bX6 (y : Nat → ClassId) (a : Nat → Nat) (l_tokens : Nat) (l_law : Nat) (v : St) : va_W := [(a 0, .inr (5, [.ref l_tokens, .int (v 1 0), .int (v 2 0), .ref l_law]))]
def bX8 (y : Nat → ClassId) (a : Nat → Nat) (l_hills : Nat → Nat → Nat) (l_diaries : Nat → Nat → Nat) (v : St) : va_W := [(a 0, .inr (6, [.int (v 0 0), .int (v 1 0), .ref (a 3), .ref (a 4)])), (a 3, .inl (y 4, 12, .inr (.inr (.inr (.inr (fun k => some (l_hills k 0))))))), (a 4, .inl (y 5, 12, .inr (.inr (.inr (.inr (fun k => some (l_diaries k 0)))))))]
def bPDL (y : Nat → ClassId) (a : Nat → Nat → Nat) (v : Nat → St) : List va_W := (List.range 12).map (fun i => bX1 y (a i) (v i))
def bPD (y : Nat → ClassId) (a : Nat → Nat → Nat) (v : Nat → St) : va_W := (bPDL y a v).flatten
def bPHL (y : Nat → ClassId) (a : Nat → Nat → Nat) (v : Nat → St) : List va_W := (List.range 12).map (fun i => bX3 y (a i) (v i))
def bPH (y : Nat → ClassId) (a : Nat → Nat → Nat) (v : Nat → St) : va_W := (bPHL y a v).flatten
theorem kb_m62 : (Int8.ofInt (-62)).toInt32 = (-62) := by decide
theorem kb_m60 : (Int8.ofInt (-60)).toInt32 = (-60) := by decide
theorem kb_m43 : (Int8.ofInt (-43)).toInt32 = (-43) := by decide
theorem kb_m5 : (Int8.ofInt (-5)).toInt32 = (-5) := by decide
theorem kb_m2 : (Int8.ofInt (-2)).toInt32 = (-2) := by decide
theorem kb_6 : (Int8.ofInt 6).toInt32 = 6 := by decide
theorem kb_7 : (Int8.ofInt 7).toInt32 = 7 := by decide
theorem kb_8 : (Int8.ofInt 8).toInt32 = 8 := by decide
theorem kb_9 : (Int8.ofInt 9).toInt32 = 9 := by decide
theorem kb_10 : (Int8.ofInt 10).toInt32 = 10 := by decide
theorem kb_11 : (Int8.ofInt 11).toInt32 = 11 := by decide
theorem kb_12 : (Int8.ofInt 12).toInt32 = 12 := by decide
theorem kb_13 : (Int8.ofInt 13).toInt32 = 13 := by decide
theorem kb_14 : (Int8.ofInt 14).toInt32 = 14 := by decide
theorem kb_16 : (Int8.ofInt 16).toInt32 = 16 := by decide
theorem kb_20 : (Int8.ofInt 20).toInt32 = 20 := by decide
theorem kb_24 : (Int8.ofInt 24).toInt32 = 24 := by decide
theorem kb_32 : (Int8.ofInt 32).toInt32 = 32 := by decide
theorem kb_40 : (Int8.ofInt 40).toInt32 = 40 := by decide
theorem kb_41 : (Int8.ofInt 41).toInt32 = 41 := by decide
theorem kb_43 : (Int8.ofInt 43).toInt32 = 43 := by decide
theorem kb_48 : (Int8.ofInt 48).toInt32 = 48 := by decide
theorem kb_52 : (Int8.ofInt 52).toInt32 = 52 := by decide
theorem kb_57 : (Int8.ofInt 57).toInt32 = 57 := by decide
theorem kb_59 : (Int8.ofInt 59).toInt32 = 59 := by decide
theorem kb_60 : (Int8.ofInt 60).toInt32 = 60 := by decide
theorem kb_62 : (Int8.ofInt 62).toInt32 = 62 := by decide
theorem kb_63 : (Int8.ofInt 63).toInt32 = 63 := by decide
theorem kb_64 : (Int8.ofInt 64).toInt32 = 64 := by decide
theorem kb_82 : (Int8.ofInt 82).toInt32 = 82 := by decide
theorem kb_83 : (Int8.ofInt 83).toInt32 = 83 := by decide
theorem kb_84 : (Int8.ofInt 84).toInt32 = 84 := by decide
theorem kb_85 : (Int8.ofInt 85).toInt32 = 85 := by decide
theorem kb_86 : (Int8.ofInt 86).toInt32 = 86 := by decide
theorem kb_97 : (Int8.ofInt 97).toInt32 = 97 := by decide
theorem kb_99 : (Int8.ofInt 99).toInt32 = 99 := by decide
theorem kb_100 : (Int8.ofInt 100).toInt32 = 100 := by decide
theorem kb_101 : (Int8.ofInt 101).toInt32 = 101 := by decide
theorem kb_122 : (Int8.ofInt 122).toInt32 = 122 := by decide
theorem kc_m1 : Int32.ofInt (-1) = (-1) := by decide
theorem kc_0 : Int32.ofInt 0 = 0 := by decide
theorem kc_1 : Int32.ofInt 1 = 1 := by decide
theorem kc_2 : Int32.ofInt 2 = 2 := by decide
theorem kc_3 : Int32.ofInt 3 = 3 := by decide
theorem kc_4 : Int32.ofInt 4 = 4 := by decide
theorem kc_5 : Int32.ofInt 5 = 5 := by decide
theorem ki_m8 {x : Int32} : x + Int32.ofInt (-8) = x + (-8) := rfl
theorem ki_m1 {x : Int32} : x + Int32.ofInt (-1) = x + (-1) := rfl
theorem ki_1 {x : Int32} : x + Int32.ofInt 1 = x + 1 := rfl
theorem ki_2 {x : Int32} : x + Int32.ofInt 2 = x + 2 := rfl
theorem ki_4 {x : Int32} : x + Int32.ofInt 4 = x + 4 := rfl
theorem ki_6 {x : Int32} : x + Int32.ofInt 6 = x + 6 := rfl
theorem ki_8 {x : Int32} : x + Int32.ofInt 8 = x + 8 := rfl
theorem ki_16 {x : Int32} : x + Int32.ofInt 16 = x + 16 := rfl
theorem ks_m10000 : (Int16.ofInt (-10000)).toInt32 = (-10000) := by decide
theorem ks_m317 : (Int16.ofInt (-317)).toInt32 = (-317) := by decide
theorem ks_m316 : (Int16.ofInt (-316)).toInt32 = (-316) := by decide
theorem ks_m315 : (Int16.ofInt (-315)).toInt32 = (-315) := by decide
theorem ks_255 : (Int16.ofInt 255).toInt32 = 255 := by decide
theorem ks_256 : (Int16.ofInt 256).toInt32 = 256 := by decide
theorem ks_257 : (Int16.ofInt 257).toInt32 = 257 := by decide
theorem ks_258 : (Int16.ofInt 258).toInt32 = 258 := by decide
theorem ks_259 : (Int16.ofInt 259).toInt32 = 259 := by decide
theorem ks_295 : (Int16.ofInt 295).toInt32 = 295 := by decide
theorem ks_299 : (Int16.ofInt 299).toInt32 = 299 := by decide
theorem ks_300 : (Int16.ofInt 300).toInt32 = 300 := by decide
theorem ks_301 : (Int16.ofInt 301).toInt32 = 301 := by decide
theorem ks_302 : (Int16.ofInt 302).toInt32 = 302 := by decide
theorem ks_305 : (Int16.ofInt 305).toInt32 = 305 := by decide
theorem ks_309 : (Int16.ofInt 309).toInt32 = 309 := by decide
theorem ks_310 : (Int16.ofInt 310).toInt32 = 310 := by decide
theorem ks_311 : (Int16.ofInt 311).toInt32 = 311 := by decide
theorem ks_312 : (Int16.ofInt 312).toInt32 = 312 := by decide
theorem ks_313 : (Int16.ofInt 313).toInt32 = 313 := by decide
theorem ks_314 : (Int16.ofInt 314).toInt32 = 314 := by decide
theorem ks_315 : (Int16.ofInt 315).toInt32 = 315 := by decide
theorem ks_316 : (Int16.ofInt 316).toInt32 = 316 := by decide
theorem ks_317 : (Int16.ofInt 317).toInt32 = 317 := by decide
theorem ks_318 : (Int16.ofInt 318).toInt32 = 318 := by decide
theorem ks_319 : (Int16.ofInt 319).toInt32 = 319 := by decide
theorem ks_320 : (Int16.ofInt 320).toInt32 = 320 := by decide
theorem ks_324 : (Int16.ofInt 324).toInt32 = 324 := by decide
theorem ks_382 : (Int16.ofInt 382).toInt32 = 382 := by decide
theorem ks_383 : (Int16.ofInt 383).toInt32 = 383 := by decide
theorem ks_400 : (Int16.ofInt 400).toInt32 = 400 := by decide
theorem ks_431 : (Int16.ofInt 431).toInt32 = 431 := by decide
theorem ks_849 : (Int16.ofInt 849).toInt32 = 849 := by decide
theorem ks_999 : (Int16.ofInt 999).toInt32 = 999 := by decide
theorem ks_1024 : (Int16.ofInt 1024).toInt32 = 1024 := by decide
theorem ks_1025 : (Int16.ofInt 1025).toInt32 = 1025 := by decide
theorem ks_1231 : (Int16.ofInt 1231).toInt32 = 1231 := by decide
theorem ks_1232 : (Int16.ofInt 1232).toInt32 = 1232 := by decide
theorem ks_1280 : (Int16.ofInt 1280).toInt32 = 1280 := by decide
theorem ks_4202 : (Int16.ofInt 4202).toInt32 = 4202 := by decide
theorem ks_9999 : (Int16.ofInt 9999).toInt32 = 9999 := by decide
theorem ks_12345 : (Int16.ofInt 12345).toInt32 = 12345 := by decide
theorem ks_32767 : (Int16.ofInt 32767).toInt32 = 32767 := by decide
