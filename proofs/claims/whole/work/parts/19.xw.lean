theorem xw_0 : XW 127 129 "java/lang/IllegalArgumentException" := ⟨by decide, by decide, q4_50, q1_20, xg_0, xb_0, by decide +kernel⟩
theorem xw_1 : XW 130 132 "java/lang/UnsupportedOperationException" := ⟨by decide, by decide, q4_115, q1_21, xg_1, xb_1, by decide +kernel⟩
theorem xw_2 : XW 152 154 "java/lang/IndexOutOfBoundsException" := ⟨by decide, by decide, q4_157, q1_23, xg_2, xb_2, by decide +kernel⟩
theorem xw_3 : XW 190 192 "java/util/NoSuchElementException" := ⟨by decide, by decide, q4_177, q1_24, xg_3, xb_3, by decide +kernel⟩
theorem xw_4 : XW 235 237 "java/lang/IllegalStateException" := ⟨by decide, by decide, q4_233, q1_25, xg_4, xb_4, by decide +kernel⟩
