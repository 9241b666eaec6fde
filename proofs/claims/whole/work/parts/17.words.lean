theorem q1_0 : Cond.initialized "SeeSawHillLaw" ∈ WALL := q_of (m_t1 (List.mem_of_getElem? (i := 0) rfl)) rfl
theorem q1_1 : Cond.initialized "SeeSawHill" ∈ WALL := q_of (m_t1 (List.mem_of_getElem? (i := 1) rfl)) rfl
theorem q1_10 : Cond.initialized "SeeSawHill$Past" ∈ WALL := q_of (m_t1 (List.mem_of_getElem? (i := 10) rfl)) rfl
theorem q1_100 : Cond.fieldLink "SeeSawHill" 175 "SeeSawHill$Hill" "broken" "[Z" ∈ WALL := q_of (m_t1 (List.mem_of_getElem? (i := 100) rfl)) rfl
theorem q1_101 : Cond.fieldLink "SeeSawHill$Hill" 35 "SeeSawHill$Hill" "purse" "[I" ∈ WALL := q_of (m_t1 (List.mem_of_getElem? (i := 101) rfl)) rfl
theorem q1_102 : Cond.fieldLink "SeeSawHill$HillReader" 70 "SeeSawHill$Hill" "purse" "[I" ∈ WALL := q_of (m_t1 (List.mem_of_getElem? (i := 102) rfl)) rfl
theorem q1_103 : Cond.fieldLink "SeeSawHill" 196 "SeeSawHill$Hill" "purse" "[I" ∈ WALL := q_of (m_t1 (List.mem_of_getElem? (i := 103) rfl)) rfl
theorem q1_104 : Cond.fieldLink "SeeSawHill$Hill" 38 "SeeSawHill$Hill" "guests" "[I" ∈ WALL := q_of (m_t1 (List.mem_of_getElem? (i := 104) rfl)) rfl
theorem q1_105 : Cond.fieldLink "SeeSawHill$HillReader" 74 "SeeSawHill$Hill" "guests" "[I" ∈ WALL := q_of (m_t1 (List.mem_of_getElem? (i := 105) rfl)) rfl
theorem q1_106 : Cond.fieldLink "SeeSawHill" 199 "SeeSawHill$Hill" "guests" "[I" ∈ WALL := q_of (m_t1 (List.mem_of_getElem? (i := 106) rfl)) rfl
theorem q1_107 : Cond.fieldLink "SeeSawHill$Hill" 41 "SeeSawHill$Hill" "weight" "[I" ∈ WALL := q_of (m_t1 (List.mem_of_getElem? (i := 107) rfl)) rfl
theorem q1_108 : Cond.fieldLink "SeeSawHill$Carrying" 34 "SeeSawHill$Hill" "weight" "[I" ∈ WALL := q_of (m_t1 (List.mem_of_getElem? (i := 108) rfl)) rfl
theorem q1_109 : Cond.fieldLink "SeeSawHill" 226 "SeeSawHill$Hill" "weight" "[I" ∈ WALL := q_of (m_t1 (List.mem_of_getElem? (i := 109) rfl)) rfl
theorem q1_11 : Cond.initialized "SeeSawHillModel" ∈ WALL := q_of (m_t1 (List.mem_of_getElem? (i := 11) rfl)) rfl
theorem q1_110 : Cond.fieldLink "SeeSawHill$Hill" 44 "SeeSawHill$Hill" "worth" "[I" ∈ WALL := q_of (m_t1 (List.mem_of_getElem? (i := 110) rfl)) rfl
theorem q1_111 : Cond.fieldLink "SeeSawHill" 229 "SeeSawHill$Hill" "worth" "[I" ∈ WALL := q_of (m_t1 (List.mem_of_getElem? (i := 111) rfl)) rfl
theorem q1_112 : Cond.fieldLink "SeeSawHill$Hill" 47 "SeeSawHill$Hill" "home" "[I" ∈ WALL := q_of (m_t1 (List.mem_of_getElem? (i := 112) rfl)) rfl
theorem q1_113 : Cond.fieldLink "SeeSawHill$Carrying" 31 "SeeSawHill$Hill" "home" "[I" ∈ WALL := q_of (m_t1 (List.mem_of_getElem? (i := 113) rfl)) rfl
theorem q1_114 : Cond.fieldLink "SeeSawHill" 232 "SeeSawHill$Hill" "home" "[I" ∈ WALL := q_of (m_t1 (List.mem_of_getElem? (i := 114) rfl)) rfl
theorem q1_115 : Cond.fieldLink "SeeSawHill$Hill" 50 "SeeSawHill$Hill" "load" "[I" ∈ WALL := q_of (m_t1 (List.mem_of_getElem? (i := 115) rfl)) rfl
theorem q1_116 : Cond.fieldLink "SeeSawHill$Carrying" 9 "SeeSawHill$Hill" "load" "[I" ∈ WALL := q_of (m_t1 (List.mem_of_getElem? (i := 116) rfl)) rfl
theorem q1_117 : Cond.fieldLink "SeeSawHill$Guess" 43 "SeeSawHill$Hill" "load" "[I" ∈ WALL := q_of (m_t1 (List.mem_of_getElem? (i := 117) rfl)) rfl
theorem q1_118 : Cond.fieldLink "SeeSawHill" 202 "SeeSawHill$Hill" "load" "[I" ∈ WALL := q_of (m_t1 (List.mem_of_getElem? (i := 118) rfl)) rfl
theorem q1_119 : Cond.fieldLink "SeeSawHill$Hill" 53 "SeeSawHill$Hill" "height" "[I" ∈ WALL := q_of (m_t1 (List.mem_of_getElem? (i := 119) rfl)) rfl
theorem q1_12 : Cond.initialized "java/lang/String" ∈ WALL := q_of (m_t1 (List.mem_of_getElem? (i := 12) rfl)) rfl
theorem q1_120 : Cond.fieldLink "SeeSawHill" 205 "SeeSawHill$Hill" "height" "[I" ∈ WALL := q_of (m_t1 (List.mem_of_getElem? (i := 120) rfl)) rfl
theorem q1_13 : Cond.initialized "java/lang/StringLatin1" ∈ WALL := q_of (m_t1 (List.mem_of_getElem? (i := 13) rfl)) rfl
theorem q1_14 : Cond.initialized "jdk/internal/util/Preconditions" ∈ WALL := q_of (m_t1 (List.mem_of_getElem? (i := 14) rfl)) rfl
theorem q1_16 : Cond.initialized "java/lang/System" ∈ WALL := q_of (m_t1 (List.mem_of_getElem? (i := 16) rfl)) rfl
theorem q1_162 : Cond.arrayClass .boolean ∈ WALL := q_of (m_t1 (List.mem_of_getElem? (i := 162) rfl)) rfl
theorem q1_163 : Cond.classLink "SeeSawHill" 37 "SeeSawHill$Law" ∈ WALL := q_of (m_t1 (List.mem_of_getElem? (i := 163) rfl)) rfl
theorem q1_164 : Cond.instantiable "SeeSawHill$Law" 7 ∈ WALL := q_of (m_t1 (List.mem_of_getElem? (i := 164) rfl)) rfl
theorem q1_165 : Cond.methodLink "SeeSawHill" 39 ⟨"SeeSawHill$Law", "<init>", "()V"⟩ ∈ WALL := q_of (m_t1 (List.mem_of_getElem? (i := 165) rfl)) rfl
theorem q1_166 : Cond.instanceMethod ⟨"SeeSawHill$Law", "<init>", "()V"⟩ ∈ WALL := q_of (m_t1 (List.mem_of_getElem? (i := 166) rfl)) rfl
theorem q1_167 : Cond.code ⟨"SeeSawHill$Law", "<init>", "()V"⟩ prog_7_method_1_code 1 none ∈ WALL := q_of (m_t1 (List.mem_of_getElem? (i := 167) rfl)) rfl
theorem q1_168 : Cond.methodLink "SeeSawHill$Law" 3 ⟨"java/lang/Object", "<init>", "()V"⟩ ∈ WALL := q_of (m_t1 (List.mem_of_getElem? (i := 168) rfl)) rfl
theorem q1_169 : Cond.fieldLink "SeeSawHill$Law" 9 "SeeSawHill$Law" "lines" "I" ∈ WALL := q_of (m_t1 (List.mem_of_getElem? (i := 169) rfl)) rfl
theorem q1_170 : Cond.fieldLink "SeeSawHill" 146 "SeeSawHill$Law" "lines" "I" ∈ WALL := q_of (m_t1 (List.mem_of_getElem? (i := 170) rfl)) rfl
theorem q1_171 : Cond.fieldLink "SeeSawHill$Law" 15 "SeeSawHill$Law" "kinds" "[I" ∈ WALL := q_of (m_t1 (List.mem_of_getElem? (i := 171) rfl)) rfl
theorem q1_172 : Cond.fieldLink "SeeSawHill$Law" 19 "SeeSawHill$Law" "amounts" "[I" ∈ WALL := q_of (m_t1 (List.mem_of_getElem? (i := 172) rfl)) rfl
theorem q1_173 : Cond.fieldLink "SeeSawHill$Law" 22 "SeeSawHill$Law" "ends" "[I" ∈ WALL := q_of (m_t1 (List.mem_of_getElem? (i := 173) rfl)) rfl
theorem q1_174 : Cond.fieldLink "SeeSawHill$Law" 25 "SeeSawHill$Law" "signs" "[I" ∈ WALL := q_of (m_t1 (List.mem_of_getElem? (i := 174) rfl)) rfl
theorem q1_175 : Cond.fieldLink "SeeSawHill$Law" 28 "SeeSawHill$Law" "size" "I" ∈ WALL := q_of (m_t1 (List.mem_of_getElem? (i := 175) rfl)) rfl
theorem q1_176 : Cond.fieldLink "SeeSawHill$Law" 31 "SeeSawHill$Law" "stack" "[I" ∈ WALL := q_of (m_t1 (List.mem_of_getElem? (i := 176) rfl)) rfl
theorem q1_192 : Cond.classLink "SeeSawHill" 44 "SeeSawHill$Diary" ∈ WALL := q_of (m_t1 (List.mem_of_getElem? (i := 192) rfl)) rfl
theorem q1_193 : Cond.instantiable "SeeSawHill$Diary" 2 ∈ WALL := q_of (m_t1 (List.mem_of_getElem? (i := 193) rfl)) rfl
theorem q1_194 : Cond.methodLink "SeeSawHill" 46 ⟨"SeeSawHill$Diary", "<init>", "()V"⟩ ∈ WALL := q_of (m_t1 (List.mem_of_getElem? (i := 194) rfl)) rfl
theorem q1_195 : Cond.instanceMethod ⟨"SeeSawHill$Diary", "<init>", "()V"⟩ ∈ WALL := q_of (m_t1 (List.mem_of_getElem? (i := 195) rfl)) rfl
theorem q1_196 : Cond.code ⟨"SeeSawHill$Diary", "<init>", "()V"⟩ prog_3_method_1_code 1 none ∈ WALL := q_of (m_t1 (List.mem_of_getElem? (i := 196) rfl)) rfl
theorem q1_197 : Cond.methodLink "SeeSawHill$Diary" 3 ⟨"java/lang/Object", "<init>", "()V"⟩ ∈ WALL := q_of (m_t1 (List.mem_of_getElem? (i := 197) rfl)) rfl
theorem q1_198 : Cond.fieldLink "SeeSawHill$Diary" 9 "SeeSawHill$Diary" "rows" "I" ∈ WALL := q_of (m_t1 (List.mem_of_getElem? (i := 198) rfl)) rfl
theorem q1_199 : Cond.fieldLink "SeeSawHill" 400 "SeeSawHill$Diary" "rows" "I" ∈ WALL := q_of (m_t1 (List.mem_of_getElem? (i := 199) rfl)) rfl
theorem q1_2 : Cond.initialized "SeeSawHill$Tokens" ∈ WALL := q_of (m_t1 (List.mem_of_getElem? (i := 2) rfl)) rfl
theorem q1_20 : Cond.initialized "java/lang/IllegalArgumentException" ∈ WALL := q_of (m_t1 (List.mem_of_getElem? (i := 20) rfl)) rfl
theorem q1_200 : Cond.fieldLink "SeeSawHill$Diary" 15 "SeeSawHill$Diary" "cells" "[I" ∈ WALL := q_of (m_t1 (List.mem_of_getElem? (i := 200) rfl)) rfl
theorem q1_206 : Cond.classLink "SeeSawHill" 60 "SeeSawHill$HillReader" ∈ WALL := q_of (m_t1 (List.mem_of_getElem? (i := 206) rfl)) rfl
theorem q1_207 : Cond.instantiable "SeeSawHill$HillReader" 4 ∈ WALL := q_of (m_t1 (List.mem_of_getElem? (i := 207) rfl)) rfl
theorem q1_208 : Cond.methodLink "SeeSawHill" 62 ⟨"SeeSawHill$HillReader", "<init>", "(LSeeSawHill$Tokens;LSeeSawHill$Hill;)V"⟩ ∈ WALL := q_of (m_t1 (List.mem_of_getElem? (i := 208) rfl)) rfl
theorem q1_209 : Cond.instanceMethod ⟨"SeeSawHill$HillReader", "<init>", "(LSeeSawHill$Tokens;LSeeSawHill$Hill;)V"⟩ ∈ WALL := q_of (m_t1 (List.mem_of_getElem? (i := 209) rfl)) rfl
theorem q1_21 : Cond.initialized "java/lang/UnsupportedOperationException" ∈ WALL := q_of (m_t1 (List.mem_of_getElem? (i := 21) rfl)) rfl
theorem q1_210 : Cond.code ⟨"SeeSawHill$HillReader", "<init>", "(LSeeSawHill$Tokens;LSeeSawHill$Hill;)V"⟩ prog_6_method_1_code 3 none ∈ WALL := q_of (m_t1 (List.mem_of_getElem? (i := 210) rfl)) rfl
theorem q1_211 : Cond.methodLink "SeeSawHill$HillReader" 3 ⟨"SeeSawHill$TextReader", "<init>", "(LSeeSawHill$Tokens;I)V"⟩ ∈ WALL := q_of (m_t1 (List.mem_of_getElem? (i := 211) rfl)) rfl
theorem q1_212 : Cond.instanceMethod ⟨"SeeSawHill$TextReader", "<init>", "(LSeeSawHill$Tokens;I)V"⟩ ∈ WALL := q_of (m_t1 (List.mem_of_getElem? (i := 212) rfl)) rfl
theorem q1_213 : Cond.code ⟨"SeeSawHill$TextReader", "<init>", "(LSeeSawHill$Tokens;I)V"⟩ prog_11_method_1_code 3 none ∈ WALL := q_of (m_t1 (List.mem_of_getElem? (i := 213) rfl)) rfl
theorem q1_214 : Cond.methodLink "SeeSawHill$TextReader" 3 ⟨"java/lang/Object", "<init>", "()V"⟩ ∈ WALL := q_of (m_t1 (List.mem_of_getElem? (i := 214) rfl)) rfl
theorem q1_215 : Cond.fieldLink "SeeSawHill$HillReader" 9 "SeeSawHill$HillReader" "hill" "LSeeSawHill$Hill;" ∈ WALL := q_of (m_t1 (List.mem_of_getElem? (i := 215) rfl)) rfl
theorem q1_216 : Cond.fieldLink "SeeSawHill$TextReader" 9 "SeeSawHill$TextReader" "tokens" "LSeeSawHill$Tokens;" ∈ WALL := q_of (m_t1 (List.mem_of_getElem? (i := 216) rfl)) rfl
theorem q1_217 : Cond.fieldLink "SeeSawHill$HillReader" 15 "SeeSawHill$HillReader" "tokens" "LSeeSawHill$Tokens;" ∈ WALL := q_of (m_t1 (List.mem_of_getElem? (i := 217) rfl)) rfl
theorem q1_218 : Cond.sameField "SeeSawHill$HillReader" "SeeSawHill$TextReader" "tokens" "LSeeSawHill$Tokens;" ∈ WALL := q_of (m_t1 (List.mem_of_getElem? (i := 218) rfl)) rfl
theorem q1_219 : Cond.fieldLink "SeeSawHill$LawReader" 15 "SeeSawHill$LawReader" "tokens" "LSeeSawHill$Tokens;" ∈ WALL := q_of (m_t1 (List.mem_of_getElem? (i := 219) rfl)) rfl
theorem q1_22 : Cond.initialized "java/lang/Math" ∈ WALL := q_of (m_t1 (List.mem_of_getElem? (i := 22) rfl)) rfl
theorem q1_220 : Cond.sameField "SeeSawHill$LawReader" "SeeSawHill$TextReader" "tokens" "LSeeSawHill$Tokens;" ∈ WALL := q_of (m_t1 (List.mem_of_getElem? (i := 220) rfl)) rfl
theorem q1_221 : Cond.fieldLink "SeeSawHill$TextReader" 15 "SeeSawHill$TextReader" "linesMost" "I" ∈ WALL := q_of (m_t1 (List.mem_of_getElem? (i := 221) rfl)) rfl
theorem q1_222 : Cond.fieldLink "SeeSawHill$TextReader" 19 "SeeSawHill$TextReader" "at" "I" ∈ WALL := q_of (m_t1 (List.mem_of_getElem? (i := 222) rfl)) rfl
theorem q1_223 : Cond.fieldLink "SeeSawHill$HillReader" 19 "SeeSawHill$HillReader" "at" "I" ∈ WALL := q_of (m_t1 (List.mem_of_getElem? (i := 223) rfl)) rfl
theorem q1_224 : Cond.sameField "SeeSawHill$HillReader" "SeeSawHill$TextReader" "at" "I" ∈ WALL := q_of (m_t1 (List.mem_of_getElem? (i := 224) rfl)) rfl
theorem q1_225 : Cond.fieldLink "SeeSawHill$LawReader" 19 "SeeSawHill$LawReader" "at" "I" ∈ WALL := q_of (m_t1 (List.mem_of_getElem? (i := 225) rfl)) rfl
theorem q1_226 : Cond.sameField "SeeSawHill$LawReader" "SeeSawHill$TextReader" "at" "I" ∈ WALL := q_of (m_t1 (List.mem_of_getElem? (i := 226) rfl)) rfl
theorem q1_23 : Cond.initialized "java/lang/IndexOutOfBoundsException" ∈ WALL := q_of (m_t1 (List.mem_of_getElem? (i := 23) rfl)) rfl
theorem q1_236 : Cond.classLink "SeeSawHill" 69 "SeeSawHill$LawReader" ∈ WALL := q_of (m_t1 (List.mem_of_getElem? (i := 236) rfl)) rfl
theorem q1_237 : Cond.instantiable "SeeSawHill$LawReader" 4 ∈ WALL := q_of (m_t1 (List.mem_of_getElem? (i := 237) rfl)) rfl
theorem q1_238 : Cond.methodLink "SeeSawHill" 71 ⟨"SeeSawHill$LawReader", "<init>", "(LSeeSawHill$Tokens;LSeeSawHill$Law;)V"⟩ ∈ WALL := q_of (m_t1 (List.mem_of_getElem? (i := 238) rfl)) rfl
theorem q1_239 : Cond.instanceMethod ⟨"SeeSawHill$LawReader", "<init>", "(LSeeSawHill$Tokens;LSeeSawHill$Law;)V"⟩ ∈ WALL := q_of (m_t1 (List.mem_of_getElem? (i := 239) rfl)) rfl
theorem q1_24 : Cond.initialized "java/util/NoSuchElementException" ∈ WALL := q_of (m_t1 (List.mem_of_getElem? (i := 24) rfl)) rfl
theorem q1_25 : Cond.initialized "java/lang/IllegalStateException" ∈ WALL := q_of (m_t1 (List.mem_of_getElem? (i := 25) rfl)) rfl
theorem q1_26 : Cond.initialized "java/lang/Integer" ∈ WALL := q_of (m_t1 (List.mem_of_getElem? (i := 26) rfl)) rfl
theorem q1_27 : Cond.initialized "SeeSawHill$Carrying" ∈ WALL := q_of (m_t1 (List.mem_of_getElem? (i := 27) rfl)) rfl
theorem q1_28 : Cond.initialized "SeeSawHill$Marriage" ∈ WALL := q_of (m_t1 (List.mem_of_getElem? (i := 28) rfl)) rfl
theorem q1_29 : Cond.classLink "SeeSawHillLaw" 8 "SeeSawHill" ∈ WALL := q_of (m_t1 (List.mem_of_getElem? (i := 29) rfl)) rfl
theorem q1_3 : Cond.initialized "SeeSawHill$Hill" ∈ WALL := q_of (m_t1 (List.mem_of_getElem? (i := 3) rfl)) rfl
theorem q1_30 : Cond.instantiable "SeeSawHill" 20 ∈ WALL := q_of (m_t1 (List.mem_of_getElem? (i := 30) rfl)) rfl
theorem q1_31 : Cond.methodLink "SeeSawHillLaw" 110 ⟨"SeeSawHill", "<init>", "()V"⟩ ∈ WALL := q_of (m_t1 (List.mem_of_getElem? (i := 31) rfl)) rfl
theorem q1_32 : Cond.instanceMethod ⟨"SeeSawHill", "<init>", "()V"⟩ ∈ WALL := q_of (m_t1 (List.mem_of_getElem? (i := 32) rfl)) rfl
theorem q1_33 : Cond.code ⟨"SeeSawHill", "<init>", "()V"⟩ prog_1_method_1_code 1 none ∈ WALL := q_of (m_t1 (List.mem_of_getElem? (i := 33) rfl)) rfl
theorem q1_34 : Cond.methodLink "SeeSawHill" 1 ⟨"java/lang/Object", "<init>", "()V"⟩ ∈ WALL := q_of (m_t1 (List.mem_of_getElem? (i := 34) rfl)) rfl
theorem q1_35 : Cond.instanceMethod ⟨"java/lang/Object", "<init>", "()V"⟩ ∈ WALL := q_of (m_t1 (List.mem_of_getElem? (i := 35) rfl)) rfl
theorem q1_37 : Cond.classLink "SeeSawHill" 20 "SeeSawHill$Tokens" ∈ WALL := q_of (m_t1 (List.mem_of_getElem? (i := 37) rfl)) rfl
theorem q1_38 : Cond.instantiable "SeeSawHill$Tokens" 4 ∈ WALL := q_of (m_t1 (List.mem_of_getElem? (i := 38) rfl)) rfl
theorem q1_39 : Cond.methodLink "SeeSawHill" 22 ⟨"SeeSawHill$Tokens", "<init>", "()V"⟩ ∈ WALL := q_of (m_t1 (List.mem_of_getElem? (i := 39) rfl)) rfl
theorem q1_4 : Cond.initialized "SeeSawHill$Law" ∈ WALL := q_of (m_t1 (List.mem_of_getElem? (i := 4) rfl)) rfl
theorem q1_40 : Cond.instanceMethod ⟨"SeeSawHill$Tokens", "<init>", "()V"⟩ ∈ WALL := q_of (m_t1 (List.mem_of_getElem? (i := 40) rfl)) rfl
theorem q1_41 : Cond.code ⟨"SeeSawHill$Tokens", "<init>", "()V"⟩ prog_12_method_1_code 1 none ∈ WALL := q_of (m_t1 (List.mem_of_getElem? (i := 41) rfl)) rfl
theorem q1_42 : Cond.methodLink "SeeSawHill$Tokens" 3 ⟨"java/lang/Object", "<init>", "()V"⟩ ∈ WALL := q_of (m_t1 (List.mem_of_getElem? (i := 42) rfl)) rfl
theorem q1_43 : Cond.fieldLink "SeeSawHill$Tokens" 9 "SeeSawHill$Tokens" "codes" "[I" ∈ WALL := q_of (m_t1 (List.mem_of_getElem? (i := 43) rfl)) rfl
theorem q1_45 : Cond.fieldLink "SeeSawHill$Tokens" 15 "SeeSawHill$Tokens" "values" "[I" ∈ WALL := q_of (m_t1 (List.mem_of_getElem? (i := 45) rfl)) rfl
theorem q1_46 : Cond.fieldLink "SeeSawHill$Tokens" 18 "SeeSawHill$Tokens" "starts" "[I" ∈ WALL := q_of (m_t1 (List.mem_of_getElem? (i := 46) rfl)) rfl
theorem q1_47 : Cond.fieldLink "SeeSawHill$Tokens" 21 "SeeSawHill$Tokens" "size" "I" ∈ WALL := q_of (m_t1 (List.mem_of_getElem? (i := 47) rfl)) rfl
theorem q1_5 : Cond.initialized "SeeSawHill$Diary" ∈ WALL := q_of (m_t1 (List.mem_of_getElem? (i := 5) rfl)) rfl
theorem q1_58 : Cond.arrayClass .byte ∈ WALL := q_of (m_t1 (List.mem_of_getElem? (i := 58) rfl)) rfl
theorem q1_59 : Cond.arrayClass .int ∈ WALL := q_of (m_t1 (List.mem_of_getElem? (i := 59) rfl)) rfl
theorem q1_6 : Cond.initialized "SeeSawHill$TextReader" ∈ WALL := q_of (m_t1 (List.mem_of_getElem? (i := 6) rfl)) rfl
theorem q1_60 : Cond.classLink "SeeSawHill" 30 "SeeSawHill$Hill" ∈ WALL := q_of (m_t1 (List.mem_of_getElem? (i := 60) rfl)) rfl
theorem q1_61 : Cond.instantiable "SeeSawHill$Hill" 20 ∈ WALL := q_of (m_t1 (List.mem_of_getElem? (i := 61) rfl)) rfl
theorem q1_62 : Cond.methodLink "SeeSawHill" 32 ⟨"SeeSawHill$Hill", "<init>", "()V"⟩ ∈ WALL := q_of (m_t1 (List.mem_of_getElem? (i := 62) rfl)) rfl
theorem q1_63 : Cond.instanceMethod ⟨"SeeSawHill$Hill", "<init>", "()V"⟩ ∈ WALL := q_of (m_t1 (List.mem_of_getElem? (i := 63) rfl)) rfl
theorem q1_64 : Cond.code ⟨"SeeSawHill$Hill", "<init>", "()V"⟩ prog_5_method_1_code 1 none ∈ WALL := q_of (m_t1 (List.mem_of_getElem? (i := 64) rfl)) rfl
theorem q1_65 : Cond.methodLink "SeeSawHill$Hill" 3 ⟨"java/lang/Object", "<init>", "()V"⟩ ∈ WALL := q_of (m_t1 (List.mem_of_getElem? (i := 65) rfl)) rfl
theorem q1_66 : Cond.fieldLink "SeeSawHill$Hill" 56 "SeeSawHill$Hill" "planks" "I" ∈ WALL := q_of (m_t1 (List.mem_of_getElem? (i := 66) rfl)) rfl
theorem q1_67 : Cond.fieldLink "SeeSawHill$HillReader" 43 "SeeSawHill$Hill" "planks" "I" ∈ WALL := q_of (m_t1 (List.mem_of_getElem? (i := 67) rfl)) rfl
theorem q1_68 : Cond.fieldLink "SeeSawHill" 149 "SeeSawHill$Hill" "planks" "I" ∈ WALL := q_of (m_t1 (List.mem_of_getElem? (i := 68) rfl)) rfl
theorem q1_69 : Cond.fieldLink "SeeSawHill$Hill" 59 "SeeSawHill$Hill" "things" "I" ∈ WALL := q_of (m_t1 (List.mem_of_getElem? (i := 69) rfl)) rfl
theorem q1_7 : Cond.initialized "SeeSawHill$HillReader" ∈ WALL := q_of (m_t1 (List.mem_of_getElem? (i := 7) rfl)) rfl
theorem q1_70 : Cond.fieldLink "SeeSawHill$Carrying" 21 "SeeSawHill$Hill" "things" "I" ∈ WALL := q_of (m_t1 (List.mem_of_getElem? (i := 70) rfl)) rfl
theorem q1_71 : Cond.fieldLink "SeeSawHill$HillReader" 59 "SeeSawHill$Hill" "things" "I" ∈ WALL := q_of (m_t1 (List.mem_of_getElem? (i := 71) rfl)) rfl
theorem q1_72 : Cond.fieldLink "SeeSawHill" 158 "SeeSawHill$Hill" "things" "I" ∈ WALL := q_of (m_t1 (List.mem_of_getElem? (i := 72) rfl)) rfl
theorem q1_73 : Cond.fieldLink "SeeSawHill$Hill" 62 "SeeSawHill$Hill" "snow" "I" ∈ WALL := q_of (m_t1 (List.mem_of_getElem? (i := 73) rfl)) rfl
theorem q1_74 : Cond.fieldLink "SeeSawHill$HillReader" 80 "SeeSawHill$Hill" "snow" "I" ∈ WALL := q_of (m_t1 (List.mem_of_getElem? (i := 74) rfl)) rfl
theorem q1_75 : Cond.fieldLink "SeeSawHill" 259 "SeeSawHill$Hill" "snow" "I" ∈ WALL := q_of (m_t1 (List.mem_of_getElem? (i := 75) rfl)) rfl
theorem q1_76 : Cond.fieldLink "SeeSawHill$Hill" 9 "SeeSawHill$Hill" "step" "I" ∈ WALL := q_of (m_t1 (List.mem_of_getElem? (i := 76) rfl)) rfl
theorem q1_77 : Cond.fieldLink "SeeSawHill$HillReader" 83 "SeeSawHill$Hill" "step" "I" ∈ WALL := q_of (m_t1 (List.mem_of_getElem? (i := 77) rfl)) rfl
theorem q1_78 : Cond.fieldLink "SeeSawHill$Carrying" 60 "SeeSawHill$Hill" "step" "I" ∈ WALL := q_of (m_t1 (List.mem_of_getElem? (i := 78) rfl)) rfl
theorem q1_79 : Cond.fieldLink "SeeSawHill" 385 "SeeSawHill$Hill" "step" "I" ∈ WALL := q_of (m_t1 (List.mem_of_getElem? (i := 79) rfl)) rfl
theorem q1_8 : Cond.initialized "SeeSawHill$LawReader" ∈ WALL := q_of (m_t1 (List.mem_of_getElem? (i := 8) rfl)) rfl
theorem q1_80 : Cond.fieldLink "SeeSawHill$Hill" 65 "SeeSawHill$Hill" "fall" "I" ∈ WALL := q_of (m_t1 (List.mem_of_getElem? (i := 80) rfl)) rfl
theorem q1_81 : Cond.fieldLink "SeeSawHill$HillReader" 86 "SeeSawHill$Hill" "fall" "I" ∈ WALL := q_of (m_t1 (List.mem_of_getElem? (i := 81) rfl)) rfl
theorem q1_82 : Cond.fieldLink "SeeSawHill" 388 "SeeSawHill$Hill" "fall" "I" ∈ WALL := q_of (m_t1 (List.mem_of_getElem? (i := 82) rfl)) rfl
theorem q1_83 : Cond.fieldLink "SeeSawHill$Hill" 68 "SeeSawHill$Hill" "thieves" "I" ∈ WALL := q_of (m_t1 (List.mem_of_getElem? (i := 83) rfl)) rfl
theorem q1_84 : Cond.fieldLink "SeeSawHill$HillReader" 89 "SeeSawHill$Hill" "thieves" "I" ∈ WALL := q_of (m_t1 (List.mem_of_getElem? (i := 84) rfl)) rfl
theorem q1_85 : Cond.fieldLink "SeeSawHill" 391 "SeeSawHill$Hill" "thieves" "I" ∈ WALL := q_of (m_t1 (List.mem_of_getElem? (i := 85) rfl)) rfl
theorem q1_86 : Cond.fieldLink "SeeSawHill$Hill" 15 "SeeSawHill$Hill" "fee" "I" ∈ WALL := q_of (m_t1 (List.mem_of_getElem? (i := 86) rfl)) rfl
theorem q1_87 : Cond.fieldLink "SeeSawHill$HillReader" 92 "SeeSawHill$Hill" "fee" "I" ∈ WALL := q_of (m_t1 (List.mem_of_getElem? (i := 87) rfl)) rfl
theorem q1_88 : Cond.fieldLink "SeeSawHill" 394 "SeeSawHill$Hill" "fee" "I" ∈ WALL := q_of (m_t1 (List.mem_of_getElem? (i := 88) rfl)) rfl
theorem q1_89 : Cond.fieldLink "SeeSawHill$Hill" 71 "SeeSawHill$Hill" "week" "I" ∈ WALL := q_of (m_t1 (List.mem_of_getElem? (i := 89) rfl)) rfl
theorem q1_9 : Cond.initialized "SeeSawHill$Guess" ∈ WALL := q_of (m_t1 (List.mem_of_getElem? (i := 9) rfl)) rfl
theorem q1_90 : Cond.fieldLink "SeeSawHill" 242 "SeeSawHill$Hill" "week" "I" ∈ WALL := q_of (m_t1 (List.mem_of_getElem? (i := 90) rfl)) rfl
theorem q1_91 : Cond.fieldLink "SeeSawHill$Hill" 18 "SeeSawHill$Hill" "seed" "I" ∈ WALL := q_of (m_t1 (List.mem_of_getElem? (i := 91) rfl)) rfl
theorem q1_92 : Cond.fieldLink "SeeSawHill" 354 "SeeSawHill$Hill" "seed" "I" ∈ WALL := q_of (m_t1 (List.mem_of_getElem? (i := 92) rfl)) rfl
theorem q1_93 : Cond.fieldLink "SeeSawHill$Hill" 21 "SeeSawHill$Hill" "bears" "[I" ∈ WALL := q_of (m_t1 (List.mem_of_getElem? (i := 93) rfl)) rfl
theorem q1_94 : Cond.fieldLink "SeeSawHill" 164 "SeeSawHill$Hill" "bears" "[I" ∈ WALL := q_of (m_t1 (List.mem_of_getElem? (i := 94) rfl)) rfl
theorem q1_95 : Cond.fieldLink "SeeSawHill$Hill" 25 "SeeSawHill$Hill" "age" "[I" ∈ WALL := q_of (m_t1 (List.mem_of_getElem? (i := 95) rfl)) rfl
theorem q1_96 : Cond.fieldLink "SeeSawHill" 168 "SeeSawHill$Hill" "age" "[I" ∈ WALL := q_of (m_t1 (List.mem_of_getElem? (i := 96) rfl)) rfl
theorem q1_97 : Cond.fieldLink "SeeSawHill$Hill" 28 "SeeSawHill$Hill" "propped" "[Z" ∈ WALL := q_of (m_t1 (List.mem_of_getElem? (i := 97) rfl)) rfl
theorem q1_98 : Cond.fieldLink "SeeSawHill" 171 "SeeSawHill$Hill" "propped" "[Z" ∈ WALL := q_of (m_t1 (List.mem_of_getElem? (i := 98) rfl)) rfl
theorem q1_99 : Cond.fieldLink "SeeSawHill$Hill" 32 "SeeSawHill$Hill" "broken" "[Z" ∈ WALL := q_of (m_t1 (List.mem_of_getElem? (i := 99) rfl)) rfl
theorem q2_0 : Cond.code ⟨"SeeSawHill$LawReader", "<init>", "(LSeeSawHill$Tokens;LSeeSawHill$Law;)V"⟩ prog_8_method_1_code 3 none ∈ WALL := q_of (m_t2 (List.mem_of_getElem? (i := 0) rfl)) rfl
theorem q2_1 : Cond.methodLink "SeeSawHill$LawReader" 3 ⟨"SeeSawHill$TextReader", "<init>", "(LSeeSawHill$Tokens;I)V"⟩ ∈ WALL := q_of (m_t2 (List.mem_of_getElem? (i := 1) rfl)) rfl
theorem q2_10 : Cond.instantiable "SeeSawHill$Guess" 4 ∈ WALL := q_of (m_t2 (List.mem_of_getElem? (i := 10) rfl)) rfl
theorem q2_11 : Cond.methodLink "SeeSawHill" 80 ⟨"SeeSawHill$Guess", "<init>", "()V"⟩ ∈ WALL := q_of (m_t2 (List.mem_of_getElem? (i := 11) rfl)) rfl
theorem q2_117 : Cond.methodLink "SeeSawHillLaw" 114 ⟨"SeeSawHill", "feed", "(IIIII)I"⟩ ∈ WALL := q_of (m_t2 (List.mem_of_getElem? (i := 117) rfl)) rfl
theorem q2_118 : Cond.instanceMethod ⟨"SeeSawHill", "feed", "(IIIII)I"⟩ ∈ WALL := q_of (m_t2 (List.mem_of_getElem? (i := 118) rfl)) rfl
theorem q2_119 : Cond.selects "SeeSawHill" ⟨"SeeSawHill", "feed", "(IIIII)I"⟩ ⟨"SeeSawHill", "feed", "(IIIII)I"⟩ ∈ WALL := q_of (m_t2 (List.mem_of_getElem? (i := 119) rfl)) rfl
theorem q2_12 : Cond.instanceMethod ⟨"SeeSawHill$Guess", "<init>", "()V"⟩ ∈ WALL := q_of (m_t2 (List.mem_of_getElem? (i := 12) rfl)) rfl
theorem q2_120 : Cond.code ⟨"SeeSawHill", "feed", "(IIIII)I"⟩ prog_1_method_2_code 6 (some .int) ∈ WALL := q_of (m_t2 (List.mem_of_getElem? (i := 120) rfl)) rfl
theorem q2_121 : Cond.methodLink "SeeSawHill" 108 ⟨"SeeSawHill", "putBytes", "(I)V"⟩ ∈ WALL := q_of (m_t2 (List.mem_of_getElem? (i := 121) rfl)) rfl
theorem q2_123 : Cond.instanceMethod ⟨"SeeSawHill", "putBytes", "(I)V"⟩ ∈ WALL := q_of (m_t2 (List.mem_of_getElem? (i := 123) rfl)) rfl
theorem q2_124 : Cond.code ⟨"SeeSawHill", "putBytes", "(I)V"⟩ prog_1_method_3_code 3 none ∈ WALL := q_of (m_t2 (List.mem_of_getElem? (i := 124) rfl)) rfl
theorem q2_125 : Cond.methodLink "SeeSawHillLaw" 119 ⟨"SeeSawHill", "end", "(I)Z"⟩ ∈ WALL := q_of (m_t2 (List.mem_of_getElem? (i := 125) rfl)) rfl
theorem q2_126 : Cond.instanceMethod ⟨"SeeSawHill", "end", "(I)Z"⟩ ∈ WALL := q_of (m_t2 (List.mem_of_getElem? (i := 126) rfl)) rfl
theorem q2_127 : Cond.selects "SeeSawHill" ⟨"SeeSawHill", "end", "(I)Z"⟩ ⟨"SeeSawHill", "end", "(I)Z"⟩ ∈ WALL := q_of (m_t2 (List.mem_of_getElem? (i := 127) rfl)) rfl
theorem q2_128 : Cond.code ⟨"SeeSawHill", "end", "(I)Z"⟩ prog_1_method_4_code 2 (some .boolean) ∈ WALL := q_of (m_t2 (List.mem_of_getElem? (i := 128) rfl)) rfl
theorem q2_129 : Cond.methodLink "SeeSawHillLaw" 136 ⟨"SeeSawHill", "fault", "()I"⟩ ∈ WALL := q_of (m_t2 (List.mem_of_getElem? (i := 129) rfl)) rfl
theorem q2_13 : Cond.code ⟨"SeeSawHill$Guess", "<init>", "()V"⟩ prog_4_method_1_code 1 none ∈ WALL := q_of (m_t2 (List.mem_of_getElem? (i := 13) rfl)) rfl
theorem q2_130 : Cond.instanceMethod ⟨"SeeSawHill", "fault", "()I"⟩ ∈ WALL := q_of (m_t2 (List.mem_of_getElem? (i := 130) rfl)) rfl
theorem q2_131 : Cond.selects "SeeSawHill" ⟨"SeeSawHill", "fault", "()I"⟩ ⟨"SeeSawHill", "fault", "()I"⟩ ∈ WALL := q_of (m_t2 (List.mem_of_getElem? (i := 131) rfl)) rfl
theorem q2_132 : Cond.code ⟨"SeeSawHill", "fault", "()I"⟩ prog_1_method_8_code 1 (some .int) ∈ WALL := q_of (m_t2 (List.mem_of_getElem? (i := 132) rfl)) rfl
theorem q2_133 : Cond.methodLink "SeeSawHillLaw" 168 ⟨"SeeSawHill", "sweep", "()I"⟩ ∈ WALL := q_of (m_t2 (List.mem_of_getElem? (i := 133) rfl)) rfl
theorem q2_134 : Cond.instanceMethod ⟨"SeeSawHill", "sweep", "()I"⟩ ∈ WALL := q_of (m_t2 (List.mem_of_getElem? (i := 134) rfl)) rfl
theorem q2_135 : Cond.selects "SeeSawHill" ⟨"SeeSawHill", "sweep", "()I"⟩ ⟨"SeeSawHill", "sweep", "()I"⟩ ∈ WALL := q_of (m_t2 (List.mem_of_getElem? (i := 135) rfl)) rfl
theorem q2_136 : Cond.code ⟨"SeeSawHill", "sweep", "()I"⟩ prog_1_method_21_code 2 (some .int) ∈ WALL := q_of (m_t2 (List.mem_of_getElem? (i := 136) rfl)) rfl
theorem q2_137 : Cond.methodLink "SeeSawHill" 238 ⟨"SeeSawHill$Past", "remember", "(LSeeSawHill$Hill;LSeeSawHill$Diary;)V"⟩ ∈ WALL := q_of (m_t2 (List.mem_of_getElem? (i := 137) rfl)) rfl
theorem q2_138 : Cond.instanceMethod ⟨"SeeSawHill$Past", "remember", "(LSeeSawHill$Hill;LSeeSawHill$Diary;)V"⟩ ∈ WALL := q_of (m_t2 (List.mem_of_getElem? (i := 138) rfl)) rfl
theorem q2_139 : Cond.selects "SeeSawHill$Past" ⟨"SeeSawHill$Past", "remember", "(LSeeSawHill$Hill;LSeeSawHill$Diary;)V"⟩ ⟨"SeeSawHill$Past", "remember", "(LSeeSawHill$Hill;LSeeSawHill$Diary;)V"⟩ ∈ WALL := q_of (m_t2 (List.mem_of_getElem? (i := 139) rfl)) rfl
theorem q2_14 : Cond.methodLink "SeeSawHill$Guess" 3 ⟨"java/lang/Object", "<init>", "()V"⟩ ∈ WALL := q_of (m_t2 (List.mem_of_getElem? (i := 14) rfl)) rfl
theorem q2_140 : Cond.code ⟨"SeeSawHill$Past", "remember", "(LSeeSawHill$Hill;LSeeSawHill$Diary;)V"⟩ prog_10_method_3_code 4 none ∈ WALL := q_of (m_t2 (List.mem_of_getElem? (i := 140) rfl)) rfl
theorem q2_141 : Cond.methodLink "SeeSawHill$Past" 32 ⟨"SeeSawHill$Hill", "copyFrom", "(LSeeSawHill$Hill;)V"⟩ ∈ WALL := q_of (m_t2 (List.mem_of_getElem? (i := 141) rfl)) rfl
theorem q2_142 : Cond.instanceMethod ⟨"SeeSawHill$Hill", "copyFrom", "(LSeeSawHill$Hill;)V"⟩ ∈ WALL := q_of (m_t2 (List.mem_of_getElem? (i := 142) rfl)) rfl
theorem q2_143 : Cond.selects "SeeSawHill$Hill" ⟨"SeeSawHill$Hill", "copyFrom", "(LSeeSawHill$Hill;)V"⟩ ⟨"SeeSawHill$Hill", "copyFrom", "(LSeeSawHill$Hill;)V"⟩ ∈ WALL := q_of (m_t2 (List.mem_of_getElem? (i := 143) rfl)) rfl
theorem q2_144 : Cond.code ⟨"SeeSawHill$Hill", "copyFrom", "(LSeeSawHill$Hill;)V"⟩ prog_5_method_2_code 3 none ∈ WALL := q_of (m_t2 (List.mem_of_getElem? (i := 144) rfl)) rfl
theorem q2_145 : Cond.methodLink "SeeSawHill$Hill" 74 ⟨"java/lang/System", "arraycopy", "(Ljava/lang/Object;ILjava/lang/Object;II)V"⟩ ∈ WALL := q_of (m_t2 (List.mem_of_getElem? (i := 145) rfl)) rfl
theorem q2_146 : Cond.static ⟨"java/lang/System", "arraycopy", "(Ljava/lang/Object;ILjava/lang/Object;II)V"⟩ ∈ WALL := q_of (m_t2 (List.mem_of_getElem? (i := 146) rfl)) rfl
theorem q2_147 : Cond.native ⟨"java/lang/System", "arraycopy", "(Ljava/lang/Object;ILjava/lang/Object;II)V"⟩ ∈ WALL := q_of (m_t2 (List.mem_of_getElem? (i := 147) rfl)) rfl
theorem q2_148 : Cond.methodLink "SeeSawHill$Past" 36 ⟨"SeeSawHill$Diary", "copyFrom", "(LSeeSawHill$Diary;)V"⟩ ∈ WALL := q_of (m_t2 (List.mem_of_getElem? (i := 148) rfl)) rfl
theorem q2_149 : Cond.instanceMethod ⟨"SeeSawHill$Diary", "copyFrom", "(LSeeSawHill$Diary;)V"⟩ ∈ WALL := q_of (m_t2 (List.mem_of_getElem? (i := 149) rfl)) rfl
theorem q2_15 : Cond.fieldLink "SeeSawHill$Guess" 9 "SeeSawHill$Guess" "fits" "I" ∈ WALL := q_of (m_t2 (List.mem_of_getElem? (i := 15) rfl)) rfl
theorem q2_150 : Cond.selects "SeeSawHill$Diary" ⟨"SeeSawHill$Diary", "copyFrom", "(LSeeSawHill$Diary;)V"⟩ ⟨"SeeSawHill$Diary", "copyFrom", "(LSeeSawHill$Diary;)V"⟩ ∈ WALL := q_of (m_t2 (List.mem_of_getElem? (i := 150) rfl)) rfl
theorem q2_151 : Cond.code ⟨"SeeSawHill$Diary", "copyFrom", "(LSeeSawHill$Diary;)V"⟩ prog_3_method_2_code 2 none ∈ WALL := q_of (m_t2 (List.mem_of_getElem? (i := 151) rfl)) rfl
theorem q2_152 : Cond.methodLink "SeeSawHill$Diary" 19 ⟨"java/lang/System", "arraycopy", "(Ljava/lang/Object;ILjava/lang/Object;II)V"⟩ ∈ WALL := q_of (m_t2 (List.mem_of_getElem? (i := 152) rfl)) rfl
theorem q2_153 : Cond.methodLink "SeeSawHill" 133 ⟨"SeeSawHill$Hill", "weigh", "()V"⟩ ∈ WALL := q_of (m_t2 (List.mem_of_getElem? (i := 153) rfl)) rfl
theorem q2_154 : Cond.instanceMethod ⟨"SeeSawHill$Hill", "weigh", "()V"⟩ ∈ WALL := q_of (m_t2 (List.mem_of_getElem? (i := 154) rfl)) rfl
theorem q2_155 : Cond.selects "SeeSawHill$Hill" ⟨"SeeSawHill$Hill", "weigh", "()V"⟩ ⟨"SeeSawHill$Hill", "weigh", "()V"⟩ ∈ WALL := q_of (m_t2 (List.mem_of_getElem? (i := 155) rfl)) rfl
theorem q2_156 : Cond.code ⟨"SeeSawHill$Hill", "weigh", "()V"⟩ prog_5_method_6_code 3 none ∈ WALL := q_of (m_t2 (List.mem_of_getElem? (i := 156) rfl)) rfl
theorem q2_157 : Cond.methodLink "SeeSawHill$Hill" 80 ⟨"SeeSawHill$Hill", "houses", "()I"⟩ ∈ WALL := q_of (m_t2 (List.mem_of_getElem? (i := 157) rfl)) rfl
theorem q2_158 : Cond.instanceMethod ⟨"SeeSawHill$Hill", "houses", "()I"⟩ ∈ WALL := q_of (m_t2 (List.mem_of_getElem? (i := 158) rfl)) rfl
theorem q2_159 : Cond.selects "SeeSawHill$Hill" ⟨"SeeSawHill$Hill", "houses", "()I"⟩ ⟨"SeeSawHill$Hill", "houses", "()I"⟩ ∈ WALL := q_of (m_t2 (List.mem_of_getElem? (i := 159) rfl)) rfl
theorem q2_16 : Cond.fieldLink "SeeSawHill" 313 "SeeSawHill$Guess" "fits" "I" ∈ WALL := q_of (m_t2 (List.mem_of_getElem? (i := 16) rfl)) rfl
theorem q2_160 : Cond.code ⟨"SeeSawHill$Hill", "houses", "()I"⟩ prog_5_method_3_code 1 (some .int) ∈ WALL := q_of (m_t2 (List.mem_of_getElem? (i := 160) rfl)) rfl
theorem q2_161 : Cond.methodLink "SeeSawHill$Hill" 84 ⟨"SeeSawHill$Hill", "tiltOf", "(I)I"⟩ ∈ WALL := q_of (m_t2 (List.mem_of_getElem? (i := 161) rfl)) rfl
theorem q2_162 : Cond.instanceMethod ⟨"SeeSawHill$Hill", "tiltOf", "(I)I"⟩ ∈ WALL := q_of (m_t2 (List.mem_of_getElem? (i := 162) rfl)) rfl
theorem q2_163 : Cond.selects "SeeSawHill$Hill" ⟨"SeeSawHill$Hill", "tiltOf", "(I)I"⟩ ⟨"SeeSawHill$Hill", "tiltOf", "(I)I"⟩ ∈ WALL := q_of (m_t2 (List.mem_of_getElem? (i := 163) rfl)) rfl
theorem q2_164 : Cond.code ⟨"SeeSawHill$Hill", "tiltOf", "(I)I"⟩ prog_5_method_7_code 2 (some .int) ∈ WALL := q_of (m_t2 (List.mem_of_getElem? (i := 164) rfl)) rfl
theorem q2_165 : Cond.methodLink "SeeSawHill$Hill" 88 ⟨"SeeSawHill$Hill", "leaning", "(II)I"⟩ ∈ WALL := q_of (m_t2 (List.mem_of_getElem? (i := 165) rfl)) rfl
theorem q2_166 : Cond.instanceMethod ⟨"SeeSawHill$Hill", "leaning", "(II)I"⟩ ∈ WALL := q_of (m_t2 (List.mem_of_getElem? (i := 166) rfl)) rfl
theorem q2_167 : Cond.selects "SeeSawHill$Hill" ⟨"SeeSawHill$Hill", "leaning", "(II)I"⟩ ⟨"SeeSawHill$Hill", "leaning", "(II)I"⟩ ∈ WALL := q_of (m_t2 (List.mem_of_getElem? (i := 167) rfl)) rfl
theorem q2_168 : Cond.code ⟨"SeeSawHill$Hill", "leaning", "(II)I"⟩ prog_5_method_8_code 4 (some .int) ∈ WALL := q_of (m_t2 (List.mem_of_getElem? (i := 168) rfl)) rfl
theorem q2_169 : Cond.methodLink "SeeSawHill$Hill" 92 ⟨"java/lang/Math", "min", "(II)I"⟩ ∈ WALL := q_of (m_t2 (List.mem_of_getElem? (i := 169) rfl)) rfl
theorem q2_17 : Cond.fieldLink "SeeSawHill$Guess" 15 "SeeSawHill$Guess" "inAll" "I" ∈ WALL := q_of (m_t2 (List.mem_of_getElem? (i := 17) rfl)) rfl
theorem q2_170 : Cond.static ⟨"java/lang/Math", "min", "(II)I"⟩ ∈ WALL := q_of (m_t2 (List.mem_of_getElem? (i := 170) rfl)) rfl
theorem q2_172 : Cond.methodLink "SeeSawHill$Hill" 97 ⟨"java/lang/Math", "max", "(II)I"⟩ ∈ WALL := q_of (m_t2 (List.mem_of_getElem? (i := 172) rfl)) rfl
theorem q2_173 : Cond.static ⟨"java/lang/Math", "max", "(II)I"⟩ ∈ WALL := q_of (m_t2 (List.mem_of_getElem? (i := 173) rfl)) rfl
theorem q2_175 : Cond.methodLink "SeeSawHillLaw" 175 ⟨"SeeSawHill", "view", "()I"⟩ ∈ WALL := q_of (m_t2 (List.mem_of_getElem? (i := 175) rfl)) rfl
theorem q2_176 : Cond.instanceMethod ⟨"SeeSawHill", "view", "()I"⟩ ∈ WALL := q_of (m_t2 (List.mem_of_getElem? (i := 176) rfl)) rfl
theorem q2_177 : Cond.selects "SeeSawHill" ⟨"SeeSawHill", "view", "()I"⟩ ⟨"SeeSawHill", "view", "()I"⟩ ∈ WALL := q_of (m_t2 (List.mem_of_getElem? (i := 177) rfl)) rfl
theorem q2_178 : Cond.code ⟨"SeeSawHill", "view", "()I"⟩ prog_1_method_23_code 3 (some .int) ∈ WALL := q_of (m_t2 (List.mem_of_getElem? (i := 178) rfl)) rfl
theorem q2_179 : Cond.methodLink "SeeSawHill" 155 ⟨"SeeSawHill$Hill", "houses", "()I"⟩ ∈ WALL := q_of (m_t2 (List.mem_of_getElem? (i := 179) rfl)) rfl
theorem q2_18 : Cond.fieldLink "SeeSawHill" 310 "SeeSawHill$Guess" "inAll" "I" ∈ WALL := q_of (m_t2 (List.mem_of_getElem? (i := 18) rfl)) rfl
theorem q2_180 : Cond.methodLink "SeeSawHillLaw" 179 ⟨"SeeSawHill", "well", "()I"⟩ ∈ WALL := q_of (m_t2 (List.mem_of_getElem? (i := 180) rfl)) rfl
theorem q2_181 : Cond.instanceMethod ⟨"SeeSawHill", "well", "()I"⟩ ∈ WALL := q_of (m_t2 (List.mem_of_getElem? (i := 181) rfl)) rfl
theorem q2_182 : Cond.selects "SeeSawHill" ⟨"SeeSawHill", "well", "()I"⟩ ⟨"SeeSawHill", "well", "()I"⟩ ∈ WALL := q_of (m_t2 (List.mem_of_getElem? (i := 182) rfl)) rfl
theorem q2_183 : Cond.code ⟨"SeeSawHill", "well", "()I"⟩ prog_1_method_24_code 3 (some .int) ∈ WALL := q_of (m_t2 (List.mem_of_getElem? (i := 183) rfl)) rfl
theorem q2_184 : Cond.methodLink "SeeSawHillLaw" 183 ⟨"SeeSawHill", "twins", "()I"⟩ ∈ WALL := q_of (m_t2 (List.mem_of_getElem? (i := 184) rfl)) rfl
theorem q2_185 : Cond.instanceMethod ⟨"SeeSawHill", "twins", "()I"⟩ ∈ WALL := q_of (m_t2 (List.mem_of_getElem? (i := 185) rfl)) rfl
theorem q2_186 : Cond.selects "SeeSawHill" ⟨"SeeSawHill", "twins", "()I"⟩ ⟨"SeeSawHill", "twins", "()I"⟩ ∈ WALL := q_of (m_t2 (List.mem_of_getElem? (i := 186) rfl)) rfl
theorem q2_187 : Cond.code ⟨"SeeSawHill", "twins", "()I"⟩ prog_1_method_25_code 5 (some .int) ∈ WALL := q_of (m_t2 (List.mem_of_getElem? (i := 187) rfl)) rfl
theorem q2_188 : Cond.methodLink "SeeSawHill" 178 ⟨"SeeSawHill$Hill", "tiltOf", "(I)I"⟩ ∈ WALL := q_of (m_t2 (List.mem_of_getElem? (i := 188) rfl)) rfl
theorem q2_189 : Cond.methodLink "SeeSawHillLaw" 203 ⟨"SeeSawHill", "last", "()I"⟩ ∈ WALL := q_of (m_t2 (List.mem_of_getElem? (i := 189) rfl)) rfl
theorem q2_19 : Cond.fieldLink "SeeSawHill$Guess" 18 "SeeSawHill$Guess" "weights" "[I" ∈ WALL := q_of (m_t2 (List.mem_of_getElem? (i := 19) rfl)) rfl
theorem q2_190 : Cond.instanceMethod ⟨"SeeSawHill", "last", "()I"⟩ ∈ WALL := q_of (m_t2 (List.mem_of_getElem? (i := 190) rfl)) rfl
theorem q2_191 : Cond.selects "SeeSawHill" ⟨"SeeSawHill", "last", "()I"⟩ ⟨"SeeSawHill", "last", "()I"⟩ ∈ WALL := q_of (m_t2 (List.mem_of_getElem? (i := 191) rfl)) rfl
theorem q2_192 : Cond.code ⟨"SeeSawHill", "last", "()I"⟩ prog_1_method_32_code 5 (some .int) ∈ WALL := q_of (m_t2 (List.mem_of_getElem? (i := 192) rfl)) rfl
theorem q2_193 : Cond.methodLink "SeeSawHill" 279 ⟨"SeeSawHill", "weeksToBreak", "(I)I"⟩ ∈ WALL := q_of (m_t2 (List.mem_of_getElem? (i := 193) rfl)) rfl
theorem q2_195 : Cond.instanceMethod ⟨"SeeSawHill", "weeksToBreak", "(I)I"⟩ ∈ WALL := q_of (m_t2 (List.mem_of_getElem? (i := 195) rfl)) rfl
theorem q2_196 : Cond.code ⟨"SeeSawHill", "weeksToBreak", "(I)I"⟩ prog_1_method_30_code 3 (some .int) ∈ WALL := q_of (m_t2 (List.mem_of_getElem? (i := 196) rfl)) rfl
theorem q2_197 : Cond.methodLink "SeeSawHill" 120 ⟨"SeeSawHill$Hill", "copyFrom", "(LSeeSawHill$Hill;)V"⟩ ∈ WALL := q_of (m_t2 (List.mem_of_getElem? (i := 197) rfl)) rfl
theorem q2_198 : Cond.methodLink "SeeSawHill" 282 ⟨"SeeSawHill$Hill", "growOld", "(LSeeSawHill$Law;I)V"⟩ ∈ WALL := q_of (m_t2 (List.mem_of_getElem? (i := 198) rfl)) rfl
theorem q2_199 : Cond.instanceMethod ⟨"SeeSawHill$Hill", "growOld", "(LSeeSawHill$Law;I)V"⟩ ∈ WALL := q_of (m_t2 (List.mem_of_getElem? (i := 199) rfl)) rfl
theorem q2_2 : Cond.fieldLink "SeeSawHill$LawReader" 9 "SeeSawHill$LawReader" "law" "LSeeSawHill$Law;" ∈ WALL := q_of (m_t2 (List.mem_of_getElem? (i := 2) rfl)) rfl
theorem q2_20 : Cond.fieldLink "SeeSawHill$Guess" 22 "SeeSawHill$Guess" "parts" "[I" ∈ WALL := q_of (m_t2 (List.mem_of_getElem? (i := 20) rfl)) rfl
theorem q2_200 : Cond.selects "SeeSawHill$Hill" ⟨"SeeSawHill$Hill", "growOld", "(LSeeSawHill$Law;I)V"⟩ ⟨"SeeSawHill$Hill", "growOld", "(LSeeSawHill$Law;I)V"⟩ ∈ WALL := q_of (m_t2 (List.mem_of_getElem? (i := 200) rfl)) rfl
theorem q2_201 : Cond.code ⟨"SeeSawHill$Hill", "growOld", "(LSeeSawHill$Law;I)V"⟩ prog_5_method_27_code 3 none ∈ WALL := q_of (m_t2 (List.mem_of_getElem? (i := 201) rfl)) rfl
theorem q2_202 : Cond.methodLink "SeeSawHill$Hill" 145 ⟨"SeeSawHill$Hill", "agesBy", "(LSeeSawHill$Law;I)I"⟩ ∈ WALL := q_of (m_t2 (List.mem_of_getElem? (i := 202) rfl)) rfl
theorem q2_203 : Cond.instanceMethod ⟨"SeeSawHill$Hill", "agesBy", "(LSeeSawHill$Law;I)I"⟩ ∈ WALL := q_of (m_t2 (List.mem_of_getElem? (i := 203) rfl)) rfl
theorem q2_204 : Cond.selects "SeeSawHill$Hill" ⟨"SeeSawHill$Hill", "agesBy", "(LSeeSawHill$Law;I)I"⟩ ⟨"SeeSawHill$Hill", "agesBy", "(LSeeSawHill$Law;I)I"⟩ ∈ WALL := q_of (m_t2 (List.mem_of_getElem? (i := 204) rfl)) rfl
theorem q2_205 : Cond.code ⟨"SeeSawHill$Hill", "agesBy", "(LSeeSawHill$Law;I)I"⟩ prog_5_method_14_code 3 (some .int) ∈ WALL := q_of (m_t2 (List.mem_of_getElem? (i := 205) rfl)) rfl
theorem q2_206 : Cond.methodLink "SeeSawHill$Hill" 100 ⟨"SeeSawHill$Law", "sumOf", "(ILSeeSawHill$Hill;I)I"⟩ ∈ WALL := q_of (m_t2 (List.mem_of_getElem? (i := 206) rfl)) rfl
theorem q2_207 : Cond.instanceMethod ⟨"SeeSawHill$Law", "sumOf", "(ILSeeSawHill$Hill;I)I"⟩ ∈ WALL := q_of (m_t2 (List.mem_of_getElem? (i := 207) rfl)) rfl
theorem q2_208 : Cond.selects "SeeSawHill$Law" ⟨"SeeSawHill$Law", "sumOf", "(ILSeeSawHill$Hill;I)I"⟩ ⟨"SeeSawHill$Law", "sumOf", "(ILSeeSawHill$Hill;I)I"⟩ ∈ WALL := q_of (m_t2 (List.mem_of_getElem? (i := 208) rfl)) rfl
theorem q2_209 : Cond.code ⟨"SeeSawHill$Law", "sumOf", "(ILSeeSawHill$Hill;I)I"⟩ prog_7_method_6_code 8 (some .int) ∈ WALL := q_of (m_t2 (List.mem_of_getElem? (i := 209) rfl)) rfl
theorem q2_210 : Cond.methodLink "SeeSawHill$Law" 40 ⟨"SeeSawHill$Law", "holds", "(IILSeeSawHill$Hill;I)Z"⟩ ∈ WALL := q_of (m_t2 (List.mem_of_getElem? (i := 210) rfl)) rfl
theorem q2_212 : Cond.instanceMethod ⟨"SeeSawHill$Law", "holds", "(IILSeeSawHill$Hill;I)Z"⟩ ∈ WALL := q_of (m_t2 (List.mem_of_getElem? (i := 212) rfl)) rfl
theorem q2_213 : Cond.code ⟨"SeeSawHill$Law", "holds", "(IILSeeSawHill$Hill;I)Z"⟩ prog_7_method_7_code 8 (some .boolean) ∈ WALL := q_of (m_t2 (List.mem_of_getElem? (i := 213) rfl)) rfl
theorem q2_214 : Cond.methodLink "SeeSawHill$Law" 44 ⟨"SeeSawHill$Law", "joins", "(I)Z"⟩ ∈ WALL := q_of (m_t2 (List.mem_of_getElem? (i := 214) rfl)) rfl
theorem q2_215 : Cond.static ⟨"SeeSawHill$Law", "joins", "(I)Z"⟩ ∈ WALL := q_of (m_t2 (List.mem_of_getElem? (i := 215) rfl)) rfl
theorem q2_216 : Cond.code ⟨"SeeSawHill$Law", "joins", "(I)Z"⟩ prog_7_method_8_code 1 (some .boolean) ∈ WALL := q_of (m_t2 (List.mem_of_getElem? (i := 216) rfl)) rfl
theorem q2_217 : Cond.methodLink "SeeSawHill$Law" 48 ⟨"SeeSawHill$Law", "joined", "(III)I"⟩ ∈ WALL := q_of (m_t2 (List.mem_of_getElem? (i := 217) rfl)) rfl
theorem q2_218 : Cond.static ⟨"SeeSawHill$Law", "joined", "(III)I"⟩ ∈ WALL := q_of (m_t2 (List.mem_of_getElem? (i := 218) rfl)) rfl
theorem q2_219 : Cond.code ⟨"SeeSawHill$Law", "joined", "(III)I"⟩ prog_7_method_9_code 3 (some .int) ∈ WALL := q_of (m_t2 (List.mem_of_getElem? (i := 219) rfl)) rfl
theorem q2_220 : Cond.methodLink "SeeSawHill$Law" 52 ⟨"SeeSawHill$Hill", "fact", "(II)I"⟩ ∈ WALL := q_of (m_t2 (List.mem_of_getElem? (i := 220) rfl)) rfl
theorem q2_221 : Cond.instanceMethod ⟨"SeeSawHill$Hill", "fact", "(II)I"⟩ ∈ WALL := q_of (m_t2 (List.mem_of_getElem? (i := 221) rfl)) rfl
theorem q2_222 : Cond.selects "SeeSawHill$Hill" ⟨"SeeSawHill$Hill", "fact", "(II)I"⟩ ⟨"SeeSawHill$Hill", "fact", "(II)I"⟩ ∈ WALL := q_of (m_t2 (List.mem_of_getElem? (i := 222) rfl)) rfl
theorem q2_223 : Cond.code ⟨"SeeSawHill$Hill", "fact", "(II)I"⟩ prog_5_method_11_code 3 (some .int) ∈ WALL := q_of (m_t2 (List.mem_of_getElem? (i := 223) rfl)) rfl
theorem q2_224 : Cond.methodLink "SeeSawHill$Hill" 148 ⟨"SeeSawHill$Hill", "bearsMore", "(I)I"⟩ ∈ WALL := q_of (m_t2 (List.mem_of_getElem? (i := 224) rfl)) rfl
theorem q2_225 : Cond.instanceMethod ⟨"SeeSawHill$Hill", "bearsMore", "(I)I"⟩ ∈ WALL := q_of (m_t2 (List.mem_of_getElem? (i := 225) rfl)) rfl
theorem q2_226 : Cond.selects "SeeSawHill$Hill" ⟨"SeeSawHill$Hill", "bearsMore", "(I)I"⟩ ⟨"SeeSawHill$Hill", "bearsMore", "(I)I"⟩ ∈ WALL := q_of (m_t2 (List.mem_of_getElem? (i := 226) rfl)) rfl
theorem q2_227 : Cond.code ⟨"SeeSawHill$Hill", "bearsMore", "(I)I"⟩ prog_5_method_10_code 2 (some .int) ∈ WALL := q_of (m_t2 (List.mem_of_getElem? (i := 227) rfl)) rfl
theorem q2_228 : Cond.methodLink "SeeSawHill" 286 ⟨"SeeSawHill$Hill", "turnWeek", "()V"⟩ ∈ WALL := q_of (m_t2 (List.mem_of_getElem? (i := 228) rfl)) rfl
theorem q2_229 : Cond.instanceMethod ⟨"SeeSawHill$Hill", "turnWeek", "()V"⟩ ∈ WALL := q_of (m_t2 (List.mem_of_getElem? (i := 229) rfl)) rfl
theorem q2_230 : Cond.selects "SeeSawHill$Hill" ⟨"SeeSawHill$Hill", "turnWeek", "()V"⟩ ⟨"SeeSawHill$Hill", "turnWeek", "()V"⟩ ∈ WALL := q_of (m_t2 (List.mem_of_getElem? (i := 230) rfl)) rfl
theorem q2_231 : Cond.code ⟨"SeeSawHill$Hill", "turnWeek", "()V"⟩ prog_5_method_29_code 1 none ∈ WALL := q_of (m_t2 (List.mem_of_getElem? (i := 231) rfl)) rfl
theorem q2_232 : Cond.methodLink "SeeSawHill$Hill" 116 ⟨"SeeSawHill$Hill", "weigh", "()V"⟩ ∈ WALL := q_of (m_t2 (List.mem_of_getElem? (i := 232) rfl)) rfl
theorem q2_233 : Cond.methodLink "SeeSawHillLaw" 219 ⟨"SeeSawHill", "thief", "()I"⟩ ∈ WALL := q_of (m_t2 (List.mem_of_getElem? (i := 233) rfl)) rfl
theorem q2_234 : Cond.instanceMethod ⟨"SeeSawHill", "thief", "()I"⟩ ∈ WALL := q_of (m_t2 (List.mem_of_getElem? (i := 234) rfl)) rfl
theorem q2_235 : Cond.selects "SeeSawHill" ⟨"SeeSawHill", "thief", "()I"⟩ ⟨"SeeSawHill", "thief", "()I"⟩ ∈ WALL := q_of (m_t2 (List.mem_of_getElem? (i := 235) rfl)) rfl
theorem q2_236 : Cond.code ⟨"SeeSawHill", "thief", "()I"⟩ prog_1_method_38_code 1 (some .int) ∈ WALL := q_of (m_t2 (List.mem_of_getElem? (i := 236) rfl)) rfl
theorem q2_237 : Cond.methodLink "SeeSawHill" 330 ⟨"SeeSawHill$Hill", "luredTo", "(LSeeSawHill$Law;I)I"⟩ ∈ WALL := q_of (m_t2 (List.mem_of_getElem? (i := 237) rfl)) rfl
theorem q2_238 : Cond.instanceMethod ⟨"SeeSawHill$Hill", "luredTo", "(LSeeSawHill$Law;I)I"⟩ ∈ WALL := q_of (m_t2 (List.mem_of_getElem? (i := 238) rfl)) rfl
theorem q2_239 : Cond.selects "SeeSawHill$Hill" ⟨"SeeSawHill$Hill", "luredTo", "(LSeeSawHill$Law;I)I"⟩ ⟨"SeeSawHill$Hill", "luredTo", "(LSeeSawHill$Law;I)I"⟩ ∈ WALL := q_of (m_t2 (List.mem_of_getElem? (i := 239) rfl)) rfl
theorem q2_30 : Cond.classLink "SeeSawHill" 85 "SeeSawHill$Past" ∈ WALL := q_of (m_t2 (List.mem_of_getElem? (i := 30) rfl)) rfl
theorem q2_31 : Cond.instantiable "SeeSawHill$Past" 4 ∈ WALL := q_of (m_t2 (List.mem_of_getElem? (i := 31) rfl)) rfl
theorem q2_32 : Cond.methodLink "SeeSawHill" 87 ⟨"SeeSawHill$Past", "<init>", "()V"⟩ ∈ WALL := q_of (m_t2 (List.mem_of_getElem? (i := 32) rfl)) rfl
theorem q2_33 : Cond.instanceMethod ⟨"SeeSawHill$Past", "<init>", "()V"⟩ ∈ WALL := q_of (m_t2 (List.mem_of_getElem? (i := 33) rfl)) rfl
theorem q2_34 : Cond.code ⟨"SeeSawHill$Past", "<init>", "()V"⟩ prog_10_method_1_code 2 none ∈ WALL := q_of (m_t2 (List.mem_of_getElem? (i := 34) rfl)) rfl
theorem q2_35 : Cond.methodLink "SeeSawHill$Past" 3 ⟨"java/lang/Object", "<init>", "()V"⟩ ∈ WALL := q_of (m_t2 (List.mem_of_getElem? (i := 35) rfl)) rfl
theorem q2_36 : Cond.classLink "SeeSawHill$Past" 18 "SeeSawHill$Hill" ∈ WALL := q_of (m_t2 (List.mem_of_getElem? (i := 36) rfl)) rfl
theorem q2_38 : Cond.classLink "SeeSawHill$Past" 24 "SeeSawHill$Diary" ∈ WALL := q_of (m_t2 (List.mem_of_getElem? (i := 38) rfl)) rfl
theorem q2_40 : Cond.methodLink "SeeSawHill$Past" 30 ⟨"SeeSawHill$Hill", "<init>", "()V"⟩ ∈ WALL := q_of (m_t2 (List.mem_of_getElem? (i := 40) rfl)) rfl
theorem q2_41 : Cond.methodLink "SeeSawHill$Past" 31 ⟨"SeeSawHill$Diary", "<init>", "()V"⟩ ∈ WALL := q_of (m_t2 (List.mem_of_getElem? (i := 41) rfl)) rfl
theorem q2_42 : Cond.fieldLink "SeeSawHill$Past" 9 "SeeSawHill$Past" "size" "I" ∈ WALL := q_of (m_t2 (List.mem_of_getElem? (i := 42) rfl)) rfl
theorem q2_43 : Cond.fieldLink "SeeSawHill" 403 "SeeSawHill$Past" "size" "I" ∈ WALL := q_of (m_t2 (List.mem_of_getElem? (i := 43) rfl)) rfl
theorem q2_44 : Cond.fieldLink "SeeSawHill$Past" 15 "SeeSawHill$Past" "first" "I" ∈ WALL := q_of (m_t2 (List.mem_of_getElem? (i := 44) rfl)) rfl
theorem q2_45 : Cond.fieldLink "SeeSawHill$Past" 20 "SeeSawHill$Past" "hills" "[LSeeSawHill$Hill;" ∈ WALL := q_of (m_t2 (List.mem_of_getElem? (i := 45) rfl)) rfl
theorem q2_46 : Cond.fieldLink "SeeSawHill$Past" 26 "SeeSawHill$Past" "diaries" "[LSeeSawHill$Diary;" ∈ WALL := q_of (m_t2 (List.mem_of_getElem? (i := 46) rfl)) rfl
theorem q2_56 : Cond.fieldLink "SeeSawHill" 9 "SeeSawHill" "tape" "[B" ∈ WALL := q_of (m_t2 (List.mem_of_getElem? (i := 56) rfl)) rfl
theorem q2_57 : Cond.fieldLink "SeeSawHill" 13 "SeeSawHill" "fed" "I" ∈ WALL := q_of (m_t2 (List.mem_of_getElem? (i := 57) rfl)) rfl
theorem q2_58 : Cond.fieldLink "SeeSawHill" 17 "SeeSawHill" "wrongAt" "I" ∈ WALL := q_of (m_t2 (List.mem_of_getElem? (i := 58) rfl)) rfl
theorem q2_59 : Cond.fieldLink "SeeSawHill" 23 "SeeSawHill" "tokens" "LSeeSawHill$Tokens;" ∈ WALL := q_of (m_t2 (List.mem_of_getElem? (i := 59) rfl)) rfl
theorem q2_60 : Cond.fieldLink "SeeSawHill" 65 "SeeSawHill" "hillReader" "LSeeSawHill$HillReader;" ∈ WALL := q_of (m_t2 (List.mem_of_getElem? (i := 60) rfl)) rfl
theorem q2_61 : Cond.fieldLink "SeeSawHill" 74 "SeeSawHill" "lawReader" "LSeeSawHill$LawReader;" ∈ WALL := q_of (m_t2 (List.mem_of_getElem? (i := 61) rfl)) rfl
theorem q2_62 : Cond.fieldLink "SeeSawHill" 27 "SeeSawHill" "texts" "I" ∈ WALL := q_of (m_t2 (List.mem_of_getElem? (i := 62) rfl)) rfl
theorem q2_63 : Cond.fieldLink "SeeSawHill" 33 "SeeSawHill" "now" "LSeeSawHill$Hill;" ∈ WALL := q_of (m_t2 (List.mem_of_getElem? (i := 63) rfl)) rfl
theorem q2_64 : Cond.fieldLink "SeeSawHill" 40 "SeeSawHill" "rules" "LSeeSawHill$Law;" ∈ WALL := q_of (m_t2 (List.mem_of_getElem? (i := 64) rfl)) rfl
theorem q2_65 : Cond.fieldLink "SeeSawHill" 47 "SeeSawHill" "diary" "LSeeSawHill$Diary;" ∈ WALL := q_of (m_t2 (List.mem_of_getElem? (i := 65) rfl)) rfl
theorem q2_66 : Cond.fieldLink "SeeSawHill" 51 "SeeSawHill" "spare" "LSeeSawHill$Hill;" ∈ WALL := q_of (m_t2 (List.mem_of_getElem? (i := 66) rfl)) rfl
theorem q2_67 : Cond.fieldLink "SeeSawHill" 54 "SeeSawHill" "draft" "LSeeSawHill$Law;" ∈ WALL := q_of (m_t2 (List.mem_of_getElem? (i := 67) rfl)) rfl
theorem q2_68 : Cond.fieldLink "SeeSawHill" 57 "SeeSawHill" "spareDiary" "LSeeSawHill$Diary;" ∈ WALL := q_of (m_t2 (List.mem_of_getElem? (i := 68) rfl)) rfl
theorem q2_69 : Cond.fieldLink "SeeSawHill" 81 "SeeSawHill" "guess" "LSeeSawHill$Guess;" ∈ WALL := q_of (m_t2 (List.mem_of_getElem? (i := 69) rfl)) rfl
theorem q2_70 : Cond.fieldLink "SeeSawHill" 88 "SeeSawHill" "past" "LSeeSawHill$Past;" ∈ WALL := q_of (m_t2 (List.mem_of_getElem? (i := 70) rfl)) rfl
theorem q2_71 : Cond.fieldLink "SeeSawHill" 92 "SeeSawHill" "imaged" "Z" ∈ WALL := q_of (m_t2 (List.mem_of_getElem? (i := 71) rfl)) rfl
theorem q2_72 : Cond.fieldLink "SeeSawHill" 96 "SeeSawHill" "imageTexts" "I" ∈ WALL := q_of (m_t2 (List.mem_of_getElem? (i := 72) rfl)) rfl
theorem q2_73 : Cond.fieldLink "SeeSawHill" 99 "SeeSawHill" "imageHill" "LSeeSawHill$Hill;" ∈ WALL := q_of (m_t2 (List.mem_of_getElem? (i := 73) rfl)) rfl
theorem q2_74 : Cond.fieldLink "SeeSawHill" 102 "SeeSawHill" "imageRules" "LSeeSawHill$Law;" ∈ WALL := q_of (m_t2 (List.mem_of_getElem? (i := 74) rfl)) rfl
theorem q2_75 : Cond.fieldLink "SeeSawHill" 105 "SeeSawHill" "imageDiary" "LSeeSawHill$Diary;" ∈ WALL := q_of (m_t2 (List.mem_of_getElem? (i := 75) rfl)) rfl
theorem q2_9 : Cond.classLink "SeeSawHill" 78 "SeeSawHill$Guess" ∈ WALL := q_of (m_t2 (List.mem_of_getElem? (i := 9) rfl)) rfl
theorem q3_0 : Cond.code ⟨"SeeSawHill$Hill", "luredTo", "(LSeeSawHill$Law;I)I"⟩ prog_5_method_30_code 7 (some .int) ∈ WALL := q_of (m_t3 (List.mem_of_getElem? (i := 0) rfl)) rfl
theorem q3_1 : Cond.methodLink "SeeSawHill$Hill" 151 ⟨"SeeSawHill$Hill", "luresBy", "(LSeeSawHill$Law;I)I"⟩ ∈ WALL := q_of (m_t3 (List.mem_of_getElem? (i := 1) rfl)) rfl
theorem q3_10 : Cond.instanceMethod ⟨"SeeSawHill", "poor", "()I"⟩ ∈ WALL := q_of (m_t3 (List.mem_of_getElem? (i := 10) rfl)) rfl
theorem q3_100 : Cond.selects "SeeSawHill" ⟨"SeeSawHill", "hill", "()I"⟩ ⟨"SeeSawHill", "hill", "()I"⟩ ∈ WALL := q_of (m_t3 (List.mem_of_getElem? (i := 100) rfl)) rfl
theorem q3_101 : Cond.code ⟨"SeeSawHill", "hill", "()I"⟩ prog_1_method_6_code 1 (some .int) ∈ WALL := q_of (m_t3 (List.mem_of_getElem? (i := 101) rfl)) rfl
theorem q3_102 : Cond.methodLink "SeeSawHill" 112 ⟨"SeeSawHill", "useTapeUp", "()I"⟩ ∈ WALL := q_of (m_t3 (List.mem_of_getElem? (i := 102) rfl)) rfl
theorem q3_104 : Cond.instanceMethod ⟨"SeeSawHill", "useTapeUp", "()I"⟩ ∈ WALL := q_of (m_t3 (List.mem_of_getElem? (i := 104) rfl)) rfl
theorem q3_105 : Cond.code ⟨"SeeSawHill", "useTapeUp", "()I"⟩ prog_1_method_5_code 2 (some .int) ∈ WALL := q_of (m_t3 (List.mem_of_getElem? (i := 105) rfl)) rfl
theorem q3_106 : Cond.methodLink "SeeSawHill" 116 ⟨"SeeSawHill$Tokens", "split", "([BI)V"⟩ ∈ WALL := q_of (m_t3 (List.mem_of_getElem? (i := 106) rfl)) rfl
theorem q3_107 : Cond.instanceMethod ⟨"SeeSawHill$Tokens", "split", "([BI)V"⟩ ∈ WALL := q_of (m_t3 (List.mem_of_getElem? (i := 107) rfl)) rfl
theorem q3_108 : Cond.selects "SeeSawHill$Tokens" ⟨"SeeSawHill$Tokens", "split", "([BI)V"⟩ ⟨"SeeSawHill$Tokens", "split", "([BI)V"⟩ ∈ WALL := q_of (m_t3 (List.mem_of_getElem? (i := 108) rfl)) rfl
theorem q3_109 : Cond.code ⟨"SeeSawHill$Tokens", "split", "([BI)V"⟩ prog_12_method_2_code 5 none ∈ WALL := q_of (m_t3 (List.mem_of_getElem? (i := 109) rfl)) rfl
theorem q3_11 : Cond.selects "SeeSawHill" ⟨"SeeSawHill", "poor", "()I"⟩ ⟨"SeeSawHill", "poor", "()I"⟩ ∈ WALL := q_of (m_t3 (List.mem_of_getElem? (i := 11) rfl)) rfl
theorem q3_110 : Cond.methodLink "SeeSawHill$Tokens" 25 ⟨"SeeSawHill$Tokens", "addFrom", "([BII)I"⟩ ∈ WALL := q_of (m_t3 (List.mem_of_getElem? (i := 110) rfl)) rfl
theorem q3_112 : Cond.instanceMethod ⟨"SeeSawHill$Tokens", "addFrom", "([BII)I"⟩ ∈ WALL := q_of (m_t3 (List.mem_of_getElem? (i := 112) rfl)) rfl
theorem q3_113 : Cond.code ⟨"SeeSawHill$Tokens", "addFrom", "([BII)I"⟩ prog_12_method_3_code 7 (some .int) ∈ WALL := q_of (m_t3 (List.mem_of_getElem? (i := 113) rfl)) rfl
theorem q3_114 : Cond.methodLink "SeeSawHill$Tokens" 33 ⟨"SeeSawHill$Tokens", "isLetter", "(I)Z"⟩ ∈ WALL := q_of (m_t3 (List.mem_of_getElem? (i := 114) rfl)) rfl
theorem q3_115 : Cond.static ⟨"SeeSawHill$Tokens", "isLetter", "(I)Z"⟩ ∈ WALL := q_of (m_t3 (List.mem_of_getElem? (i := 115) rfl)) rfl
theorem q3_116 : Cond.code ⟨"SeeSawHill$Tokens", "isLetter", "(I)Z"⟩ prog_12_method_4_code 1 (some .boolean) ∈ WALL := q_of (m_t3 (List.mem_of_getElem? (i := 116) rfl)) rfl
theorem q3_117 : Cond.methodLink "SeeSawHill$Tokens" 37 ⟨"SeeSawHill$Tokens", "lettersEnd", "([BII)I"⟩ ∈ WALL := q_of (m_t3 (List.mem_of_getElem? (i := 117) rfl)) rfl
theorem q3_118 : Cond.static ⟨"SeeSawHill$Tokens", "lettersEnd", "([BII)I"⟩ ∈ WALL := q_of (m_t3 (List.mem_of_getElem? (i := 118) rfl)) rfl
theorem q3_119 : Cond.code ⟨"SeeSawHill$Tokens", "lettersEnd", "([BII)I"⟩ prog_12_method_6_code 4 (some .int) ∈ WALL := q_of (m_t3 (List.mem_of_getElem? (i := 119) rfl)) rfl
theorem q3_12 : Cond.code ⟨"SeeSawHill", "poor", "()I"⟩ prog_1_method_44_code 3 (some .int) ∈ WALL := q_of (m_t3 (List.mem_of_getElem? (i := 12) rfl)) rfl
theorem q3_120 : Cond.methodLink "SeeSawHill$Tokens" 40 ⟨"SeeSawHill$Tokens", "wordCode", "([BII)I"⟩ ∈ WALL := q_of (m_t3 (List.mem_of_getElem? (i := 120) rfl)) rfl
theorem q3_121 : Cond.static ⟨"SeeSawHill$Tokens", "wordCode", "([BII)I"⟩ ∈ WALL := q_of (m_t3 (List.mem_of_getElem? (i := 121) rfl)) rfl
theorem q3_122 : Cond.code ⟨"SeeSawHill$Tokens", "wordCode", "([BII)I"⟩ prog_12_method_9_code 8 (some .int) ∈ WALL := q_of (m_t3 (List.mem_of_getElem? (i := 122) rfl)) rfl
theorem q3_124 : Cond.methodLink "SeeSawHill$Tokens" 54 ⟨"java/lang/String", "length", "()I"⟩ ∈ WALL := q_of (m_t3 (List.mem_of_getElem? (i := 124) rfl)) rfl
theorem q3_125 : Cond.instanceMethod ⟨"java/lang/String", "length", "()I"⟩ ∈ WALL := q_of (m_t3 (List.mem_of_getElem? (i := 125) rfl)) rfl
theorem q3_126 : Cond.selects "java/lang/String" ⟨"java/lang/String", "length", "()I"⟩ ⟨"java/lang/String", "length", "()I"⟩ ∈ WALL := q_of (m_t3 (List.mem_of_getElem? (i := 126) rfl)) rfl
theorem q3_127 : Cond.code ⟨"java/lang/String", "length", "()I"⟩ prog_25_method_54_code 1 (some .int) ∈ WALL := q_of (m_t3 (List.mem_of_getElem? (i := 127) rfl)) rfl
theorem q3_128 : Cond.methodLink "java/lang/String" 335 ⟨"java/lang/String", "coder", "()B"⟩ ∈ WALL := q_of (m_t3 (List.mem_of_getElem? (i := 128) rfl)) rfl
theorem q3_129 : Cond.instanceMethod ⟨"java/lang/String", "coder", "()B"⟩ ∈ WALL := q_of (m_t3 (List.mem_of_getElem? (i := 129) rfl)) rfl
theorem q3_13 : Cond.methodLink "SeeSawHill" 347 ⟨"SeeSawHill$Hill", "hasEmptyPurse", "()Z"⟩ ∈ WALL := q_of (m_t3 (List.mem_of_getElem? (i := 13) rfl)) rfl
theorem q3_130 : Cond.selects "java/lang/String" ⟨"java/lang/String", "coder", "()B"⟩ ⟨"java/lang/String", "coder", "()B"⟩ ∈ WALL := q_of (m_t3 (List.mem_of_getElem? (i := 130) rfl)) rfl
theorem q3_131 : Cond.code ⟨"java/lang/String", "coder", "()B"⟩ prog_25_method_152_code 1 (some .byte) ∈ WALL := q_of (m_t3 (List.mem_of_getElem? (i := 131) rfl)) rfl
theorem q3_132 : Cond.fieldLink "java/lang/String" 38 "java/lang/String" "COMPACT_STRINGS" "Z" ∈ WALL := q_of (m_t3 (List.mem_of_getElem? (i := 132) rfl)) rfl
theorem q3_134 : Cond.methodLink "SeeSawHill$Tokens" 60 ⟨"java/lang/String", "charAt", "(I)C"⟩ ∈ WALL := q_of (m_t3 (List.mem_of_getElem? (i := 134) rfl)) rfl
theorem q3_135 : Cond.instanceMethod ⟨"java/lang/String", "charAt", "(I)C"⟩ ∈ WALL := q_of (m_t3 (List.mem_of_getElem? (i := 135) rfl)) rfl
theorem q3_136 : Cond.selects "java/lang/String" ⟨"java/lang/String", "charAt", "(I)C"⟩ ⟨"java/lang/String", "charAt", "(I)C"⟩ ∈ WALL := q_of (m_t3 (List.mem_of_getElem? (i := 136) rfl)) rfl
theorem q3_137 : Cond.code ⟨"java/lang/String", "charAt", "(I)C"⟩ prog_25_method_56_code 2 (some .char) ∈ WALL := q_of (m_t3 (List.mem_of_getElem? (i := 137) rfl)) rfl
theorem q3_138 : Cond.methodLink "java/lang/String" 492 ⟨"java/lang/String", "isLatin1", "()Z"⟩ ∈ WALL := q_of (m_t3 (List.mem_of_getElem? (i := 138) rfl)) rfl
theorem q3_139 : Cond.instanceMethod ⟨"java/lang/String", "isLatin1", "()Z"⟩ ∈ WALL := q_of (m_t3 (List.mem_of_getElem? (i := 139) rfl)) rfl
theorem q3_14 : Cond.instanceMethod ⟨"SeeSawHill$Hill", "hasEmptyPurse", "()Z"⟩ ∈ WALL := q_of (m_t3 (List.mem_of_getElem? (i := 14) rfl)) rfl
theorem q3_140 : Cond.selects "java/lang/String" ⟨"java/lang/String", "isLatin1", "()Z"⟩ ⟨"java/lang/String", "isLatin1", "()Z"⟩ ∈ WALL := q_of (m_t3 (List.mem_of_getElem? (i := 140) rfl)) rfl
theorem q3_141 : Cond.code ⟨"java/lang/String", "isLatin1", "()Z"⟩ prog_25_method_154_code 1 (some .boolean) ∈ WALL := q_of (m_t3 (List.mem_of_getElem? (i := 141) rfl)) rfl
theorem q3_142 : Cond.methodLink "java/lang/String" 495 ⟨"java/lang/StringLatin1", "charAt", "([BI)C"⟩ ∈ WALL := q_of (m_t3 (List.mem_of_getElem? (i := 142) rfl)) rfl
theorem q3_143 : Cond.static ⟨"java/lang/StringLatin1", "charAt", "([BI)C"⟩ ∈ WALL := q_of (m_t3 (List.mem_of_getElem? (i := 143) rfl)) rfl
theorem q3_144 : Cond.code ⟨"java/lang/StringLatin1", "charAt", "([BI)C"⟩ prog_26_method_2_code 2 (some .char) ∈ WALL := q_of (m_t3 (List.mem_of_getElem? (i := 144) rfl)) rfl
theorem q3_145 : Cond.methodLink "java/lang/StringLatin1" 9 ⟨"java/lang/String", "checkIndex", "(II)V"⟩ ∈ WALL := q_of (m_t3 (List.mem_of_getElem? (i := 145) rfl)) rfl
theorem q3_146 : Cond.static ⟨"java/lang/String", "checkIndex", "(II)V"⟩ ∈ WALL := q_of (m_t3 (List.mem_of_getElem? (i := 146) rfl)) rfl
theorem q3_147 : Cond.code ⟨"java/lang/String", "checkIndex", "(II)V"⟩ prog_25_method_155_code 2 none ∈ WALL := q_of (m_t3 (List.mem_of_getElem? (i := 147) rfl)) rfl
theorem q3_148 : Cond.fieldLink "java/lang/String" 1053 "jdk/internal/util/Preconditions" "SIOOBE_FORMATTER" "Ljava/util/function/BiFunction;" ∈ WALL := q_of (m_t3 (List.mem_of_getElem? (i := 148) rfl)) rfl
theorem q3_15 : Cond.selects "SeeSawHill$Hill" ⟨"SeeSawHill$Hill", "hasEmptyPurse", "()Z"⟩ ⟨"SeeSawHill$Hill", "hasEmptyPurse", "()Z"⟩ ∈ WALL := q_of (m_t3 (List.mem_of_getElem? (i := 15) rfl)) rfl
theorem q3_150 : Cond.methodLink "java/lang/String" 1059 ⟨"jdk/internal/util/Preconditions", "checkIndex", "(IILjava/util/function/BiFunction;)I"⟩ ∈ WALL := q_of (m_t3 (List.mem_of_getElem? (i := 150) rfl)) rfl
theorem q3_151 : Cond.static ⟨"jdk/internal/util/Preconditions", "checkIndex", "(IILjava/util/function/BiFunction;)I"⟩ ∈ WALL := q_of (m_t3 (List.mem_of_getElem? (i := 151) rfl)) rfl
theorem q3_152 : Cond.code ⟨"jdk/internal/util/Preconditions", "checkIndex", "(IILjava/util/function/BiFunction;)I"⟩ prog_34_method_11_code 3 (some .int) ∈ WALL := q_of (m_t3 (List.mem_of_getElem? (i := 152) rfl)) rfl
theorem q3_16 : Cond.code ⟨"SeeSawHill$Hill", "hasEmptyPurse", "()Z"⟩ prog_5_method_21_code 2 (some .boolean) ∈ WALL := q_of (m_t3 (List.mem_of_getElem? (i := 16) rfl)) rfl
theorem q3_17 : Cond.methodLink "SeeSawHill" 344 ⟨"SeeSawHill$Hill", "payAndGrowOld", "(LSeeSawHill$Law;I)V"⟩ ∈ WALL := q_of (m_t3 (List.mem_of_getElem? (i := 17) rfl)) rfl
theorem q3_172 : Cond.methodLink "SeeSawHill$Tokens" 29 ⟨"SeeSawHill$Tokens", "add", "(III)V"⟩ ∈ WALL := q_of (m_t3 (List.mem_of_getElem? (i := 172) rfl)) rfl
theorem q3_174 : Cond.instanceMethod ⟨"SeeSawHill$Tokens", "add", "(III)V"⟩ ∈ WALL := q_of (m_t3 (List.mem_of_getElem? (i := 174) rfl)) rfl
theorem q3_175 : Cond.code ⟨"SeeSawHill$Tokens", "add", "(III)V"⟩ prog_12_method_10_code 4 none ∈ WALL := q_of (m_t3 (List.mem_of_getElem? (i := 175) rfl)) rfl
theorem q3_176 : Cond.methodLink "SeeSawHill$Tokens" 43 ⟨"SeeSawHill$Tokens", "isDigit", "(I)Z"⟩ ∈ WALL := q_of (m_t3 (List.mem_of_getElem? (i := 176) rfl)) rfl
theorem q3_177 : Cond.static ⟨"SeeSawHill$Tokens", "isDigit", "(I)Z"⟩ ∈ WALL := q_of (m_t3 (List.mem_of_getElem? (i := 177) rfl)) rfl
theorem q3_178 : Cond.code ⟨"SeeSawHill$Tokens", "isDigit", "(I)Z"⟩ prog_12_method_5_code 1 (some .boolean) ∈ WALL := q_of (m_t3 (List.mem_of_getElem? (i := 178) rfl)) rfl
theorem q3_179 : Cond.methodLink "SeeSawHill$Tokens" 46 ⟨"SeeSawHill$Tokens", "digitsEnd", "([BII)I"⟩ ∈ WALL := q_of (m_t3 (List.mem_of_getElem? (i := 179) rfl)) rfl
theorem q3_18 : Cond.instanceMethod ⟨"SeeSawHill$Hill", "payAndGrowOld", "(LSeeSawHill$Law;I)V"⟩ ∈ WALL := q_of (m_t3 (List.mem_of_getElem? (i := 18) rfl)) rfl
theorem q3_180 : Cond.static ⟨"SeeSawHill$Tokens", "digitsEnd", "([BII)I"⟩ ∈ WALL := q_of (m_t3 (List.mem_of_getElem? (i := 180) rfl)) rfl
theorem q3_181 : Cond.code ⟨"SeeSawHill$Tokens", "digitsEnd", "([BII)I"⟩ prog_12_method_7_code 4 (some .int) ∈ WALL := q_of (m_t3 (List.mem_of_getElem? (i := 181) rfl)) rfl
theorem q3_182 : Cond.methodLink "SeeSawHill$Tokens" 49 ⟨"SeeSawHill$Tokens", "valueOf", "([BII)I"⟩ ∈ WALL := q_of (m_t3 (List.mem_of_getElem? (i := 182) rfl)) rfl
theorem q3_183 : Cond.static ⟨"SeeSawHill$Tokens", "valueOf", "([BII)I"⟩ ∈ WALL := q_of (m_t3 (List.mem_of_getElem? (i := 183) rfl)) rfl
theorem q3_184 : Cond.code ⟨"SeeSawHill$Tokens", "valueOf", "([BII)I"⟩ prog_12_method_8_code 5 (some .int) ∈ WALL := q_of (m_t3 (List.mem_of_getElem? (i := 184) rfl)) rfl
theorem q3_185 : Cond.methodLink "SeeSawHill" 124 ⟨"SeeSawHill$HillReader", "read", "()I"⟩ ∈ WALL := q_of (m_t3 (List.mem_of_getElem? (i := 185) rfl)) rfl
theorem q3_186 : Cond.sameMethod "SeeSawHill$HillReader" "SeeSawHill$TextReader" "read" "()I" ∈ WALL := q_of (m_t3 (List.mem_of_getElem? (i := 186) rfl)) rfl
theorem q3_188 : Cond.selects "SeeSawHill$HillReader" ⟨"SeeSawHill$HillReader", "read", "()I"⟩ ⟨"SeeSawHill$TextReader", "read", "()I"⟩ ∈ WALL := q_of (m_t3 (List.mem_of_getElem? (i := 188) rfl)) rfl
theorem q3_189 : Cond.instanceMethod ⟨"SeeSawHill$TextReader", "read", "()I"⟩ ∈ WALL := q_of (m_t3 (List.mem_of_getElem? (i := 189) rfl)) rfl
theorem q3_19 : Cond.selects "SeeSawHill$Hill" ⟨"SeeSawHill$Hill", "payAndGrowOld", "(LSeeSawHill$Law;I)V"⟩ ⟨"SeeSawHill$Hill", "payAndGrowOld", "(LSeeSawHill$Law;I)V"⟩ ∈ WALL := q_of (m_t3 (List.mem_of_getElem? (i := 19) rfl)) rfl
theorem q3_190 : Cond.code ⟨"SeeSawHill$TextReader", "read", "()I"⟩ prog_11_method_3_code 2 (some .int) ∈ WALL := q_of (m_t3 (List.mem_of_getElem? (i := 190) rfl)) rfl
theorem q3_191 : Cond.methodLink "SeeSawHill$TextReader" 22 ⟨"SeeSawHill$Tokens", "code", "(I)I"⟩ ∈ WALL := q_of (m_t3 (List.mem_of_getElem? (i := 191) rfl)) rfl
theorem q3_192 : Cond.instanceMethod ⟨"SeeSawHill$Tokens", "code", "(I)I"⟩ ∈ WALL := q_of (m_t3 (List.mem_of_getElem? (i := 192) rfl)) rfl
theorem q3_193 : Cond.selects "SeeSawHill$Tokens" ⟨"SeeSawHill$Tokens", "code", "(I)I"⟩ ⟨"SeeSawHill$Tokens", "code", "(I)I"⟩ ∈ WALL := q_of (m_t3 (List.mem_of_getElem? (i := 193) rfl)) rfl
theorem q3_194 : Cond.code ⟨"SeeSawHill$Tokens", "code", "(I)I"⟩ prog_12_method_11_code 2 (some .int) ∈ WALL := q_of (m_t3 (List.mem_of_getElem? (i := 194) rfl)) rfl
theorem q3_195 : Cond.methodLink "SeeSawHill$TextReader" 28 ⟨"SeeSawHill$TextReader", "readLine", "()Z"⟩ ∈ WALL := q_of (m_t3 (List.mem_of_getElem? (i := 195) rfl)) rfl
theorem q3_197 : Cond.sameMethod "SeeSawHill$TextReader" "SeeSawHill$TextReader" "readLine" "()Z" ∈ WALL := q_of (m_t3 (List.mem_of_getElem? (i := 197) rfl)) rfl
theorem q3_198 : Cond.selects "SeeSawHill$HillReader" ⟨"SeeSawHill$TextReader", "readLine", "()Z"⟩ ⟨"SeeSawHill$HillReader", "readLine", "()Z"⟩ ∈ WALL := q_of (m_t3 (List.mem_of_getElem? (i := 198) rfl)) rfl
theorem q3_199 : Cond.instanceMethod ⟨"SeeSawHill$HillReader", "readLine", "()Z"⟩ ∈ WALL := q_of (m_t3 (List.mem_of_getElem? (i := 199) rfl)) rfl
theorem q3_2 : Cond.instanceMethod ⟨"SeeSawHill$Hill", "luresBy", "(LSeeSawHill$Law;I)I"⟩ ∈ WALL := q_of (m_t3 (List.mem_of_getElem? (i := 2) rfl)) rfl
theorem q3_20 : Cond.code ⟨"SeeSawHill$Hill", "payAndGrowOld", "(LSeeSawHill$Law;I)V"⟩ prog_5_method_28_code 3 none ∈ WALL := q_of (m_t3 (List.mem_of_getElem? (i := 20) rfl)) rfl
theorem q3_200 : Cond.code ⟨"SeeSawHill$HillReader", "readLine", "()Z"⟩ prog_6_method_2_code 2 (some .boolean) ∈ WALL := q_of (m_t3 (List.mem_of_getElem? (i := 200) rfl)) rfl
theorem q3_201 : Cond.methodLink "SeeSawHill$HillReader" 23 ⟨"SeeSawHill$Tokens", "code", "(I)I"⟩ ∈ WALL := q_of (m_t3 (List.mem_of_getElem? (i := 201) rfl)) rfl
theorem q3_202 : Cond.methodLink "SeeSawHill$HillReader" 29 ⟨"SeeSawHill$HillReader", "readPlank", "()Z"⟩ ∈ WALL := q_of (m_t3 (List.mem_of_getElem? (i := 202) rfl)) rfl
theorem q3_204 : Cond.instanceMethod ⟨"SeeSawHill$HillReader", "readPlank", "()Z"⟩ ∈ WALL := q_of (m_t3 (List.mem_of_getElem? (i := 204) rfl)) rfl
theorem q3_205 : Cond.code ⟨"SeeSawHill$HillReader", "readPlank", "()Z"⟩ prog_6_method_3_code 3 (some .boolean) ∈ WALL := q_of (m_t3 (List.mem_of_getElem? (i := 205) rfl)) rfl
theorem q3_206 : Cond.methodLink "SeeSawHill$HillReader" 48 ⟨"SeeSawHill$HillReader", "number", "(II)I"⟩ ∈ WALL := q_of (m_t3 (List.mem_of_getElem? (i := 206) rfl)) rfl
theorem q3_207 : Cond.sameMethod "SeeSawHill$HillReader" "SeeSawHill$TextReader" "number" "(II)I" ∈ WALL := q_of (m_t3 (List.mem_of_getElem? (i := 207) rfl)) rfl
theorem q3_209 : Cond.selects "SeeSawHill$HillReader" ⟨"SeeSawHill$HillReader", "number", "(II)I"⟩ ⟨"SeeSawHill$TextReader", "number", "(II)I"⟩ ∈ WALL := q_of (m_t3 (List.mem_of_getElem? (i := 209) rfl)) rfl
theorem q3_21 : Cond.methodLink "SeeSawHill$Hill" 119 ⟨"SeeSawHill$Hill", "payRents", "(LSeeSawHill$Law;I)V"⟩ ∈ WALL := q_of (m_t3 (List.mem_of_getElem? (i := 21) rfl)) rfl
theorem q3_210 : Cond.instanceMethod ⟨"SeeSawHill$TextReader", "number", "(II)I"⟩ ∈ WALL := q_of (m_t3 (List.mem_of_getElem? (i := 210) rfl)) rfl
theorem q3_211 : Cond.code ⟨"SeeSawHill$TextReader", "number", "(II)I"⟩ prog_11_method_5_code 4 (some .int) ∈ WALL := q_of (m_t3 (List.mem_of_getElem? (i := 211) rfl)) rfl
theorem q3_212 : Cond.methodLink "SeeSawHill$TextReader" 46 ⟨"SeeSawHill$Tokens", "value", "(I)I"⟩ ∈ WALL := q_of (m_t3 (List.mem_of_getElem? (i := 212) rfl)) rfl
theorem q3_213 : Cond.instanceMethod ⟨"SeeSawHill$Tokens", "value", "(I)I"⟩ ∈ WALL := q_of (m_t3 (List.mem_of_getElem? (i := 213) rfl)) rfl
theorem q3_214 : Cond.selects "SeeSawHill$Tokens" ⟨"SeeSawHill$Tokens", "value", "(I)I"⟩ ⟨"SeeSawHill$Tokens", "value", "(I)I"⟩ ∈ WALL := q_of (m_t3 (List.mem_of_getElem? (i := 214) rfl)) rfl
theorem q3_215 : Cond.code ⟨"SeeSawHill$Tokens", "value", "(I)I"⟩ prog_12_method_12_code 2 (some .int) ∈ WALL := q_of (m_t3 (List.mem_of_getElem? (i := 215) rfl)) rfl
theorem q3_216 : Cond.methodLink "SeeSawHill$HillReader" 52 ⟨"SeeSawHill$HillReader", "skip", "(I)Z"⟩ ∈ WALL := q_of (m_t3 (List.mem_of_getElem? (i := 216) rfl)) rfl
theorem q3_217 : Cond.sameMethod "SeeSawHill$HillReader" "SeeSawHill$TextReader" "skip" "(I)Z" ∈ WALL := q_of (m_t3 (List.mem_of_getElem? (i := 217) rfl)) rfl
theorem q3_219 : Cond.selects "SeeSawHill$HillReader" ⟨"SeeSawHill$HillReader", "skip", "(I)Z"⟩ ⟨"SeeSawHill$TextReader", "skip", "(I)Z"⟩ ∈ WALL := q_of (m_t3 (List.mem_of_getElem? (i := 219) rfl)) rfl
theorem q3_220 : Cond.instanceMethod ⟨"SeeSawHill$TextReader", "skip", "(I)Z"⟩ ∈ WALL := q_of (m_t3 (List.mem_of_getElem? (i := 220) rfl)) rfl
theorem q3_221 : Cond.code ⟨"SeeSawHill$TextReader", "skip", "(I)Z"⟩ prog_11_method_4_code 2 (some .boolean) ∈ WALL := q_of (m_t3 (List.mem_of_getElem? (i := 221) rfl)) rfl
theorem q3_222 : Cond.methodLink "SeeSawHill$HillReader" 55 ⟨"SeeSawHill$Hill", "addPlank", "(II)V"⟩ ∈ WALL := q_of (m_t3 (List.mem_of_getElem? (i := 222) rfl)) rfl
theorem q3_223 : Cond.instanceMethod ⟨"SeeSawHill$Hill", "addPlank", "(II)V"⟩ ∈ WALL := q_of (m_t3 (List.mem_of_getElem? (i := 223) rfl)) rfl
theorem q3_224 : Cond.selects "SeeSawHill$Hill" ⟨"SeeSawHill$Hill", "addPlank", "(II)V"⟩ ⟨"SeeSawHill$Hill", "addPlank", "(II)V"⟩ ∈ WALL := q_of (m_t3 (List.mem_of_getElem? (i := 224) rfl)) rfl
theorem q3_225 : Cond.code ⟨"SeeSawHill$Hill", "addPlank", "(II)V"⟩ prog_5_method_4_code 4 none ∈ WALL := q_of (m_t3 (List.mem_of_getElem? (i := 225) rfl)) rfl
theorem q3_226 : Cond.methodLink "SeeSawHill$HillReader" 33 ⟨"SeeSawHill$HillReader", "readThing", "()Z"⟩ ∈ WALL := q_of (m_t3 (List.mem_of_getElem? (i := 226) rfl)) rfl
theorem q3_228 : Cond.instanceMethod ⟨"SeeSawHill$HillReader", "readThing", "()Z"⟩ ∈ WALL := q_of (m_t3 (List.mem_of_getElem? (i := 228) rfl)) rfl
theorem q3_229 : Cond.code ⟨"SeeSawHill$HillReader", "readThing", "()Z"⟩ prog_6_method_4_code 4 (some .boolean) ∈ WALL := q_of (m_t3 (List.mem_of_getElem? (i := 229) rfl)) rfl
theorem q3_23 : Cond.instanceMethod ⟨"SeeSawHill$Hill", "payRents", "(LSeeSawHill$Law;I)V"⟩ ∈ WALL := q_of (m_t3 (List.mem_of_getElem? (i := 23) rfl)) rfl
theorem q3_230 : Cond.methodLink "SeeSawHill$HillReader" 62 ⟨"SeeSawHill$Hill", "houses", "()I"⟩ ∈ WALL := q_of (m_t3 (List.mem_of_getElem? (i := 230) rfl)) rfl
theorem q3_231 : Cond.methodLink "SeeSawHill$HillReader" 66 ⟨"SeeSawHill$Hill", "addThing", "(III)V"⟩ ∈ WALL := q_of (m_t3 (List.mem_of_getElem? (i := 231) rfl)) rfl
theorem q3_232 : Cond.instanceMethod ⟨"SeeSawHill$Hill", "addThing", "(III)V"⟩ ∈ WALL := q_of (m_t3 (List.mem_of_getElem? (i := 232) rfl)) rfl
theorem q3_233 : Cond.selects "SeeSawHill$Hill" ⟨"SeeSawHill$Hill", "addThing", "(III)V"⟩ ⟨"SeeSawHill$Hill", "addThing", "(III)V"⟩ ∈ WALL := q_of (m_t3 (List.mem_of_getElem? (i := 233) rfl)) rfl
theorem q3_234 : Cond.code ⟨"SeeSawHill$Hill", "addThing", "(III)V"⟩ prog_5_method_5_code 4 none ∈ WALL := q_of (m_t3 (List.mem_of_getElem? (i := 234) rfl)) rfl
theorem q3_235 : Cond.methodLink "SeeSawHill$HillReader" 36 ⟨"SeeSawHill$HillReader", "readOfHouse", "(I)Z"⟩ ∈ WALL := q_of (m_t3 (List.mem_of_getElem? (i := 235) rfl)) rfl
theorem q3_237 : Cond.instanceMethod ⟨"SeeSawHill$HillReader", "readOfHouse", "(I)Z"⟩ ∈ WALL := q_of (m_t3 (List.mem_of_getElem? (i := 237) rfl)) rfl
theorem q3_238 : Cond.code ⟨"SeeSawHill$HillReader", "readOfHouse", "(I)Z"⟩ prog_6_method_5_code 4 (some .boolean) ∈ WALL := q_of (m_t3 (List.mem_of_getElem? (i := 238) rfl)) rfl
theorem q3_239 : Cond.methodLink "SeeSawHill$HillReader" 40 ⟨"SeeSawHill$HillReader", "readSetting", "(I)Z"⟩ ∈ WALL := q_of (m_t3 (List.mem_of_getElem? (i := 239) rfl)) rfl
theorem q3_24 : Cond.code ⟨"SeeSawHill$Hill", "payRents", "(LSeeSawHill$Law;I)V"⟩ prog_5_method_26_code 4 none ∈ WALL := q_of (m_t3 (List.mem_of_getElem? (i := 24) rfl)) rfl
theorem q3_25 : Cond.methodLink "SeeSawHill$Hill" 142 ⟨"SeeSawHill$Hill", "paysBy", "(LSeeSawHill$Law;I)I"⟩ ∈ WALL := q_of (m_t3 (List.mem_of_getElem? (i := 25) rfl)) rfl
theorem q3_26 : Cond.instanceMethod ⟨"SeeSawHill$Hill", "paysBy", "(LSeeSawHill$Law;I)I"⟩ ∈ WALL := q_of (m_t3 (List.mem_of_getElem? (i := 26) rfl)) rfl
theorem q3_27 : Cond.selects "SeeSawHill$Hill" ⟨"SeeSawHill$Hill", "paysBy", "(LSeeSawHill$Law;I)I"⟩ ⟨"SeeSawHill$Hill", "paysBy", "(LSeeSawHill$Law;I)I"⟩ ∈ WALL := q_of (m_t3 (List.mem_of_getElem? (i := 27) rfl)) rfl
theorem q3_28 : Cond.code ⟨"SeeSawHill$Hill", "paysBy", "(LSeeSawHill$Law;I)I"⟩ prog_5_method_12_code 3 (some .int) ∈ WALL := q_of (m_t3 (List.mem_of_getElem? (i := 28) rfl)) rfl
theorem q3_29 : Cond.methodLink "SeeSawHill$Hill" 136 ⟨"SeeSawHill$Hill", "growOld", "(LSeeSawHill$Law;I)V"⟩ ∈ WALL := q_of (m_t3 (List.mem_of_getElem? (i := 29) rfl)) rfl
theorem q3_3 : Cond.selects "SeeSawHill$Hill" ⟨"SeeSawHill$Hill", "luresBy", "(LSeeSawHill$Law;I)I"⟩ ⟨"SeeSawHill$Hill", "luresBy", "(LSeeSawHill$Law;I)I"⟩ ∈ WALL := q_of (m_t3 (List.mem_of_getElem? (i := 3) rfl)) rfl
theorem q3_30 : Cond.methodLink "SeeSawHillLaw" 236 ⟨"SeeSawHill", "rich", "()I"⟩ ∈ WALL := q_of (m_t3 (List.mem_of_getElem? (i := 30) rfl)) rfl
theorem q3_31 : Cond.instanceMethod ⟨"SeeSawHill", "rich", "()I"⟩ ∈ WALL := q_of (m_t3 (List.mem_of_getElem? (i := 31) rfl)) rfl
theorem q3_32 : Cond.selects "SeeSawHill" ⟨"SeeSawHill", "rich", "()I"⟩ ⟨"SeeSawHill", "rich", "()I"⟩ ∈ WALL := q_of (m_t3 (List.mem_of_getElem? (i := 32) rfl)) rfl
theorem q3_33 : Cond.code ⟨"SeeSawHill", "rich", "()I"⟩ prog_1_method_45_code 5 (some .int) ∈ WALL := q_of (m_t3 (List.mem_of_getElem? (i := 33) rfl)) rfl
theorem q3_34 : Cond.methodLink "SeeSawHill" 351 ⟨"SeeSawHill$Hill", "worthIn", "(I)I"⟩ ∈ WALL := q_of (m_t3 (List.mem_of_getElem? (i := 34) rfl)) rfl
theorem q3_35 : Cond.methodLink "SeeSawHillLaw" 240 ⟨"SeeSawHill", "heaviest", "()I"⟩ ∈ WALL := q_of (m_t3 (List.mem_of_getElem? (i := 35) rfl)) rfl
theorem q3_36 : Cond.instanceMethod ⟨"SeeSawHill", "heaviest", "()I"⟩ ∈ WALL := q_of (m_t3 (List.mem_of_getElem? (i := 36) rfl)) rfl
theorem q3_37 : Cond.selects "SeeSawHill" ⟨"SeeSawHill", "heaviest", "()I"⟩ ⟨"SeeSawHill", "heaviest", "()I"⟩ ∈ WALL := q_of (m_t3 (List.mem_of_getElem? (i := 37) rfl)) rfl
theorem q3_38 : Cond.code ⟨"SeeSawHill", "heaviest", "()I"⟩ prog_1_method_46_code 4 (some .int) ∈ WALL := q_of (m_t3 (List.mem_of_getElem? (i := 38) rfl)) rfl
theorem q3_39 : Cond.methodLink "SeeSawHillLaw" 244 ⟨"SeeSawHill", "alike", "()I"⟩ ∈ WALL := q_of (m_t3 (List.mem_of_getElem? (i := 39) rfl)) rfl
theorem q3_4 : Cond.code ⟨"SeeSawHill$Hill", "luresBy", "(LSeeSawHill$Law;I)I"⟩ prog_5_method_13_code 3 (some .int) ∈ WALL := q_of (m_t3 (List.mem_of_getElem? (i := 4) rfl)) rfl
theorem q3_40 : Cond.instanceMethod ⟨"SeeSawHill", "alike", "()I"⟩ ∈ WALL := q_of (m_t3 (List.mem_of_getElem? (i := 40) rfl)) rfl
theorem q3_41 : Cond.selects "SeeSawHill" ⟨"SeeSawHill", "alike", "()I"⟩ ⟨"SeeSawHill", "alike", "()I"⟩ ∈ WALL := q_of (m_t3 (List.mem_of_getElem? (i := 41) rfl)) rfl
theorem q3_42 : Cond.code ⟨"SeeSawHill", "alike", "()I"⟩ prog_1_method_47_code 4 (some .int) ∈ WALL := q_of (m_t3 (List.mem_of_getElem? (i := 42) rfl)) rfl
theorem q3_43 : Cond.methodLink "SeeSawHillLaw" 263 ⟨"SeeSawHill", "seed", "(I)I"⟩ ∈ WALL := q_of (m_t3 (List.mem_of_getElem? (i := 43) rfl)) rfl
theorem q3_44 : Cond.instanceMethod ⟨"SeeSawHill", "seed", "(I)I"⟩ ∈ WALL := q_of (m_t3 (List.mem_of_getElem? (i := 44) rfl)) rfl
theorem q3_45 : Cond.selects "SeeSawHill" ⟨"SeeSawHill", "seed", "(I)I"⟩ ⟨"SeeSawHill", "seed", "(I)I"⟩ ∈ WALL := q_of (m_t3 (List.mem_of_getElem? (i := 45) rfl)) rfl
theorem q3_46 : Cond.code ⟨"SeeSawHill", "seed", "(I)I"⟩ prog_1_method_54_code 3 (some .int) ∈ WALL := q_of (m_t3 (List.mem_of_getElem? (i := 46) rfl)) rfl
theorem q3_47 : Cond.methodLink "SeeSawHillLaw" 267 ⟨"SeeSawHill", "undo", "()Z"⟩ ∈ WALL := q_of (m_t3 (List.mem_of_getElem? (i := 47) rfl)) rfl
theorem q3_48 : Cond.instanceMethod ⟨"SeeSawHill", "undo", "()Z"⟩ ∈ WALL := q_of (m_t3 (List.mem_of_getElem? (i := 48) rfl)) rfl
theorem q3_49 : Cond.selects "SeeSawHill" ⟨"SeeSawHill", "undo", "()Z"⟩ ⟨"SeeSawHill", "undo", "()Z"⟩ ∈ WALL := q_of (m_t3 (List.mem_of_getElem? (i := 49) rfl)) rfl
theorem q3_5 : Cond.methodLink "SeeSawHill$Hill" 106 ⟨"SeeSawHill$Hill", "worthIn", "(I)I"⟩ ∈ WALL := q_of (m_t3 (List.mem_of_getElem? (i := 5) rfl)) rfl
theorem q3_50 : Cond.code ⟨"SeeSawHill", "undo", "()Z"⟩ prog_1_method_55_code 1 (some .boolean) ∈ WALL := q_of (m_t3 (List.mem_of_getElem? (i := 50) rfl)) rfl
theorem q3_51 : Cond.methodLink "SeeSawHill" 378 ⟨"SeeSawHill$Past", "restore", "(LSeeSawHill$Hill;LSeeSawHill$Diary;)Z"⟩ ∈ WALL := q_of (m_t3 (List.mem_of_getElem? (i := 51) rfl)) rfl
theorem q3_52 : Cond.instanceMethod ⟨"SeeSawHill$Past", "restore", "(LSeeSawHill$Hill;LSeeSawHill$Diary;)Z"⟩ ∈ WALL := q_of (m_t3 (List.mem_of_getElem? (i := 52) rfl)) rfl
theorem q3_53 : Cond.selects "SeeSawHill$Past" ⟨"SeeSawHill$Past", "restore", "(LSeeSawHill$Hill;LSeeSawHill$Diary;)Z"⟩ ⟨"SeeSawHill$Past", "restore", "(LSeeSawHill$Hill;LSeeSawHill$Diary;)Z"⟩ ∈ WALL := q_of (m_t3 (List.mem_of_getElem? (i := 53) rfl)) rfl
theorem q3_54 : Cond.code ⟨"SeeSawHill$Past", "restore", "(LSeeSawHill$Hill;LSeeSawHill$Diary;)Z"⟩ prog_10_method_4_code 4 (some .boolean) ∈ WALL := q_of (m_t3 (List.mem_of_getElem? (i := 54) rfl)) rfl
theorem q3_55 : Cond.methodLink "SeeSawHillLaw" 272 ⟨"SeeSawHill", "image", "()V"⟩ ∈ WALL := q_of (m_t3 (List.mem_of_getElem? (i := 55) rfl)) rfl
theorem q3_56 : Cond.instanceMethod ⟨"SeeSawHill", "image", "()V"⟩ ∈ WALL := q_of (m_t3 (List.mem_of_getElem? (i := 56) rfl)) rfl
theorem q3_57 : Cond.selects "SeeSawHill" ⟨"SeeSawHill", "image", "()V"⟩ ⟨"SeeSawHill", "image", "()V"⟩ ∈ WALL := q_of (m_t3 (List.mem_of_getElem? (i := 57) rfl)) rfl
theorem q3_58 : Cond.code ⟨"SeeSawHill", "image", "()V"⟩ prog_1_method_56_code 1 none ∈ WALL := q_of (m_t3 (List.mem_of_getElem? (i := 58) rfl)) rfl
theorem q3_59 : Cond.methodLink "SeeSawHill" 143 ⟨"SeeSawHill$Law", "copyFrom", "(LSeeSawHill$Law;)V"⟩ ∈ WALL := q_of (m_t3 (List.mem_of_getElem? (i := 59) rfl)) rfl
theorem q3_6 : Cond.instanceMethod ⟨"SeeSawHill$Hill", "worthIn", "(I)I"⟩ ∈ WALL := q_of (m_t3 (List.mem_of_getElem? (i := 6) rfl)) rfl
theorem q3_60 : Cond.instanceMethod ⟨"SeeSawHill$Law", "copyFrom", "(LSeeSawHill$Law;)V"⟩ ∈ WALL := q_of (m_t3 (List.mem_of_getElem? (i := 60) rfl)) rfl
theorem q3_61 : Cond.selects "SeeSawHill$Law" ⟨"SeeSawHill$Law", "copyFrom", "(LSeeSawHill$Law;)V"⟩ ⟨"SeeSawHill$Law", "copyFrom", "(LSeeSawHill$Law;)V"⟩ ∈ WALL := q_of (m_t3 (List.mem_of_getElem? (i := 61) rfl)) rfl
theorem q3_62 : Cond.code ⟨"SeeSawHill$Law", "copyFrom", "(LSeeSawHill$Law;)V"⟩ prog_7_method_5_code 2 none ∈ WALL := q_of (m_t3 (List.mem_of_getElem? (i := 62) rfl)) rfl
theorem q3_63 : Cond.methodLink "SeeSawHill$Law" 34 ⟨"java/lang/System", "arraycopy", "(Ljava/lang/Object;ILjava/lang/Object;II)V"⟩ ∈ WALL := q_of (m_t3 (List.mem_of_getElem? (i := 63) rfl)) rfl
theorem q3_64 : Cond.methodLink "SeeSawHill" 382 ⟨"SeeSawHill$Diary", "copyFrom", "(LSeeSawHill$Diary;)V"⟩ ∈ WALL := q_of (m_t3 (List.mem_of_getElem? (i := 64) rfl)) rfl
theorem q3_65 : Cond.methodLink "SeeSawHillLaw" 276 ⟨"SeeSawHill", "back", "()Z"⟩ ∈ WALL := q_of (m_t3 (List.mem_of_getElem? (i := 65) rfl)) rfl
theorem q3_66 : Cond.instanceMethod ⟨"SeeSawHill", "back", "()Z"⟩ ∈ WALL := q_of (m_t3 (List.mem_of_getElem? (i := 66) rfl)) rfl
theorem q3_67 : Cond.selects "SeeSawHill" ⟨"SeeSawHill", "back", "()Z"⟩ ⟨"SeeSawHill", "back", "()Z"⟩ ∈ WALL := q_of (m_t3 (List.mem_of_getElem? (i := 67) rfl)) rfl
theorem q3_68 : Cond.code ⟨"SeeSawHill", "back", "()Z"⟩ prog_1_method_57_code 1 (some .boolean) ∈ WALL := q_of (m_t3 (List.mem_of_getElem? (i := 68) rfl)) rfl
theorem q3_69 : Cond.methodLink "SeeSawHill" 136 ⟨"SeeSawHill$Past", "forget", "()V"⟩ ∈ WALL := q_of (m_t3 (List.mem_of_getElem? (i := 69) rfl)) rfl
theorem q3_7 : Cond.selects "SeeSawHill$Hill" ⟨"SeeSawHill$Hill", "worthIn", "(I)I"⟩ ⟨"SeeSawHill$Hill", "worthIn", "(I)I"⟩ ∈ WALL := q_of (m_t3 (List.mem_of_getElem? (i := 7) rfl)) rfl
theorem q3_70 : Cond.instanceMethod ⟨"SeeSawHill$Past", "forget", "()V"⟩ ∈ WALL := q_of (m_t3 (List.mem_of_getElem? (i := 70) rfl)) rfl
theorem q3_71 : Cond.selects "SeeSawHill$Past" ⟨"SeeSawHill$Past", "forget", "()V"⟩ ⟨"SeeSawHill$Past", "forget", "()V"⟩ ∈ WALL := q_of (m_t3 (List.mem_of_getElem? (i := 71) rfl)) rfl
theorem q3_72 : Cond.code ⟨"SeeSawHill$Past", "forget", "()V"⟩ prog_10_method_2_code 1 none ∈ WALL := q_of (m_t3 (List.mem_of_getElem? (i := 72) rfl)) rfl
theorem q3_73 : Cond.methodLink "SeeSawHillLaw" 280 ⟨"SeeSawHill", "count", "(I)I"⟩ ∈ WALL := q_of (m_t3 (List.mem_of_getElem? (i := 73) rfl)) rfl
theorem q3_74 : Cond.instanceMethod ⟨"SeeSawHill", "count", "(I)I"⟩ ∈ WALL := q_of (m_t3 (List.mem_of_getElem? (i := 74) rfl)) rfl
theorem q3_75 : Cond.selects "SeeSawHill" ⟨"SeeSawHill", "count", "(I)I"⟩ ⟨"SeeSawHill", "count", "(I)I"⟩ ∈ WALL := q_of (m_t3 (List.mem_of_getElem? (i := 75) rfl)) rfl
theorem q3_76 : Cond.code ⟨"SeeSawHill", "count", "(I)I"⟩ prog_1_method_58_code 2 (some .int) ∈ WALL := q_of (m_t3 (List.mem_of_getElem? (i := 76) rfl)) rfl
theorem q3_77 : Cond.methodLink "SeeSawHill" 360 ⟨"SeeSawHill$Hill", "brokenPlanks", "()I"⟩ ∈ WALL := q_of (m_t3 (List.mem_of_getElem? (i := 77) rfl)) rfl
theorem q3_78 : Cond.instanceMethod ⟨"SeeSawHill$Hill", "brokenPlanks", "()I"⟩ ∈ WALL := q_of (m_t3 (List.mem_of_getElem? (i := 78) rfl)) rfl
theorem q3_79 : Cond.selects "SeeSawHill$Hill" ⟨"SeeSawHill$Hill", "brokenPlanks", "()I"⟩ ⟨"SeeSawHill$Hill", "brokenPlanks", "()I"⟩ ∈ WALL := q_of (m_t3 (List.mem_of_getElem? (i := 79) rfl)) rfl
theorem q3_8 : Cond.code ⟨"SeeSawHill$Hill", "worthIn", "(I)I"⟩ prog_5_method_17_code 4 (some .int) ∈ WALL := q_of (m_t3 (List.mem_of_getElem? (i := 8) rfl)) rfl
theorem q3_80 : Cond.code ⟨"SeeSawHill$Hill", "brokenPlanks", "()I"⟩ prog_5_method_19_code 3 (some .int) ∈ WALL := q_of (m_t3 (List.mem_of_getElem? (i := 80) rfl)) rfl
theorem q3_81 : Cond.methodLink "SeeSawHill" 363 ⟨"SeeSawHill$Hill", "goneThings", "()I"⟩ ∈ WALL := q_of (m_t3 (List.mem_of_getElem? (i := 81) rfl)) rfl
theorem q3_82 : Cond.instanceMethod ⟨"SeeSawHill$Hill", "goneThings", "()I"⟩ ∈ WALL := q_of (m_t3 (List.mem_of_getElem? (i := 82) rfl)) rfl
theorem q3_83 : Cond.selects "SeeSawHill$Hill" ⟨"SeeSawHill$Hill", "goneThings", "()I"⟩ ⟨"SeeSawHill$Hill", "goneThings", "()I"⟩ ∈ WALL := q_of (m_t3 (List.mem_of_getElem? (i := 83) rfl)) rfl
theorem q3_84 : Cond.code ⟨"SeeSawHill$Hill", "goneThings", "()I"⟩ prog_5_method_16_code 1 (some .int) ∈ WALL := q_of (m_t3 (List.mem_of_getElem? (i := 84) rfl)) rfl
theorem q3_85 : Cond.methodLink "SeeSawHill$Hill" 109 ⟨"SeeSawHill$Hill", "thingsIn", "(I)I"⟩ ∈ WALL := q_of (m_t3 (List.mem_of_getElem? (i := 85) rfl)) rfl
theorem q3_86 : Cond.instanceMethod ⟨"SeeSawHill$Hill", "thingsIn", "(I)I"⟩ ∈ WALL := q_of (m_t3 (List.mem_of_getElem? (i := 86) rfl)) rfl
theorem q3_87 : Cond.selects "SeeSawHill$Hill" ⟨"SeeSawHill$Hill", "thingsIn", "(I)I"⟩ ⟨"SeeSawHill$Hill", "thingsIn", "(I)I"⟩ ∈ WALL := q_of (m_t3 (List.mem_of_getElem? (i := 87) rfl)) rfl
theorem q3_88 : Cond.code ⟨"SeeSawHill$Hill", "thingsIn", "(I)I"⟩ prog_5_method_15_code 4 (some .int) ∈ WALL := q_of (m_t3 (List.mem_of_getElem? (i := 88) rfl)) rfl
theorem q3_89 : Cond.methodLink "SeeSawHill" 397 ⟨"SeeSawHill$Hill", "purseSum", "()I"⟩ ∈ WALL := q_of (m_t3 (List.mem_of_getElem? (i := 89) rfl)) rfl
theorem q3_9 : Cond.methodLink "SeeSawHillLaw" 232 ⟨"SeeSawHill", "poor", "()I"⟩ ∈ WALL := q_of (m_t3 (List.mem_of_getElem? (i := 9) rfl)) rfl
theorem q3_90 : Cond.instanceMethod ⟨"SeeSawHill$Hill", "purseSum", "()I"⟩ ∈ WALL := q_of (m_t3 (List.mem_of_getElem? (i := 90) rfl)) rfl
theorem q3_91 : Cond.selects "SeeSawHill$Hill" ⟨"SeeSawHill$Hill", "purseSum", "()I"⟩ ⟨"SeeSawHill$Hill", "purseSum", "()I"⟩ ∈ WALL := q_of (m_t3 (List.mem_of_getElem? (i := 91) rfl)) rfl
theorem q3_92 : Cond.code ⟨"SeeSawHill$Hill", "purseSum", "()I"⟩ prog_5_method_20_code 3 (some .int) ∈ WALL := q_of (m_t3 (List.mem_of_getElem? (i := 92) rfl)) rfl
theorem q3_93 : Cond.methodLink "SeeSawHillLaw" 124 ⟨"SeeSawHillLaw", "hill", "(LSeeSawHill;[J)I"⟩ ∈ WALL := q_of (m_t3 (List.mem_of_getElem? (i := 93) rfl)) rfl
theorem q3_94 : Cond.static ⟨"SeeSawHillLaw", "hill", "(LSeeSawHill;[J)I"⟩ ∈ WALL := q_of (m_t3 (List.mem_of_getElem? (i := 94) rfl)) rfl
theorem q3_95 : Cond.codeWith ⟨"SeeSawHillLaw", "hill", "(LSeeSawHill;[J)I"⟩ method_3_code 3 (some .int) [(0, 8, 11, 13), (0, 8, 14, 15)] ∈ WALL := q_of (m_t3 (List.mem_of_getElem? (i := 95) rfl)) rfl
theorem q3_96 : Cond.classLink "SeeSawHillLaw" 13 "java/lang/IllegalArgumentException" ∈ WALL := q_of (m_t3 (List.mem_of_getElem? (i := 96) rfl)) rfl
theorem q3_97 : Cond.classLink "SeeSawHillLaw" 15 "java/lang/UnsupportedOperationException" ∈ WALL := q_of (m_t3 (List.mem_of_getElem? (i := 97) rfl)) rfl
theorem q3_98 : Cond.methodLink "SeeSawHillLaw" 7 ⟨"SeeSawHill", "hill", "()I"⟩ ∈ WALL := q_of (m_t3 (List.mem_of_getElem? (i := 98) rfl)) rfl
theorem q3_99 : Cond.instanceMethod ⟨"SeeSawHill", "hill", "()I"⟩ ∈ WALL := q_of (m_t3 (List.mem_of_getElem? (i := 99) rfl)) rfl
theorem q4_1 : Cond.instanceMethod ⟨"SeeSawHill$HillReader", "readSetting", "(I)Z"⟩ ∈ WALL := q_of (m_t4 (List.mem_of_getElem? (i := 1) rfl)) rfl
theorem q4_10 : Cond.methodLink "SeeSawHill$LawReader" 29 ⟨"SeeSawHill$LawReader", "number", "(II)I"⟩ ∈ WALL := q_of (m_t4 (List.mem_of_getElem? (i := 10) rfl)) rfl
theorem q4_11 : Cond.sameMethod "SeeSawHill$LawReader" "SeeSawHill$TextReader" "number" "(II)I" ∈ WALL := q_of (m_t4 (List.mem_of_getElem? (i := 11) rfl)) rfl
theorem q4_115 : Cond.classLink "SeeSawHill" 130 "java/lang/UnsupportedOperationException" ∈ WALL := q_of (m_t4 (List.mem_of_getElem? (i := 115) rfl)) rfl
theorem q4_12 : Cond.selects "SeeSawHill$LawReader" ⟨"SeeSawHill$LawReader", "number", "(II)I"⟩ ⟨"SeeSawHill$TextReader", "number", "(II)I"⟩ ∈ WALL := q_of (m_t4 (List.mem_of_getElem? (i := 12) rfl)) rfl
theorem q4_13 : Cond.methodLink "SeeSawHill$LawReader" 33 ⟨"SeeSawHill$LawReader", "skip", "(I)Z"⟩ ∈ WALL := q_of (m_t4 (List.mem_of_getElem? (i := 13) rfl)) rfl
theorem q4_130 : Cond.methodLink "SeeSawHillLaw" 133 ⟨"SeeSawHillLaw", "law", "(LSeeSawHill;[J)I"⟩ ∈ WALL := q_of (m_t4 (List.mem_of_getElem? (i := 130) rfl)) rfl
theorem q4_131 : Cond.static ⟨"SeeSawHillLaw", "law", "(LSeeSawHill;[J)I"⟩ ∈ WALL := q_of (m_t4 (List.mem_of_getElem? (i := 131) rfl)) rfl
theorem q4_132 : Cond.codeWith ⟨"SeeSawHillLaw", "law", "(LSeeSawHill;[J)I"⟩ method_4_code 3 (some .int) [(0, 8, 11, 13)] ∈ WALL := q_of (m_t4 (List.mem_of_getElem? (i := 132) rfl)) rfl
theorem q4_133 : Cond.methodLink "SeeSawHillLaw" 17 ⟨"SeeSawHill", "law", "()I"⟩ ∈ WALL := q_of (m_t4 (List.mem_of_getElem? (i := 133) rfl)) rfl
theorem q4_134 : Cond.instanceMethod ⟨"SeeSawHill", "law", "()I"⟩ ∈ WALL := q_of (m_t4 (List.mem_of_getElem? (i := 134) rfl)) rfl
theorem q4_135 : Cond.selects "SeeSawHill" ⟨"SeeSawHill", "law", "()I"⟩ ⟨"SeeSawHill", "law", "()I"⟩ ∈ WALL := q_of (m_t4 (List.mem_of_getElem? (i := 135) rfl)) rfl
theorem q4_136 : Cond.code ⟨"SeeSawHill", "law", "()I"⟩ prog_1_method_7_code 1 (some .int) ∈ WALL := q_of (m_t4 (List.mem_of_getElem? (i := 136) rfl)) rfl
theorem q4_137 : Cond.methodLink "SeeSawHill" 139 ⟨"SeeSawHill$Law", "clear", "()V"⟩ ∈ WALL := q_of (m_t4 (List.mem_of_getElem? (i := 137) rfl)) rfl
theorem q4_138 : Cond.instanceMethod ⟨"SeeSawHill$Law", "clear", "()V"⟩ ∈ WALL := q_of (m_t4 (List.mem_of_getElem? (i := 138) rfl)) rfl
theorem q4_139 : Cond.selects "SeeSawHill$Law" ⟨"SeeSawHill$Law", "clear", "()V"⟩ ⟨"SeeSawHill$Law", "clear", "()V"⟩ ∈ WALL := q_of (m_t4 (List.mem_of_getElem? (i := 139) rfl)) rfl
theorem q4_14 : Cond.sameMethod "SeeSawHill$LawReader" "SeeSawHill$TextReader" "skip" "(I)Z" ∈ WALL := q_of (m_t4 (List.mem_of_getElem? (i := 14) rfl)) rfl
theorem q4_140 : Cond.code ⟨"SeeSawHill$Law", "clear", "()V"⟩ prog_7_method_2_code 1 none ∈ WALL := q_of (m_t4 (List.mem_of_getElem? (i := 140) rfl)) rfl
theorem q4_141 : Cond.methodLink "SeeSawHill" 142 ⟨"SeeSawHill$LawReader", "read", "()I"⟩ ∈ WALL := q_of (m_t4 (List.mem_of_getElem? (i := 141) rfl)) rfl
theorem q4_142 : Cond.sameMethod "SeeSawHill$LawReader" "SeeSawHill$TextReader" "read" "()I" ∈ WALL := q_of (m_t4 (List.mem_of_getElem? (i := 142) rfl)) rfl
theorem q4_143 : Cond.selects "SeeSawHill$LawReader" ⟨"SeeSawHill$LawReader", "read", "()I"⟩ ⟨"SeeSawHill$TextReader", "read", "()I"⟩ ∈ WALL := q_of (m_t4 (List.mem_of_getElem? (i := 143) rfl)) rfl
theorem q4_144 : Cond.methodLink "SeeSawHillLaw" 140 ⟨"SeeSawHillLaw", "plank", "(LSeeSawHill;II[J)I"⟩ ∈ WALL := q_of (m_t4 (List.mem_of_getElem? (i := 144) rfl)) rfl
theorem q4_145 : Cond.static ⟨"SeeSawHillLaw", "plank", "(LSeeSawHill;II[J)I"⟩ ∈ WALL := q_of (m_t4 (List.mem_of_getElem? (i := 145) rfl)) rfl
theorem q4_146 : Cond.codeWith ⟨"SeeSawHillLaw", "plank", "(LSeeSawHill;II[J)I"⟩ method_5_code 5 (some .int) [(0, 10, 13, 24), (0, 10, 17, 26)] ∈ WALL := q_of (m_t4 (List.mem_of_getElem? (i := 146) rfl)) rfl
theorem q4_147 : Cond.classLink "SeeSawHillLaw" 24 "java/lang/IndexOutOfBoundsException" ∈ WALL := q_of (m_t4 (List.mem_of_getElem? (i := 147) rfl)) rfl
theorem q4_148 : Cond.classLink "SeeSawHillLaw" 26 "java/util/NoSuchElementException" ∈ WALL := q_of (m_t4 (List.mem_of_getElem? (i := 148) rfl)) rfl
theorem q4_149 : Cond.methodLink "SeeSawHillLaw" 20 ⟨"SeeSawHill", "plank", "(II)I"⟩ ∈ WALL := q_of (m_t4 (List.mem_of_getElem? (i := 149) rfl)) rfl
theorem q4_15 : Cond.selects "SeeSawHill$LawReader" ⟨"SeeSawHill$LawReader", "skip", "(I)Z"⟩ ⟨"SeeSawHill$TextReader", "skip", "(I)Z"⟩ ∈ WALL := q_of (m_t4 (List.mem_of_getElem? (i := 15) rfl)) rfl
theorem q4_150 : Cond.instanceMethod ⟨"SeeSawHill", "plank", "(II)I"⟩ ∈ WALL := q_of (m_t4 (List.mem_of_getElem? (i := 150) rfl)) rfl
theorem q4_151 : Cond.selects "SeeSawHill" ⟨"SeeSawHill", "plank", "(II)I"⟩ ⟨"SeeSawHill", "plank", "(II)I"⟩ ∈ WALL := q_of (m_t4 (List.mem_of_getElem? (i := 151) rfl)) rfl
theorem q4_152 : Cond.code ⟨"SeeSawHill", "plank", "(II)I"⟩ prog_1_method_13_code 3 (some .int) ∈ WALL := q_of (m_t4 (List.mem_of_getElem? (i := 152) rfl)) rfl
theorem q4_153 : Cond.methodLink "SeeSawHill" 161 ⟨"SeeSawHill", "checkPlank", "(I)V"⟩ ∈ WALL := q_of (m_t4 (List.mem_of_getElem? (i := 153) rfl)) rfl
theorem q4_155 : Cond.instanceMethod ⟨"SeeSawHill", "checkPlank", "(I)V"⟩ ∈ WALL := q_of (m_t4 (List.mem_of_getElem? (i := 155) rfl)) rfl
theorem q4_156 : Cond.code ⟨"SeeSawHill", "checkPlank", "(I)V"⟩ prog_1_method_9_code 2 none ∈ WALL := q_of (m_t4 (List.mem_of_getElem? (i := 156) rfl)) rfl
theorem q4_157 : Cond.classLink "SeeSawHill" 152 "java/lang/IndexOutOfBoundsException" ∈ WALL := q_of (m_t4 (List.mem_of_getElem? (i := 157) rfl)) rfl
theorem q4_16 : Cond.methodLink "SeeSawHill$LawReader" 37 ⟨"SeeSawHill$LawReader", "readAny", "(I)Z"⟩ ∈ WALL := q_of (m_t4 (List.mem_of_getElem? (i := 16) rfl)) rfl
theorem q4_172 : Cond.methodLink "SeeSawHill" 182 ⟨"SeeSawHill$Hill", "isLevel", "(I)Z"⟩ ∈ WALL := q_of (m_t4 (List.mem_of_getElem? (i := 172) rfl)) rfl
theorem q4_173 : Cond.instanceMethod ⟨"SeeSawHill$Hill", "isLevel", "(I)Z"⟩ ∈ WALL := q_of (m_t4 (List.mem_of_getElem? (i := 173) rfl)) rfl
theorem q4_174 : Cond.selects "SeeSawHill$Hill" ⟨"SeeSawHill$Hill", "isLevel", "(I)Z"⟩ ⟨"SeeSawHill$Hill", "isLevel", "(I)Z"⟩ ∈ WALL := q_of (m_t4 (List.mem_of_getElem? (i := 174) rfl)) rfl
theorem q4_175 : Cond.code ⟨"SeeSawHill$Hill", "isLevel", "(I)Z"⟩ prog_5_method_9_code 2 (some .boolean) ∈ WALL := q_of (m_t4 (List.mem_of_getElem? (i := 175) rfl)) rfl
theorem q4_176 : Cond.methodLink "SeeSawHill" 186 ⟨"SeeSawHill$Hill", "agesBy", "(LSeeSawHill$Law;I)I"⟩ ∈ WALL := q_of (m_t4 (List.mem_of_getElem? (i := 176) rfl)) rfl
theorem q4_177 : Cond.classLink "SeeSawHill" 190 "java/util/NoSuchElementException" ∈ WALL := q_of (m_t4 (List.mem_of_getElem? (i := 177) rfl)) rfl
theorem q4_18 : Cond.instanceMethod ⟨"SeeSawHill$LawReader", "readAny", "(I)Z"⟩ ∈ WALL := q_of (m_t4 (List.mem_of_getElem? (i := 18) rfl)) rfl
theorem q4_19 : Cond.code ⟨"SeeSawHill$LawReader", "readAny", "(I)Z"⟩ prog_8_method_3_code 3 (some .boolean) ∈ WALL := q_of (m_t4 (List.mem_of_getElem? (i := 19) rfl)) rfl
theorem q4_192 : Cond.methodLink "SeeSawHillLaw" 144 ⟨"SeeSawHillLaw", "house", "(LSeeSawHill;II[J)I"⟩ ∈ WALL := q_of (m_t4 (List.mem_of_getElem? (i := 192) rfl)) rfl
theorem q4_193 : Cond.static ⟨"SeeSawHillLaw", "house", "(LSeeSawHill;II[J)I"⟩ ∈ WALL := q_of (m_t4 (List.mem_of_getElem? (i := 193) rfl)) rfl
theorem q4_194 : Cond.codeWith ⟨"SeeSawHillLaw", "house", "(LSeeSawHill;II[J)I"⟩ method_6_code 5 (some .int) [(0, 10, 13, 24), (0, 10, 17, 26)] ∈ WALL := q_of (m_t4 (List.mem_of_getElem? (i := 194) rfl)) rfl
theorem q4_195 : Cond.methodLink "SeeSawHillLaw" 28 ⟨"SeeSawHill", "house", "(II)I"⟩ ∈ WALL := q_of (m_t4 (List.mem_of_getElem? (i := 195) rfl)) rfl
theorem q4_196 : Cond.instanceMethod ⟨"SeeSawHill", "house", "(II)I"⟩ ∈ WALL := q_of (m_t4 (List.mem_of_getElem? (i := 196) rfl)) rfl
theorem q4_197 : Cond.selects "SeeSawHill" ⟨"SeeSawHill", "house", "(II)I"⟩ ⟨"SeeSawHill", "house", "(II)I"⟩ ∈ WALL := q_of (m_t4 (List.mem_of_getElem? (i := 197) rfl)) rfl
theorem q4_198 : Cond.code ⟨"SeeSawHill", "house", "(II)I"⟩ prog_1_method_14_code 3 (some .int) ∈ WALL := q_of (m_t4 (List.mem_of_getElem? (i := 198) rfl)) rfl
theorem q4_199 : Cond.methodLink "SeeSawHill" 193 ⟨"SeeSawHill", "checkHouse", "(I)V"⟩ ∈ WALL := q_of (m_t4 (List.mem_of_getElem? (i := 199) rfl)) rfl
theorem q4_2 : Cond.code ⟨"SeeSawHill$HillReader", "readSetting", "(I)Z"⟩ prog_6_method_6_code 3 (some .boolean) ∈ WALL := q_of (m_t4 (List.mem_of_getElem? (i := 2) rfl)) rfl
theorem q4_20 : Cond.methodLink "SeeSawHill$LawReader" 46 ⟨"SeeSawHill$LawReader", "readAll", "(I)Z"⟩ ∈ WALL := q_of (m_t4 (List.mem_of_getElem? (i := 20) rfl)) rfl
theorem q4_201 : Cond.instanceMethod ⟨"SeeSawHill", "checkHouse", "(I)V"⟩ ∈ WALL := q_of (m_t4 (List.mem_of_getElem? (i := 201) rfl)) rfl
theorem q4_202 : Cond.code ⟨"SeeSawHill", "checkHouse", "(I)V"⟩ prog_1_method_10_code 2 none ∈ WALL := q_of (m_t4 (List.mem_of_getElem? (i := 202) rfl)) rfl
theorem q4_203 : Cond.methodLink "SeeSawHill" 208 ⟨"SeeSawHill$Hill", "thingsIn", "(I)I"⟩ ∈ WALL := q_of (m_t4 (List.mem_of_getElem? (i := 203) rfl)) rfl
theorem q4_204 : Cond.methodLink "SeeSawHill" 211 ⟨"SeeSawHill$Hill", "paysBy", "(LSeeSawHill$Law;I)I"⟩ ∈ WALL := q_of (m_t4 (List.mem_of_getElem? (i := 204) rfl)) rfl
theorem q4_205 : Cond.methodLink "SeeSawHill" 214 ⟨"SeeSawHill$Hill", "luresBy", "(LSeeSawHill$Law;I)I"⟩ ∈ WALL := q_of (m_t4 (List.mem_of_getElem? (i := 205) rfl)) rfl
theorem q4_206 : Cond.methodLink "SeeSawHill" 217 ⟨"SeeSawHill$Hill", "shareOf", "(I)I"⟩ ∈ WALL := q_of (m_t4 (List.mem_of_getElem? (i := 206) rfl)) rfl
theorem q4_207 : Cond.instanceMethod ⟨"SeeSawHill$Hill", "shareOf", "(I)I"⟩ ∈ WALL := q_of (m_t4 (List.mem_of_getElem? (i := 207) rfl)) rfl
theorem q4_208 : Cond.selects "SeeSawHill$Hill" ⟨"SeeSawHill$Hill", "shareOf", "(I)I"⟩ ⟨"SeeSawHill$Hill", "shareOf", "(I)I"⟩ ∈ WALL := q_of (m_t4 (List.mem_of_getElem? (i := 208) rfl)) rfl
theorem q4_209 : Cond.code ⟨"SeeSawHill$Hill", "shareOf", "(I)I"⟩ prog_5_method_22_code 4 (some .int) ∈ WALL := q_of (m_t4 (List.mem_of_getElem? (i := 209) rfl)) rfl
theorem q4_210 : Cond.methodLink "SeeSawHill" 220 ⟨"SeeSawHill$Hill", "corkOf", "(I)I"⟩ ∈ WALL := q_of (m_t4 (List.mem_of_getElem? (i := 210) rfl)) rfl
theorem q4_211 : Cond.instanceMethod ⟨"SeeSawHill$Hill", "corkOf", "(I)I"⟩ ∈ WALL := q_of (m_t4 (List.mem_of_getElem? (i := 211) rfl)) rfl
theorem q4_212 : Cond.selects "SeeSawHill$Hill" ⟨"SeeSawHill$Hill", "corkOf", "(I)I"⟩ ⟨"SeeSawHill$Hill", "corkOf", "(I)I"⟩ ∈ WALL := q_of (m_t4 (List.mem_of_getElem? (i := 212) rfl)) rfl
theorem q4_213 : Cond.code ⟨"SeeSawHill$Hill", "corkOf", "(I)I"⟩ prog_5_method_23_code 4 (some .int) ∈ WALL := q_of (m_t4 (List.mem_of_getElem? (i := 213) rfl)) rfl
theorem q4_214 : Cond.methodLink "SeeSawHillLaw" 147 ⟨"SeeSawHillLaw", "thing", "(LSeeSawHill;II[J)I"⟩ ∈ WALL := q_of (m_t4 (List.mem_of_getElem? (i := 214) rfl)) rfl
theorem q4_215 : Cond.static ⟨"SeeSawHillLaw", "thing", "(LSeeSawHill;II[J)I"⟩ ∈ WALL := q_of (m_t4 (List.mem_of_getElem? (i := 215) rfl)) rfl
theorem q4_216 : Cond.codeWith ⟨"SeeSawHillLaw", "thing", "(LSeeSawHill;II[J)I"⟩ method_7_code 5 (some .int) [(0, 10, 13, 24), (0, 10, 17, 26)] ∈ WALL := q_of (m_t4 (List.mem_of_getElem? (i := 216) rfl)) rfl
theorem q4_217 : Cond.methodLink "SeeSawHillLaw" 31 ⟨"SeeSawHill", "thing", "(II)I"⟩ ∈ WALL := q_of (m_t4 (List.mem_of_getElem? (i := 217) rfl)) rfl
theorem q4_218 : Cond.instanceMethod ⟨"SeeSawHill", "thing", "(II)I"⟩ ∈ WALL := q_of (m_t4 (List.mem_of_getElem? (i := 218) rfl)) rfl
theorem q4_219 : Cond.selects "SeeSawHill" ⟨"SeeSawHill", "thing", "(II)I"⟩ ⟨"SeeSawHill", "thing", "(II)I"⟩ ∈ WALL := q_of (m_t4 (List.mem_of_getElem? (i := 219) rfl)) rfl
theorem q4_22 : Cond.instanceMethod ⟨"SeeSawHill$LawReader", "readAll", "(I)Z"⟩ ∈ WALL := q_of (m_t4 (List.mem_of_getElem? (i := 22) rfl)) rfl
theorem q4_220 : Cond.code ⟨"SeeSawHill", "thing", "(II)I"⟩ prog_1_method_15_code 3 (some .int) ∈ WALL := q_of (m_t4 (List.mem_of_getElem? (i := 220) rfl)) rfl
theorem q4_221 : Cond.methodLink "SeeSawHill" 223 ⟨"SeeSawHill", "checkThing", "(I)V"⟩ ∈ WALL := q_of (m_t4 (List.mem_of_getElem? (i := 221) rfl)) rfl
theorem q4_223 : Cond.instanceMethod ⟨"SeeSawHill", "checkThing", "(I)V"⟩ ∈ WALL := q_of (m_t4 (List.mem_of_getElem? (i := 223) rfl)) rfl
theorem q4_224 : Cond.code ⟨"SeeSawHill", "checkThing", "(I)V"⟩ prog_1_method_11_code 2 none ∈ WALL := q_of (m_t4 (List.mem_of_getElem? (i := 224) rfl)) rfl
theorem q4_225 : Cond.methodLink "SeeSawHillLaw" 150 ⟨"SeeSawHillLaw", "carry", "(LSeeSawHill;II[J)I"⟩ ∈ WALL := q_of (m_t4 (List.mem_of_getElem? (i := 225) rfl)) rfl
theorem q4_226 : Cond.static ⟨"SeeSawHillLaw", "carry", "(LSeeSawHill;II[J)I"⟩ ∈ WALL := q_of (m_t4 (List.mem_of_getElem? (i := 226) rfl)) rfl
theorem q4_227 : Cond.codeWith ⟨"SeeSawHillLaw", "carry", "(LSeeSawHill;II[J)I"⟩ method_8_code 5 (some .int) [(0, 10, 13, 24), (0, 10, 17, 37)] ∈ WALL := q_of (m_t4 (List.mem_of_getElem? (i := 227) rfl)) rfl
theorem q4_228 : Cond.classLink "SeeSawHillLaw" 37 "java/lang/IllegalStateException" ∈ WALL := q_of (m_t4 (List.mem_of_getElem? (i := 228) rfl)) rfl
theorem q4_229 : Cond.methodLink "SeeSawHillLaw" 34 ⟨"SeeSawHill", "carry", "(II)I"⟩ ∈ WALL := q_of (m_t4 (List.mem_of_getElem? (i := 229) rfl)) rfl
theorem q4_23 : Cond.code ⟨"SeeSawHill$LawReader", "readAll", "(I)Z"⟩ prog_8_method_4_code 3 (some .boolean) ∈ WALL := q_of (m_t4 (List.mem_of_getElem? (i := 23) rfl)) rfl
theorem q4_230 : Cond.instanceMethod ⟨"SeeSawHill", "carry", "(II)I"⟩ ∈ WALL := q_of (m_t4 (List.mem_of_getElem? (i := 230) rfl)) rfl
theorem q4_231 : Cond.selects "SeeSawHill" ⟨"SeeSawHill", "carry", "(II)I"⟩ ⟨"SeeSawHill", "carry", "(II)I"⟩ ∈ WALL := q_of (m_t4 (List.mem_of_getElem? (i := 231) rfl)) rfl
theorem q4_232 : Cond.code ⟨"SeeSawHill", "carry", "(II)I"⟩ prog_1_method_16_code 4 (some .int) ∈ WALL := q_of (m_t4 (List.mem_of_getElem? (i := 232) rfl)) rfl
theorem q4_233 : Cond.classLink "SeeSawHill" 235 "java/lang/IllegalStateException" ∈ WALL := q_of (m_t4 (List.mem_of_getElem? (i := 233) rfl)) rfl
theorem q4_24 : Cond.methodLink "SeeSawHill$LawReader" 53 ⟨"SeeSawHill$LawReader", "readAtom", "(I)Z"⟩ ∈ WALL := q_of (m_t4 (List.mem_of_getElem? (i := 24) rfl)) rfl
theorem q4_26 : Cond.instanceMethod ⟨"SeeSawHill$LawReader", "readAtom", "(I)Z"⟩ ∈ WALL := q_of (m_t4 (List.mem_of_getElem? (i := 26) rfl)) rfl
theorem q4_27 : Cond.code ⟨"SeeSawHill$LawReader", "readAtom", "(I)Z"⟩ prog_8_method_5_code 4 (some .boolean) ∈ WALL := q_of (m_t4 (List.mem_of_getElem? (i := 27) rfl)) rfl
theorem q4_28 : Cond.methodLink "SeeSawHill$LawReader" 56 ⟨"SeeSawHill$LawReader", "readDeeper", "(II)Z"⟩ ∈ WALL := q_of (m_t4 (List.mem_of_getElem? (i := 28) rfl)) rfl
theorem q4_3 : Cond.methodLink "SeeSawHill$HillReader" 77 ⟨"SeeSawHill$HillReader", "mostOf", "(I)I"⟩ ∈ WALL := q_of (m_t4 (List.mem_of_getElem? (i := 3) rfl)) rfl
theorem q4_30 : Cond.instanceMethod ⟨"SeeSawHill$LawReader", "readDeeper", "(II)Z"⟩ ∈ WALL := q_of (m_t4 (List.mem_of_getElem? (i := 30) rfl)) rfl
theorem q4_31 : Cond.code ⟨"SeeSawHill$LawReader", "readDeeper", "(II)Z"⟩ prog_8_method_6_code 3 (some .boolean) ∈ WALL := q_of (m_t4 (List.mem_of_getElem? (i := 31) rfl)) rfl
theorem q4_32 : Cond.methodLink "SeeSawHill$LawReader" 49 ⟨"SeeSawHill$Law", "put", "(I)V"⟩ ∈ WALL := q_of (m_t4 (List.mem_of_getElem? (i := 32) rfl)) rfl
theorem q4_33 : Cond.instanceMethod ⟨"SeeSawHill$Law", "put", "(I)V"⟩ ∈ WALL := q_of (m_t4 (List.mem_of_getElem? (i := 33) rfl)) rfl
theorem q4_34 : Cond.selects "SeeSawHill$Law" ⟨"SeeSawHill$Law", "put", "(I)V"⟩ ⟨"SeeSawHill$Law", "put", "(I)V"⟩ ∈ WALL := q_of (m_t4 (List.mem_of_getElem? (i := 34) rfl)) rfl
theorem q4_35 : Cond.code ⟨"SeeSawHill$Law", "put", "(I)V"⟩ prog_7_method_3_code 2 none ∈ WALL := q_of (m_t4 (List.mem_of_getElem? (i := 35) rfl)) rfl
theorem q4_36 : Cond.methodLink "SeeSawHill$LawReader" 60 ⟨"SeeSawHill$LawReader", "readSum", "()Z"⟩ ∈ WALL := q_of (m_t4 (List.mem_of_getElem? (i := 36) rfl)) rfl
theorem q4_38 : Cond.instanceMethod ⟨"SeeSawHill$LawReader", "readSum", "()Z"⟩ ∈ WALL := q_of (m_t4 (List.mem_of_getElem? (i := 38) rfl)) rfl
theorem q4_39 : Cond.code ⟨"SeeSawHill$LawReader", "readSum", "()Z"⟩ prog_8_method_7_code 4 (some .boolean) ∈ WALL := q_of (m_t4 (List.mem_of_getElem? (i := 39) rfl)) rfl
theorem q4_4 : Cond.static ⟨"SeeSawHill$HillReader", "mostOf", "(I)I"⟩ ∈ WALL := q_of (m_t4 (List.mem_of_getElem? (i := 4) rfl)) rfl
theorem q4_40 : Cond.methodLink "SeeSawHill$LawReader" 64 ⟨"SeeSawHill$Tokens", "value", "(I)I"⟩ ∈ WALL := q_of (m_t4 (List.mem_of_getElem? (i := 40) rfl)) rfl
theorem q4_41 : Cond.methodLink "SeeSawHill$LawReader" 40 ⟨"SeeSawHill$Law", "addLine", "(II)V"⟩ ∈ WALL := q_of (m_t4 (List.mem_of_getElem? (i := 41) rfl)) rfl
theorem q4_42 : Cond.instanceMethod ⟨"SeeSawHill$Law", "addLine", "(II)V"⟩ ∈ WALL := q_of (m_t4 (List.mem_of_getElem? (i := 42) rfl)) rfl
theorem q4_43 : Cond.selects "SeeSawHill$Law" ⟨"SeeSawHill$Law", "addLine", "(II)V"⟩ ⟨"SeeSawHill$Law", "addLine", "(II)V"⟩ ∈ WALL := q_of (m_t4 (List.mem_of_getElem? (i := 43) rfl)) rfl
theorem q4_44 : Cond.code ⟨"SeeSawHill$Law", "addLine", "(II)V"⟩ prog_7_method_4_code 3 none ∈ WALL := q_of (m_t4 (List.mem_of_getElem? (i := 44) rfl)) rfl
theorem q4_45 : Cond.methodLink "SeeSawHill$TextReader" 32 ⟨"SeeSawHill$Tokens", "start", "(I)I"⟩ ∈ WALL := q_of (m_t4 (List.mem_of_getElem? (i := 45) rfl)) rfl
theorem q4_46 : Cond.instanceMethod ⟨"SeeSawHill$Tokens", "start", "(I)I"⟩ ∈ WALL := q_of (m_t4 (List.mem_of_getElem? (i := 46) rfl)) rfl
theorem q4_47 : Cond.selects "SeeSawHill$Tokens" ⟨"SeeSawHill$Tokens", "start", "(I)I"⟩ ⟨"SeeSawHill$Tokens", "start", "(I)I"⟩ ∈ WALL := q_of (m_t4 (List.mem_of_getElem? (i := 47) rfl)) rfl
theorem q4_48 : Cond.code ⟨"SeeSawHill$Tokens", "start", "(I)I"⟩ prog_12_method_13_code 2 (some .int) ∈ WALL := q_of (m_t4 (List.mem_of_getElem? (i := 48) rfl)) rfl
theorem q4_49 : Cond.methodLink "SeeSawHill$TextReader" 35 ⟨"SeeSawHill$TextReader", "skip", "(I)Z"⟩ ∈ WALL := q_of (m_t4 (List.mem_of_getElem? (i := 49) rfl)) rfl
theorem q4_5 : Cond.code ⟨"SeeSawHill$HillReader", "mostOf", "(I)I"⟩ prog_6_method_7_code 1 (some .int) ∈ WALL := q_of (m_t4 (List.mem_of_getElem? (i := 5) rfl)) rfl
theorem q4_50 : Cond.classLink "SeeSawHill" 127 "java/lang/IllegalArgumentException" ∈ WALL := q_of (m_t4 (List.mem_of_getElem? (i := 50) rfl)) rfl
theorem q4_6 : Cond.selects "SeeSawHill$LawReader" ⟨"SeeSawHill$TextReader", "readLine", "()Z"⟩ ⟨"SeeSawHill$LawReader", "readLine", "()Z"⟩ ∈ WALL := q_of (m_t4 (List.mem_of_getElem? (i := 6) rfl)) rfl
theorem q4_7 : Cond.instanceMethod ⟨"SeeSawHill$LawReader", "readLine", "()Z"⟩ ∈ WALL := q_of (m_t4 (List.mem_of_getElem? (i := 7) rfl)) rfl
theorem q4_8 : Cond.code ⟨"SeeSawHill$LawReader", "readLine", "()Z"⟩ prog_8_method_2_code 3 (some .boolean) ∈ WALL := q_of (m_t4 (List.mem_of_getElem? (i := 8) rfl)) rfl
theorem q4_9 : Cond.methodLink "SeeSawHill$LawReader" 23 ⟨"SeeSawHill$Tokens", "code", "(I)I"⟩ ∈ WALL := q_of (m_t4 (List.mem_of_getElem? (i := 9) rfl)) rfl
theorem q5_10 : Cond.selects "SeeSawHill$Diary" ⟨"SeeSawHill$Diary", "addRow", "(IIII)V"⟩ ⟨"SeeSawHill$Diary", "addRow", "(IIII)V"⟩ ∈ WALL := q_of (m_t5 (List.mem_of_getElem? (i := 10) rfl)) rfl
theorem q5_100 : Cond.static ⟨"java/lang/Integer", "bitCount", "(I)I"⟩ ∈ WALL := q_of (m_t5 (List.mem_of_getElem? (i := 100) rfl)) rfl
theorem q5_101 : Cond.code ⟨"java/lang/Integer", "bitCount", "(I)I"⟩ prog_22_method_49_code 1 (some .int) ∈ WALL := q_of (m_t5 (List.mem_of_getElem? (i := 101) rfl)) rfl
theorem q5_102 : Cond.constant "java/lang/Integer" 265 (1431655765) ∈ WALL := q_of (m_t5 (List.mem_of_getElem? (i := 102) rfl)) rfl
theorem q5_103 : Cond.constant "java/lang/Integer" 266 (858993459) ∈ WALL := q_of (m_t5 (List.mem_of_getElem? (i := 103) rfl)) rfl
theorem q5_104 : Cond.constant "java/lang/Integer" 267 (252645135) ∈ WALL := q_of (m_t5 (List.mem_of_getElem? (i := 104) rfl)) rfl
theorem q5_105 : Cond.methodLink "SeeSawHillLaw" 193 ⟨"SeeSawHillLaw", "heave", "(LSeeSawHill;IIZ[J)I"⟩ ∈ WALL := q_of (m_t5 (List.mem_of_getElem? (i := 105) rfl)) rfl
theorem q5_106 : Cond.static ⟨"SeeSawHillLaw", "heave", "(LSeeSawHill;IIZ[J)I"⟩ ∈ WALL := q_of (m_t5 (List.mem_of_getElem? (i := 106) rfl)) rfl
theorem q5_107 : Cond.codeWith ⟨"SeeSawHillLaw", "heave", "(LSeeSawHill;IIZ[J)I"⟩ method_16_code 6 (some .int) [(0, 12, 15, 24), (0, 12, 19, 13)] ∈ WALL := q_of (m_t5 (List.mem_of_getElem? (i := 107) rfl)) rfl
theorem q5_108 : Cond.methodLink "SeeSawHillLaw" 63 ⟨"SeeSawHill", "heave", "(IIZ)I"⟩ ∈ WALL := q_of (m_t5 (List.mem_of_getElem? (i := 108) rfl)) rfl
theorem q5_109 : Cond.instanceMethod ⟨"SeeSawHill", "heave", "(IIZ)I"⟩ ∈ WALL := q_of (m_t5 (List.mem_of_getElem? (i := 109) rfl)) rfl
theorem q5_11 : Cond.code ⟨"SeeSawHill$Diary", "addRow", "(IIII)V"⟩ prog_3_method_3_code 6 none ∈ WALL := q_of (m_t5 (List.mem_of_getElem? (i := 11) rfl)) rfl
theorem q5_110 : Cond.selects "SeeSawHill" ⟨"SeeSawHill", "heave", "(IIZ)I"⟩ ⟨"SeeSawHill", "heave", "(IIZ)I"⟩ ∈ WALL := q_of (m_t5 (List.mem_of_getElem? (i := 110) rfl)) rfl
theorem q5_111 : Cond.code ⟨"SeeSawHill", "heave", "(IIZ)I"⟩ prog_1_method_28_code 5 (some .int) ∈ WALL := q_of (m_t5 (List.mem_of_getElem? (i := 111) rfl)) rfl
theorem q5_112 : Cond.methodLink "SeeSawHill" 276 ⟨"SeeSawHill$Hill", "weightOf", "(I)I"⟩ ∈ WALL := q_of (m_t5 (List.mem_of_getElem? (i := 112) rfl)) rfl
theorem q5_113 : Cond.methodLink "SeeSawHillLaw" 197 ⟨"SeeSawHillLaw", "breaks", "(LSeeSawHill;I[J)I"⟩ ∈ WALL := q_of (m_t5 (List.mem_of_getElem? (i := 113) rfl)) rfl
theorem q5_114 : Cond.static ⟨"SeeSawHillLaw", "breaks", "(LSeeSawHill;I[J)I"⟩ ∈ WALL := q_of (m_t5 (List.mem_of_getElem? (i := 114) rfl)) rfl
theorem q5_115 : Cond.codeWith ⟨"SeeSawHillLaw", "breaks", "(LSeeSawHill;I[J)I"⟩ method_17_code 4 (some .int) [(0, 9, 12, 24)] ∈ WALL := q_of (m_t5 (List.mem_of_getElem? (i := 115) rfl)) rfl
theorem q5_116 : Cond.methodLink "SeeSawHillLaw" 67 ⟨"SeeSawHill", "breaks", "(I)I"⟩ ∈ WALL := q_of (m_t5 (List.mem_of_getElem? (i := 116) rfl)) rfl
theorem q5_117 : Cond.instanceMethod ⟨"SeeSawHill", "breaks", "(I)I"⟩ ∈ WALL := q_of (m_t5 (List.mem_of_getElem? (i := 117) rfl)) rfl
theorem q5_118 : Cond.selects "SeeSawHill" ⟨"SeeSawHill", "breaks", "(I)I"⟩ ⟨"SeeSawHill", "breaks", "(I)I"⟩ ∈ WALL := q_of (m_t5 (List.mem_of_getElem? (i := 118) rfl)) rfl
theorem q5_119 : Cond.code ⟨"SeeSawHill", "breaks", "(I)I"⟩ prog_1_method_29_code 2 (some .int) ∈ WALL := q_of (m_t5 (List.mem_of_getElem? (i := 119) rfl)) rfl
theorem q5_12 : Cond.methodLink "SeeSawHillLaw" 153 ⟨"SeeSawHillLaw", "guests", "(LSeeSawHill;II[J)I"⟩ ∈ WALL := q_of (m_t5 (List.mem_of_getElem? (i := 12) rfl)) rfl
theorem q5_120 : Cond.methodLink "SeeSawHillLaw" 200 ⟨"SeeSawHillLaw", "more", "(LSeeSawHill;I[J)I"⟩ ∈ WALL := q_of (m_t5 (List.mem_of_getElem? (i := 120) rfl)) rfl
theorem q5_121 : Cond.static ⟨"SeeSawHillLaw", "more", "(LSeeSawHill;I[J)I"⟩ ∈ WALL := q_of (m_t5 (List.mem_of_getElem? (i := 121) rfl)) rfl
theorem q5_122 : Cond.codeWith ⟨"SeeSawHillLaw", "more", "(LSeeSawHill;I[J)I"⟩ method_18_code 4 (some .int) [(0, 9, 12, 24)] ∈ WALL := q_of (m_t5 (List.mem_of_getElem? (i := 122) rfl)) rfl
theorem q5_123 : Cond.methodLink "SeeSawHillLaw" 70 ⟨"SeeSawHill", "more", "(I)I"⟩ ∈ WALL := q_of (m_t5 (List.mem_of_getElem? (i := 123) rfl)) rfl
theorem q5_124 : Cond.instanceMethod ⟨"SeeSawHill", "more", "(I)I"⟩ ∈ WALL := q_of (m_t5 (List.mem_of_getElem? (i := 124) rfl)) rfl
theorem q5_125 : Cond.selects "SeeSawHill" ⟨"SeeSawHill", "more", "(I)I"⟩ ⟨"SeeSawHill", "more", "(I)I"⟩ ∈ WALL := q_of (m_t5 (List.mem_of_getElem? (i := 125) rfl)) rfl
theorem q5_126 : Cond.code ⟨"SeeSawHill", "more", "(I)I"⟩ prog_1_method_31_code 2 (some .int) ∈ WALL := q_of (m_t5 (List.mem_of_getElem? (i := 126) rfl)) rfl
theorem q5_127 : Cond.methodLink "SeeSawHill" 289 ⟨"SeeSawHill$Hill", "bearsMore", "(I)I"⟩ ∈ WALL := q_of (m_t5 (List.mem_of_getElem? (i := 127) rfl)) rfl
theorem q5_128 : Cond.methodLink "SeeSawHillLaw" 207 ⟨"SeeSawHillLaw", "match", "(LSeeSawHill;II[J)I"⟩ ∈ WALL := q_of (m_t5 (List.mem_of_getElem? (i := 128) rfl)) rfl
theorem q5_129 : Cond.static ⟨"SeeSawHillLaw", "match", "(LSeeSawHill;II[J)I"⟩ ∈ WALL := q_of (m_t5 (List.mem_of_getElem? (i := 129) rfl)) rfl
theorem q5_13 : Cond.static ⟨"SeeSawHillLaw", "guests", "(LSeeSawHill;II[J)I"⟩ ∈ WALL := q_of (m_t5 (List.mem_of_getElem? (i := 13) rfl)) rfl
theorem q5_130 : Cond.codeWith ⟨"SeeSawHillLaw", "match", "(LSeeSawHill;II[J)I"⟩ method_19_code 5 (some .int) [(0, 10, 13, 24)] ∈ WALL := q_of (m_t5 (List.mem_of_getElem? (i := 130) rfl)) rfl
theorem q5_131 : Cond.methodLink "SeeSawHillLaw" 73 ⟨"SeeSawHill", "match", "(II)I"⟩ ∈ WALL := q_of (m_t5 (List.mem_of_getElem? (i := 131) rfl)) rfl
theorem q5_132 : Cond.instanceMethod ⟨"SeeSawHill", "match", "(II)I"⟩ ∈ WALL := q_of (m_t5 (List.mem_of_getElem? (i := 132) rfl)) rfl
theorem q5_133 : Cond.selects "SeeSawHill" ⟨"SeeSawHill", "match", "(II)I"⟩ ⟨"SeeSawHill", "match", "(II)I"⟩ ∈ WALL := q_of (m_t5 (List.mem_of_getElem? (i := 133) rfl)) rfl
theorem q5_134 : Cond.code ⟨"SeeSawHill", "match", "(II)I"⟩ prog_1_method_33_code 5 (some .int) ∈ WALL := q_of (m_t5 (List.mem_of_getElem? (i := 134) rfl)) rfl
theorem q5_135 : Cond.methodLink "SeeSawHill" 292 ⟨"java/lang/Integer", "bitCount", "(I)I"⟩ ∈ WALL := q_of (m_t5 (List.mem_of_getElem? (i := 135) rfl)) rfl
theorem q5_136 : Cond.methodLink "SeeSawHill" 297 ⟨"SeeSawHill$Marriage", "howMuch", "([II)I"⟩ ∈ WALL := q_of (m_t5 (List.mem_of_getElem? (i := 136) rfl)) rfl
theorem q5_137 : Cond.static ⟨"SeeSawHill$Marriage", "howMuch", "([II)I"⟩ ∈ WALL := q_of (m_t5 (List.mem_of_getElem? (i := 137) rfl)) rfl
theorem q5_138 : Cond.code ⟨"SeeSawHill$Marriage", "howMuch", "([II)I"⟩ prog_9_method_2_code 2 (some .int) ∈ WALL := q_of (m_t5 (List.mem_of_getElem? (i := 138) rfl)) rfl
theorem q5_139 : Cond.methodLink "SeeSawHill$Marriage" 9 ⟨"SeeSawHill$Marriage", "leastSum", "([III)I"⟩ ∈ WALL := q_of (m_t5 (List.mem_of_getElem? (i := 139) rfl)) rfl
theorem q5_14 : Cond.codeWith ⟨"SeeSawHillLaw", "guests", "(LSeeSawHill;II[J)I"⟩ method_9_code 5 (some .int) [(0, 10, 13, 24), (0, 10, 17, 13)] ∈ WALL := q_of (m_t5 (List.mem_of_getElem? (i := 14) rfl)) rfl
theorem q5_140 : Cond.static ⟨"SeeSawHill$Marriage", "leastSum", "([III)I"⟩ ∈ WALL := q_of (m_t5 (List.mem_of_getElem? (i := 140) rfl)) rfl
theorem q5_141 : Cond.code ⟨"SeeSawHill$Marriage", "leastSum", "([III)I"⟩ prog_9_method_3_code 9 (some .int) ∈ WALL := q_of (m_t5 (List.mem_of_getElem? (i := 141) rfl)) rfl
theorem q5_142 : Cond.methodLink "SeeSawHill$Marriage" 15 ⟨"SeeSawHill$Marriage", "lowest", "(I)I"⟩ ∈ WALL := q_of (m_t5 (List.mem_of_getElem? (i := 142) rfl)) rfl
theorem q5_143 : Cond.static ⟨"SeeSawHill$Marriage", "lowest", "(I)I"⟩ ∈ WALL := q_of (m_t5 (List.mem_of_getElem? (i := 143) rfl)) rfl
theorem q5_144 : Cond.code ⟨"SeeSawHill$Marriage", "lowest", "(I)I"⟩ prog_9_method_4_code 2 (some .int) ∈ WALL := q_of (m_t5 (List.mem_of_getElem? (i := 144) rfl)) rfl
theorem q5_145 : Cond.methodLink "SeeSawHill$Marriage" 19 ⟨"java/lang/Math", "abs", "(I)I"⟩ ∈ WALL := q_of (m_t5 (List.mem_of_getElem? (i := 145) rfl)) rfl
theorem q5_146 : Cond.methodLink "SeeSawHill$Marriage" 24 ⟨"java/lang/Math", "min", "(II)I"⟩ ∈ WALL := q_of (m_t5 (List.mem_of_getElem? (i := 146) rfl)) rfl
theorem q5_147 : Cond.methodLink "SeeSawHill" 303 ⟨"SeeSawHill$Marriage", "partnerOf", "([III)I"⟩ ∈ WALL := q_of (m_t5 (List.mem_of_getElem? (i := 147) rfl)) rfl
theorem q5_148 : Cond.static ⟨"SeeSawHill$Marriage", "partnerOf", "([III)I"⟩ ∈ WALL := q_of (m_t5 (List.mem_of_getElem? (i := 148) rfl)) rfl
theorem q5_149 : Cond.code ⟨"SeeSawHill$Marriage", "partnerOf", "([III)I"⟩ prog_9_method_5_code 7 (some .int) ∈ WALL := q_of (m_t5 (List.mem_of_getElem? (i := 149) rfl)) rfl
theorem q5_15 : Cond.methodLink "SeeSawHillLaw" 39 ⟨"SeeSawHill", "guests", "(II)I"⟩ ∈ WALL := q_of (m_t5 (List.mem_of_getElem? (i := 15) rfl)) rfl
theorem q5_150 : Cond.methodLink "SeeSawHill$Marriage" 28 ⟨"SeeSawHill$Marriage", "firstPartner", "([III)I"⟩ ∈ WALL := q_of (m_t5 (List.mem_of_getElem? (i := 150) rfl)) rfl
theorem q5_151 : Cond.static ⟨"SeeSawHill$Marriage", "firstPartner", "([III)I"⟩ ∈ WALL := q_of (m_t5 (List.mem_of_getElem? (i := 151) rfl)) rfl
theorem q5_152 : Cond.code ⟨"SeeSawHill$Marriage", "firstPartner", "([III)I"⟩ prog_9_method_6_code 6 (some .int) ∈ WALL := q_of (m_t5 (List.mem_of_getElem? (i := 152) rfl)) rfl
theorem q5_153 : Cond.methodLink "SeeSawHillLaw" 210 ⟨"SeeSawHillLaw", "has", "(LSeeSawHill;IZ[J)I"⟩ ∈ WALL := q_of (m_t5 (List.mem_of_getElem? (i := 153) rfl)) rfl
theorem q5_154 : Cond.static ⟨"SeeSawHillLaw", "has", "(LSeeSawHill;IZ[J)I"⟩ ∈ WALL := q_of (m_t5 (List.mem_of_getElem? (i := 154) rfl)) rfl
theorem q5_155 : Cond.codeWith ⟨"SeeSawHillLaw", "has", "(LSeeSawHill;IZ[J)I"⟩ method_20_code 5 (some .int) [(0, 10, 13, 24), (0, 10, 17, 13)] ∈ WALL := q_of (m_t5 (List.mem_of_getElem? (i := 155) rfl)) rfl
theorem q5_156 : Cond.methodLink "SeeSawHillLaw" 76 ⟨"SeeSawHill", "has", "(IZ)I"⟩ ∈ WALL := q_of (m_t5 (List.mem_of_getElem? (i := 156) rfl)) rfl
theorem q5_157 : Cond.instanceMethod ⟨"SeeSawHill", "has", "(IZ)I"⟩ ∈ WALL := q_of (m_t5 (List.mem_of_getElem? (i := 157) rfl)) rfl
theorem q5_158 : Cond.selects "SeeSawHill" ⟨"SeeSawHill", "has", "(IZ)I"⟩ ⟨"SeeSawHill", "has", "(IZ)I"⟩ ∈ WALL := q_of (m_t5 (List.mem_of_getElem? (i := 158) rfl)) rfl
theorem q5_159 : Cond.code ⟨"SeeSawHill", "has", "(IZ)I"⟩ prog_1_method_34_code 3 (some .int) ∈ WALL := q_of (m_t5 (List.mem_of_getElem? (i := 159) rfl)) rfl
theorem q5_16 : Cond.instanceMethod ⟨"SeeSawHill", "guests", "(II)I"⟩ ∈ WALL := q_of (m_t5 (List.mem_of_getElem? (i := 16) rfl)) rfl
theorem q5_160 : Cond.methodLink "SeeSawHill" 307 ⟨"SeeSawHill", "findFits", "(I)V"⟩ ∈ WALL := q_of (m_t5 (List.mem_of_getElem? (i := 160) rfl)) rfl
theorem q5_162 : Cond.instanceMethod ⟨"SeeSawHill", "findFits", "(I)V"⟩ ∈ WALL := q_of (m_t5 (List.mem_of_getElem? (i := 162) rfl)) rfl
theorem q5_163 : Cond.code ⟨"SeeSawHill", "findFits", "(I)V"⟩ prog_1_method_36_code 3 none ∈ WALL := q_of (m_t5 (List.mem_of_getElem? (i := 163) rfl)) rfl
theorem q5_164 : Cond.methodLink "SeeSawHill" 319 ⟨"SeeSawHill$Guess", "isTold", "([BI)Z"⟩ ∈ WALL := q_of (m_t5 (List.mem_of_getElem? (i := 164) rfl)) rfl
theorem q5_165 : Cond.static ⟨"SeeSawHill$Guess", "isTold", "([BI)Z"⟩ ∈ WALL := q_of (m_t5 (List.mem_of_getElem? (i := 165) rfl)) rfl
theorem q5_166 : Cond.code ⟨"SeeSawHill$Guess", "isTold", "([BI)Z"⟩ prog_4_method_2_code 5 (some .boolean) ∈ WALL := q_of (m_t5 (List.mem_of_getElem? (i := 166) rfl)) rfl
theorem q5_167 : Cond.methodLink "SeeSawHill" 323 ⟨"SeeSawHill$Guess", "search", "(LSeeSawHill$Hill;I[BI)V"⟩ ∈ WALL := q_of (m_t5 (List.mem_of_getElem? (i := 167) rfl)) rfl
theorem q5_168 : Cond.instanceMethod ⟨"SeeSawHill$Guess", "search", "(LSeeSawHill$Hill;I[BI)V"⟩ ∈ WALL := q_of (m_t5 (List.mem_of_getElem? (i := 168) rfl)) rfl
theorem q5_169 : Cond.selects "SeeSawHill$Guess" ⟨"SeeSawHill$Guess", "search", "(LSeeSawHill$Hill;I[BI)V"⟩ ⟨"SeeSawHill$Guess", "search", "(LSeeSawHill$Hill;I[BI)V"⟩ ∈ WALL := q_of (m_t5 (List.mem_of_getElem? (i := 169) rfl)) rfl
theorem q5_17 : Cond.selects "SeeSawHill" ⟨"SeeSawHill", "guests", "(II)I"⟩ ⟨"SeeSawHill", "guests", "(II)I"⟩ ∈ WALL := q_of (m_t5 (List.mem_of_getElem? (i := 17) rfl)) rfl
theorem q5_170 : Cond.code ⟨"SeeSawHill$Guess", "search", "(LSeeSawHill$Hill;I[BI)V"⟩ prog_4_method_3_code 8 none ∈ WALL := q_of (m_t5 (List.mem_of_getElem? (i := 170) rfl)) rfl
theorem q5_171 : Cond.methodLink "SeeSawHill$Guess" 25 ⟨"SeeSawHill$Hill", "goneThings", "()I"⟩ ∈ WALL := q_of (m_t5 (List.mem_of_getElem? (i := 171) rfl)) rfl
theorem q5_172 : Cond.methodLink "SeeSawHill$Guess" 31 ⟨"SeeSawHill$Hill", "weightOf", "(I)I"⟩ ∈ WALL := q_of (m_t5 (List.mem_of_getElem? (i := 172) rfl)) rfl
theorem q5_173 : Cond.methodLink "SeeSawHill$Guess" 35 ⟨"SeeSawHill$Guess", "agrees", "(LSeeSawHill$Hill;II[BI)Z"⟩ ∈ WALL := q_of (m_t5 (List.mem_of_getElem? (i := 173) rfl)) rfl
theorem q5_174 : Cond.static ⟨"SeeSawHill$Guess", "agrees", "(LSeeSawHill$Hill;II[BI)Z"⟩ ∈ WALL := q_of (m_t5 (List.mem_of_getElem? (i := 174) rfl)) rfl
theorem q5_175 : Cond.code ⟨"SeeSawHill$Guess", "agrees", "(LSeeSawHill$Hill;II[BI)Z"⟩ prog_4_method_4_code 6 (some .boolean) ∈ WALL := q_of (m_t5 (List.mem_of_getElem? (i := 175) rfl)) rfl
theorem q5_176 : Cond.methodLink "SeeSawHill$Guess" 39 ⟨"SeeSawHill$Guess", "heightWith", "(LSeeSawHill$Hill;III)I"⟩ ∈ WALL := q_of (m_t5 (List.mem_of_getElem? (i := 176) rfl)) rfl
theorem q5_177 : Cond.static ⟨"SeeSawHill$Guess", "heightWith", "(LSeeSawHill$Hill;III)I"⟩ ∈ WALL := q_of (m_t5 (List.mem_of_getElem? (i := 177) rfl)) rfl
theorem q5_178 : Cond.code ⟨"SeeSawHill$Guess", "heightWith", "(LSeeSawHill$Hill;III)I"⟩ prog_4_method_5_code 5 (some .int) ∈ WALL := q_of (m_t5 (List.mem_of_getElem? (i := 178) rfl)) rfl
theorem q5_179 : Cond.methodLink "SeeSawHill$Guess" 46 ⟨"SeeSawHill$Hill", "leaning", "(II)I"⟩ ∈ WALL := q_of (m_t5 (List.mem_of_getElem? (i := 179) rfl)) rfl
theorem q5_18 : Cond.code ⟨"SeeSawHill", "guests", "(II)I"⟩ prog_1_method_17_code 4 (some .int) ∈ WALL := q_of (m_t5 (List.mem_of_getElem? (i := 18) rfl)) rfl
theorem q5_180 : Cond.methodLink "SeeSawHillLaw" 213 ⟨"SeeSawHillLaw", "ask", "(LSeeSawHill;I[J)I"⟩ ∈ WALL := q_of (m_t5 (List.mem_of_getElem? (i := 180) rfl)) rfl
theorem q5_181 : Cond.static ⟨"SeeSawHillLaw", "ask", "(LSeeSawHill;I[J)I"⟩ ∈ WALL := q_of (m_t5 (List.mem_of_getElem? (i := 181) rfl)) rfl
theorem q5_182 : Cond.codeWith ⟨"SeeSawHillLaw", "ask", "(LSeeSawHill;I[J)I"⟩ method_21_code 4 (some .int) [(0, 9, 12, 24), (0, 9, 15, 13)] ∈ WALL := q_of (m_t5 (List.mem_of_getElem? (i := 182) rfl)) rfl
theorem q5_183 : Cond.methodLink "SeeSawHillLaw" 80 ⟨"SeeSawHill", "ask", "(I)I"⟩ ∈ WALL := q_of (m_t5 (List.mem_of_getElem? (i := 183) rfl)) rfl
theorem q5_184 : Cond.instanceMethod ⟨"SeeSawHill", "ask", "(I)I"⟩ ∈ WALL := q_of (m_t5 (List.mem_of_getElem? (i := 184) rfl)) rfl
theorem q5_185 : Cond.selects "SeeSawHill" ⟨"SeeSawHill", "ask", "(I)I"⟩ ⟨"SeeSawHill", "ask", "(I)I"⟩ ∈ WALL := q_of (m_t5 (List.mem_of_getElem? (i := 185) rfl)) rfl
theorem q5_186 : Cond.code ⟨"SeeSawHill", "ask", "(I)I"⟩ prog_1_method_35_code 2 (some .int) ∈ WALL := q_of (m_t5 (List.mem_of_getElem? (i := 186) rfl)) rfl
theorem q5_187 : Cond.methodLink "SeeSawHill" 316 ⟨"SeeSawHill$Guess", "bestAsk", "(LSeeSawHill$Hill;I)I"⟩ ∈ WALL := q_of (m_t5 (List.mem_of_getElem? (i := 187) rfl)) rfl
theorem q5_188 : Cond.instanceMethod ⟨"SeeSawHill$Guess", "bestAsk", "(LSeeSawHill$Hill;I)I"⟩ ∈ WALL := q_of (m_t5 (List.mem_of_getElem? (i := 188) rfl)) rfl
theorem q5_189 : Cond.selects "SeeSawHill$Guess" ⟨"SeeSawHill$Guess", "bestAsk", "(LSeeSawHill$Hill;I)I"⟩ ⟨"SeeSawHill$Guess", "bestAsk", "(LSeeSawHill$Hill;I)I"⟩ ∈ WALL := q_of (m_t5 (List.mem_of_getElem? (i := 189) rfl)) rfl
theorem q5_19 : Cond.methodLink "SeeSawHill" 249 ⟨"SeeSawHill", "checkNumber", "(III)V"⟩ ∈ WALL := q_of (m_t5 (List.mem_of_getElem? (i := 19) rfl)) rfl
theorem q5_190 : Cond.code ⟨"SeeSawHill$Guess", "bestAsk", "(LSeeSawHill$Hill;I)I"⟩ prog_4_method_6_code 7 (some .int) ∈ WALL := q_of (m_t5 (List.mem_of_getElem? (i := 190) rfl)) rfl
theorem q5_191 : Cond.methodLink "SeeSawHill$Guess" 50 ⟨"SeeSawHill$Guess", "greatestPart", "(LSeeSawHill$Hill;II)I"⟩ ∈ WALL := q_of (m_t5 (List.mem_of_getElem? (i := 191) rfl)) rfl
theorem q5_193 : Cond.instanceMethod ⟨"SeeSawHill$Guess", "greatestPart", "(LSeeSawHill$Hill;II)I"⟩ ∈ WALL := q_of (m_t5 (List.mem_of_getElem? (i := 193) rfl)) rfl
theorem q5_194 : Cond.code ⟨"SeeSawHill$Guess", "greatestPart", "(LSeeSawHill$Hill;II)I"⟩ prog_4_method_7_code 7 (some .int) ∈ WALL := q_of (m_t5 (List.mem_of_getElem? (i := 194) rfl)) rfl
theorem q5_195 : Cond.methodLink "SeeSawHill$Guess" 54 ⟨"java/lang/Math", "max", "(II)I"⟩ ∈ WALL := q_of (m_t5 (List.mem_of_getElem? (i := 195) rfl)) rfl
theorem q5_196 : Cond.methodLink "SeeSawHillLaw" 216 ⟨"SeeSawHillLaw", "ballast", "(LSeeSawHill;I[J)I"⟩ ∈ WALL := q_of (m_t5 (List.mem_of_getElem? (i := 196) rfl)) rfl
theorem q5_197 : Cond.static ⟨"SeeSawHillLaw", "ballast", "(LSeeSawHill;I[J)I"⟩ ∈ WALL := q_of (m_t5 (List.mem_of_getElem? (i := 197) rfl)) rfl
theorem q5_198 : Cond.codeWith ⟨"SeeSawHillLaw", "ballast", "(LSeeSawHill;I[J)I"⟩ method_22_code 4 (some .int) [(0, 9, 12, 24)] ∈ WALL := q_of (m_t5 (List.mem_of_getElem? (i := 198) rfl)) rfl
theorem q5_199 : Cond.methodLink "SeeSawHillLaw" 83 ⟨"SeeSawHill", "ballast", "(I)I"⟩ ∈ WALL := q_of (m_t5 (List.mem_of_getElem? (i := 199) rfl)) rfl
theorem q5_20 : Cond.static ⟨"SeeSawHill", "checkNumber", "(III)V"⟩ ∈ WALL := q_of (m_t5 (List.mem_of_getElem? (i := 20) rfl)) rfl
theorem q5_200 : Cond.instanceMethod ⟨"SeeSawHill", "ballast", "(I)I"⟩ ∈ WALL := q_of (m_t5 (List.mem_of_getElem? (i := 200) rfl)) rfl
theorem q5_201 : Cond.selects "SeeSawHill" ⟨"SeeSawHill", "ballast", "(I)I"⟩ ⟨"SeeSawHill", "ballast", "(I)I"⟩ ∈ WALL := q_of (m_t5 (List.mem_of_getElem? (i := 201) rfl)) rfl
theorem q5_202 : Cond.code ⟨"SeeSawHill", "ballast", "(I)I"⟩ prog_1_method_37_code 2 (some .int) ∈ WALL := q_of (m_t5 (List.mem_of_getElem? (i := 202) rfl)) rfl
theorem q5_203 : Cond.methodLink "SeeSawHill" 327 ⟨"SeeSawHill$Carrying", "restingChoices", "(LSeeSawHill$Hill;I)I"⟩ ∈ WALL := q_of (m_t5 (List.mem_of_getElem? (i := 203) rfl)) rfl
theorem q5_204 : Cond.static ⟨"SeeSawHill$Carrying", "restingChoices", "(LSeeSawHill$Hill;I)I"⟩ ∈ WALL := q_of (m_t5 (List.mem_of_getElem? (i := 204) rfl)) rfl
theorem q5_205 : Cond.code ⟨"SeeSawHill$Carrying", "restingChoices", "(LSeeSawHill$Hill;I)I"⟩ prog_2_method_5_code 5 (some .int) ∈ WALL := q_of (m_t5 (List.mem_of_getElem? (i := 205) rfl)) rfl
theorem q5_206 : Cond.methodLink "SeeSawHill$Carrying" 52 ⟨"SeeSawHill$Carrying", "isResting", "(LSeeSawHill$Hill;III)Z"⟩ ∈ WALL := q_of (m_t5 (List.mem_of_getElem? (i := 206) rfl)) rfl
theorem q5_207 : Cond.static ⟨"SeeSawHill$Carrying", "isResting", "(LSeeSawHill$Hill;III)Z"⟩ ∈ WALL := q_of (m_t5 (List.mem_of_getElem? (i := 207) rfl)) rfl
theorem q5_208 : Cond.code ⟨"SeeSawHill$Carrying", "isResting", "(LSeeSawHill$Hill;III)Z"⟩ prog_2_method_6_code 9 (some .boolean) ∈ WALL := q_of (m_t5 (List.mem_of_getElem? (i := 208) rfl)) rfl
theorem q5_209 : Cond.methodLink "SeeSawHill$Carrying" 56 ⟨"SeeSawHill$Carrying", "tiltWith", "(LSeeSawHill$Hill;III)I"⟩ ∈ WALL := q_of (m_t5 (List.mem_of_getElem? (i := 209) rfl)) rfl
theorem q5_21 : Cond.code ⟨"SeeSawHill", "checkNumber", "(III)V"⟩ prog_1_method_12_code 3 none ∈ WALL := q_of (m_t5 (List.mem_of_getElem? (i := 21) rfl)) rfl
theorem q5_210 : Cond.static ⟨"SeeSawHill$Carrying", "tiltWith", "(LSeeSawHill$Hill;III)I"⟩ ∈ WALL := q_of (m_t5 (List.mem_of_getElem? (i := 210) rfl)) rfl
theorem q5_211 : Cond.code ⟨"SeeSawHill$Carrying", "tiltWith", "(LSeeSawHill$Hill;III)I"⟩ prog_2_method_7_code 4 (some .int) ∈ WALL := q_of (m_t5 (List.mem_of_getElem? (i := 211) rfl)) rfl
theorem q5_212 : Cond.methodLink "SeeSawHillLaw" 223 ⟨"SeeSawHillLaw", "guards", "(LSeeSawHill;II[J)I"⟩ ∈ WALL := q_of (m_t5 (List.mem_of_getElem? (i := 212) rfl)) rfl
theorem q5_213 : Cond.static ⟨"SeeSawHillLaw", "guards", "(LSeeSawHill;II[J)I"⟩ ∈ WALL := q_of (m_t5 (List.mem_of_getElem? (i := 213) rfl)) rfl
theorem q5_214 : Cond.codeWith ⟨"SeeSawHillLaw", "guards", "(LSeeSawHill;II[J)I"⟩ method_23_code 5 (some .int) [(0, 10, 13, 13)] ∈ WALL := q_of (m_t5 (List.mem_of_getElem? (i := 214) rfl)) rfl
theorem q5_215 : Cond.methodLink "SeeSawHillLaw" 86 ⟨"SeeSawHill", "guards", "(II)I"⟩ ∈ WALL := q_of (m_t5 (List.mem_of_getElem? (i := 215) rfl)) rfl
theorem q5_216 : Cond.instanceMethod ⟨"SeeSawHill", "guards", "(II)I"⟩ ∈ WALL := q_of (m_t5 (List.mem_of_getElem? (i := 216) rfl)) rfl
theorem q5_217 : Cond.selects "SeeSawHill" ⟨"SeeSawHill", "guards", "(II)I"⟩ ⟨"SeeSawHill", "guards", "(II)I"⟩ ∈ WALL := q_of (m_t5 (List.mem_of_getElem? (i := 217) rfl)) rfl
theorem q5_218 : Cond.code ⟨"SeeSawHill", "guards", "(II)I"⟩ prog_1_method_39_code 6 (some .int) ∈ WALL := q_of (m_t5 (List.mem_of_getElem? (i := 218) rfl)) rfl
theorem q5_219 : Cond.methodLink "SeeSawHill" 333 ⟨"SeeSawHill", "isSafe", "(III)Z"⟩ ∈ WALL := q_of (m_t5 (List.mem_of_getElem? (i := 219) rfl)) rfl
theorem q5_22 : Cond.methodLink "SeeSawHillLaw" 156 ⟨"SeeSawHillLaw", "prop", "(LSeeSawHill;IZ[J)I"⟩ ∈ WALL := q_of (m_t5 (List.mem_of_getElem? (i := 22) rfl)) rfl
theorem q5_221 : Cond.instanceMethod ⟨"SeeSawHill", "isSafe", "(III)Z"⟩ ∈ WALL := q_of (m_t5 (List.mem_of_getElem? (i := 221) rfl)) rfl
theorem q5_222 : Cond.code ⟨"SeeSawHill", "isSafe", "(III)Z"⟩ prog_1_method_40_code 6 (some .boolean) ∈ WALL := q_of (m_t5 (List.mem_of_getElem? (i := 222) rfl)) rfl
theorem q5_223 : Cond.methodLink "SeeSawHill" 337 ⟨"SeeSawHill$Hill", "stealOne", "(LSeeSawHill$Law;I)I"⟩ ∈ WALL := q_of (m_t5 (List.mem_of_getElem? (i := 223) rfl)) rfl
theorem q5_224 : Cond.instanceMethod ⟨"SeeSawHill$Hill", "stealOne", "(LSeeSawHill$Law;I)I"⟩ ∈ WALL := q_of (m_t5 (List.mem_of_getElem? (i := 224) rfl)) rfl
theorem q5_225 : Cond.selects "SeeSawHill$Hill" ⟨"SeeSawHill$Hill", "stealOne", "(LSeeSawHill$Law;I)I"⟩ ⟨"SeeSawHill$Hill", "stealOne", "(LSeeSawHill$Law;I)I"⟩ ∈ WALL := q_of (m_t5 (List.mem_of_getElem? (i := 225) rfl)) rfl
theorem q5_226 : Cond.code ⟨"SeeSawHill$Hill", "stealOne", "(LSeeSawHill$Law;I)I"⟩ prog_5_method_32_code 4 (some .int) ∈ WALL := q_of (m_t5 (List.mem_of_getElem? (i := 226) rfl)) rfl
theorem q5_227 : Cond.methodLink "SeeSawHillLaw" 226 ⟨"SeeSawHillLaw", "loot", "(LSeeSawHill;I[J)I"⟩ ∈ WALL := q_of (m_t5 (List.mem_of_getElem? (i := 227) rfl)) rfl
theorem q5_228 : Cond.static ⟨"SeeSawHillLaw", "loot", "(LSeeSawHill;I[J)I"⟩ ∈ WALL := q_of (m_t5 (List.mem_of_getElem? (i := 228) rfl)) rfl
theorem q5_229 : Cond.codeWith ⟨"SeeSawHillLaw", "loot", "(LSeeSawHill;I[J)I"⟩ method_24_code 4 (some .int) [(0, 9, 12, 13)] ∈ WALL := q_of (m_t5 (List.mem_of_getElem? (i := 229) rfl)) rfl
theorem q5_23 : Cond.static ⟨"SeeSawHillLaw", "prop", "(LSeeSawHill;IZ[J)I"⟩ ∈ WALL := q_of (m_t5 (List.mem_of_getElem? (i := 23) rfl)) rfl
theorem q5_230 : Cond.methodLink "SeeSawHillLaw" 89 ⟨"SeeSawHill", "loot", "(I)I"⟩ ∈ WALL := q_of (m_t5 (List.mem_of_getElem? (i := 230) rfl)) rfl
theorem q5_231 : Cond.instanceMethod ⟨"SeeSawHill", "loot", "(I)I"⟩ ∈ WALL := q_of (m_t5 (List.mem_of_getElem? (i := 231) rfl)) rfl
theorem q5_232 : Cond.selects "SeeSawHill" ⟨"SeeSawHill", "loot", "(I)I"⟩ ⟨"SeeSawHill", "loot", "(I)I"⟩ ∈ WALL := q_of (m_t5 (List.mem_of_getElem? (i := 232) rfl)) rfl
theorem q5_233 : Cond.code ⟨"SeeSawHill", "loot", "(I)I"⟩ prog_1_method_41_code 5 (some .int) ∈ WALL := q_of (m_t5 (List.mem_of_getElem? (i := 233) rfl)) rfl
theorem q5_234 : Cond.methodLink "SeeSawHillLaw" 229 ⟨"SeeSawHillLaw", "rent", "(LSeeSawHill;II[J)I"⟩ ∈ WALL := q_of (m_t5 (List.mem_of_getElem? (i := 234) rfl)) rfl
theorem q5_235 : Cond.static ⟨"SeeSawHillLaw", "rent", "(LSeeSawHill;II[J)I"⟩ ∈ WALL := q_of (m_t5 (List.mem_of_getElem? (i := 235) rfl)) rfl
theorem q5_236 : Cond.codeWith ⟨"SeeSawHillLaw", "rent", "(LSeeSawHill;II[J)I"⟩ method_25_code 5 (some .int) [(0, 10, 13, 24), (0, 10, 17, 13)] ∈ WALL := q_of (m_t5 (List.mem_of_getElem? (i := 236) rfl)) rfl
theorem q5_237 : Cond.methodLink "SeeSawHillLaw" 92 ⟨"SeeSawHill", "rent", "(II)I"⟩ ∈ WALL := q_of (m_t5 (List.mem_of_getElem? (i := 237) rfl)) rfl
theorem q5_238 : Cond.instanceMethod ⟨"SeeSawHill", "rent", "(II)I"⟩ ∈ WALL := q_of (m_t5 (List.mem_of_getElem? (i := 238) rfl)) rfl
theorem q5_239 : Cond.selects "SeeSawHill" ⟨"SeeSawHill", "rent", "(II)I"⟩ ⟨"SeeSawHill", "rent", "(II)I"⟩ ∈ WALL := q_of (m_t5 (List.mem_of_getElem? (i := 239) rfl)) rfl
theorem q5_24 : Cond.codeWith ⟨"SeeSawHillLaw", "prop", "(LSeeSawHill;IZ[J)I"⟩ method_10_code 5 (some .int) [(0, 17, 20, 24)] ∈ WALL := q_of (m_t5 (List.mem_of_getElem? (i := 24) rfl)) rfl
theorem q5_25 : Cond.methodLink "SeeSawHillLaw" 42 ⟨"SeeSawHill", "prop", "(IZ)Z"⟩ ∈ WALL := q_of (m_t5 (List.mem_of_getElem? (i := 25) rfl)) rfl
theorem q5_26 : Cond.instanceMethod ⟨"SeeSawHill", "prop", "(IZ)Z"⟩ ∈ WALL := q_of (m_t5 (List.mem_of_getElem? (i := 26) rfl)) rfl
theorem q5_27 : Cond.selects "SeeSawHill" ⟨"SeeSawHill", "prop", "(IZ)Z"⟩ ⟨"SeeSawHill", "prop", "(IZ)Z"⟩ ∈ WALL := q_of (m_t5 (List.mem_of_getElem? (i := 27) rfl)) rfl
theorem q5_28 : Cond.code ⟨"SeeSawHill", "prop", "(IZ)Z"⟩ prog_1_method_18_code 4 (some .boolean) ∈ WALL := q_of (m_t5 (List.mem_of_getElem? (i := 28) rfl)) rfl
theorem q5_29 : Cond.methodLink "SeeSawHillLaw" 160 ⟨"SeeSawHillLaw", "mend", "(LSeeSawHill;I[J)I"⟩ ∈ WALL := q_of (m_t5 (List.mem_of_getElem? (i := 29) rfl)) rfl
theorem q5_30 : Cond.static ⟨"SeeSawHillLaw", "mend", "(LSeeSawHill;I[J)I"⟩ ∈ WALL := q_of (m_t5 (List.mem_of_getElem? (i := 30) rfl)) rfl
theorem q5_31 : Cond.codeWith ⟨"SeeSawHillLaw", "mend", "(LSeeSawHill;I[J)I"⟩ method_11_code 4 (some .int) [(0, 9, 12, 24), (0, 9, 15, 37)] ∈ WALL := q_of (m_t5 (List.mem_of_getElem? (i := 31) rfl)) rfl
theorem q5_32 : Cond.methodLink "SeeSawHillLaw" 46 ⟨"SeeSawHill", "mend", "(I)I"⟩ ∈ WALL := q_of (m_t5 (List.mem_of_getElem? (i := 32) rfl)) rfl
theorem q5_33 : Cond.instanceMethod ⟨"SeeSawHill", "mend", "(I)I"⟩ ∈ WALL := q_of (m_t5 (List.mem_of_getElem? (i := 33) rfl)) rfl
theorem q5_34 : Cond.selects "SeeSawHill" ⟨"SeeSawHill", "mend", "(I)I"⟩ ⟨"SeeSawHill", "mend", "(I)I"⟩ ∈ WALL := q_of (m_t5 (List.mem_of_getElem? (i := 34) rfl)) rfl
theorem q5_35 : Cond.code ⟨"SeeSawHill", "mend", "(I)I"⟩ prog_1_method_19_code 3 (some .int) ∈ WALL := q_of (m_t5 (List.mem_of_getElem? (i := 35) rfl)) rfl
theorem q5_36 : Cond.methodLink "SeeSawHillLaw" 164 ⟨"SeeSawHillLaw", "give", "(LSeeSawHill;III[J)I"⟩ ∈ WALL := q_of (m_t5 (List.mem_of_getElem? (i := 36) rfl)) rfl
theorem q5_37 : Cond.static ⟨"SeeSawHillLaw", "give", "(LSeeSawHill;III[J)I"⟩ ∈ WALL := q_of (m_t5 (List.mem_of_getElem? (i := 37) rfl)) rfl
theorem q5_38 : Cond.codeWith ⟨"SeeSawHillLaw", "give", "(LSeeSawHill;III[J)I"⟩ method_12_code 6 (some .int) [(0, 12, 15, 24), (0, 12, 19, 13)] ∈ WALL := q_of (m_t5 (List.mem_of_getElem? (i := 38) rfl)) rfl
theorem q5_39 : Cond.methodLink "SeeSawHillLaw" 50 ⟨"SeeSawHill", "give", "(III)I"⟩ ∈ WALL := q_of (m_t5 (List.mem_of_getElem? (i := 39) rfl)) rfl
theorem q5_40 : Cond.instanceMethod ⟨"SeeSawHill", "give", "(III)I"⟩ ∈ WALL := q_of (m_t5 (List.mem_of_getElem? (i := 40) rfl)) rfl
theorem q5_41 : Cond.selects "SeeSawHill" ⟨"SeeSawHill", "give", "(III)I"⟩ ⟨"SeeSawHill", "give", "(III)I"⟩ ∈ WALL := q_of (m_t5 (List.mem_of_getElem? (i := 41) rfl)) rfl
theorem q5_42 : Cond.code ⟨"SeeSawHill", "give", "(III)I"⟩ prog_1_method_20_code 4 (some .int) ∈ WALL := q_of (m_t5 (List.mem_of_getElem? (i := 42) rfl)) rfl
theorem q5_43 : Cond.methodLink "SeeSawHill" 253 ⟨"java/lang/Math", "min", "(II)I"⟩ ∈ WALL := q_of (m_t5 (List.mem_of_getElem? (i := 43) rfl)) rfl
theorem q5_44 : Cond.methodLink "SeeSawHillLaw" 172 ⟨"SeeSawHillLaw", "weeks", "(LSeeSawHill;I[J)I"⟩ ∈ WALL := q_of (m_t5 (List.mem_of_getElem? (i := 44) rfl)) rfl
theorem q5_45 : Cond.static ⟨"SeeSawHillLaw", "weeks", "(LSeeSawHill;I[J)I"⟩ ∈ WALL := q_of (m_t5 (List.mem_of_getElem? (i := 45) rfl)) rfl
theorem q5_46 : Cond.codeWith ⟨"SeeSawHillLaw", "weeks", "(LSeeSawHill;I[J)I"⟩ method_13_code 4 (some .int) [(0, 9, 12, 13)] ∈ WALL := q_of (m_t5 (List.mem_of_getElem? (i := 46) rfl)) rfl
theorem q5_47 : Cond.methodLink "SeeSawHillLaw" 54 ⟨"SeeSawHill", "weeks", "(I)I"⟩ ∈ WALL := q_of (m_t5 (List.mem_of_getElem? (i := 47) rfl)) rfl
theorem q5_48 : Cond.instanceMethod ⟨"SeeSawHill", "weeks", "(I)I"⟩ ∈ WALL := q_of (m_t5 (List.mem_of_getElem? (i := 48) rfl)) rfl
theorem q5_49 : Cond.selects "SeeSawHill" ⟨"SeeSawHill", "weeks", "(I)I"⟩ ⟨"SeeSawHill", "weeks", "(I)I"⟩ ∈ WALL := q_of (m_t5 (List.mem_of_getElem? (i := 49) rfl)) rfl
theorem q5_50 : Cond.code ⟨"SeeSawHill", "weeks", "(I)I"⟩ prog_1_method_22_code 4 (some .int) ∈ WALL := q_of (m_t5 (List.mem_of_getElem? (i := 50) rfl)) rfl
theorem q5_51 : Cond.methodLink "SeeSawHill" 262 ⟨"SeeSawHill$Hill", "passWeek", "(LSeeSawHill$Law;LSeeSawHill$Diary;)I"⟩ ∈ WALL := q_of (m_t5 (List.mem_of_getElem? (i := 51) rfl)) rfl
theorem q5_52 : Cond.instanceMethod ⟨"SeeSawHill$Hill", "passWeek", "(LSeeSawHill$Law;LSeeSawHill$Diary;)I"⟩ ∈ WALL := q_of (m_t5 (List.mem_of_getElem? (i := 52) rfl)) rfl
theorem q5_53 : Cond.selects "SeeSawHill$Hill" ⟨"SeeSawHill$Hill", "passWeek", "(LSeeSawHill$Law;LSeeSawHill$Diary;)I"⟩ ⟨"SeeSawHill$Hill", "passWeek", "(LSeeSawHill$Law;LSeeSawHill$Diary;)I"⟩ ∈ WALL := q_of (m_t5 (List.mem_of_getElem? (i := 53) rfl)) rfl
theorem q5_54 : Cond.code ⟨"SeeSawHill$Hill", "passWeek", "(LSeeSawHill$Law;LSeeSawHill$Diary;)I"⟩ prog_5_method_25_code 6 (some .int) ∈ WALL := q_of (m_t5 (List.mem_of_getElem? (i := 54) rfl)) rfl
theorem q5_55 : Cond.methodLink "SeeSawHill$Hill" 113 ⟨"SeeSawHill$Hill", "draw", "()I"⟩ ∈ WALL := q_of (m_t5 (List.mem_of_getElem? (i := 55) rfl)) rfl
theorem q5_56 : Cond.instanceMethod ⟨"SeeSawHill$Hill", "draw", "()I"⟩ ∈ WALL := q_of (m_t5 (List.mem_of_getElem? (i := 56) rfl)) rfl
theorem q5_57 : Cond.selects "SeeSawHill$Hill" ⟨"SeeSawHill$Hill", "draw", "()I"⟩ ⟨"SeeSawHill$Hill", "draw", "()I"⟩ ∈ WALL := q_of (m_t5 (List.mem_of_getElem? (i := 57) rfl)) rfl
theorem q5_58 : Cond.code ⟨"SeeSawHill$Hill", "draw", "()I"⟩ prog_5_method_24_code 1 (some .int) ∈ WALL := q_of (m_t5 (List.mem_of_getElem? (i := 58) rfl)) rfl
theorem q5_59 : Cond.constant "SeeSawHill$Hill" 112 (1103515245) ∈ WALL := q_of (m_t5 (List.mem_of_getElem? (i := 59) rfl)) rfl
theorem q5_60 : Cond.methodLink "SeeSawHill$Hill" 123 ⟨"SeeSawHill$Hill", "luredTo", "(LSeeSawHill$Law;I)I"⟩ ∈ WALL := q_of (m_t5 (List.mem_of_getElem? (i := 60) rfl)) rfl
theorem q5_61 : Cond.methodLink "SeeSawHill$Hill" 127 ⟨"SeeSawHill$Hill", "dearestIn", "(I)I"⟩ ∈ WALL := q_of (m_t5 (List.mem_of_getElem? (i := 61) rfl)) rfl
theorem q5_62 : Cond.instanceMethod ⟨"SeeSawHill$Hill", "dearestIn", "(I)I"⟩ ∈ WALL := q_of (m_t5 (List.mem_of_getElem? (i := 62) rfl)) rfl
theorem q5_63 : Cond.selects "SeeSawHill$Hill" ⟨"SeeSawHill$Hill", "dearestIn", "(I)I"⟩ ⟨"SeeSawHill$Hill", "dearestIn", "(I)I"⟩ ∈ WALL := q_of (m_t5 (List.mem_of_getElem? (i := 63) rfl)) rfl
theorem q5_64 : Cond.code ⟨"SeeSawHill$Hill", "dearestIn", "(I)I"⟩ prog_5_method_31_code 5 (some .int) ∈ WALL := q_of (m_t5 (List.mem_of_getElem? (i := 64) rfl)) rfl
theorem q5_65 : Cond.methodLink "SeeSawHill$Hill" 130 ⟨"SeeSawHill$Diary", "addRow", "(IIII)V"⟩ ∈ WALL := q_of (m_t5 (List.mem_of_getElem? (i := 65) rfl)) rfl
theorem q5_66 : Cond.methodLink "SeeSawHill$Hill" 139 ⟨"SeeSawHill$Hill", "turnWeek", "()V"⟩ ∈ WALL := q_of (m_t5 (List.mem_of_getElem? (i := 66) rfl)) rfl
theorem q5_67 : Cond.methodLink "SeeSawHillLaw" 187 ⟨"SeeSawHillLaw", "best", "(LSeeSawHill;I[J)I"⟩ ∈ WALL := q_of (m_t5 (List.mem_of_getElem? (i := 67) rfl)) rfl
theorem q5_68 : Cond.static ⟨"SeeSawHillLaw", "best", "(LSeeSawHill;I[J)I"⟩ ∈ WALL := q_of (m_t5 (List.mem_of_getElem? (i := 68) rfl)) rfl
theorem q5_69 : Cond.codeWith ⟨"SeeSawHillLaw", "best", "(LSeeSawHill;I[J)I"⟩ method_14_code 4 (some .int) [(0, 9, 12, 24)] ∈ WALL := q_of (m_t5 (List.mem_of_getElem? (i := 69) rfl)) rfl
theorem q5_70 : Cond.methodLink "SeeSawHillLaw" 57 ⟨"SeeSawHill", "best", "(I)I"⟩ ∈ WALL := q_of (m_t5 (List.mem_of_getElem? (i := 70) rfl)) rfl
theorem q5_71 : Cond.instanceMethod ⟨"SeeSawHill", "best", "(I)I"⟩ ∈ WALL := q_of (m_t5 (List.mem_of_getElem? (i := 71) rfl)) rfl
theorem q5_72 : Cond.selects "SeeSawHill" ⟨"SeeSawHill", "best", "(I)I"⟩ ⟨"SeeSawHill", "best", "(I)I"⟩ ∈ WALL := q_of (m_t5 (List.mem_of_getElem? (i := 72) rfl)) rfl
theorem q5_73 : Cond.code ⟨"SeeSawHill", "best", "(I)I"⟩ prog_1_method_26_code 2 (some .int) ∈ WALL := q_of (m_t5 (List.mem_of_getElem? (i := 73) rfl)) rfl
theorem q5_74 : Cond.methodLink "SeeSawHill" 266 ⟨"SeeSawHill$Carrying", "levelling", "(LSeeSawHill$Hill;I)I"⟩ ∈ WALL := q_of (m_t5 (List.mem_of_getElem? (i := 74) rfl)) rfl
theorem q5_75 : Cond.static ⟨"SeeSawHill$Carrying", "levelling", "(LSeeSawHill$Hill;I)I"⟩ ∈ WALL := q_of (m_t5 (List.mem_of_getElem? (i := 75) rfl)) rfl
theorem q5_76 : Cond.code ⟨"SeeSawHill$Carrying", "levelling", "(LSeeSawHill$Hill;I)I"⟩ prog_2_method_2_code 7 (some .int) ∈ WALL := q_of (m_t5 (List.mem_of_getElem? (i := 76) rfl)) rfl
theorem q5_77 : Cond.methodLink "SeeSawHill$Carrying" 15 ⟨"java/lang/Math", "abs", "(I)I"⟩ ∈ WALL := q_of (m_t5 (List.mem_of_getElem? (i := 77) rfl)) rfl
theorem q5_78 : Cond.static ⟨"java/lang/Math", "abs", "(I)I"⟩ ∈ WALL := q_of (m_t5 (List.mem_of_getElem? (i := 78) rfl)) rfl
theorem q5_8 : Cond.methodLink "SeeSawHill" 245 ⟨"SeeSawHill$Diary", "addRow", "(IIII)V"⟩ ∈ WALL := q_of (m_t5 (List.mem_of_getElem? (i := 8) rfl)) rfl
theorem q5_80 : Cond.methodLink "SeeSawHill$Carrying" 25 ⟨"SeeSawHill$Carrying", "shiftOf", "(LSeeSawHill$Hill;II)I"⟩ ∈ WALL := q_of (m_t5 (List.mem_of_getElem? (i := 80) rfl)) rfl
theorem q5_81 : Cond.static ⟨"SeeSawHill$Carrying", "shiftOf", "(LSeeSawHill$Hill;II)I"⟩ ∈ WALL := q_of (m_t5 (List.mem_of_getElem? (i := 81) rfl)) rfl
theorem q5_82 : Cond.code ⟨"SeeSawHill$Carrying", "shiftOf", "(LSeeSawHill$Hill;II)I"⟩ prog_2_method_3_code 5 (some .int) ∈ WALL := q_of (m_t5 (List.mem_of_getElem? (i := 82) rfl)) rfl
theorem q5_83 : Cond.methodLink "SeeSawHillLaw" 190 ⟨"SeeSawHillLaw", "stand", "(LSeeSawHill;II[J)I"⟩ ∈ WALL := q_of (m_t5 (List.mem_of_getElem? (i := 83) rfl)) rfl
theorem q5_84 : Cond.static ⟨"SeeSawHillLaw", "stand", "(LSeeSawHill;II[J)I"⟩ ∈ WALL := q_of (m_t5 (List.mem_of_getElem? (i := 84) rfl)) rfl
theorem q5_85 : Cond.codeWith ⟨"SeeSawHillLaw", "stand", "(LSeeSawHill;II[J)I"⟩ method_15_code 5 (some .int) [(0, 10, 13, 24), (0, 10, 17, 13)] ∈ WALL := q_of (m_t5 (List.mem_of_getElem? (i := 85) rfl)) rfl
theorem q5_86 : Cond.methodLink "SeeSawHillLaw" 60 ⟨"SeeSawHill", "stand", "(II)I"⟩ ∈ WALL := q_of (m_t5 (List.mem_of_getElem? (i := 86) rfl)) rfl
theorem q5_87 : Cond.instanceMethod ⟨"SeeSawHill", "stand", "(II)I"⟩ ∈ WALL := q_of (m_t5 (List.mem_of_getElem? (i := 87) rfl)) rfl
theorem q5_88 : Cond.selects "SeeSawHill" ⟨"SeeSawHill", "stand", "(II)I"⟩ ⟨"SeeSawHill", "stand", "(II)I"⟩ ∈ WALL := q_of (m_t5 (List.mem_of_getElem? (i := 88) rfl)) rfl
theorem q5_89 : Cond.code ⟨"SeeSawHill", "stand", "(II)I"⟩ prog_1_method_27_code 3 (some .int) ∈ WALL := q_of (m_t5 (List.mem_of_getElem? (i := 89) rfl)) rfl
theorem q5_9 : Cond.instanceMethod ⟨"SeeSawHill$Diary", "addRow", "(IIII)V"⟩ ∈ WALL := q_of (m_t5 (List.mem_of_getElem? (i := 9) rfl)) rfl
theorem q5_90 : Cond.methodLink "SeeSawHill" 272 ⟨"SeeSawHill$Carrying", "leastSet", "(LSeeSawHill$Hill;IIZ)I"⟩ ∈ WALL := q_of (m_t5 (List.mem_of_getElem? (i := 90) rfl)) rfl
theorem q5_91 : Cond.static ⟨"SeeSawHill$Carrying", "leastSet", "(LSeeSawHill$Hill;IIZ)I"⟩ ∈ WALL := q_of (m_t5 (List.mem_of_getElem? (i := 91) rfl)) rfl
theorem q5_92 : Cond.code ⟨"SeeSawHill$Carrying", "leastSet", "(LSeeSawHill$Hill;IIZ)I"⟩ prog_2_method_4_code 11 (some .int) ∈ WALL := q_of (m_t5 (List.mem_of_getElem? (i := 92) rfl)) rfl
theorem q5_93 : Cond.methodLink "SeeSawHill$Carrying" 37 ⟨"SeeSawHill$Hill", "thingsIn", "(I)I"⟩ ∈ WALL := q_of (m_t5 (List.mem_of_getElem? (i := 93) rfl)) rfl
theorem q5_94 : Cond.methodLink "SeeSawHill$Carrying" 40 ⟨"SeeSawHill$Hill", "leaning", "(II)I"⟩ ∈ WALL := q_of (m_t5 (List.mem_of_getElem? (i := 94) rfl)) rfl
theorem q5_95 : Cond.methodLink "SeeSawHill$Carrying" 44 ⟨"SeeSawHill$Hill", "weightOf", "(I)I"⟩ ∈ WALL := q_of (m_t5 (List.mem_of_getElem? (i := 95) rfl)) rfl
theorem q5_96 : Cond.instanceMethod ⟨"SeeSawHill$Hill", "weightOf", "(I)I"⟩ ∈ WALL := q_of (m_t5 (List.mem_of_getElem? (i := 96) rfl)) rfl
theorem q5_97 : Cond.selects "SeeSawHill$Hill" ⟨"SeeSawHill$Hill", "weightOf", "(I)I"⟩ ⟨"SeeSawHill$Hill", "weightOf", "(I)I"⟩ ∈ WALL := q_of (m_t5 (List.mem_of_getElem? (i := 97) rfl)) rfl
theorem q5_98 : Cond.code ⟨"SeeSawHill$Hill", "weightOf", "(I)I"⟩ prog_5_method_18_code 4 (some .int) ∈ WALL := q_of (m_t5 (List.mem_of_getElem? (i := 98) rfl)) rfl
theorem q5_99 : Cond.methodLink "SeeSawHill$Carrying" 47 ⟨"java/lang/Integer", "bitCount", "(I)I"⟩ ∈ WALL := q_of (m_t5 (List.mem_of_getElem? (i := 99) rfl)) rfl
theorem q6_0 : Cond.code ⟨"SeeSawHill", "rent", "(II)I"⟩ prog_1_method_42_code 3 (some .int) ∈ WALL := q_of (m_t6 (List.mem_of_getElem? (i := 0) rfl)) rfl
theorem q6_1 : Cond.methodLink "SeeSawHill" 340 ⟨"SeeSawHill", "lookAhead", "(II)V"⟩ ∈ WALL := q_of (m_t6 (List.mem_of_getElem? (i := 1) rfl)) rfl
theorem q6_10 : Cond.selects "SeeSawHill" ⟨"SeeSawHill", "ahead", "(IIZ)I"⟩ ⟨"SeeSawHill", "ahead", "(IIZ)I"⟩ ∈ WALL := q_of (m_t6 (List.mem_of_getElem? (i := 10) rfl)) rfl
theorem q6_11 : Cond.code ⟨"SeeSawHill", "ahead", "(IIZ)I"⟩ prog_1_method_48_code 4 (some .int) ∈ WALL := q_of (m_t6 (List.mem_of_getElem? (i := 11) rfl)) rfl
theorem q6_12 : Cond.methodLink "SeeSawHillLaw" 251 ⟨"SeeSawHillLaw", "trial", "(LSeeSawHill;IZ[J)I"⟩ ∈ WALL := q_of (m_t6 (List.mem_of_getElem? (i := 12) rfl)) rfl
theorem q6_129 : Cond.methodLink "SeeSawHillLaw" 275 ⟨"SeeSawHillModel", "image", "()V"⟩ ∈ WALL := q_of (m_t6 (List.mem_of_getElem? (i := 129) rfl)) rfl
theorem q6_13 : Cond.static ⟨"SeeSawHillLaw", "trial", "(LSeeSawHill;IZ[J)I"⟩ ∈ WALL := q_of (m_t6 (List.mem_of_getElem? (i := 13) rfl)) rfl
theorem q6_130 : Cond.instanceMethod ⟨"SeeSawHillModel", "image", "()V"⟩ ∈ WALL := q_of (m_t6 (List.mem_of_getElem? (i := 130) rfl)) rfl
theorem q6_131 : Cond.selects "SeeSawHillModel" ⟨"SeeSawHillModel", "image", "()V"⟩ ⟨"SeeSawHillModel", "image", "()V"⟩ ∈ WALL := q_of (m_t6 (List.mem_of_getElem? (i := 131) rfl)) rfl
theorem q6_132 : Cond.code ⟨"SeeSawHillModel", "image", "()V"⟩ prog_14_method_6_code 2 none ∈ WALL := q_of (m_t6 (List.mem_of_getElem? (i := 132) rfl)) rfl
theorem q6_133 : Cond.methodLink "SeeSawHillLaw" 279 ⟨"SeeSawHillModel", "back", "()Z"⟩ ∈ WALL := q_of (m_t6 (List.mem_of_getElem? (i := 133) rfl)) rfl
theorem q6_134 : Cond.instanceMethod ⟨"SeeSawHillModel", "back", "()Z"⟩ ∈ WALL := q_of (m_t6 (List.mem_of_getElem? (i := 134) rfl)) rfl
theorem q6_135 : Cond.selects "SeeSawHillModel" ⟨"SeeSawHillModel", "back", "()Z"⟩ ⟨"SeeSawHillModel", "back", "()Z"⟩ ∈ WALL := q_of (m_t6 (List.mem_of_getElem? (i := 135) rfl)) rfl
theorem q6_136 : Cond.code ⟨"SeeSawHillModel", "back", "()Z"⟩ prog_14_method_7_code 2 (some .boolean) ∈ WALL := q_of (m_t6 (List.mem_of_getElem? (i := 136) rfl)) rfl
theorem q6_137 : Cond.methodLink "SeeSawHillLaw" 271 ⟨"SeeSawHillModel", "undo", "()Z"⟩ ∈ WALL := q_of (m_t6 (List.mem_of_getElem? (i := 137) rfl)) rfl
theorem q6_138 : Cond.instanceMethod ⟨"SeeSawHillModel", "undo", "()Z"⟩ ∈ WALL := q_of (m_t6 (List.mem_of_getElem? (i := 138) rfl)) rfl
theorem q6_139 : Cond.selects "SeeSawHillModel" ⟨"SeeSawHillModel", "undo", "()Z"⟩ ⟨"SeeSawHillModel", "undo", "()Z"⟩ ∈ WALL := q_of (m_t6 (List.mem_of_getElem? (i := 139) rfl)) rfl
theorem q6_14 : Cond.codeWith ⟨"SeeSawHillLaw", "trial", "(LSeeSawHill;IZ[J)I"⟩ method_27_code 5 (some .int) [(0, 10, 13, 13)] ∈ WALL := q_of (m_t6 (List.mem_of_getElem? (i := 14) rfl)) rfl
theorem q6_140 : Cond.code ⟨"SeeSawHillModel", "undo", "()Z"⟩ prog_14_method_9_code 2 (some .boolean) ∈ WALL := q_of (m_t6 (List.mem_of_getElem? (i := 140) rfl)) rfl
theorem q6_141 : Cond.methodLink "SeeSawHillLaw" 118 ⟨"SeeSawHillModel", "feed", "(IIIII)I"⟩ ∈ WALL := q_of (m_t6 (List.mem_of_getElem? (i := 141) rfl)) rfl
theorem q6_142 : Cond.instanceMethod ⟨"SeeSawHillModel", "feed", "(IIIII)I"⟩ ∈ WALL := q_of (m_t6 (List.mem_of_getElem? (i := 142) rfl)) rfl
theorem q6_143 : Cond.selects "SeeSawHillModel" ⟨"SeeSawHillModel", "feed", "(IIIII)I"⟩ ⟨"SeeSawHillModel", "feed", "(IIIII)I"⟩ ∈ WALL := q_of (m_t6 (List.mem_of_getElem? (i := 143) rfl)) rfl
theorem q6_144 : Cond.code ⟨"SeeSawHillModel", "feed", "(IIIII)I"⟩ prog_14_method_26_code 7 (some .int) ∈ WALL := q_of (m_t6 (List.mem_of_getElem? (i := 144) rfl)) rfl
theorem q6_145 : Cond.methodLink "SeeSawHillLaw" 123 ⟨"SeeSawHillModel", "end", "(I)Z"⟩ ∈ WALL := q_of (m_t6 (List.mem_of_getElem? (i := 145) rfl)) rfl
theorem q6_146 : Cond.instanceMethod ⟨"SeeSawHillModel", "end", "(I)Z"⟩ ∈ WALL := q_of (m_t6 (List.mem_of_getElem? (i := 146) rfl)) rfl
theorem q6_147 : Cond.selects "SeeSawHillModel" ⟨"SeeSawHillModel", "end", "(I)Z"⟩ ⟨"SeeSawHillModel", "end", "(I)Z"⟩ ∈ WALL := q_of (m_t6 (List.mem_of_getElem? (i := 147) rfl)) rfl
theorem q6_148 : Cond.code ⟨"SeeSawHillModel", "end", "(I)Z"⟩ prog_14_method_27_code 2 (some .boolean) ∈ WALL := q_of (m_t6 (List.mem_of_getElem? (i := 148) rfl)) rfl
theorem q6_149 : Cond.methodLink "SeeSawHillLaw" 139 ⟨"SeeSawHillModel", "fault", "()I"⟩ ∈ WALL := q_of (m_t6 (List.mem_of_getElem? (i := 149) rfl)) rfl
theorem q6_15 : Cond.methodLink "SeeSawHillLaw" 98 ⟨"SeeSawHill", "trial", "(IZ)I"⟩ ∈ WALL := q_of (m_t6 (List.mem_of_getElem? (i := 15) rfl)) rfl
theorem q6_150 : Cond.instanceMethod ⟨"SeeSawHillModel", "fault", "()I"⟩ ∈ WALL := q_of (m_t6 (List.mem_of_getElem? (i := 150) rfl)) rfl
theorem q6_151 : Cond.selects "SeeSawHillModel" ⟨"SeeSawHillModel", "fault", "()I"⟩ ⟨"SeeSawHillModel", "fault", "()I"⟩ ∈ WALL := q_of (m_t6 (List.mem_of_getElem? (i := 151) rfl)) rfl
theorem q6_152 : Cond.code ⟨"SeeSawHillModel", "fault", "()I"⟩ prog_14_method_36_code 1 (some .int) ∈ WALL := q_of (m_t6 (List.mem_of_getElem? (i := 152) rfl)) rfl
theorem q6_153 : Cond.methodLink "SeeSawHillLaw" 129 ⟨"SeeSawHillModel", "hill", "()I"⟩ ∈ WALL := q_of (m_t6 (List.mem_of_getElem? (i := 153) rfl)) rfl
theorem q6_154 : Cond.instanceMethod ⟨"SeeSawHillModel", "hill", "()I"⟩ ∈ WALL := q_of (m_t6 (List.mem_of_getElem? (i := 154) rfl)) rfl
theorem q6_155 : Cond.selects "SeeSawHillModel" ⟨"SeeSawHillModel", "hill", "()I"⟩ ⟨"SeeSawHillModel", "hill", "()I"⟩ ∈ WALL := q_of (m_t6 (List.mem_of_getElem? (i := 155) rfl)) rfl
theorem q6_156 : Cond.code ⟨"SeeSawHillModel", "hill", "()I"⟩ prog_14_method_53_code 3 (some .int) ∈ WALL := q_of (m_t6 (List.mem_of_getElem? (i := 156) rfl)) rfl
theorem q6_157 : Cond.methodLink "SeeSawHillModel" 238 ⟨"SeeSawHillModel", "readAll", "(Z)I"⟩ ∈ WALL := q_of (m_t6 (List.mem_of_getElem? (i := 157) rfl)) rfl
theorem q6_159 : Cond.instanceMethod ⟨"SeeSawHillModel", "readAll", "(Z)I"⟩ ∈ WALL := q_of (m_t6 (List.mem_of_getElem? (i := 159) rfl)) rfl
theorem q6_16 : Cond.instanceMethod ⟨"SeeSawHill", "trial", "(IZ)I"⟩ ∈ WALL := q_of (m_t6 (List.mem_of_getElem? (i := 16) rfl)) rfl
theorem q6_160 : Cond.code ⟨"SeeSawHillModel", "readAll", "(Z)I"⟩ prog_14_method_52_code 3 (some .int) ∈ WALL := q_of (m_t6 (List.mem_of_getElem? (i := 160) rfl)) rfl
theorem q6_161 : Cond.methodLink "SeeSawHillModel" 231 ⟨"SeeSawHillModel", "uses", "()V"⟩ ∈ WALL := q_of (m_t6 (List.mem_of_getElem? (i := 161) rfl)) rfl
theorem q6_163 : Cond.instanceMethod ⟨"SeeSawHillModel", "uses", "()V"⟩ ∈ WALL := q_of (m_t6 (List.mem_of_getElem? (i := 163) rfl)) rfl
theorem q6_164 : Cond.code ⟨"SeeSawHillModel", "uses", "()V"⟩ prog_14_method_37_code 1 none ∈ WALL := q_of (m_t6 (List.mem_of_getElem? (i := 164) rfl)) rfl
theorem q6_165 : Cond.methodLink "SeeSawHillModel" 102 ⟨"SeeSawHillModel", "blanks", "()V"⟩ ∈ WALL := q_of (m_t6 (List.mem_of_getElem? (i := 165) rfl)) rfl
theorem q6_167 : Cond.instanceMethod ⟨"SeeSawHillModel", "blanks", "()V"⟩ ∈ WALL := q_of (m_t6 (List.mem_of_getElem? (i := 167) rfl)) rfl
theorem q6_168 : Cond.code ⟨"SeeSawHillModel", "blanks", "()V"⟩ prog_14_method_29_code 1 none ∈ WALL := q_of (m_t6 (List.mem_of_getElem? (i := 168) rfl)) rfl
theorem q6_169 : Cond.methodLink "SeeSawHillModel" 95 ⟨"SeeSawHillModel", "isAt", "(II)Z"⟩ ∈ WALL := q_of (m_t6 (List.mem_of_getElem? (i := 169) rfl)) rfl
theorem q6_17 : Cond.selects "SeeSawHill" ⟨"SeeSawHill", "trial", "(IZ)I"⟩ ⟨"SeeSawHill", "trial", "(IZ)I"⟩ ∈ WALL := q_of (m_t6 (List.mem_of_getElem? (i := 17) rfl)) rfl
theorem q6_171 : Cond.instanceMethod ⟨"SeeSawHillModel", "isAt", "(II)Z"⟩ ∈ WALL := q_of (m_t6 (List.mem_of_getElem? (i := 171) rfl)) rfl
theorem q6_172 : Cond.code ⟨"SeeSawHillModel", "isAt", "(II)Z"⟩ prog_14_method_28_code 3 (some .boolean) ∈ WALL := q_of (m_t6 (List.mem_of_getElem? (i := 172) rfl)) rfl
theorem q6_173 : Cond.methodLink "SeeSawHillModel" 234 ⟨"SeeSawHillModel", "readLine", "(ZI)Z"⟩ ∈ WALL := q_of (m_t6 (List.mem_of_getElem? (i := 173) rfl)) rfl
theorem q6_175 : Cond.instanceMethod ⟨"SeeSawHillModel", "readLine", "(ZI)Z"⟩ ∈ WALL := q_of (m_t6 (List.mem_of_getElem? (i := 175) rfl)) rfl
theorem q6_176 : Cond.code ⟨"SeeSawHillModel", "readLine", "(ZI)Z"⟩ prog_14_method_51_code 3 (some .boolean) ∈ WALL := q_of (m_t6 (List.mem_of_getElem? (i := 176) rfl)) rfl
theorem q6_177 : Cond.methodLink "SeeSawHillModel" 114 ⟨"SeeSawHillModel", "letters", "()V"⟩ ∈ WALL := q_of (m_t6 (List.mem_of_getElem? (i := 177) rfl)) rfl
theorem q6_179 : Cond.instanceMethod ⟨"SeeSawHillModel", "letters", "()V"⟩ ∈ WALL := q_of (m_t6 (List.mem_of_getElem? (i := 179) rfl)) rfl
theorem q6_18 : Cond.code ⟨"SeeSawHill", "trial", "(IZ)I"⟩ prog_1_method_49_code 3 (some .int) ∈ WALL := q_of (m_t6 (List.mem_of_getElem? (i := 18) rfl)) rfl
theorem q6_180 : Cond.code ⟨"SeeSawHillModel", "letters", "()V"⟩ prog_14_method_30_code 1 none ∈ WALL := q_of (m_t6 (List.mem_of_getElem? (i := 180) rfl)) rfl
theorem q6_181 : Cond.methodLink "SeeSawHillModel" 225 ⟨"SeeSawHillModel", "readHillLine", "()Z"⟩ ∈ WALL := q_of (m_t6 (List.mem_of_getElem? (i := 181) rfl)) rfl
theorem q6_183 : Cond.instanceMethod ⟨"SeeSawHillModel", "readHillLine", "()Z"⟩ ∈ WALL := q_of (m_t6 (List.mem_of_getElem? (i := 183) rfl)) rfl
theorem q6_184 : Cond.code ⟨"SeeSawHillModel", "readHillLine", "()Z"⟩ prog_14_method_42_code 1 (some .boolean) ∈ WALL := q_of (m_t6 (List.mem_of_getElem? (i := 184) rfl)) rfl
theorem q6_186 : Cond.methodLink "SeeSawHillModel" 117 ⟨"SeeSawHillModel", "isWord", "(Ljava/lang/String;)Z"⟩ ∈ WALL := q_of (m_t6 (List.mem_of_getElem? (i := 186) rfl)) rfl
theorem q6_188 : Cond.instanceMethod ⟨"SeeSawHillModel", "isWord", "(Ljava/lang/String;)Z"⟩ ∈ WALL := q_of (m_t6 (List.mem_of_getElem? (i := 188) rfl)) rfl
theorem q6_189 : Cond.code ⟨"SeeSawHillModel", "isWord", "(Ljava/lang/String;)Z"⟩ prog_14_method_31_code 4 (some .boolean) ∈ WALL := q_of (m_t6 (List.mem_of_getElem? (i := 189) rfl)) rfl
theorem q6_19 : Cond.methodLink "SeeSawHill" 357 ⟨"SeeSawHill", "tryWeeks", "(II)V"⟩ ∈ WALL := q_of (m_t6 (List.mem_of_getElem? (i := 19) rfl)) rfl
theorem q6_190 : Cond.methodLink "SeeSawHillModel" 105 ⟨"java/lang/String", "length", "()I"⟩ ∈ WALL := q_of (m_t6 (List.mem_of_getElem? (i := 190) rfl)) rfl
theorem q6_191 : Cond.methodLink "SeeSawHillModel" 110 ⟨"java/lang/String", "charAt", "(I)C"⟩ ∈ WALL := q_of (m_t6 (List.mem_of_getElem? (i := 191) rfl)) rfl
theorem q6_192 : Cond.methodLink "SeeSawHillModel" 141 ⟨"SeeSawHillModel", "readPlank", "()Z"⟩ ∈ WALL := q_of (m_t6 (List.mem_of_getElem? (i := 192) rfl)) rfl
theorem q6_194 : Cond.instanceMethod ⟨"SeeSawHillModel", "readPlank", "()Z"⟩ ∈ WALL := q_of (m_t6 (List.mem_of_getElem? (i := 194) rfl)) rfl
theorem q6_195 : Cond.code ⟨"SeeSawHillModel", "readPlank", "()Z"⟩ prog_14_method_39_code 5 (some .boolean) ∈ WALL := q_of (m_t6 (List.mem_of_getElem? (i := 195) rfl)) rfl
theorem q6_196 : Cond.methodLink "SeeSawHillModel" 55 ⟨"SeeSawHillModel", "planks", "()I"⟩ ∈ WALL := q_of (m_t6 (List.mem_of_getElem? (i := 196) rfl)) rfl
theorem q6_198 : Cond.instanceMethod ⟨"SeeSawHillModel", "planks", "()I"⟩ ∈ WALL := q_of (m_t6 (List.mem_of_getElem? (i := 198) rfl)) rfl
theorem q6_199 : Cond.code ⟨"SeeSawHillModel", "planks", "()I"⟩ prog_14_method_10_code 1 (some .int) ∈ WALL := q_of (m_t6 (List.mem_of_getElem? (i := 199) rfl)) rfl
theorem q6_200 : Cond.methodLink "SeeSawHillModel" 121 ⟨"SeeSawHillModel", "number", "(II)I"⟩ ∈ WALL := q_of (m_t6 (List.mem_of_getElem? (i := 200) rfl)) rfl
theorem q6_202 : Cond.instanceMethod ⟨"SeeSawHillModel", "number", "(II)I"⟩ ∈ WALL := q_of (m_t6 (List.mem_of_getElem? (i := 202) rfl)) rfl
theorem q6_203 : Cond.code ⟨"SeeSawHillModel", "number", "(II)I"⟩ prog_14_method_34_code 4 (some .int) ∈ WALL := q_of (m_t6 (List.mem_of_getElem? (i := 203) rfl)) rfl
theorem q6_205 : Cond.methodLink "SeeSawHillModel" 126 ⟨"SeeSawHillModel", "passes", "(Ljava/lang/String;)Z"⟩ ∈ WALL := q_of (m_t6 (List.mem_of_getElem? (i := 205) rfl)) rfl
theorem q6_207 : Cond.instanceMethod ⟨"SeeSawHillModel", "passes", "(Ljava/lang/String;)Z"⟩ ∈ WALL := q_of (m_t6 (List.mem_of_getElem? (i := 207) rfl)) rfl
theorem q6_208 : Cond.code ⟨"SeeSawHillModel", "passes", "(Ljava/lang/String;)Z"⟩ prog_14_method_32_code 2 (some .boolean) ∈ WALL := q_of (m_t6 (List.mem_of_getElem? (i := 208) rfl)) rfl
theorem q6_209 : Cond.methodLink "SeeSawHillModel" 59 ⟨"SeeSawHillModel", "plankAt", "(II)I"⟩ ∈ WALL := q_of (m_t6 (List.mem_of_getElem? (i := 209) rfl)) rfl
theorem q6_21 : Cond.instanceMethod ⟨"SeeSawHill", "tryWeeks", "(II)V"⟩ ∈ WALL := q_of (m_t6 (List.mem_of_getElem? (i := 21) rfl)) rfl
theorem q6_210 : Cond.static ⟨"SeeSawHillModel", "plankAt", "(II)I"⟩ ∈ WALL := q_of (m_t6 (List.mem_of_getElem? (i := 210) rfl)) rfl
theorem q6_211 : Cond.code ⟨"SeeSawHillModel", "plankAt", "(II)I"⟩ prog_14_method_13_code 2 (some .int) ∈ WALL := q_of (m_t6 (List.mem_of_getElem? (i := 211) rfl)) rfl
theorem q6_212 : Cond.methodLink "SeeSawHillModel" 66 ⟨"SeeSawHillModel", "houseAt", "(II)I"⟩ ∈ WALL := q_of (m_t6 (List.mem_of_getElem? (i := 212) rfl)) rfl
theorem q6_213 : Cond.static ⟨"SeeSawHillModel", "houseAt", "(II)I"⟩ ∈ WALL := q_of (m_t6 (List.mem_of_getElem? (i := 213) rfl)) rfl
theorem q6_214 : Cond.code ⟨"SeeSawHillModel", "houseAt", "(II)I"⟩ prog_14_method_17_code 2 (some .int) ∈ WALL := q_of (m_t6 (List.mem_of_getElem? (i := 214) rfl)) rfl
theorem q6_216 : Cond.methodLink "SeeSawHillModel" 147 ⟨"SeeSawHillModel", "readHouse", "(II)Z"⟩ ∈ WALL := q_of (m_t6 (List.mem_of_getElem? (i := 216) rfl)) rfl
theorem q6_218 : Cond.instanceMethod ⟨"SeeSawHillModel", "readHouse", "(II)Z"⟩ ∈ WALL := q_of (m_t6 (List.mem_of_getElem? (i := 218) rfl)) rfl
theorem q6_219 : Cond.code ⟨"SeeSawHillModel", "readHouse", "(II)Z"⟩ prog_14_method_40_code 4 (some .boolean) ∈ WALL := q_of (m_t6 (List.mem_of_getElem? (i := 219) rfl)) rfl
theorem q6_22 : Cond.code ⟨"SeeSawHill", "tryWeeks", "(II)V"⟩ prog_1_method_51_code 4 none ∈ WALL := q_of (m_t6 (List.mem_of_getElem? (i := 22) rfl)) rfl
theorem q6_220 : Cond.methodLink "SeeSawHillModel" 79 ⟨"SeeSawHillModel", "houses", "()I"⟩ ∈ WALL := q_of (m_t6 (List.mem_of_getElem? (i := 220) rfl)) rfl
theorem q6_222 : Cond.instanceMethod ⟨"SeeSawHillModel", "houses", "()I"⟩ ∈ WALL := q_of (m_t6 (List.mem_of_getElem? (i := 222) rfl)) rfl
theorem q6_223 : Cond.code ⟨"SeeSawHillModel", "houses", "()I"⟩ prog_14_method_11_code 1 (some .int) ∈ WALL := q_of (m_t6 (List.mem_of_getElem? (i := 223) rfl)) rfl
theorem q6_224 : Cond.methodLink "SeeSawHillModel" 129 ⟨"SeeSawHillModel", "readNumber", "(III)Z"⟩ ∈ WALL := q_of (m_t6 (List.mem_of_getElem? (i := 224) rfl)) rfl
theorem q6_226 : Cond.instanceMethod ⟨"SeeSawHillModel", "readNumber", "(III)Z"⟩ ∈ WALL := q_of (m_t6 (List.mem_of_getElem? (i := 226) rfl)) rfl
theorem q6_227 : Cond.code ⟨"SeeSawHillModel", "readNumber", "(III)Z"⟩ prog_14_method_38_code 5 (some .boolean) ∈ WALL := q_of (m_t6 (List.mem_of_getElem? (i := 227) rfl)) rfl
theorem q6_23 : Cond.methodLink "SeeSawHillLaw" 254 ⟨"SeeSawHillLaw", "span", "(LSeeSawHill;IZ[J)I"⟩ ∈ WALL := q_of (m_t6 (List.mem_of_getElem? (i := 23) rfl)) rfl
theorem q6_230 : Cond.methodLink "SeeSawHillModel" 154 ⟨"SeeSawHillModel", "readThing", "()Z"⟩ ∈ WALL := q_of (m_t6 (List.mem_of_getElem? (i := 230) rfl)) rfl
theorem q6_232 : Cond.instanceMethod ⟨"SeeSawHillModel", "readThing", "()Z"⟩ ∈ WALL := q_of (m_t6 (List.mem_of_getElem? (i := 232) rfl)) rfl
theorem q6_233 : Cond.code ⟨"SeeSawHillModel", "readThing", "()Z"⟩ prog_14_method_41_code 5 (some .boolean) ∈ WALL := q_of (m_t6 (List.mem_of_getElem? (i := 233) rfl)) rfl
theorem q6_234 : Cond.methodLink "SeeSawHillModel" 82 ⟨"SeeSawHillModel", "things", "()I"⟩ ∈ WALL := q_of (m_t6 (List.mem_of_getElem? (i := 234) rfl)) rfl
theorem q6_236 : Cond.instanceMethod ⟨"SeeSawHillModel", "things", "()I"⟩ ∈ WALL := q_of (m_t6 (List.mem_of_getElem? (i := 236) rfl)) rfl
theorem q6_237 : Cond.code ⟨"SeeSawHillModel", "things", "()I"⟩ prog_14_method_12_code 1 (some .int) ∈ WALL := q_of (m_t6 (List.mem_of_getElem? (i := 237) rfl)) rfl
theorem q6_239 : Cond.methodLink "SeeSawHillModel" 134 ⟨"SeeSawHillModel", "after", "(Ljava/lang/String;II)I"⟩ ∈ WALL := q_of (m_t6 (List.mem_of_getElem? (i := 239) rfl)) rfl
theorem q6_24 : Cond.static ⟨"SeeSawHillLaw", "span", "(LSeeSawHill;IZ[J)I"⟩ ∈ WALL := q_of (m_t6 (List.mem_of_getElem? (i := 24) rfl)) rfl
theorem q6_25 : Cond.codeWith ⟨"SeeSawHillLaw", "span", "(LSeeSawHill;IZ[J)I"⟩ method_28_code 5 (some .int) [(0, 10, 13, 13)] ∈ WALL := q_of (m_t6 (List.mem_of_getElem? (i := 25) rfl)) rfl
theorem q6_26 : Cond.methodLink "SeeSawHillLaw" 101 ⟨"SeeSawHill", "span", "(IZ)I"⟩ ∈ WALL := q_of (m_t6 (List.mem_of_getElem? (i := 26) rfl)) rfl
theorem q6_27 : Cond.instanceMethod ⟨"SeeSawHill", "span", "(IZ)I"⟩ ∈ WALL := q_of (m_t6 (List.mem_of_getElem? (i := 27) rfl)) rfl
theorem q6_28 : Cond.selects "SeeSawHill" ⟨"SeeSawHill", "span", "(IZ)I"⟩ ⟨"SeeSawHill", "span", "(IZ)I"⟩ ∈ WALL := q_of (m_t6 (List.mem_of_getElem? (i := 28) rfl)) rfl
theorem q6_29 : Cond.code ⟨"SeeSawHill", "span", "(IZ)I"⟩ prog_1_method_50_code 7 (some .int) ∈ WALL := q_of (m_t6 (List.mem_of_getElem? (i := 29) rfl)) rfl
theorem q6_3 : Cond.instanceMethod ⟨"SeeSawHill", "lookAhead", "(II)V"⟩ ∈ WALL := q_of (m_t6 (List.mem_of_getElem? (i := 3) rfl)) rfl
theorem q6_30 : Cond.methodLink "SeeSawHill" 366 ⟨"java/lang/Math", "max", "(II)I"⟩ ∈ WALL := q_of (m_t6 (List.mem_of_getElem? (i := 30) rfl)) rfl
theorem q6_31 : Cond.methodLink "SeeSawHillLaw" 257 ⟨"SeeSawHillLaw", "led", "(LSeeSawHill;IZ[J)I"⟩ ∈ WALL := q_of (m_t6 (List.mem_of_getElem? (i := 31) rfl)) rfl
theorem q6_32 : Cond.static ⟨"SeeSawHillLaw", "led", "(LSeeSawHill;IZ[J)I"⟩ ∈ WALL := q_of (m_t6 (List.mem_of_getElem? (i := 32) rfl)) rfl
theorem q6_33 : Cond.codeWith ⟨"SeeSawHillLaw", "led", "(LSeeSawHill;IZ[J)I"⟩ method_29_code 5 (some .int) [(0, 10, 13, 24)] ∈ WALL := q_of (m_t6 (List.mem_of_getElem? (i := 33) rfl)) rfl
theorem q6_34 : Cond.methodLink "SeeSawHillLaw" 104 ⟨"SeeSawHill", "led", "(IZ)I"⟩ ∈ WALL := q_of (m_t6 (List.mem_of_getElem? (i := 34) rfl)) rfl
theorem q6_35 : Cond.instanceMethod ⟨"SeeSawHill", "led", "(IZ)I"⟩ ∈ WALL := q_of (m_t6 (List.mem_of_getElem? (i := 35) rfl)) rfl
theorem q6_36 : Cond.selects "SeeSawHill" ⟨"SeeSawHill", "led", "(IZ)I"⟩ ⟨"SeeSawHill", "led", "(IZ)I"⟩ ∈ WALL := q_of (m_t6 (List.mem_of_getElem? (i := 36) rfl)) rfl
theorem q6_37 : Cond.code ⟨"SeeSawHill", "led", "(IZ)I"⟩ prog_1_method_52_code 3 (some .int) ∈ WALL := q_of (m_t6 (List.mem_of_getElem? (i := 37) rfl)) rfl
theorem q6_38 : Cond.methodLink "SeeSawHill" 369 ⟨"SeeSawHill$Diary", "latestWeekOf", "(I)I"⟩ ∈ WALL := q_of (m_t6 (List.mem_of_getElem? (i := 38) rfl)) rfl
theorem q6_39 : Cond.instanceMethod ⟨"SeeSawHill$Diary", "latestWeekOf", "(I)I"⟩ ∈ WALL := q_of (m_t6 (List.mem_of_getElem? (i := 39) rfl)) rfl
theorem q6_4 : Cond.code ⟨"SeeSawHill", "lookAhead", "(II)V"⟩ prog_1_method_43_code 4 none ∈ WALL := q_of (m_t6 (List.mem_of_getElem? (i := 4) rfl)) rfl
theorem q6_40 : Cond.selects "SeeSawHill$Diary" ⟨"SeeSawHill$Diary", "latestWeekOf", "(I)I"⟩ ⟨"SeeSawHill$Diary", "latestWeekOf", "(I)I"⟩ ∈ WALL := q_of (m_t6 (List.mem_of_getElem? (i := 40) rfl)) rfl
theorem q6_41 : Cond.code ⟨"SeeSawHill$Diary", "latestWeekOf", "(I)I"⟩ prog_3_method_6_code 3 (some .int) ∈ WALL := q_of (m_t6 (List.mem_of_getElem? (i := 41) rfl)) rfl
theorem q6_42 : Cond.methodLink "SeeSawHill$Diary" 25 ⟨"SeeSawHill$Diary", "cell", "(II)I"⟩ ∈ WALL := q_of (m_t6 (List.mem_of_getElem? (i := 42) rfl)) rfl
theorem q6_43 : Cond.instanceMethod ⟨"SeeSawHill$Diary", "cell", "(II)I"⟩ ∈ WALL := q_of (m_t6 (List.mem_of_getElem? (i := 43) rfl)) rfl
theorem q6_44 : Cond.selects "SeeSawHill$Diary" ⟨"SeeSawHill$Diary", "cell", "(II)I"⟩ ⟨"SeeSawHill$Diary", "cell", "(II)I"⟩ ∈ WALL := q_of (m_t6 (List.mem_of_getElem? (i := 44) rfl)) rfl
theorem q6_45 : Cond.code ⟨"SeeSawHill$Diary", "cell", "(II)I"⟩ prog_3_method_4_code 3 (some .int) ∈ WALL := q_of (m_t6 (List.mem_of_getElem? (i := 45) rfl)) rfl
theorem q6_46 : Cond.methodLink "SeeSawHill" 372 ⟨"SeeSawHill$Diary", "rowsOf", "(I)I"⟩ ∈ WALL := q_of (m_t6 (List.mem_of_getElem? (i := 46) rfl)) rfl
theorem q6_47 : Cond.instanceMethod ⟨"SeeSawHill$Diary", "rowsOf", "(I)I"⟩ ∈ WALL := q_of (m_t6 (List.mem_of_getElem? (i := 47) rfl)) rfl
theorem q6_48 : Cond.selects "SeeSawHill$Diary" ⟨"SeeSawHill$Diary", "rowsOf", "(I)I"⟩ ⟨"SeeSawHill$Diary", "rowsOf", "(I)I"⟩ ∈ WALL := q_of (m_t6 (List.mem_of_getElem? (i := 48) rfl)) rfl
theorem q6_49 : Cond.code ⟨"SeeSawHill$Diary", "rowsOf", "(I)I"⟩ prog_3_method_5_code 4 (some .int) ∈ WALL := q_of (m_t6 (List.mem_of_getElem? (i := 49) rfl)) rfl
theorem q6_5 : Cond.methodLink "SeeSawHillLaw" 248 ⟨"SeeSawHillLaw", "ahead", "(LSeeSawHill;IIZ[J)I"⟩ ∈ WALL := q_of (m_t6 (List.mem_of_getElem? (i := 5) rfl)) rfl
theorem q6_50 : Cond.methodLink "SeeSawHillLaw" 260 ⟨"SeeSawHillLaw", "log", "(LSeeSawHill;II[J)I"⟩ ∈ WALL := q_of (m_t6 (List.mem_of_getElem? (i := 50) rfl)) rfl
theorem q6_51 : Cond.static ⟨"SeeSawHillLaw", "log", "(LSeeSawHill;II[J)I"⟩ ∈ WALL := q_of (m_t6 (List.mem_of_getElem? (i := 51) rfl)) rfl
theorem q6_52 : Cond.codeWith ⟨"SeeSawHillLaw", "log", "(LSeeSawHill;II[J)I"⟩ method_30_code 5 (some .int) [(0, 10, 13, 26)] ∈ WALL := q_of (m_t6 (List.mem_of_getElem? (i := 52) rfl)) rfl
theorem q6_53 : Cond.methodLink "SeeSawHillLaw" 107 ⟨"SeeSawHill", "log", "(II)I"⟩ ∈ WALL := q_of (m_t6 (List.mem_of_getElem? (i := 53) rfl)) rfl
theorem q6_54 : Cond.instanceMethod ⟨"SeeSawHill", "log", "(II)I"⟩ ∈ WALL := q_of (m_t6 (List.mem_of_getElem? (i := 54) rfl)) rfl
theorem q6_55 : Cond.selects "SeeSawHill" ⟨"SeeSawHill", "log", "(II)I"⟩ ⟨"SeeSawHill", "log", "(II)I"⟩ ∈ WALL := q_of (m_t6 (List.mem_of_getElem? (i := 55) rfl)) rfl
theorem q6_56 : Cond.code ⟨"SeeSawHill", "log", "(II)I"⟩ prog_1_method_53_code 3 (some .int) ∈ WALL := q_of (m_t6 (List.mem_of_getElem? (i := 56) rfl)) rfl
theorem q6_57 : Cond.methodLink "SeeSawHill" 375 ⟨"SeeSawHill$Diary", "cell", "(II)I"⟩ ∈ WALL := q_of (m_t6 (List.mem_of_getElem? (i := 57) rfl)) rfl
theorem q6_58 : Cond.methodLink "SeeSawHillLaw" 130 ⟨"SeeSawHillModel", "thrown", "()I"⟩ ∈ WALL := q_of (m_t6 (List.mem_of_getElem? (i := 58) rfl)) rfl
theorem q6_59 : Cond.instanceMethod ⟨"SeeSawHillModel", "thrown", "()I"⟩ ∈ WALL := q_of (m_t6 (List.mem_of_getElem? (i := 59) rfl)) rfl
theorem q6_6 : Cond.static ⟨"SeeSawHillLaw", "ahead", "(LSeeSawHill;IIZ[J)I"⟩ ∈ WALL := q_of (m_t6 (List.mem_of_getElem? (i := 6) rfl)) rfl
theorem q6_60 : Cond.selects "SeeSawHillModel" ⟨"SeeSawHillModel", "thrown", "()I"⟩ ⟨"SeeSawHillModel", "thrown", "()I"⟩ ∈ WALL := q_of (m_t6 (List.mem_of_getElem? (i := 60) rfl)) rfl
theorem q6_61 : Cond.code ⟨"SeeSawHillModel", "thrown", "()I"⟩ prog_14_method_1_code 1 (some .int) ∈ WALL := q_of (m_t6 (List.mem_of_getElem? (i := 61) rfl)) rfl
theorem q6_62 : Cond.classLink "SeeSawHillLaw" 111 "SeeSawHillModel" ∈ WALL := q_of (m_t6 (List.mem_of_getElem? (i := 62) rfl)) rfl
theorem q6_63 : Cond.instantiable "SeeSawHillModel" 20 ∈ WALL := q_of (m_t6 (List.mem_of_getElem? (i := 63) rfl)) rfl
theorem q6_64 : Cond.methodLink "SeeSawHillLaw" 113 ⟨"SeeSawHillModel", "<init>", "()V"⟩ ∈ WALL := q_of (m_t6 (List.mem_of_getElem? (i := 64) rfl)) rfl
theorem q6_65 : Cond.instanceMethod ⟨"SeeSawHillModel", "<init>", "()V"⟩ ∈ WALL := q_of (m_t6 (List.mem_of_getElem? (i := 65) rfl)) rfl
theorem q6_66 : Cond.code ⟨"SeeSawHillModel", "<init>", "()V"⟩ prog_14_method_5_code 1 none ∈ WALL := q_of (m_t6 (List.mem_of_getElem? (i := 66) rfl)) rfl
theorem q6_67 : Cond.methodLink "SeeSawHillModel" 7 ⟨"java/lang/Object", "<init>", "()V"⟩ ∈ WALL := q_of (m_t6 (List.mem_of_getElem? (i := 67) rfl)) rfl
theorem q6_68 : Cond.fieldLink "SeeSawHillModel" 3 "SeeSawHillModel" "thrown" "I" ∈ WALL := q_of (m_t6 (List.mem_of_getElem? (i := 68) rfl)) rfl
theorem q6_69 : Cond.fieldLink "SeeSawHillModel" 13 "SeeSawHillModel" "world" "[I" ∈ WALL := q_of (m_t6 (List.mem_of_getElem? (i := 69) rfl)) rfl
theorem q6_7 : Cond.codeWith ⟨"SeeSawHillLaw", "ahead", "(LSeeSawHill;IIZ[J)I"⟩ method_26_code 6 (some .int) [(0, 12, 15, 24), (0, 12, 19, 13)] ∈ WALL := q_of (m_t6 (List.mem_of_getElem? (i := 7) rfl)) rfl
theorem q6_70 : Cond.fieldLink "SeeSawHillModel" 17 "SeeSawHillModel" "image" "[I" ∈ WALL := q_of (m_t6 (List.mem_of_getElem? (i := 70) rfl)) rfl
theorem q6_71 : Cond.fieldLink "SeeSawHillModel" 20 "SeeSawHillModel" "before" "[I" ∈ WALL := q_of (m_t6 (List.mem_of_getElem? (i := 71) rfl)) rfl
theorem q6_72 : Cond.fieldLink "SeeSawHillModel" 23 "SeeSawHillModel" "trial" "[I" ∈ WALL := q_of (m_t6 (List.mem_of_getElem? (i := 72) rfl)) rfl
theorem q6_73 : Cond.fieldLink "SeeSawHillModel" 26 "SeeSawHillModel" "acts" "[I" ∈ WALL := q_of (m_t6 (List.mem_of_getElem? (i := 73) rfl)) rfl
theorem q6_74 : Cond.fieldLink "SeeSawHillModel" 48 "SeeSawHillModel" "hasImage" "Z" ∈ WALL := q_of (m_t6 (List.mem_of_getElem? (i := 74) rfl)) rfl
theorem q6_75 : Cond.fieldLink "SeeSawHillModel" 52 "SeeSawHillModel" "remembered" "I" ∈ WALL := q_of (m_t6 (List.mem_of_getElem? (i := 75) rfl)) rfl
theorem q6_76 : Cond.fieldLink "SeeSawHillModel" 29 "SeeSawHillModel" "tape" "[B" ∈ WALL := q_of (m_t6 (List.mem_of_getElem? (i := 76) rfl)) rfl
theorem q6_77 : Cond.fieldLink "SeeSawHillModel" 86 "SeeSawHillModel" "taped" "I" ∈ WALL := q_of (m_t6 (List.mem_of_getElem? (i := 77) rfl)) rfl
theorem q6_78 : Cond.fieldLink "SeeSawHillModel" 89 "SeeSawHillModel" "point" "I" ∈ WALL := q_of (m_t6 (List.mem_of_getElem? (i := 78) rfl)) rfl
theorem q6_79 : Cond.fieldLink "SeeSawHillModel" 92 "SeeSawHillModel" "end" "I" ∈ WALL := q_of (m_t6 (List.mem_of_getElem? (i := 79) rfl)) rfl
theorem q6_8 : Cond.methodLink "SeeSawHillLaw" 95 ⟨"SeeSawHill", "ahead", "(IIZ)I"⟩ ∈ WALL := q_of (m_t6 (List.mem_of_getElem? (i := 8) rfl)) rfl
theorem q6_80 : Cond.fieldLink "SeeSawHillModel" 99 "SeeSawHillModel" "begin" "I" ∈ WALL := q_of (m_t6 (List.mem_of_getElem? (i := 80) rfl)) rfl
theorem q6_81 : Cond.fieldLink "SeeSawHillModel" 195 "SeeSawHillModel" "deep" "I" ∈ WALL := q_of (m_t6 (List.mem_of_getElem? (i := 81) rfl)) rfl
theorem q6_82 : Cond.fieldLink "SeeSawHillModel" 33 "SeeSawHillModel" "faultAt" "I" ∈ WALL := q_of (m_t6 (List.mem_of_getElem? (i := 82) rfl)) rfl
theorem q6_83 : Cond.fieldLink "SeeSawHillModel" 36 "SeeSawHillModel" "five" "[I" ∈ WALL := q_of (m_t6 (List.mem_of_getElem? (i := 83) rfl)) rfl
theorem q6_84 : Cond.fieldLink "SeeSawHillModel" 167 "SeeSawHillModel" "steps" "I" ∈ WALL := q_of (m_t6 (List.mem_of_getElem? (i := 84) rfl)) rfl
theorem q6_85 : Cond.fieldLink "SeeSawHillModel" 39 "SeeSawHillModel" "value" "[I" ∈ WALL := q_of (m_t6 (List.mem_of_getElem? (i := 85) rfl)) rfl
theorem q6_86 : Cond.fieldLink "SeeSawHillModel" 42 "SeeSawHillModel" "differ" "[I" ∈ WALL := q_of (m_t6 (List.mem_of_getElem? (i := 86) rfl)) rfl
theorem q6_87 : Cond.fieldLink "SeeSawHillModel" 45 "SeeSawHillModel" "many" "[I" ∈ WALL := q_of (m_t6 (List.mem_of_getElem? (i := 87) rfl)) rfl
theorem q6_9 : Cond.instanceMethod ⟨"SeeSawHill", "ahead", "(IIZ)I"⟩ ∈ WALL := q_of (m_t6 (List.mem_of_getElem? (i := 9) rfl)) rfl
theorem q7_1 : Cond.instanceMethod ⟨"SeeSawHillModel", "after", "(Ljava/lang/String;II)I"⟩ ∈ WALL := q_of (m_t7 (List.mem_of_getElem? (i := 1) rfl)) rfl
theorem q7_100 : Cond.methodLink "SeeSawHillModel" 72 ⟨"SeeSawHillModel", "ofThing", "(II)I"⟩ ∈ WALL := q_of (m_t7 (List.mem_of_getElem? (i := 100) rfl)) rfl
theorem q7_102 : Cond.instanceMethod ⟨"SeeSawHillModel", "ofThing", "(II)I"⟩ ∈ WALL := q_of (m_t7 (List.mem_of_getElem? (i := 102) rfl)) rfl
theorem q7_103 : Cond.code ⟨"SeeSawHillModel", "ofThing", "(II)I"⟩ prog_14_method_20_code 3 (some .int) ∈ WALL := q_of (m_t7 (List.mem_of_getElem? (i := 103) rfl)) rfl
theorem q7_104 : Cond.methodLink "SeeSawHillModel" 252 ⟨"SeeSawHillModel", "weightOf", "(I)I"⟩ ∈ WALL := q_of (m_t7 (List.mem_of_getElem? (i := 104) rfl)) rfl
theorem q7_106 : Cond.instanceMethod ⟨"SeeSawHillModel", "weightOf", "(I)I"⟩ ∈ WALL := q_of (m_t7 (List.mem_of_getElem? (i := 106) rfl)) rfl
theorem q7_107 : Cond.code ⟨"SeeSawHillModel", "weightOf", "(I)I"⟩ prog_14_method_56_code 4 (some .int) ∈ WALL := q_of (m_t7 (List.mem_of_getElem? (i := 107) rfl)) rfl
theorem q7_108 : Cond.methodLink "SeeSawHillModel" 245 ⟨"SeeSawHillModel", "holds", "(II)Z"⟩ ∈ WALL := q_of (m_t7 (List.mem_of_getElem? (i := 108) rfl)) rfl
theorem q7_109 : Cond.static ⟨"SeeSawHillModel", "holds", "(II)Z"⟩ ∈ WALL := q_of (m_t7 (List.mem_of_getElem? (i := 109) rfl)) rfl
theorem q7_110 : Cond.code ⟨"SeeSawHillModel", "holds", "(II)Z"⟩ prog_14_method_4_code 2 (some .boolean) ∈ WALL := q_of (m_t7 (List.mem_of_getElem? (i := 110) rfl)) rfl
theorem q7_111 : Cond.methodLink "SeeSawHillModel" 255 ⟨"SeeSawHillModel", "of", "(II)I"⟩ ∈ WALL := q_of (m_t7 (List.mem_of_getElem? (i := 111) rfl)) rfl
theorem q7_113 : Cond.instanceMethod ⟨"SeeSawHillModel", "of", "(II)I"⟩ ∈ WALL := q_of (m_t7 (List.mem_of_getElem? (i := 113) rfl)) rfl
theorem q7_114 : Cond.code ⟨"SeeSawHillModel", "of", "(II)I"⟩ prog_14_method_18_code 3 (some .int) ∈ WALL := q_of (m_t7 (List.mem_of_getElem? (i := 114) rfl)) rfl
theorem q7_115 : Cond.methodLink "SeeSawHillModel" 272 ⟨"SeeSawHillModel", "tiltBy", "(I)I"⟩ ∈ WALL := q_of (m_t7 (List.mem_of_getElem? (i := 115) rfl)) rfl
theorem q7_117 : Cond.instanceMethod ⟨"SeeSawHillModel", "tiltBy", "(I)I"⟩ ∈ WALL := q_of (m_t7 (List.mem_of_getElem? (i := 117) rfl)) rfl
theorem q7_118 : Cond.code ⟨"SeeSawHillModel", "tiltBy", "(I)I"⟩ prog_14_method_59_code 2 (some .int) ∈ WALL := q_of (m_t7 (List.mem_of_getElem? (i := 118) rfl)) rfl
theorem q7_119 : Cond.methodLink "SeeSawHillModel" 258 ⟨"java/lang/Math", "min", "(II)I"⟩ ∈ WALL := q_of (m_t7 (List.mem_of_getElem? (i := 119) rfl)) rfl
theorem q7_12 : Cond.methodLink "SeeSawHillModel" 228 ⟨"SeeSawHillModel", "readLawLine", "(I)Z"⟩ ∈ WALL := q_of (m_t7 (List.mem_of_getElem? (i := 12) rfl)) rfl
theorem q7_120 : Cond.methodLink "SeeSawHillModel" 263 ⟨"java/lang/Math", "max", "(II)I"⟩ ∈ WALL := q_of (m_t7 (List.mem_of_getElem? (i := 120) rfl)) rfl
theorem q7_121 : Cond.methodLink "SeeSawHillModel" 290 ⟨"SeeSawHillModel", "isLevel", "(I)Z"⟩ ∈ WALL := q_of (m_t7 (List.mem_of_getElem? (i := 121) rfl)) rfl
theorem q7_123 : Cond.instanceMethod ⟨"SeeSawHillModel", "isLevel", "(I)Z"⟩ ∈ WALL := q_of (m_t7 (List.mem_of_getElem? (i := 123) rfl)) rfl
theorem q7_124 : Cond.code ⟨"SeeSawHillModel", "isLevel", "(I)Z"⟩ prog_14_method_64_code 2 (some .boolean) ∈ WALL := q_of (m_t7 (List.mem_of_getElem? (i := 124) rfl)) rfl
theorem q7_125 : Cond.methodLink "SeeSawHillModel" 278 ⟨"SeeSawHillModel", "isBroken", "(I)Z"⟩ ∈ WALL := q_of (m_t7 (List.mem_of_getElem? (i := 125) rfl)) rfl
theorem q7_127 : Cond.instanceMethod ⟨"SeeSawHillModel", "isBroken", "(I)Z"⟩ ∈ WALL := q_of (m_t7 (List.mem_of_getElem? (i := 127) rfl)) rfl
theorem q7_128 : Cond.code ⟨"SeeSawHillModel", "isBroken", "(I)Z"⟩ prog_14_method_15_code 2 (some .boolean) ∈ WALL := q_of (m_t7 (List.mem_of_getElem? (i := 128) rfl)) rfl
theorem q7_129 : Cond.methodLink "SeeSawHillModel" 312 ⟨"SeeSawHillModel", "agesBy", "(I)I"⟩ ∈ WALL := q_of (m_t7 (List.mem_of_getElem? (i := 129) rfl)) rfl
theorem q7_131 : Cond.instanceMethod ⟨"SeeSawHillModel", "agesBy", "(I)I"⟩ ∈ WALL := q_of (m_t7 (List.mem_of_getElem? (i := 131) rfl)) rfl
theorem q7_132 : Cond.code ⟨"SeeSawHillModel", "agesBy", "(I)I"⟩ prog_14_method_70_code 2 (some .int) ∈ WALL := q_of (m_t7 (List.mem_of_getElem? (i := 132) rfl)) rfl
theorem q7_133 : Cond.methodLink "SeeSawHillModel" 300 ⟨"SeeSawHillModel", "sumOf", "(II)I"⟩ ∈ WALL := q_of (m_t7 (List.mem_of_getElem? (i := 133) rfl)) rfl
theorem q7_135 : Cond.instanceMethod ⟨"SeeSawHillModel", "sumOf", "(II)I"⟩ ∈ WALL := q_of (m_t7 (List.mem_of_getElem? (i := 135) rfl)) rfl
theorem q7_136 : Cond.code ⟨"SeeSawHillModel", "sumOf", "(II)I"⟩ prog_14_method_67_code 5 (some .int) ∈ WALL := q_of (m_t7 (List.mem_of_getElem? (i := 136) rfl)) rfl
theorem q7_137 : Cond.methodLink "SeeSawHillModel" 297 ⟨"SeeSawHillModel", "holdsLine", "(II)Z"⟩ ∈ WALL := q_of (m_t7 (List.mem_of_getElem? (i := 137) rfl)) rfl
theorem q7_139 : Cond.instanceMethod ⟨"SeeSawHillModel", "holdsLine", "(II)Z"⟩ ∈ WALL := q_of (m_t7 (List.mem_of_getElem? (i := 139) rfl)) rfl
theorem q7_14 : Cond.instanceMethod ⟨"SeeSawHillModel", "readLawLine", "(I)Z"⟩ ∈ WALL := q_of (m_t7 (List.mem_of_getElem? (i := 14) rfl)) rfl
theorem q7_140 : Cond.code ⟨"SeeSawHillModel", "holdsLine", "(II)Z"⟩ prog_14_method_66_code 10 (some .boolean) ∈ WALL := q_of (m_t7 (List.mem_of_getElem? (i := 140) rfl)) rfl
theorem q7_141 : Cond.methodLink "SeeSawHillModel" 293 ⟨"SeeSawHillModel", "factOf", "(III)I"⟩ ∈ WALL := q_of (m_t7 (List.mem_of_getElem? (i := 141) rfl)) rfl
theorem q7_143 : Cond.instanceMethod ⟨"SeeSawHillModel", "factOf", "(III)I"⟩ ∈ WALL := q_of (m_t7 (List.mem_of_getElem? (i := 143) rfl)) rfl
theorem q7_144 : Cond.code ⟨"SeeSawHillModel", "factOf", "(III)I"⟩ prog_14_method_65_code 4 (some .int) ∈ WALL := q_of (m_t7 (List.mem_of_getElem? (i := 144) rfl)) rfl
theorem q7_145 : Cond.methodLink "SeeSawHillModel" 287 ⟨"SeeSawHillModel", "heightOf", "(I)I"⟩ ∈ WALL := q_of (m_t7 (List.mem_of_getElem? (i := 145) rfl)) rfl
theorem q7_147 : Cond.instanceMethod ⟨"SeeSawHillModel", "heightOf", "(I)I"⟩ ∈ WALL := q_of (m_t7 (List.mem_of_getElem? (i := 147) rfl)) rfl
theorem q7_148 : Cond.code ⟨"SeeSawHillModel", "heightOf", "(I)I"⟩ prog_14_method_63_code 2 (some .int) ∈ WALL := q_of (m_t7 (List.mem_of_getElem? (i := 148) rfl)) rfl
theorem q7_149 : Cond.methodLink "SeeSawHillModel" 275 ⟨"SeeSawHillModel", "plankOf", "(I)I"⟩ ∈ WALL := q_of (m_t7 (List.mem_of_getElem? (i := 149) rfl)) rfl
theorem q7_15 : Cond.code ⟨"SeeSawHillModel", "readLawLine", "(I)Z"⟩ prog_14_method_50_code 3 (some .boolean) ∈ WALL := q_of (m_t7 (List.mem_of_getElem? (i := 15) rfl)) rfl
theorem q7_150 : Cond.static ⟨"SeeSawHillModel", "plankOf", "(I)I"⟩ ∈ WALL := q_of (m_t7 (List.mem_of_getElem? (i := 150) rfl)) rfl
theorem q7_151 : Cond.code ⟨"SeeSawHillModel", "plankOf", "(I)I"⟩ prog_14_method_61_code 1 (some .int) ∈ WALL := q_of (m_t7 (List.mem_of_getElem? (i := 151) rfl)) rfl
theorem q7_152 : Cond.methodLink "SeeSawHillModel" 284 ⟨"SeeSawHillModel", "heightBy", "(II)I"⟩ ∈ WALL := q_of (m_t7 (List.mem_of_getElem? (i := 152) rfl)) rfl
theorem q7_153 : Cond.static ⟨"SeeSawHillModel", "heightBy", "(II)I"⟩ ∈ WALL := q_of (m_t7 (List.mem_of_getElem? (i := 153) rfl)) rfl
theorem q7_154 : Cond.code ⟨"SeeSawHillModel", "heightBy", "(II)I"⟩ prog_14_method_62_code 2 (some .int) ∈ WALL := q_of (m_t7 (List.mem_of_getElem? (i := 154) rfl)) rfl
theorem q7_155 : Cond.methodLink "SeeSawHillLaw" 146 ⟨"SeeSawHillModel", "house", "(II)I"⟩ ∈ WALL := q_of (m_t7 (List.mem_of_getElem? (i := 155) rfl)) rfl
theorem q7_156 : Cond.instanceMethod ⟨"SeeSawHillModel", "house", "(II)I"⟩ ∈ WALL := q_of (m_t7 (List.mem_of_getElem? (i := 156) rfl)) rfl
theorem q7_157 : Cond.selects "SeeSawHillModel" ⟨"SeeSawHillModel", "house", "(II)I"⟩ ⟨"SeeSawHillModel", "house", "(II)I"⟩ ∈ WALL := q_of (m_t7 (List.mem_of_getElem? (i := 157) rfl)) rfl
theorem q7_158 : Cond.code ⟨"SeeSawHillModel", "house", "(II)I"⟩ prog_14_method_75_code 3 (some .int) ∈ WALL := q_of (m_t7 (List.mem_of_getElem? (i := 158) rfl)) rfl
theorem q7_159 : Cond.methodLink "SeeSawHillModel" 315 ⟨"SeeSawHillModel", "noHouse", "(I)Z"⟩ ∈ WALL := q_of (m_t7 (List.mem_of_getElem? (i := 159) rfl)) rfl
theorem q7_161 : Cond.instanceMethod ⟨"SeeSawHillModel", "noHouse", "(I)Z"⟩ ∈ WALL := q_of (m_t7 (List.mem_of_getElem? (i := 161) rfl)) rfl
theorem q7_162 : Cond.code ⟨"SeeSawHillModel", "noHouse", "(I)Z"⟩ prog_14_method_23_code 2 (some .boolean) ∈ WALL := q_of (m_t7 (List.mem_of_getElem? (i := 162) rfl)) rfl
theorem q7_163 : Cond.methodLink "SeeSawHillModel" 318 ⟨"SeeSawHillModel", "paysBy", "(I)I"⟩ ∈ WALL := q_of (m_t7 (List.mem_of_getElem? (i := 163) rfl)) rfl
theorem q7_165 : Cond.instanceMethod ⟨"SeeSawHillModel", "paysBy", "(I)I"⟩ ∈ WALL := q_of (m_t7 (List.mem_of_getElem? (i := 165) rfl)) rfl
theorem q7_166 : Cond.code ⟨"SeeSawHillModel", "paysBy", "(I)I"⟩ prog_14_method_68_code 2 (some .int) ∈ WALL := q_of (m_t7 (List.mem_of_getElem? (i := 166) rfl)) rfl
theorem q7_167 : Cond.methodLink "SeeSawHillModel" 321 ⟨"SeeSawHillModel", "luresBy", "(I)I"⟩ ∈ WALL := q_of (m_t7 (List.mem_of_getElem? (i := 167) rfl)) rfl
theorem q7_169 : Cond.instanceMethod ⟨"SeeSawHillModel", "luresBy", "(I)I"⟩ ∈ WALL := q_of (m_t7 (List.mem_of_getElem? (i := 169) rfl)) rfl
theorem q7_170 : Cond.code ⟨"SeeSawHillModel", "luresBy", "(I)I"⟩ prog_14_method_69_code 2 (some .int) ∈ WALL := q_of (m_t7 (List.mem_of_getElem? (i := 170) rfl)) rfl
theorem q7_171 : Cond.methodLink "SeeSawHillModel" 303 ⟨"SeeSawHillModel", "worthOf", "(I)I"⟩ ∈ WALL := q_of (m_t7 (List.mem_of_getElem? (i := 171) rfl)) rfl
theorem q7_173 : Cond.instanceMethod ⟨"SeeSawHillModel", "worthOf", "(I)I"⟩ ∈ WALL := q_of (m_t7 (List.mem_of_getElem? (i := 173) rfl)) rfl
theorem q7_174 : Cond.code ⟨"SeeSawHillModel", "worthOf", "(I)I"⟩ prog_14_method_57_code 4 (some .int) ∈ WALL := q_of (m_t7 (List.mem_of_getElem? (i := 174) rfl)) rfl
theorem q7_175 : Cond.methodLink "SeeSawHillModel" 324 ⟨"SeeSawHillModel", "shareOf", "(I)I"⟩ ∈ WALL := q_of (m_t7 (List.mem_of_getElem? (i := 175) rfl)) rfl
theorem q7_177 : Cond.instanceMethod ⟨"SeeSawHillModel", "shareOf", "(I)I"⟩ ∈ WALL := q_of (m_t7 (List.mem_of_getElem? (i := 177) rfl)) rfl
theorem q7_178 : Cond.code ⟨"SeeSawHillModel", "shareOf", "(I)I"⟩ prog_14_method_72_code 4 (some .int) ∈ WALL := q_of (m_t7 (List.mem_of_getElem? (i := 178) rfl)) rfl
theorem q7_179 : Cond.methodLink "SeeSawHillModel" 306 ⟨"SeeSawHillModel", "lowOf", "(I)I"⟩ ∈ WALL := q_of (m_t7 (List.mem_of_getElem? (i := 179) rfl)) rfl
theorem q7_181 : Cond.instanceMethod ⟨"SeeSawHillModel", "lowOf", "(I)I"⟩ ∈ WALL := q_of (m_t7 (List.mem_of_getElem? (i := 181) rfl)) rfl
theorem q7_182 : Cond.code ⟨"SeeSawHillModel", "lowOf", "(I)I"⟩ prog_14_method_71_code 2 (some .int) ∈ WALL := q_of (m_t7 (List.mem_of_getElem? (i := 182) rfl)) rfl
theorem q7_183 : Cond.methodLink "SeeSawHillModel" 327 ⟨"SeeSawHillModel", "corkOf", "(I)I"⟩ ∈ WALL := q_of (m_t7 (List.mem_of_getElem? (i := 183) rfl)) rfl
theorem q7_185 : Cond.instanceMethod ⟨"SeeSawHillModel", "corkOf", "(I)I"⟩ ∈ WALL := q_of (m_t7 (List.mem_of_getElem? (i := 185) rfl)) rfl
theorem q7_186 : Cond.code ⟨"SeeSawHillModel", "corkOf", "(I)I"⟩ prog_14_method_73_code 5 (some .int) ∈ WALL := q_of (m_t7 (List.mem_of_getElem? (i := 186) rfl)) rfl
theorem q7_187 : Cond.methodLink "SeeSawHillLaw" 149 ⟨"SeeSawHillModel", "thing", "(II)I"⟩ ∈ WALL := q_of (m_t7 (List.mem_of_getElem? (i := 187) rfl)) rfl
theorem q7_188 : Cond.instanceMethod ⟨"SeeSawHillModel", "thing", "(II)I"⟩ ∈ WALL := q_of (m_t7 (List.mem_of_getElem? (i := 188) rfl)) rfl
theorem q7_189 : Cond.selects "SeeSawHillModel" ⟨"SeeSawHillModel", "thing", "(II)I"⟩ ⟨"SeeSawHillModel", "thing", "(II)I"⟩ ∈ WALL := q_of (m_t7 (List.mem_of_getElem? (i := 189) rfl)) rfl
theorem q7_19 : Cond.methodLink "SeeSawHillModel" 198 ⟨"SeeSawHillModel", "readCond", "()Z"⟩ ∈ WALL := q_of (m_t7 (List.mem_of_getElem? (i := 19) rfl)) rfl
theorem q7_190 : Cond.code ⟨"SeeSawHillModel", "thing", "(II)I"⟩ prog_14_method_76_code 3 (some .int) ∈ WALL := q_of (m_t7 (List.mem_of_getElem? (i := 190) rfl)) rfl
theorem q7_191 : Cond.methodLink "SeeSawHillModel" 330 ⟨"SeeSawHillModel", "noThing", "(I)Z"⟩ ∈ WALL := q_of (m_t7 (List.mem_of_getElem? (i := 191) rfl)) rfl
theorem q7_193 : Cond.instanceMethod ⟨"SeeSawHillModel", "noThing", "(I)Z"⟩ ∈ WALL := q_of (m_t7 (List.mem_of_getElem? (i := 193) rfl)) rfl
theorem q7_194 : Cond.code ⟨"SeeSawHillModel", "noThing", "(I)Z"⟩ prog_14_method_24_code 2 (some .boolean) ∈ WALL := q_of (m_t7 (List.mem_of_getElem? (i := 194) rfl)) rfl
theorem q7_195 : Cond.methodLink "SeeSawHillLaw" 152 ⟨"SeeSawHillModel", "carry", "(II)I"⟩ ∈ WALL := q_of (m_t7 (List.mem_of_getElem? (i := 195) rfl)) rfl
theorem q7_196 : Cond.instanceMethod ⟨"SeeSawHillModel", "carry", "(II)I"⟩ ∈ WALL := q_of (m_t7 (List.mem_of_getElem? (i := 196) rfl)) rfl
theorem q7_197 : Cond.selects "SeeSawHillModel" ⟨"SeeSawHillModel", "carry", "(II)I"⟩ ⟨"SeeSawHillModel", "carry", "(II)I"⟩ ∈ WALL := q_of (m_t7 (List.mem_of_getElem? (i := 197) rfl)) rfl
theorem q7_198 : Cond.code ⟨"SeeSawHillModel", "carry", "(II)I"⟩ prog_14_method_78_code 4 (some .int) ∈ WALL := q_of (m_t7 (List.mem_of_getElem? (i := 198) rfl)) rfl
theorem q7_199 : Cond.methodLink "SeeSawHillModel" 333 ⟨"SeeSawHillModel", "isGone", "(I)Z"⟩ ∈ WALL := q_of (m_t7 (List.mem_of_getElem? (i := 199) rfl)) rfl
theorem q7_2 : Cond.code ⟨"SeeSawHillModel", "after", "(Ljava/lang/String;II)I"⟩ prog_14_method_35_code 4 (some .int) ∈ WALL := q_of (m_t7 (List.mem_of_getElem? (i := 2) rfl)) rfl
theorem q7_201 : Cond.instanceMethod ⟨"SeeSawHillModel", "isGone", "(I)Z"⟩ ∈ WALL := q_of (m_t7 (List.mem_of_getElem? (i := 201) rfl)) rfl
theorem q7_202 : Cond.code ⟨"SeeSawHillModel", "isGone", "(I)Z"⟩ prog_14_method_21_code 2 (some .boolean) ∈ WALL := q_of (m_t7 (List.mem_of_getElem? (i := 202) rfl)) rfl
theorem q7_203 : Cond.methodLink "SeeSawHillModel" 336 ⟨"SeeSawHillModel", "remembers", "()V"⟩ ∈ WALL := q_of (m_t7 (List.mem_of_getElem? (i := 203) rfl)) rfl
theorem q7_205 : Cond.instanceMethod ⟨"SeeSawHillModel", "remembers", "()V"⟩ ∈ WALL := q_of (m_t7 (List.mem_of_getElem? (i := 205) rfl)) rfl
theorem q7_206 : Cond.code ⟨"SeeSawHillModel", "remembers", "()V"⟩ prog_14_method_8_code 2 none ∈ WALL := q_of (m_t7 (List.mem_of_getElem? (i := 206) rfl)) rfl
theorem q7_207 : Cond.methodLink "SeeSawHillModel" 339 ⟨"SeeSawHillModel", "tells", "(IIII)V"⟩ ∈ WALL := q_of (m_t7 (List.mem_of_getElem? (i := 207) rfl)) rfl
theorem q7_209 : Cond.instanceMethod ⟨"SeeSawHillModel", "tells", "(IIII)V"⟩ ∈ WALL := q_of (m_t7 (List.mem_of_getElem? (i := 209) rfl)) rfl
theorem q7_21 : Cond.instanceMethod ⟨"SeeSawHillModel", "readCond", "()Z"⟩ ∈ WALL := q_of (m_t7 (List.mem_of_getElem? (i := 21) rfl)) rfl
theorem q7_210 : Cond.code ⟨"SeeSawHillModel", "tells", "(IIII)V"⟩ prog_14_method_77_code 6 none ∈ WALL := q_of (m_t7 (List.mem_of_getElem? (i := 210) rfl)) rfl
theorem q7_211 : Cond.methodLink "SeeSawHillLaw" 155 ⟨"SeeSawHillModel", "guests", "(II)I"⟩ ∈ WALL := q_of (m_t7 (List.mem_of_getElem? (i := 211) rfl)) rfl
theorem q7_212 : Cond.instanceMethod ⟨"SeeSawHillModel", "guests", "(II)I"⟩ ∈ WALL := q_of (m_t7 (List.mem_of_getElem? (i := 212) rfl)) rfl
theorem q7_213 : Cond.selects "SeeSawHillModel" ⟨"SeeSawHillModel", "guests", "(II)I"⟩ ⟨"SeeSawHillModel", "guests", "(II)I"⟩ ∈ WALL := q_of (m_t7 (List.mem_of_getElem? (i := 213) rfl)) rfl
theorem q7_214 : Cond.code ⟨"SeeSawHillModel", "guests", "(II)I"⟩ prog_14_method_79_code 4 (some .int) ∈ WALL := q_of (m_t7 (List.mem_of_getElem? (i := 214) rfl)) rfl
theorem q7_215 : Cond.methodLink "SeeSawHillLaw" 159 ⟨"SeeSawHillModel", "prop", "(IZ)Z"⟩ ∈ WALL := q_of (m_t7 (List.mem_of_getElem? (i := 215) rfl)) rfl
theorem q7_216 : Cond.instanceMethod ⟨"SeeSawHillModel", "prop", "(IZ)Z"⟩ ∈ WALL := q_of (m_t7 (List.mem_of_getElem? (i := 216) rfl)) rfl
theorem q7_217 : Cond.selects "SeeSawHillModel" ⟨"SeeSawHillModel", "prop", "(IZ)Z"⟩ ⟨"SeeSawHillModel", "prop", "(IZ)Z"⟩ ∈ WALL := q_of (m_t7 (List.mem_of_getElem? (i := 217) rfl)) rfl
theorem q7_218 : Cond.code ⟨"SeeSawHillModel", "prop", "(IZ)Z"⟩ prog_14_method_80_code 4 (some .boolean) ∈ WALL := q_of (m_t7 (List.mem_of_getElem? (i := 218) rfl)) rfl
theorem q7_219 : Cond.methodLink "SeeSawHillLaw" 163 ⟨"SeeSawHillModel", "mend", "(I)I"⟩ ∈ WALL := q_of (m_t7 (List.mem_of_getElem? (i := 219) rfl)) rfl
theorem q7_22 : Cond.code ⟨"SeeSawHillModel", "readCond", "()Z"⟩ prog_14_method_49_code 1 (some .boolean) ∈ WALL := q_of (m_t7 (List.mem_of_getElem? (i := 22) rfl)) rfl
theorem q7_220 : Cond.instanceMethod ⟨"SeeSawHillModel", "mend", "(I)I"⟩ ∈ WALL := q_of (m_t7 (List.mem_of_getElem? (i := 220) rfl)) rfl
theorem q7_221 : Cond.selects "SeeSawHillModel" ⟨"SeeSawHillModel", "mend", "(I)I"⟩ ⟨"SeeSawHillModel", "mend", "(I)I"⟩ ∈ WALL := q_of (m_t7 (List.mem_of_getElem? (i := 221) rfl)) rfl
theorem q7_222 : Cond.code ⟨"SeeSawHillModel", "mend", "(I)I"⟩ prog_14_method_81_code 3 (some .int) ∈ WALL := q_of (m_t7 (List.mem_of_getElem? (i := 222) rfl)) rfl
theorem q7_223 : Cond.methodLink "SeeSawHillLaw" 167 ⟨"SeeSawHillModel", "give", "(III)I"⟩ ∈ WALL := q_of (m_t7 (List.mem_of_getElem? (i := 223) rfl)) rfl
theorem q7_224 : Cond.instanceMethod ⟨"SeeSawHillModel", "give", "(III)I"⟩ ∈ WALL := q_of (m_t7 (List.mem_of_getElem? (i := 224) rfl)) rfl
theorem q7_225 : Cond.selects "SeeSawHillModel" ⟨"SeeSawHillModel", "give", "(III)I"⟩ ⟨"SeeSawHillModel", "give", "(III)I"⟩ ∈ WALL := q_of (m_t7 (List.mem_of_getElem? (i := 225) rfl)) rfl
theorem q7_226 : Cond.code ⟨"SeeSawHillModel", "give", "(III)I"⟩ prog_14_method_82_code 4 (some .int) ∈ WALL := q_of (m_t7 (List.mem_of_getElem? (i := 226) rfl)) rfl
theorem q7_227 : Cond.methodLink "SeeSawHillLaw" 171 ⟨"SeeSawHillModel", "sweep", "()I"⟩ ∈ WALL := q_of (m_t7 (List.mem_of_getElem? (i := 227) rfl)) rfl
theorem q7_228 : Cond.instanceMethod ⟨"SeeSawHillModel", "sweep", "()I"⟩ ∈ WALL := q_of (m_t7 (List.mem_of_getElem? (i := 228) rfl)) rfl
theorem q7_229 : Cond.selects "SeeSawHillModel" ⟨"SeeSawHillModel", "sweep", "()I"⟩ ⟨"SeeSawHillModel", "sweep", "()I"⟩ ∈ WALL := q_of (m_t7 (List.mem_of_getElem? (i := 229) rfl)) rfl
theorem q7_23 : Cond.methodLink "SeeSawHillModel" 214 ⟨"SeeSawHillModel", "readAllOf", "()Z"⟩ ∈ WALL := q_of (m_t7 (List.mem_of_getElem? (i := 23) rfl)) rfl
theorem q7_230 : Cond.code ⟨"SeeSawHillModel", "sweep", "()I"⟩ prog_14_method_83_code 2 (some .int) ∈ WALL := q_of (m_t7 (List.mem_of_getElem? (i := 230) rfl)) rfl
theorem q7_231 : Cond.methodLink "SeeSawHillLaw" 222 ⟨"SeeSawHillModel", "thief", "()I"⟩ ∈ WALL := q_of (m_t7 (List.mem_of_getElem? (i := 231) rfl)) rfl
theorem q7_232 : Cond.instanceMethod ⟨"SeeSawHillModel", "thief", "()I"⟩ ∈ WALL := q_of (m_t7 (List.mem_of_getElem? (i := 232) rfl)) rfl
theorem q7_233 : Cond.selects "SeeSawHillModel" ⟨"SeeSawHillModel", "thief", "()I"⟩ ⟨"SeeSawHillModel", "thief", "()I"⟩ ∈ WALL := q_of (m_t7 (List.mem_of_getElem? (i := 233) rfl)) rfl
theorem q7_234 : Cond.code ⟨"SeeSawHillModel", "thief", "()I"⟩ prog_14_method_90_code 1 (some .int) ∈ WALL := q_of (m_t7 (List.mem_of_getElem? (i := 234) rfl)) rfl
theorem q7_235 : Cond.methodLink "SeeSawHillModel" 343 ⟨"SeeSawHillModel", "luredTo", "(I)I"⟩ ∈ WALL := q_of (m_t7 (List.mem_of_getElem? (i := 235) rfl)) rfl
theorem q7_237 : Cond.instanceMethod ⟨"SeeSawHillModel", "luredTo", "(I)I"⟩ ∈ WALL := q_of (m_t7 (List.mem_of_getElem? (i := 237) rfl)) rfl
theorem q7_238 : Cond.code ⟨"SeeSawHillModel", "luredTo", "(I)I"⟩ prog_14_method_84_code 6 (some .int) ∈ WALL := q_of (m_t7 (List.mem_of_getElem? (i := 238) rfl)) rfl
theorem q7_239 : Cond.methodLink "SeeSawHillLaw" 228 ⟨"SeeSawHillModel", "loot", "(I)I"⟩ ∈ WALL := q_of (m_t7 (List.mem_of_getElem? (i := 239) rfl)) rfl
theorem q7_25 : Cond.instanceMethod ⟨"SeeSawHillModel", "readAllOf", "()Z"⟩ ∈ WALL := q_of (m_t7 (List.mem_of_getElem? (i := 25) rfl)) rfl
theorem q7_26 : Cond.code ⟨"SeeSawHillModel", "readAllOf", "()Z"⟩ prog_14_method_48_code 1 (some .boolean) ∈ WALL := q_of (m_t7 (List.mem_of_getElem? (i := 26) rfl)) rfl
theorem q7_27 : Cond.methodLink "SeeSawHillModel" 203 ⟨"SeeSawHillModel", "readAtom", "()Z"⟩ ∈ WALL := q_of (m_t7 (List.mem_of_getElem? (i := 27) rfl)) rfl
theorem q7_29 : Cond.instanceMethod ⟨"SeeSawHillModel", "readAtom", "()Z"⟩ ∈ WALL := q_of (m_t7 (List.mem_of_getElem? (i := 29) rfl)) rfl
theorem q7_30 : Cond.code ⟨"SeeSawHillModel", "readAtom", "()Z"⟩ prog_14_method_47_code 2 (some .boolean) ∈ WALL := q_of (m_t7 (List.mem_of_getElem? (i := 30) rfl)) rfl
theorem q7_31 : Cond.methodLink "SeeSawHillModel" 187 ⟨"SeeSawHillModel", "sign", "(I)Z"⟩ ∈ WALL := q_of (m_t7 (List.mem_of_getElem? (i := 31) rfl)) rfl
theorem q7_33 : Cond.instanceMethod ⟨"SeeSawHillModel", "sign", "(I)Z"⟩ ∈ WALL := q_of (m_t7 (List.mem_of_getElem? (i := 33) rfl)) rfl
theorem q7_34 : Cond.code ⟨"SeeSawHillModel", "sign", "(I)Z"⟩ prog_14_method_33_code 2 (some .boolean) ∈ WALL := q_of (m_t7 (List.mem_of_getElem? (i := 34) rfl)) rfl
theorem q7_36 : Cond.methodLink "SeeSawHillModel" 170 ⟨"SeeSawHillModel", "emits", "(II)V"⟩ ∈ WALL := q_of (m_t7 (List.mem_of_getElem? (i := 36) rfl)) rfl
theorem q7_38 : Cond.instanceMethod ⟨"SeeSawHillModel", "emits", "(II)V"⟩ ∈ WALL := q_of (m_t7 (List.mem_of_getElem? (i := 38) rfl)) rfl
theorem q7_39 : Cond.code ⟨"SeeSawHillModel", "emits", "(II)V"⟩ prog_14_method_43_code 3 none ∈ WALL := q_of (m_t7 (List.mem_of_getElem? (i := 39) rfl)) rfl
theorem q7_4 : Cond.methodLink "SeeSawHillModel" 69 ⟨"SeeSawHillModel", "thingAt", "(II)I"⟩ ∈ WALL := q_of (m_t7 (List.mem_of_getElem? (i := 4) rfl)) rfl
theorem q7_40 : Cond.methodLink "SeeSawHillModel" 206 ⟨"SeeSawHillModel", "readTag", "()Z"⟩ ∈ WALL := q_of (m_t7 (List.mem_of_getElem? (i := 40) rfl)) rfl
theorem q7_42 : Cond.instanceMethod ⟨"SeeSawHillModel", "readTag", "()Z"⟩ ∈ WALL := q_of (m_t7 (List.mem_of_getElem? (i := 42) rfl)) rfl
theorem q7_43 : Cond.code ⟨"SeeSawHillModel", "readTag", "()Z"⟩ prog_14_method_46_code 2 (some .boolean) ∈ WALL := q_of (m_t7 (List.mem_of_getElem? (i := 43) rfl)) rfl
theorem q7_46 : Cond.methodLink "SeeSawHillModel" 209 ⟨"SeeSawHillModel", "readSum", "()Z"⟩ ∈ WALL := q_of (m_t7 (List.mem_of_getElem? (i := 46) rfl)) rfl
theorem q7_48 : Cond.instanceMethod ⟨"SeeSawHillModel", "readSum", "()Z"⟩ ∈ WALL := q_of (m_t7 (List.mem_of_getElem? (i := 48) rfl)) rfl
theorem q7_49 : Cond.code ⟨"SeeSawHillModel", "readSum", "()Z"⟩ prog_14_method_45_code 1 (some .boolean) ∈ WALL := q_of (m_t7 (List.mem_of_getElem? (i := 49) rfl)) rfl
theorem q7_5 : Cond.static ⟨"SeeSawHillModel", "thingAt", "(II)I"⟩ ∈ WALL := q_of (m_t7 (List.mem_of_getElem? (i := 5) rfl)) rfl
theorem q7_50 : Cond.methodLink "SeeSawHillModel" 184 ⟨"SeeSawHillModel", "readPart", "()Z"⟩ ∈ WALL := q_of (m_t7 (List.mem_of_getElem? (i := 50) rfl)) rfl
theorem q7_52 : Cond.instanceMethod ⟨"SeeSawHillModel", "readPart", "()Z"⟩ ∈ WALL := q_of (m_t7 (List.mem_of_getElem? (i := 52) rfl)) rfl
theorem q7_53 : Cond.code ⟨"SeeSawHillModel", "readPart", "()Z"⟩ prog_14_method_44_code 2 (some .boolean) ∈ WALL := q_of (m_t7 (List.mem_of_getElem? (i := 53) rfl)) rfl
theorem q7_6 : Cond.code ⟨"SeeSawHillModel", "thingAt", "(II)I"⟩ prog_14_method_19_code 2 (some .int) ∈ WALL := q_of (m_t7 (List.mem_of_getElem? (i := 6) rfl)) rfl
theorem q7_61 : Cond.methodLink "SeeSawHillModel" 242 ⟨"SeeSawHillModel", "throwsIf", "(ZI)Z"⟩ ∈ WALL := q_of (m_t7 (List.mem_of_getElem? (i := 61) rfl)) rfl
theorem q7_63 : Cond.instanceMethod ⟨"SeeSawHillModel", "throwsIf", "(ZI)Z"⟩ ∈ WALL := q_of (m_t7 (List.mem_of_getElem? (i := 63) rfl)) rfl
theorem q7_64 : Cond.code ⟨"SeeSawHillModel", "throwsIf", "(ZI)Z"⟩ prog_14_method_2_code 3 (some .boolean) ∈ WALL := q_of (m_t7 (List.mem_of_getElem? (i := 64) rfl)) rfl
theorem q7_65 : Cond.methodLink "SeeSawHillLaw" 135 ⟨"SeeSawHillModel", "law", "()I"⟩ ∈ WALL := q_of (m_t7 (List.mem_of_getElem? (i := 65) rfl)) rfl
theorem q7_66 : Cond.instanceMethod ⟨"SeeSawHillModel", "law", "()I"⟩ ∈ WALL := q_of (m_t7 (List.mem_of_getElem? (i := 66) rfl)) rfl
theorem q7_67 : Cond.selects "SeeSawHillModel" ⟨"SeeSawHillModel", "law", "()I"⟩ ⟨"SeeSawHillModel", "law", "()I"⟩ ∈ WALL := q_of (m_t7 (List.mem_of_getElem? (i := 67) rfl)) rfl
theorem q7_68 : Cond.code ⟨"SeeSawHillModel", "law", "()I"⟩ prog_14_method_54_code 3 (some .int) ∈ WALL := q_of (m_t7 (List.mem_of_getElem? (i := 68) rfl)) rfl
theorem q7_69 : Cond.methodLink "SeeSawHillLaw" 143 ⟨"SeeSawHillModel", "plank", "(II)I"⟩ ∈ WALL := q_of (m_t7 (List.mem_of_getElem? (i := 69) rfl)) rfl
theorem q7_70 : Cond.instanceMethod ⟨"SeeSawHillModel", "plank", "(II)I"⟩ ∈ WALL := q_of (m_t7 (List.mem_of_getElem? (i := 70) rfl)) rfl
theorem q7_71 : Cond.selects "SeeSawHillModel" ⟨"SeeSawHillModel", "plank", "(II)I"⟩ ⟨"SeeSawHillModel", "plank", "(II)I"⟩ ∈ WALL := q_of (m_t7 (List.mem_of_getElem? (i := 71) rfl)) rfl
theorem q7_72 : Cond.code ⟨"SeeSawHillModel", "plank", "(II)I"⟩ prog_14_method_74_code 3 (some .int) ∈ WALL := q_of (m_t7 (List.mem_of_getElem? (i := 72) rfl)) rfl
theorem q7_73 : Cond.methodLink "SeeSawHillModel" 309 ⟨"SeeSawHillModel", "noPlank", "(I)Z"⟩ ∈ WALL := q_of (m_t7 (List.mem_of_getElem? (i := 73) rfl)) rfl
theorem q7_75 : Cond.instanceMethod ⟨"SeeSawHillModel", "noPlank", "(I)Z"⟩ ∈ WALL := q_of (m_t7 (List.mem_of_getElem? (i := 75) rfl)) rfl
theorem q7_76 : Cond.code ⟨"SeeSawHillModel", "noPlank", "(I)Z"⟩ prog_14_method_22_code 2 (some .boolean) ∈ WALL := q_of (m_t7 (List.mem_of_getElem? (i := 76) rfl)) rfl
theorem q7_77 : Cond.methodLink "SeeSawHillModel" 75 ⟨"SeeSawHillModel", "in", "(III)Z"⟩ ∈ WALL := q_of (m_t7 (List.mem_of_getElem? (i := 77) rfl)) rfl
theorem q7_78 : Cond.static ⟨"SeeSawHillModel", "in", "(III)Z"⟩ ∈ WALL := q_of (m_t7 (List.mem_of_getElem? (i := 78) rfl)) rfl
theorem q7_79 : Cond.code ⟨"SeeSawHillModel", "in", "(III)Z"⟩ prog_14_method_3_code 3 (some .boolean) ∈ WALL := q_of (m_t7 (List.mem_of_getElem? (i := 79) rfl)) rfl
theorem q7_80 : Cond.methodLink "SeeSawHillModel" 281 ⟨"SeeSawHillModel", "tiltOf", "(I)I"⟩ ∈ WALL := q_of (m_t7 (List.mem_of_getElem? (i := 80) rfl)) rfl
theorem q7_82 : Cond.instanceMethod ⟨"SeeSawHillModel", "tiltOf", "(I)I"⟩ ∈ WALL := q_of (m_t7 (List.mem_of_getElem? (i := 82) rfl)) rfl
theorem q7_83 : Cond.code ⟨"SeeSawHillModel", "tiltOf", "(I)I"⟩ prog_14_method_60_code 2 (some .int) ∈ WALL := q_of (m_t7 (List.mem_of_getElem? (i := 83) rfl)) rfl
theorem q7_84 : Cond.methodLink "SeeSawHillModel" 266 ⟨"SeeSawHillModel", "isPropped", "(I)Z"⟩ ∈ WALL := q_of (m_t7 (List.mem_of_getElem? (i := 84) rfl)) rfl
theorem q7_86 : Cond.instanceMethod ⟨"SeeSawHillModel", "isPropped", "(I)Z"⟩ ∈ WALL := q_of (m_t7 (List.mem_of_getElem? (i := 86) rfl)) rfl
theorem q7_87 : Cond.code ⟨"SeeSawHillModel", "isPropped", "(I)Z"⟩ prog_14_method_16_code 2 (some .boolean) ∈ WALL := q_of (m_t7 (List.mem_of_getElem? (i := 87) rfl)) rfl
theorem q7_88 : Cond.methodLink "SeeSawHillModel" 63 ⟨"SeeSawHillModel", "ofPlank", "(II)I"⟩ ∈ WALL := q_of (m_t7 (List.mem_of_getElem? (i := 88) rfl)) rfl
theorem q7_90 : Cond.instanceMethod ⟨"SeeSawHillModel", "ofPlank", "(II)I"⟩ ∈ WALL := q_of (m_t7 (List.mem_of_getElem? (i := 90) rfl)) rfl
theorem q7_91 : Cond.code ⟨"SeeSawHillModel", "ofPlank", "(II)I"⟩ prog_14_method_14_code 3 (some .int) ∈ WALL := q_of (m_t7 (List.mem_of_getElem? (i := 91) rfl)) rfl
theorem q7_92 : Cond.methodLink "SeeSawHillModel" 269 ⟨"SeeSawHillModel", "loadOf", "(I)I"⟩ ∈ WALL := q_of (m_t7 (List.mem_of_getElem? (i := 92) rfl)) rfl
theorem q7_94 : Cond.instanceMethod ⟨"SeeSawHillModel", "loadOf", "(I)I"⟩ ∈ WALL := q_of (m_t7 (List.mem_of_getElem? (i := 94) rfl)) rfl
theorem q7_95 : Cond.code ⟨"SeeSawHillModel", "loadOf", "(I)I"⟩ prog_14_method_58_code 2 (some .int) ∈ WALL := q_of (m_t7 (List.mem_of_getElem? (i := 95) rfl)) rfl
theorem q7_96 : Cond.methodLink "SeeSawHillModel" 248 ⟨"SeeSawHillModel", "thingsIn", "(I)I"⟩ ∈ WALL := q_of (m_t7 (List.mem_of_getElem? (i := 96) rfl)) rfl
theorem q7_98 : Cond.instanceMethod ⟨"SeeSawHillModel", "thingsIn", "(I)I"⟩ ∈ WALL := q_of (m_t7 (List.mem_of_getElem? (i := 98) rfl)) rfl
theorem q7_99 : Cond.code ⟨"SeeSawHillModel", "thingsIn", "(I)I"⟩ prog_14_method_55_code 4 (some .int) ∈ WALL := q_of (m_t7 (List.mem_of_getElem? (i := 99) rfl)) rfl
theorem q8_0 : Cond.instanceMethod ⟨"SeeSawHillModel", "loot", "(I)I"⟩ ∈ WALL := q_of (m_t8 (List.mem_of_getElem? (i := 0) rfl)) rfl
theorem q8_1 : Cond.selects "SeeSawHillModel" ⟨"SeeSawHillModel", "loot", "(I)I"⟩ ⟨"SeeSawHillModel", "loot", "(I)I"⟩ ∈ WALL := q_of (m_t8 (List.mem_of_getElem? (i := 1) rfl)) rfl
theorem q8_10 : Cond.code ⟨"SeeSawHillModel", "steals", "(I)I"⟩ prog_14_method_86_code 4 (some .int) ∈ WALL := q_of (m_t8 (List.mem_of_getElem? (i := 10) rfl)) rfl
theorem q8_100 : Cond.code ⟨"SeeSawHillModel", "twins", "()I"⟩ prog_14_method_110_code 4 (some .int) ∈ WALL := q_of (m_t8 (List.mem_of_getElem? (i := 100) rfl)) rfl
theorem q8_101 : Cond.methodLink "SeeSawHillLaw" 189 ⟨"SeeSawHillModel", "best", "(I)I"⟩ ∈ WALL := q_of (m_t8 (List.mem_of_getElem? (i := 101) rfl)) rfl
theorem q8_102 : Cond.instanceMethod ⟨"SeeSawHillModel", "best", "(I)I"⟩ ∈ WALL := q_of (m_t8 (List.mem_of_getElem? (i := 102) rfl)) rfl
theorem q8_103 : Cond.selects "SeeSawHillModel" ⟨"SeeSawHillModel", "best", "(I)I"⟩ ⟨"SeeSawHillModel", "best", "(I)I"⟩ ∈ WALL := q_of (m_t8 (List.mem_of_getElem? (i := 103) rfl)) rfl
theorem q8_104 : Cond.code ⟨"SeeSawHillModel", "best", "(I)I"⟩ prog_14_method_113_code 6 (some .int) ∈ WALL := q_of (m_t8 (List.mem_of_getElem? (i := 104) rfl)) rfl
theorem q8_105 : Cond.methodLink "SeeSawHillModel" 392 ⟨"SeeSawHillModel", "moreBehind", "(II)I"⟩ ∈ WALL := q_of (m_t8 (List.mem_of_getElem? (i := 105) rfl)) rfl
theorem q8_107 : Cond.instanceMethod ⟨"SeeSawHillModel", "moreBehind", "(II)I"⟩ ∈ WALL := q_of (m_t8 (List.mem_of_getElem? (i := 107) rfl)) rfl
theorem q8_108 : Cond.code ⟨"SeeSawHillModel", "moreBehind", "(II)I"⟩ prog_14_method_111_code 3 (some .int) ∈ WALL := q_of (m_t8 (List.mem_of_getElem? (i := 108) rfl)) rfl
theorem q8_109 : Cond.methodLink "SeeSawHillModel" 395 ⟨"java/lang/Math", "abs", "(I)I"⟩ ∈ WALL := q_of (m_t8 (List.mem_of_getElem? (i := 109) rfl)) rfl
theorem q8_11 : Cond.methodLink "SeeSawHillModel" 346 ⟨"SeeSawHillModel", "dearestIn", "(I)I"⟩ ∈ WALL := q_of (m_t8 (List.mem_of_getElem? (i := 11) rfl)) rfl
theorem q8_110 : Cond.methodLink "SeeSawHillModel" 398 ⟨"SeeSawHillModel", "thingsOf", "(I)I"⟩ ∈ WALL := q_of (m_t8 (List.mem_of_getElem? (i := 110) rfl)) rfl
theorem q8_112 : Cond.instanceMethod ⟨"SeeSawHillModel", "thingsOf", "(I)I"⟩ ∈ WALL := q_of (m_t8 (List.mem_of_getElem? (i := 112) rfl)) rfl
theorem q8_113 : Cond.code ⟨"SeeSawHillModel", "thingsOf", "(I)I"⟩ prog_14_method_112_code 2 (some .int) ∈ WALL := q_of (m_t8 (List.mem_of_getElem? (i := 113) rfl)) rfl
theorem q8_114 : Cond.methodLink "SeeSawHillLaw" 192 ⟨"SeeSawHillModel", "stand", "(II)I"⟩ ∈ WALL := q_of (m_t8 (List.mem_of_getElem? (i := 114) rfl)) rfl
theorem q8_115 : Cond.instanceMethod ⟨"SeeSawHillModel", "stand", "(II)I"⟩ ∈ WALL := q_of (m_t8 (List.mem_of_getElem? (i := 115) rfl)) rfl
theorem q8_116 : Cond.selects "SeeSawHillModel" ⟨"SeeSawHillModel", "stand", "(II)I"⟩ ⟨"SeeSawHillModel", "stand", "(II)I"⟩ ∈ WALL := q_of (m_t8 (List.mem_of_getElem? (i := 116) rfl)) rfl
theorem q8_117 : Cond.code ⟨"SeeSawHillModel", "stand", "(II)I"⟩ prog_14_method_116_code 3 (some .int) ∈ WALL := q_of (m_t8 (List.mem_of_getElem? (i := 117) rfl)) rfl
theorem q8_118 : Cond.methodLink "SeeSawHillModel" 402 ⟨"SeeSawHillModel", "noTilt", "(I)Z"⟩ ∈ WALL := q_of (m_t8 (List.mem_of_getElem? (i := 118) rfl)) rfl
theorem q8_119 : Cond.static ⟨"SeeSawHillModel", "noTilt", "(I)Z"⟩ ∈ WALL := q_of (m_t8 (List.mem_of_getElem? (i := 119) rfl)) rfl
theorem q8_120 : Cond.code ⟨"SeeSawHillModel", "noTilt", "(I)Z"⟩ prog_14_method_115_code 1 (some .boolean) ∈ WALL := q_of (m_t8 (List.mem_of_getElem? (i := 120) rfl)) rfl
theorem q8_121 : Cond.methodLink "SeeSawHillModel" 405 ⟨"SeeSawHillModel", "carriedTo", "(IIZ)I"⟩ ∈ WALL := q_of (m_t8 (List.mem_of_getElem? (i := 121) rfl)) rfl
theorem q8_123 : Cond.instanceMethod ⟨"SeeSawHillModel", "carriedTo", "(IIZ)I"⟩ ∈ WALL := q_of (m_t8 (List.mem_of_getElem? (i := 123) rfl)) rfl
theorem q8_124 : Cond.code ⟨"SeeSawHillModel", "carriedTo", "(IIZ)I"⟩ prog_14_method_114_code 9 (some .int) ∈ WALL := q_of (m_t8 (List.mem_of_getElem? (i := 124) rfl)) rfl
theorem q8_125 : Cond.constant "SeeSawHillModel" 401 (1000000) ∈ WALL := q_of (m_t8 (List.mem_of_getElem? (i := 125) rfl)) rfl
theorem q8_126 : Cond.methodLink "SeeSawHillLaw" 196 ⟨"SeeSawHillModel", "heave", "(IIZ)I"⟩ ∈ WALL := q_of (m_t8 (List.mem_of_getElem? (i := 126) rfl)) rfl
theorem q8_127 : Cond.instanceMethod ⟨"SeeSawHillModel", "heave", "(IIZ)I"⟩ ∈ WALL := q_of (m_t8 (List.mem_of_getElem? (i := 127) rfl)) rfl
theorem q8_128 : Cond.selects "SeeSawHillModel" ⟨"SeeSawHillModel", "heave", "(IIZ)I"⟩ ⟨"SeeSawHillModel", "heave", "(IIZ)I"⟩ ∈ WALL := q_of (m_t8 (List.mem_of_getElem? (i := 128) rfl)) rfl
theorem q8_129 : Cond.code ⟨"SeeSawHillModel", "heave", "(IIZ)I"⟩ prog_14_method_117_code 5 (some .int) ∈ WALL := q_of (m_t8 (List.mem_of_getElem? (i := 129) rfl)) rfl
theorem q8_13 : Cond.instanceMethod ⟨"SeeSawHillModel", "dearestIn", "(I)I"⟩ ∈ WALL := q_of (m_t8 (List.mem_of_getElem? (i := 13) rfl)) rfl
theorem q8_130 : Cond.methodLink "SeeSawHillLaw" 209 ⟨"SeeSawHillModel", "match", "(II)I"⟩ ∈ WALL := q_of (m_t8 (List.mem_of_getElem? (i := 130) rfl)) rfl
theorem q8_131 : Cond.instanceMethod ⟨"SeeSawHillModel", "match", "(II)I"⟩ ∈ WALL := q_of (m_t8 (List.mem_of_getElem? (i := 131) rfl)) rfl
theorem q8_132 : Cond.selects "SeeSawHillModel" ⟨"SeeSawHillModel", "match", "(II)I"⟩ ⟨"SeeSawHillModel", "match", "(II)I"⟩ ∈ WALL := q_of (m_t8 (List.mem_of_getElem? (i := 132) rfl)) rfl
theorem q8_133 : Cond.code ⟨"SeeSawHillModel", "match", "(II)I"⟩ prog_14_method_122_code 6 (some .int) ∈ WALL := q_of (m_t8 (List.mem_of_getElem? (i := 133) rfl)) rfl
theorem q8_134 : Cond.methodLink "SeeSawHillModel" 418 ⟨"SeeSawHillModel", "laysDiffer", "(I)V"⟩ ∈ WALL := q_of (m_t8 (List.mem_of_getElem? (i := 134) rfl)) rfl
theorem q8_136 : Cond.instanceMethod ⟨"SeeSawHillModel", "laysDiffer", "(I)V"⟩ ∈ WALL := q_of (m_t8 (List.mem_of_getElem? (i := 136) rfl)) rfl
theorem q8_137 : Cond.code ⟨"SeeSawHillModel", "laysDiffer", "(I)V"⟩ prog_14_method_120_code 6 none ∈ WALL := q_of (m_t8 (List.mem_of_getElem? (i := 137) rfl)) rfl
theorem q8_138 : Cond.methodLink "SeeSawHillModel" 412 ⟨"SeeSawHillModel", "leastOf", "(I)I"⟩ ∈ WALL := q_of (m_t8 (List.mem_of_getElem? (i := 138) rfl)) rfl
theorem q8_139 : Cond.static ⟨"SeeSawHillModel", "leastOf", "(I)I"⟩ ∈ WALL := q_of (m_t8 (List.mem_of_getElem? (i := 139) rfl)) rfl
theorem q8_14 : Cond.code ⟨"SeeSawHillModel", "dearestIn", "(I)I"⟩ prog_14_method_85_code 4 (some .int) ∈ WALL := q_of (m_t8 (List.mem_of_getElem? (i := 14) rfl)) rfl
theorem q8_140 : Cond.code ⟨"SeeSawHillModel", "leastOf", "(I)I"⟩ prog_14_method_119_code 1 (some .int) ∈ WALL := q_of (m_t8 (List.mem_of_getElem? (i := 140) rfl)) rfl
theorem q8_141 : Cond.methodLink "SeeSawHillModel" 409 ⟨"java/lang/Integer", "numberOfTrailingZeros", "(I)I"⟩ ∈ WALL := q_of (m_t8 (List.mem_of_getElem? (i := 141) rfl)) rfl
theorem q8_142 : Cond.static ⟨"java/lang/Integer", "numberOfTrailingZeros", "(I)I"⟩ ∈ WALL := q_of (m_t8 (List.mem_of_getElem? (i := 142) rfl)) rfl
theorem q8_143 : Cond.code ⟨"java/lang/Integer", "numberOfTrailingZeros", "(I)I"⟩ prog_22_method_48_code 2 (some .int) ∈ WALL := q_of (m_t8 (List.mem_of_getElem? (i := 143) rfl)) rfl
theorem q8_144 : Cond.constant "java/lang/Integer" 264 (65536) ∈ WALL := q_of (m_t8 (List.mem_of_getElem? (i := 144) rfl)) rfl
theorem q8_145 : Cond.methodLink "SeeSawHillModel" 415 ⟨"SeeSawHillModel", "differBy", "(III)I"⟩ ∈ WALL := q_of (m_t8 (List.mem_of_getElem? (i := 145) rfl)) rfl
theorem q8_147 : Cond.instanceMethod ⟨"SeeSawHillModel", "differBy", "(III)I"⟩ ∈ WALL := q_of (m_t8 (List.mem_of_getElem? (i := 147) rfl)) rfl
theorem q8_148 : Cond.code ⟨"SeeSawHillModel", "differBy", "(III)I"⟩ prog_14_method_118_code 4 (some .int) ∈ WALL := q_of (m_t8 (List.mem_of_getElem? (i := 148) rfl)) rfl
theorem q8_149 : Cond.methodLink "SeeSawHillModel" 421 ⟨"SeeSawHillModel", "partnerIn", "(I)I"⟩ ∈ WALL := q_of (m_t8 (List.mem_of_getElem? (i := 149) rfl)) rfl
theorem q8_15 : Cond.methodLink "SeeSawHillModel" 355 ⟨"SeeSawHillModel", "bringsBack", "()V"⟩ ∈ WALL := q_of (m_t8 (List.mem_of_getElem? (i := 15) rfl)) rfl
theorem q8_151 : Cond.instanceMethod ⟨"SeeSawHillModel", "partnerIn", "(I)I"⟩ ∈ WALL := q_of (m_t8 (List.mem_of_getElem? (i := 151) rfl)) rfl
theorem q8_152 : Cond.code ⟨"SeeSawHillModel", "partnerIn", "(I)I"⟩ prog_14_method_121_code 4 (some .int) ∈ WALL := q_of (m_t8 (List.mem_of_getElem? (i := 152) rfl)) rfl
theorem q8_153 : Cond.methodLink "SeeSawHillLaw" 212 ⟨"SeeSawHillModel", "has", "(IZ)I"⟩ ∈ WALL := q_of (m_t8 (List.mem_of_getElem? (i := 153) rfl)) rfl
theorem q8_154 : Cond.instanceMethod ⟨"SeeSawHillModel", "has", "(IZ)I"⟩ ∈ WALL := q_of (m_t8 (List.mem_of_getElem? (i := 154) rfl)) rfl
theorem q8_155 : Cond.selects "SeeSawHillModel" ⟨"SeeSawHillModel", "has", "(IZ)I"⟩ ⟨"SeeSawHillModel", "has", "(IZ)I"⟩ ∈ WALL := q_of (m_t8 (List.mem_of_getElem? (i := 155) rfl)) rfl
theorem q8_156 : Cond.code ⟨"SeeSawHillModel", "has", "(IZ)I"⟩ prog_14_method_126_code 6 (some .int) ∈ WALL := q_of (m_t8 (List.mem_of_getElem? (i := 156) rfl)) rfl
theorem q8_157 : Cond.methodLink "SeeSawHillModel" 427 ⟨"SeeSawHillModel", "isTold", "()Z"⟩ ∈ WALL := q_of (m_t8 (List.mem_of_getElem? (i := 157) rfl)) rfl
theorem q8_159 : Cond.instanceMethod ⟨"SeeSawHillModel", "isTold", "()Z"⟩ ∈ WALL := q_of (m_t8 (List.mem_of_getElem? (i := 159) rfl)) rfl
theorem q8_160 : Cond.code ⟨"SeeSawHillModel", "isTold", "()Z"⟩ prog_14_method_123_code 3 (some .boolean) ∈ WALL := q_of (m_t8 (List.mem_of_getElem? (i := 160) rfl)) rfl
theorem q8_161 : Cond.methodLink "SeeSawHillModel" 430 ⟨"SeeSawHillModel", "fits", "(II)Z"⟩ ∈ WALL := q_of (m_t8 (List.mem_of_getElem? (i := 161) rfl)) rfl
theorem q8_163 : Cond.instanceMethod ⟨"SeeSawHillModel", "fits", "(II)Z"⟩ ∈ WALL := q_of (m_t8 (List.mem_of_getElem? (i := 163) rfl)) rfl
theorem q8_164 : Cond.code ⟨"SeeSawHillModel", "fits", "(II)Z"⟩ prog_14_method_125_code 5 (some .boolean) ∈ WALL := q_of (m_t8 (List.mem_of_getElem? (i := 164) rfl)) rfl
theorem q8_165 : Cond.methodLink "SeeSawHillModel" 424 ⟨"SeeSawHillModel", "heightWith", "(III)I"⟩ ∈ WALL := q_of (m_t8 (List.mem_of_getElem? (i := 165) rfl)) rfl
theorem q8_167 : Cond.instanceMethod ⟨"SeeSawHillModel", "heightWith", "(III)I"⟩ ∈ WALL := q_of (m_t8 (List.mem_of_getElem? (i := 167) rfl)) rfl
theorem q8_168 : Cond.code ⟨"SeeSawHillModel", "heightWith", "(III)I"⟩ prog_14_method_124_code 4 (some .int) ∈ WALL := q_of (m_t8 (List.mem_of_getElem? (i := 168) rfl)) rfl
theorem q8_169 : Cond.methodLink "SeeSawHillLaw" 215 ⟨"SeeSawHillModel", "ask", "(I)I"⟩ ∈ WALL := q_of (m_t8 (List.mem_of_getElem? (i := 169) rfl)) rfl
theorem q8_17 : Cond.instanceMethod ⟨"SeeSawHillModel", "bringsBack", "()V"⟩ ∈ WALL := q_of (m_t8 (List.mem_of_getElem? (i := 17) rfl)) rfl
theorem q8_170 : Cond.instanceMethod ⟨"SeeSawHillModel", "ask", "(I)I"⟩ ∈ WALL := q_of (m_t8 (List.mem_of_getElem? (i := 170) rfl)) rfl
theorem q8_171 : Cond.selects "SeeSawHillModel" ⟨"SeeSawHillModel", "ask", "(I)I"⟩ ⟨"SeeSawHillModel", "ask", "(I)I"⟩ ∈ WALL := q_of (m_t8 (List.mem_of_getElem? (i := 171) rfl)) rfl
theorem q8_172 : Cond.code ⟨"SeeSawHillModel", "ask", "(I)I"⟩ prog_14_method_128_code 7 (some .int) ∈ WALL := q_of (m_t8 (List.mem_of_getElem? (i := 172) rfl)) rfl
theorem q8_173 : Cond.methodLink "SeeSawHillModel" 433 ⟨"SeeSawHillModel", "greatestPart", "(II)I"⟩ ∈ WALL := q_of (m_t8 (List.mem_of_getElem? (i := 173) rfl)) rfl
theorem q8_175 : Cond.instanceMethod ⟨"SeeSawHillModel", "greatestPart", "(II)I"⟩ ∈ WALL := q_of (m_t8 (List.mem_of_getElem? (i := 175) rfl)) rfl
theorem q8_176 : Cond.code ⟨"SeeSawHillModel", "greatestPart", "(II)I"⟩ prog_14_method_127_code 5 (some .int) ∈ WALL := q_of (m_t8 (List.mem_of_getElem? (i := 176) rfl)) rfl
theorem q8_177 : Cond.methodLink "SeeSawHillLaw" 218 ⟨"SeeSawHillModel", "ballast", "(I)I"⟩ ∈ WALL := q_of (m_t8 (List.mem_of_getElem? (i := 177) rfl)) rfl
theorem q8_178 : Cond.instanceMethod ⟨"SeeSawHillModel", "ballast", "(I)I"⟩ ∈ WALL := q_of (m_t8 (List.mem_of_getElem? (i := 178) rfl)) rfl
theorem q8_179 : Cond.selects "SeeSawHillModel" ⟨"SeeSawHillModel", "ballast", "(I)I"⟩ ⟨"SeeSawHillModel", "ballast", "(I)I"⟩ ∈ WALL := q_of (m_t8 (List.mem_of_getElem? (i := 179) rfl)) rfl
theorem q8_18 : Cond.code ⟨"SeeSawHillModel", "bringsBack", "()V"⟩ prog_14_method_88_code 2 none ∈ WALL := q_of (m_t8 (List.mem_of_getElem? (i := 18) rfl)) rfl
theorem q8_180 : Cond.code ⟨"SeeSawHillModel", "ballast", "(I)I"⟩ prog_14_method_131_code 5 (some .int) ∈ WALL := q_of (m_t8 (List.mem_of_getElem? (i := 180) rfl)) rfl
theorem q8_181 : Cond.methodLink "SeeSawHillModel" 440 ⟨"SeeSawHillModel", "rests", "(III)Z"⟩ ∈ WALL := q_of (m_t8 (List.mem_of_getElem? (i := 181) rfl)) rfl
theorem q8_183 : Cond.instanceMethod ⟨"SeeSawHillModel", "rests", "(III)Z"⟩ ∈ WALL := q_of (m_t8 (List.mem_of_getElem? (i := 183) rfl)) rfl
theorem q8_184 : Cond.code ⟨"SeeSawHillModel", "rests", "(III)Z"⟩ prog_14_method_130_code 6 (some .boolean) ∈ WALL := q_of (m_t8 (List.mem_of_getElem? (i := 184) rfl)) rfl
theorem q8_185 : Cond.methodLink "SeeSawHillModel" 436 ⟨"SeeSawHillModel", "hasBy", "(IIIZ)I"⟩ ∈ WALL := q_of (m_t8 (List.mem_of_getElem? (i := 185) rfl)) rfl
theorem q8_187 : Cond.instanceMethod ⟨"SeeSawHillModel", "hasBy", "(IIIZ)I"⟩ ∈ WALL := q_of (m_t8 (List.mem_of_getElem? (i := 187) rfl)) rfl
theorem q8_188 : Cond.code ⟨"SeeSawHillModel", "hasBy", "(IIIZ)I"⟩ prog_14_method_129_code 6 (some .int) ∈ WALL := q_of (m_t8 (List.mem_of_getElem? (i := 188) rfl)) rfl
theorem q8_189 : Cond.methodLink "SeeSawHillLaw" 239 ⟨"SeeSawHillModel", "rich", "()I"⟩ ∈ WALL := q_of (m_t8 (List.mem_of_getElem? (i := 189) rfl)) rfl
theorem q8_19 : Cond.methodLink "SeeSawHillLaw" 225 ⟨"SeeSawHillModel", "guards", "(II)I"⟩ ∈ WALL := q_of (m_t8 (List.mem_of_getElem? (i := 19) rfl)) rfl
theorem q8_190 : Cond.instanceMethod ⟨"SeeSawHillModel", "rich", "()I"⟩ ∈ WALL := q_of (m_t8 (List.mem_of_getElem? (i := 190) rfl)) rfl
theorem q8_191 : Cond.selects "SeeSawHillModel" ⟨"SeeSawHillModel", "rich", "()I"⟩ ⟨"SeeSawHillModel", "rich", "()I"⟩ ∈ WALL := q_of (m_t8 (List.mem_of_getElem? (i := 191) rfl)) rfl
theorem q8_192 : Cond.code ⟨"SeeSawHillModel", "rich", "()I"⟩ prog_14_method_132_code 5 (some .int) ∈ WALL := q_of (m_t8 (List.mem_of_getElem? (i := 192) rfl)) rfl
theorem q8_193 : Cond.methodLink "SeeSawHillLaw" 243 ⟨"SeeSawHillModel", "heaviest", "()I"⟩ ∈ WALL := q_of (m_t8 (List.mem_of_getElem? (i := 193) rfl)) rfl
theorem q8_194 : Cond.instanceMethod ⟨"SeeSawHillModel", "heaviest", "()I"⟩ ∈ WALL := q_of (m_t8 (List.mem_of_getElem? (i := 194) rfl)) rfl
theorem q8_195 : Cond.selects "SeeSawHillModel" ⟨"SeeSawHillModel", "heaviest", "()I"⟩ ⟨"SeeSawHillModel", "heaviest", "()I"⟩ ∈ WALL := q_of (m_t8 (List.mem_of_getElem? (i := 195) rfl)) rfl
theorem q8_196 : Cond.code ⟨"SeeSawHillModel", "heaviest", "()I"⟩ prog_14_method_133_code 3 (some .int) ∈ WALL := q_of (m_t8 (List.mem_of_getElem? (i := 196) rfl)) rfl
theorem q8_197 : Cond.methodLink "SeeSawHillLaw" 247 ⟨"SeeSawHillModel", "alike", "()I"⟩ ∈ WALL := q_of (m_t8 (List.mem_of_getElem? (i := 197) rfl)) rfl
theorem q8_198 : Cond.instanceMethod ⟨"SeeSawHillModel", "alike", "()I"⟩ ∈ WALL := q_of (m_t8 (List.mem_of_getElem? (i := 198) rfl)) rfl
theorem q8_199 : Cond.selects "SeeSawHillModel" ⟨"SeeSawHillModel", "alike", "()I"⟩ ⟨"SeeSawHillModel", "alike", "()I"⟩ ∈ WALL := q_of (m_t8 (List.mem_of_getElem? (i := 199) rfl)) rfl
theorem q8_2 : Cond.code ⟨"SeeSawHillModel", "loot", "(I)I"⟩ prog_14_method_91_code 5 (some .int) ∈ WALL := q_of (m_t8 (List.mem_of_getElem? (i := 2) rfl)) rfl
theorem q8_20 : Cond.instanceMethod ⟨"SeeSawHillModel", "guards", "(II)I"⟩ ∈ WALL := q_of (m_t8 (List.mem_of_getElem? (i := 20) rfl)) rfl
theorem q8_200 : Cond.code ⟨"SeeSawHillModel", "alike", "()I"⟩ prog_14_method_134_code 4 (some .int) ∈ WALL := q_of (m_t8 (List.mem_of_getElem? (i := 200) rfl)) rfl
theorem q8_201 : Cond.methodLink "SeeSawHillLaw" 253 ⟨"SeeSawHillModel", "trial", "(IZ)I"⟩ ∈ WALL := q_of (m_t8 (List.mem_of_getElem? (i := 201) rfl)) rfl
theorem q8_202 : Cond.instanceMethod ⟨"SeeSawHillModel", "trial", "(IZ)I"⟩ ∈ WALL := q_of (m_t8 (List.mem_of_getElem? (i := 202) rfl)) rfl
theorem q8_203 : Cond.selects "SeeSawHillModel" ⟨"SeeSawHillModel", "trial", "(IZ)I"⟩ ⟨"SeeSawHillModel", "trial", "(IZ)I"⟩ ∈ WALL := q_of (m_t8 (List.mem_of_getElem? (i := 203) rfl)) rfl
theorem q8_204 : Cond.code ⟨"SeeSawHillModel", "trial", "(IZ)I"⟩ prog_14_method_135_code 4 (some .int) ∈ WALL := q_of (m_t8 (List.mem_of_getElem? (i := 204) rfl)) rfl
theorem q8_205 : Cond.methodLink "SeeSawHillModel" 443 ⟨"SeeSawHillModel", "brokenOnes", "()I"⟩ ∈ WALL := q_of (m_t8 (List.mem_of_getElem? (i := 205) rfl)) rfl
theorem q8_207 : Cond.instanceMethod ⟨"SeeSawHillModel", "brokenOnes", "()I"⟩ ∈ WALL := q_of (m_t8 (List.mem_of_getElem? (i := 207) rfl)) rfl
theorem q8_208 : Cond.code ⟨"SeeSawHillModel", "brokenOnes", "()I"⟩ prog_14_method_97_code 3 (some .int) ∈ WALL := q_of (m_t8 (List.mem_of_getElem? (i := 208) rfl)) rfl
theorem q8_209 : Cond.methodLink "SeeSawHillLaw" 256 ⟨"SeeSawHillModel", "span", "(IZ)I"⟩ ∈ WALL := q_of (m_t8 (List.mem_of_getElem? (i := 209) rfl)) rfl
theorem q8_21 : Cond.selects "SeeSawHillModel" ⟨"SeeSawHillModel", "guards", "(II)I"⟩ ⟨"SeeSawHillModel", "guards", "(II)I"⟩ ∈ WALL := q_of (m_t8 (List.mem_of_getElem? (i := 21) rfl)) rfl
theorem q8_210 : Cond.instanceMethod ⟨"SeeSawHillModel", "span", "(IZ)I"⟩ ∈ WALL := q_of (m_t8 (List.mem_of_getElem? (i := 210) rfl)) rfl
theorem q8_211 : Cond.selects "SeeSawHillModel" ⟨"SeeSawHillModel", "span", "(IZ)I"⟩ ⟨"SeeSawHillModel", "span", "(IZ)I"⟩ ∈ WALL := q_of (m_t8 (List.mem_of_getElem? (i := 211) rfl)) rfl
theorem q8_212 : Cond.code ⟨"SeeSawHillModel", "span", "(IZ)I"⟩ prog_14_method_136_code 6 (some .int) ∈ WALL := q_of (m_t8 (List.mem_of_getElem? (i := 212) rfl)) rfl
theorem q8_213 : Cond.methodLink "SeeSawHillLaw" 259 ⟨"SeeSawHillModel", "led", "(IZ)I"⟩ ∈ WALL := q_of (m_t8 (List.mem_of_getElem? (i := 213) rfl)) rfl
theorem q8_214 : Cond.instanceMethod ⟨"SeeSawHillModel", "led", "(IZ)I"⟩ ∈ WALL := q_of (m_t8 (List.mem_of_getElem? (i := 214) rfl)) rfl
theorem q8_215 : Cond.selects "SeeSawHillModel" ⟨"SeeSawHillModel", "led", "(IZ)I"⟩ ⟨"SeeSawHillModel", "led", "(IZ)I"⟩ ∈ WALL := q_of (m_t8 (List.mem_of_getElem? (i := 215) rfl)) rfl
theorem q8_216 : Cond.code ⟨"SeeSawHillModel", "led", "(IZ)I"⟩ prog_14_method_138_code 6 (some .int) ∈ WALL := q_of (m_t8 (List.mem_of_getElem? (i := 216) rfl)) rfl
theorem q8_217 : Cond.methodLink "SeeSawHillModel" 446 ⟨"SeeSawHillModel", "ofLog", "(II)I"⟩ ∈ WALL := q_of (m_t8 (List.mem_of_getElem? (i := 217) rfl)) rfl
theorem q8_219 : Cond.instanceMethod ⟨"SeeSawHillModel", "ofLog", "(II)I"⟩ ∈ WALL := q_of (m_t8 (List.mem_of_getElem? (i := 219) rfl)) rfl
theorem q8_22 : Cond.code ⟨"SeeSawHillModel", "guards", "(II)I"⟩ prog_14_method_92_code 6 (some .int) ∈ WALL := q_of (m_t8 (List.mem_of_getElem? (i := 22) rfl)) rfl
theorem q8_220 : Cond.code ⟨"SeeSawHillModel", "ofLog", "(II)I"⟩ prog_14_method_137_code 3 (some .int) ∈ WALL := q_of (m_t8 (List.mem_of_getElem? (i := 220) rfl)) rfl
theorem q8_221 : Cond.methodLink "SeeSawHillLaw" 262 ⟨"SeeSawHillModel", "log", "(II)I"⟩ ∈ WALL := q_of (m_t8 (List.mem_of_getElem? (i := 221) rfl)) rfl
theorem q8_222 : Cond.instanceMethod ⟨"SeeSawHillModel", "log", "(II)I"⟩ ∈ WALL := q_of (m_t8 (List.mem_of_getElem? (i := 222) rfl)) rfl
theorem q8_223 : Cond.selects "SeeSawHillModel" ⟨"SeeSawHillModel", "log", "(II)I"⟩ ⟨"SeeSawHillModel", "log", "(II)I"⟩ ∈ WALL := q_of (m_t8 (List.mem_of_getElem? (i := 223) rfl)) rfl
theorem q8_224 : Cond.code ⟨"SeeSawHillModel", "log", "(II)I"⟩ prog_14_method_139_code 3 (some .int) ∈ WALL := q_of (m_t8 (List.mem_of_getElem? (i := 224) rfl)) rfl
theorem q8_225 : Cond.methodLink "SeeSawHillLaw" 266 ⟨"SeeSawHillModel", "seed", "(I)I"⟩ ∈ WALL := q_of (m_t8 (List.mem_of_getElem? (i := 225) rfl)) rfl
theorem q8_226 : Cond.instanceMethod ⟨"SeeSawHillModel", "seed", "(I)I"⟩ ∈ WALL := q_of (m_t8 (List.mem_of_getElem? (i := 226) rfl)) rfl
theorem q8_227 : Cond.selects "SeeSawHillModel" ⟨"SeeSawHillModel", "seed", "(I)I"⟩ ⟨"SeeSawHillModel", "seed", "(I)I"⟩ ∈ WALL := q_of (m_t8 (List.mem_of_getElem? (i := 227) rfl)) rfl
theorem q8_228 : Cond.code ⟨"SeeSawHillModel", "seed", "(I)I"⟩ prog_14_method_140_code 3 (some .int) ∈ WALL := q_of (m_t8 (List.mem_of_getElem? (i := 228) rfl)) rfl
theorem q8_229 : Cond.methodLink "SeeSawHillLaw" 283 ⟨"SeeSawHillModel", "count", "(I)I"⟩ ∈ WALL := q_of (m_t8 (List.mem_of_getElem? (i := 229) rfl)) rfl
theorem q8_23 : Cond.methodLink "SeeSawHillModel" 358 ⟨"java/lang/Integer", "bitCount", "(I)I"⟩ ∈ WALL := q_of (m_t8 (List.mem_of_getElem? (i := 23) rfl)) rfl
theorem q8_230 : Cond.instanceMethod ⟨"SeeSawHillModel", "count", "(I)I"⟩ ∈ WALL := q_of (m_t8 (List.mem_of_getElem? (i := 230) rfl)) rfl
theorem q8_231 : Cond.selects "SeeSawHillModel" ⟨"SeeSawHillModel", "count", "(I)I"⟩ ⟨"SeeSawHillModel", "count", "(I)I"⟩ ∈ WALL := q_of (m_t8 (List.mem_of_getElem? (i := 231) rfl)) rfl
theorem q8_232 : Cond.code ⟨"SeeSawHillModel", "count", "(I)I"⟩ prog_14_method_142_code 2 (some .int) ∈ WALL := q_of (m_t8 (List.mem_of_getElem? (i := 232) rfl)) rfl
theorem q8_233 : Cond.methodLink "SeeSawHillModel" 449 ⟨"SeeSawHillModel", "pursesOfAll", "()I"⟩ ∈ WALL := q_of (m_t8 (List.mem_of_getElem? (i := 233) rfl)) rfl
theorem q8_235 : Cond.instanceMethod ⟨"SeeSawHillModel", "pursesOfAll", "()I"⟩ ∈ WALL := q_of (m_t8 (List.mem_of_getElem? (i := 235) rfl)) rfl
theorem q8_236 : Cond.code ⟨"SeeSawHillModel", "pursesOfAll", "()I"⟩ prog_14_method_141_code 3 (some .int) ∈ WALL := q_of (m_t8 (List.mem_of_getElem? (i := 236) rfl)) rfl
theorem q8_237 : Cond.arrayClass .long ∈ WALL := q_of (m_t8 (List.mem_of_getElem? (i := 237) rfl)) rfl
theorem q8_238 : Cond.sameMethod "SeeSawHill$TextReader" "SeeSawHill$TextReader" "skip" "(I)Z" ∈ WALL := q_of (m_t8 (List.mem_of_getElem? (i := 238) rfl)) rfl
theorem q8_239 : Cond.selects "SeeSawHill$HillReader" ⟨"SeeSawHill$TextReader", "skip", "(I)Z"⟩ ⟨"SeeSawHill$TextReader", "skip", "(I)Z"⟩ ∈ WALL := q_of (m_t8 (List.mem_of_getElem? (i := 239) rfl)) rfl
theorem q8_24 : Cond.methodLink "SeeSawHillModel" 363 ⟨"SeeSawHillModel", "worstOf", "(II)I"⟩ ∈ WALL := q_of (m_t8 (List.mem_of_getElem? (i := 24) rfl)) rfl
theorem q8_26 : Cond.instanceMethod ⟨"SeeSawHillModel", "worstOf", "(II)I"⟩ ∈ WALL := q_of (m_t8 (List.mem_of_getElem? (i := 26) rfl)) rfl
theorem q8_27 : Cond.code ⟨"SeeSawHillModel", "worstOf", "(II)I"⟩ prog_14_method_89_code 6 (some .int) ∈ WALL := q_of (m_t8 (List.mem_of_getElem? (i := 27) rfl)) rfl
theorem q8_28 : Cond.methodLink "SeeSawHillLaw" 174 ⟨"SeeSawHillModel", "weeks", "(I)I"⟩ ∈ WALL := q_of (m_t8 (List.mem_of_getElem? (i := 28) rfl)) rfl
theorem q8_29 : Cond.instanceMethod ⟨"SeeSawHillModel", "weeks", "(I)I"⟩ ∈ WALL := q_of (m_t8 (List.mem_of_getElem? (i := 29) rfl)) rfl
theorem q8_3 : Cond.methodLink "SeeSawHillModel" 349 ⟨"SeeSawHillModel", "keepsAll", "()V"⟩ ∈ WALL := q_of (m_t8 (List.mem_of_getElem? (i := 3) rfl)) rfl
theorem q8_30 : Cond.selects "SeeSawHillModel" ⟨"SeeSawHillModel", "weeks", "(I)I"⟩ ⟨"SeeSawHillModel", "weeks", "(I)I"⟩ ∈ WALL := q_of (m_t8 (List.mem_of_getElem? (i := 30) rfl)) rfl
theorem q8_31 : Cond.code ⟨"SeeSawHillModel", "weeks", "(I)I"⟩ prog_14_method_98_code 4 (some .int) ∈ WALL := q_of (m_t8 (List.mem_of_getElem? (i := 31) rfl)) rfl
theorem q8_32 : Cond.methodLink "SeeSawHillModel" 377 ⟨"SeeSawHillModel", "goneOnes", "()I"⟩ ∈ WALL := q_of (m_t8 (List.mem_of_getElem? (i := 32) rfl)) rfl
theorem q8_34 : Cond.instanceMethod ⟨"SeeSawHillModel", "goneOnes", "()I"⟩ ∈ WALL := q_of (m_t8 (List.mem_of_getElem? (i := 34) rfl)) rfl
theorem q8_35 : Cond.code ⟨"SeeSawHillModel", "goneOnes", "()I"⟩ prog_14_method_96_code 3 (some .int) ∈ WALL := q_of (m_t8 (List.mem_of_getElem? (i := 35) rfl)) rfl
theorem q8_36 : Cond.methodLink "SeeSawHillModel" 380 ⟨"SeeSawHillModel", "oneWeek", "(Z)V"⟩ ∈ WALL := q_of (m_t8 (List.mem_of_getElem? (i := 36) rfl)) rfl
theorem q8_38 : Cond.instanceMethod ⟨"SeeSawHillModel", "oneWeek", "(Z)V"⟩ ∈ WALL := q_of (m_t8 (List.mem_of_getElem? (i := 38) rfl)) rfl
theorem q8_39 : Cond.code ⟨"SeeSawHillModel", "oneWeek", "(Z)V"⟩ prog_14_method_95_code 3 none ∈ WALL := q_of (m_t8 (List.mem_of_getElem? (i := 39) rfl)) rfl
theorem q8_40 : Cond.methodLink "SeeSawHillModel" 369 ⟨"SeeSawHillModel", "snowsAndSteals", "(Z)V"⟩ ∈ WALL := q_of (m_t8 (List.mem_of_getElem? (i := 40) rfl)) rfl
theorem q8_42 : Cond.instanceMethod ⟨"SeeSawHillModel", "snowsAndSteals", "(Z)V"⟩ ∈ WALL := q_of (m_t8 (List.mem_of_getElem? (i := 42) rfl)) rfl
theorem q8_43 : Cond.code ⟨"SeeSawHillModel", "snowsAndSteals", "(Z)V"⟩ prog_14_method_93_code 4 none ∈ WALL := q_of (m_t8 (List.mem_of_getElem? (i := 43) rfl)) rfl
theorem q8_44 : Cond.methodLink "SeeSawHillModel" 366 ⟨"SeeSawHillModel", "drawn", "(I)I"⟩ ∈ WALL := q_of (m_t8 (List.mem_of_getElem? (i := 44) rfl)) rfl
theorem q8_46 : Cond.instanceMethod ⟨"SeeSawHillModel", "drawn", "(I)I"⟩ ∈ WALL := q_of (m_t8 (List.mem_of_getElem? (i := 46) rfl)) rfl
theorem q8_47 : Cond.code ⟨"SeeSawHillModel", "drawn", "(I)I"⟩ prog_14_method_25_code 2 (some .int) ∈ WALL := q_of (m_t8 (List.mem_of_getElem? (i := 47) rfl)) rfl
theorem q8_48 : Cond.constant "SeeSawHillModel" 85 (1103515245) ∈ WALL := q_of (m_t8 (List.mem_of_getElem? (i := 48) rfl)) rfl
theorem q8_49 : Cond.methodLink "SeeSawHillModel" 373 ⟨"SeeSawHillModel", "ages", "(I)V"⟩ ∈ WALL := q_of (m_t8 (List.mem_of_getElem? (i := 49) rfl)) rfl
theorem q8_5 : Cond.instanceMethod ⟨"SeeSawHillModel", "keepsAll", "()V"⟩ ∈ WALL := q_of (m_t8 (List.mem_of_getElem? (i := 5) rfl)) rfl
theorem q8_51 : Cond.instanceMethod ⟨"SeeSawHillModel", "ages", "(I)V"⟩ ∈ WALL := q_of (m_t8 (List.mem_of_getElem? (i := 51) rfl)) rfl
theorem q8_52 : Cond.code ⟨"SeeSawHillModel", "ages", "(I)V"⟩ prog_14_method_94_code 2 none ∈ WALL := q_of (m_t8 (List.mem_of_getElem? (i := 52) rfl)) rfl
theorem q8_53 : Cond.methodLink "SeeSawHillLaw" 250 ⟨"SeeSawHillModel", "ahead", "(IIZ)I"⟩ ∈ WALL := q_of (m_t8 (List.mem_of_getElem? (i := 53) rfl)) rfl
theorem q8_54 : Cond.instanceMethod ⟨"SeeSawHillModel", "ahead", "(IIZ)I"⟩ ∈ WALL := q_of (m_t8 (List.mem_of_getElem? (i := 54) rfl)) rfl
theorem q8_55 : Cond.selects "SeeSawHillModel" ⟨"SeeSawHillModel", "ahead", "(IIZ)I"⟩ ⟨"SeeSawHillModel", "ahead", "(IIZ)I"⟩ ∈ WALL := q_of (m_t8 (List.mem_of_getElem? (i := 55) rfl)) rfl
theorem q8_56 : Cond.code ⟨"SeeSawHillModel", "ahead", "(IIZ)I"⟩ prog_14_method_100_code 5 (some .int) ∈ WALL := q_of (m_t8 (List.mem_of_getElem? (i := 56) rfl)) rfl
theorem q8_57 : Cond.methodLink "SeeSawHillModel" 383 ⟨"SeeSawHillModel", "goesAhead", "(I)V"⟩ ∈ WALL := q_of (m_t8 (List.mem_of_getElem? (i := 57) rfl)) rfl
theorem q8_59 : Cond.instanceMethod ⟨"SeeSawHillModel", "goesAhead", "(I)V"⟩ ∈ WALL := q_of (m_t8 (List.mem_of_getElem? (i := 59) rfl)) rfl
theorem q8_6 : Cond.code ⟨"SeeSawHillModel", "keepsAll", "()V"⟩ prog_14_method_87_code 2 none ∈ WALL := q_of (m_t8 (List.mem_of_getElem? (i := 6) rfl)) rfl
theorem q8_60 : Cond.code ⟨"SeeSawHillModel", "goesAhead", "(I)V"⟩ prog_14_method_99_code 3 none ∈ WALL := q_of (m_t8 (List.mem_of_getElem? (i := 60) rfl)) rfl
theorem q8_61 : Cond.methodLink "SeeSawHillLaw" 231 ⟨"SeeSawHillModel", "rent", "(II)I"⟩ ∈ WALL := q_of (m_t8 (List.mem_of_getElem? (i := 61) rfl)) rfl
theorem q8_62 : Cond.instanceMethod ⟨"SeeSawHillModel", "rent", "(II)I"⟩ ∈ WALL := q_of (m_t8 (List.mem_of_getElem? (i := 62) rfl)) rfl
theorem q8_63 : Cond.selects "SeeSawHillModel" ⟨"SeeSawHillModel", "rent", "(II)I"⟩ ⟨"SeeSawHillModel", "rent", "(II)I"⟩ ∈ WALL := q_of (m_t8 (List.mem_of_getElem? (i := 63) rfl)) rfl
theorem q8_64 : Cond.code ⟨"SeeSawHillModel", "rent", "(II)I"⟩ prog_14_method_101_code 5 (some .int) ∈ WALL := q_of (m_t8 (List.mem_of_getElem? (i := 64) rfl)) rfl
theorem q8_65 : Cond.methodLink "SeeSawHillLaw" 235 ⟨"SeeSawHillModel", "poor", "()I"⟩ ∈ WALL := q_of (m_t8 (List.mem_of_getElem? (i := 65) rfl)) rfl
theorem q8_66 : Cond.instanceMethod ⟨"SeeSawHillModel", "poor", "()I"⟩ ∈ WALL := q_of (m_t8 (List.mem_of_getElem? (i := 66) rfl)) rfl
theorem q8_67 : Cond.selects "SeeSawHillModel" ⟨"SeeSawHillModel", "poor", "()I"⟩ ⟨"SeeSawHillModel", "poor", "()I"⟩ ∈ WALL := q_of (m_t8 (List.mem_of_getElem? (i := 67) rfl)) rfl
theorem q8_68 : Cond.code ⟨"SeeSawHillModel", "poor", "()I"⟩ prog_14_method_103_code 3 (some .int) ∈ WALL := q_of (m_t8 (List.mem_of_getElem? (i := 68) rfl)) rfl
theorem q8_69 : Cond.methodLink "SeeSawHillModel" 386 ⟨"SeeSawHillModel", "isPoor", "()Z"⟩ ∈ WALL := q_of (m_t8 (List.mem_of_getElem? (i := 69) rfl)) rfl
theorem q8_7 : Cond.methodLink "SeeSawHillModel" 352 ⟨"SeeSawHillModel", "steals", "(I)I"⟩ ∈ WALL := q_of (m_t8 (List.mem_of_getElem? (i := 7) rfl)) rfl
theorem q8_71 : Cond.instanceMethod ⟨"SeeSawHillModel", "isPoor", "()Z"⟩ ∈ WALL := q_of (m_t8 (List.mem_of_getElem? (i := 71) rfl)) rfl
theorem q8_72 : Cond.code ⟨"SeeSawHillModel", "isPoor", "()Z"⟩ prog_14_method_102_code 3 (some .boolean) ∈ WALL := q_of (m_t8 (List.mem_of_getElem? (i := 72) rfl)) rfl
theorem q8_73 : Cond.methodLink "SeeSawHillLaw" 199 ⟨"SeeSawHillModel", "breaks", "(I)I"⟩ ∈ WALL := q_of (m_t8 (List.mem_of_getElem? (i := 73) rfl)) rfl
theorem q8_74 : Cond.instanceMethod ⟨"SeeSawHillModel", "breaks", "(I)I"⟩ ∈ WALL := q_of (m_t8 (List.mem_of_getElem? (i := 74) rfl)) rfl
theorem q8_75 : Cond.selects "SeeSawHillModel" ⟨"SeeSawHillModel", "breaks", "(I)I"⟩ ⟨"SeeSawHillModel", "breaks", "(I)I"⟩ ∈ WALL := q_of (m_t8 (List.mem_of_getElem? (i := 75) rfl)) rfl
theorem q8_76 : Cond.code ⟨"SeeSawHillModel", "breaks", "(I)I"⟩ prog_14_method_105_code 3 (some .int) ∈ WALL := q_of (m_t8 (List.mem_of_getElem? (i := 76) rfl)) rfl
theorem q8_77 : Cond.methodLink "SeeSawHillModel" 389 ⟨"SeeSawHillModel", "breaksIn", "(I)I"⟩ ∈ WALL := q_of (m_t8 (List.mem_of_getElem? (i := 77) rfl)) rfl
theorem q8_79 : Cond.instanceMethod ⟨"SeeSawHillModel", "breaksIn", "(I)I"⟩ ∈ WALL := q_of (m_t8 (List.mem_of_getElem? (i := 79) rfl)) rfl
theorem q8_80 : Cond.code ⟨"SeeSawHillModel", "breaksIn", "(I)I"⟩ prog_14_method_104_code 4 (some .int) ∈ WALL := q_of (m_t8 (List.mem_of_getElem? (i := 80) rfl)) rfl
theorem q8_81 : Cond.methodLink "SeeSawHillLaw" 202 ⟨"SeeSawHillModel", "more", "(I)I"⟩ ∈ WALL := q_of (m_t8 (List.mem_of_getElem? (i := 81) rfl)) rfl
theorem q8_82 : Cond.instanceMethod ⟨"SeeSawHillModel", "more", "(I)I"⟩ ∈ WALL := q_of (m_t8 (List.mem_of_getElem? (i := 82) rfl)) rfl
theorem q8_83 : Cond.selects "SeeSawHillModel" ⟨"SeeSawHillModel", "more", "(I)I"⟩ ⟨"SeeSawHillModel", "more", "(I)I"⟩ ∈ WALL := q_of (m_t8 (List.mem_of_getElem? (i := 83) rfl)) rfl
theorem q8_84 : Cond.code ⟨"SeeSawHillModel", "more", "(I)I"⟩ prog_14_method_106_code 2 (some .int) ∈ WALL := q_of (m_t8 (List.mem_of_getElem? (i := 84) rfl)) rfl
theorem q8_85 : Cond.methodLink "SeeSawHillLaw" 206 ⟨"SeeSawHillModel", "last", "()I"⟩ ∈ WALL := q_of (m_t8 (List.mem_of_getElem? (i := 85) rfl)) rfl
theorem q8_86 : Cond.instanceMethod ⟨"SeeSawHillModel", "last", "()I"⟩ ∈ WALL := q_of (m_t8 (List.mem_of_getElem? (i := 86) rfl)) rfl
theorem q8_87 : Cond.selects "SeeSawHillModel" ⟨"SeeSawHillModel", "last", "()I"⟩ ⟨"SeeSawHillModel", "last", "()I"⟩ ∈ WALL := q_of (m_t8 (List.mem_of_getElem? (i := 87) rfl)) rfl
theorem q8_88 : Cond.code ⟨"SeeSawHillModel", "last", "()I"⟩ prog_14_method_107_code 5 (some .int) ∈ WALL := q_of (m_t8 (List.mem_of_getElem? (i := 88) rfl)) rfl
theorem q8_89 : Cond.methodLink "SeeSawHillLaw" 178 ⟨"SeeSawHillModel", "view", "()I"⟩ ∈ WALL := q_of (m_t8 (List.mem_of_getElem? (i := 89) rfl)) rfl
theorem q8_9 : Cond.instanceMethod ⟨"SeeSawHillModel", "steals", "(I)I"⟩ ∈ WALL := q_of (m_t8 (List.mem_of_getElem? (i := 9) rfl)) rfl
theorem q8_90 : Cond.instanceMethod ⟨"SeeSawHillModel", "view", "()I"⟩ ∈ WALL := q_of (m_t8 (List.mem_of_getElem? (i := 90) rfl)) rfl
theorem q8_91 : Cond.selects "SeeSawHillModel" ⟨"SeeSawHillModel", "view", "()I"⟩ ⟨"SeeSawHillModel", "view", "()I"⟩ ∈ WALL := q_of (m_t8 (List.mem_of_getElem? (i := 91) rfl)) rfl
theorem q8_92 : Cond.code ⟨"SeeSawHillModel", "view", "()I"⟩ prog_14_method_108_code 3 (some .int) ∈ WALL := q_of (m_t8 (List.mem_of_getElem? (i := 92) rfl)) rfl
theorem q8_93 : Cond.methodLink "SeeSawHillLaw" 182 ⟨"SeeSawHillModel", "well", "()I"⟩ ∈ WALL := q_of (m_t8 (List.mem_of_getElem? (i := 93) rfl)) rfl
theorem q8_94 : Cond.instanceMethod ⟨"SeeSawHillModel", "well", "()I"⟩ ∈ WALL := q_of (m_t8 (List.mem_of_getElem? (i := 94) rfl)) rfl
theorem q8_95 : Cond.selects "SeeSawHillModel" ⟨"SeeSawHillModel", "well", "()I"⟩ ⟨"SeeSawHillModel", "well", "()I"⟩ ∈ WALL := q_of (m_t8 (List.mem_of_getElem? (i := 95) rfl)) rfl
theorem q8_96 : Cond.code ⟨"SeeSawHillModel", "well", "()I"⟩ prog_14_method_109_code 3 (some .int) ∈ WALL := q_of (m_t8 (List.mem_of_getElem? (i := 96) rfl)) rfl
theorem q8_97 : Cond.methodLink "SeeSawHillLaw" 186 ⟨"SeeSawHillModel", "twins", "()I"⟩ ∈ WALL := q_of (m_t8 (List.mem_of_getElem? (i := 97) rfl)) rfl
theorem q8_98 : Cond.instanceMethod ⟨"SeeSawHillModel", "twins", "()I"⟩ ∈ WALL := q_of (m_t8 (List.mem_of_getElem? (i := 98) rfl)) rfl
theorem q8_99 : Cond.selects "SeeSawHillModel" ⟨"SeeSawHillModel", "twins", "()I"⟩ ⟨"SeeSawHillModel", "twins", "()I"⟩ ∈ WALL := q_of (m_t8 (List.mem_of_getElem? (i := 99) rfl)) rfl
theorem q9_0 : Cond.selects "SeeSawHill$LawReader" ⟨"SeeSawHill$TextReader", "skip", "(I)Z"⟩ ⟨"SeeSawHill$TextReader", "skip", "(I)Z"⟩ ∈ WALL := q_of (m_t9 (List.mem_of_getElem? (i := 0) rfl)) rfl
theorem q9_19 : Cond.fieldLink "java/lang/String" 9 "java/lang/String" "value" "[B" ∈ WALL := q_of (m_t9 (List.mem_of_getElem? (i := 19) rfl)) rfl
theorem q9_20 : Cond.fieldLink "java/lang/String" 15 "java/lang/String" "coder" "B" ∈ WALL := q_of (m_t9 (List.mem_of_getElem? (i := 20) rfl)) rfl
theorem qs_0 : Cond.selects "SeeSawHill" ⟨"SeeSawHill", "putBytes", "(I)V"⟩ ⟨"SeeSawHill", "putBytes", "(I)V"⟩ ∈ WALL := q_of (m_sel (List.mem_of_getElem? (i := 0) rfl)) rfl
theorem qs_1 : Cond.selects "SeeSawHill" ⟨"SeeSawHill", "weeksToBreak", "(I)I"⟩ ⟨"SeeSawHill", "weeksToBreak", "(I)I"⟩ ∈ WALL := q_of (m_sel (List.mem_of_getElem? (i := 1) rfl)) rfl
theorem qs_10 : Cond.selects "SeeSawHill$HillReader" ⟨"SeeSawHill$HillReader", "readSetting", "(I)Z"⟩ ⟨"SeeSawHill$HillReader", "readSetting", "(I)Z"⟩ ∈ WALL := q_of (m_sel (List.mem_of_getElem? (i := 10) rfl)) rfl
theorem qs_100 : Cond.selects "SeeSawHillModel" ⟨"SeeSawHillModel", "partnerIn", "(I)I"⟩ ⟨"SeeSawHillModel", "partnerIn", "(I)I"⟩ ∈ WALL := q_of (m_sel (List.mem_of_getElem? (i := 100) rfl)) rfl
theorem qs_101 : Cond.selects "SeeSawHillModel" ⟨"SeeSawHillModel", "isTold", "()Z"⟩ ⟨"SeeSawHillModel", "isTold", "()Z"⟩ ∈ WALL := q_of (m_sel (List.mem_of_getElem? (i := 101) rfl)) rfl
theorem qs_102 : Cond.selects "SeeSawHillModel" ⟨"SeeSawHillModel", "fits", "(II)Z"⟩ ⟨"SeeSawHillModel", "fits", "(II)Z"⟩ ∈ WALL := q_of (m_sel (List.mem_of_getElem? (i := 102) rfl)) rfl
theorem qs_103 : Cond.selects "SeeSawHillModel" ⟨"SeeSawHillModel", "heightWith", "(III)I"⟩ ⟨"SeeSawHillModel", "heightWith", "(III)I"⟩ ∈ WALL := q_of (m_sel (List.mem_of_getElem? (i := 103) rfl)) rfl
theorem qs_104 : Cond.selects "SeeSawHillModel" ⟨"SeeSawHillModel", "greatestPart", "(II)I"⟩ ⟨"SeeSawHillModel", "greatestPart", "(II)I"⟩ ∈ WALL := q_of (m_sel (List.mem_of_getElem? (i := 104) rfl)) rfl
theorem qs_105 : Cond.selects "SeeSawHillModel" ⟨"SeeSawHillModel", "rests", "(III)Z"⟩ ⟨"SeeSawHillModel", "rests", "(III)Z"⟩ ∈ WALL := q_of (m_sel (List.mem_of_getElem? (i := 105) rfl)) rfl
theorem qs_106 : Cond.selects "SeeSawHillModel" ⟨"SeeSawHillModel", "hasBy", "(IIIZ)I"⟩ ⟨"SeeSawHillModel", "hasBy", "(IIIZ)I"⟩ ∈ WALL := q_of (m_sel (List.mem_of_getElem? (i := 106) rfl)) rfl
theorem qs_107 : Cond.selects "SeeSawHillModel" ⟨"SeeSawHillModel", "brokenOnes", "()I"⟩ ⟨"SeeSawHillModel", "brokenOnes", "()I"⟩ ∈ WALL := q_of (m_sel (List.mem_of_getElem? (i := 107) rfl)) rfl
theorem qs_108 : Cond.selects "SeeSawHillModel" ⟨"SeeSawHillModel", "ofLog", "(II)I"⟩ ⟨"SeeSawHillModel", "ofLog", "(II)I"⟩ ∈ WALL := q_of (m_sel (List.mem_of_getElem? (i := 108) rfl)) rfl
theorem qs_109 : Cond.selects "SeeSawHillModel" ⟨"SeeSawHillModel", "pursesOfAll", "()I"⟩ ⟨"SeeSawHillModel", "pursesOfAll", "()I"⟩ ∈ WALL := q_of (m_sel (List.mem_of_getElem? (i := 109) rfl)) rfl
theorem qs_11 : Cond.selects "SeeSawHill$LawReader" ⟨"SeeSawHill$LawReader", "readAny", "(I)Z"⟩ ⟨"SeeSawHill$LawReader", "readAny", "(I)Z"⟩ ∈ WALL := q_of (m_sel (List.mem_of_getElem? (i := 11) rfl)) rfl
theorem qs_12 : Cond.selects "SeeSawHill$LawReader" ⟨"SeeSawHill$LawReader", "readAll", "(I)Z"⟩ ⟨"SeeSawHill$LawReader", "readAll", "(I)Z"⟩ ∈ WALL := q_of (m_sel (List.mem_of_getElem? (i := 12) rfl)) rfl
theorem qs_13 : Cond.selects "SeeSawHill$LawReader" ⟨"SeeSawHill$LawReader", "readAtom", "(I)Z"⟩ ⟨"SeeSawHill$LawReader", "readAtom", "(I)Z"⟩ ∈ WALL := q_of (m_sel (List.mem_of_getElem? (i := 13) rfl)) rfl
theorem qs_14 : Cond.selects "SeeSawHill$LawReader" ⟨"SeeSawHill$LawReader", "readDeeper", "(II)Z"⟩ ⟨"SeeSawHill$LawReader", "readDeeper", "(II)Z"⟩ ∈ WALL := q_of (m_sel (List.mem_of_getElem? (i := 14) rfl)) rfl
theorem qs_15 : Cond.selects "SeeSawHill$LawReader" ⟨"SeeSawHill$LawReader", "readSum", "()Z"⟩ ⟨"SeeSawHill$LawReader", "readSum", "()Z"⟩ ∈ WALL := q_of (m_sel (List.mem_of_getElem? (i := 15) rfl)) rfl
theorem qs_17 : Cond.selects "SeeSawHill" ⟨"SeeSawHill", "checkPlank", "(I)V"⟩ ⟨"SeeSawHill", "checkPlank", "(I)V"⟩ ∈ WALL := q_of (m_sel (List.mem_of_getElem? (i := 17) rfl)) rfl
theorem qs_18 : Cond.selects "SeeSawHill" ⟨"SeeSawHill", "checkHouse", "(I)V"⟩ ⟨"SeeSawHill", "checkHouse", "(I)V"⟩ ∈ WALL := q_of (m_sel (List.mem_of_getElem? (i := 18) rfl)) rfl
theorem qs_19 : Cond.selects "SeeSawHill" ⟨"SeeSawHill", "checkThing", "(I)V"⟩ ⟨"SeeSawHill", "checkThing", "(I)V"⟩ ∈ WALL := q_of (m_sel (List.mem_of_getElem? (i := 19) rfl)) rfl
theorem qs_2 : Cond.selects "SeeSawHill$Law" ⟨"SeeSawHill$Law", "holds", "(IILSeeSawHill$Hill;I)Z"⟩ ⟨"SeeSawHill$Law", "holds", "(IILSeeSawHill$Hill;I)Z"⟩ ∈ WALL := q_of (m_sel (List.mem_of_getElem? (i := 2) rfl)) rfl
theorem qs_20 : Cond.selects "SeeSawHill" ⟨"SeeSawHill", "findFits", "(I)V"⟩ ⟨"SeeSawHill", "findFits", "(I)V"⟩ ∈ WALL := q_of (m_sel (List.mem_of_getElem? (i := 20) rfl)) rfl
theorem qs_21 : Cond.selects "SeeSawHill$Guess" ⟨"SeeSawHill$Guess", "greatestPart", "(LSeeSawHill$Hill;II)I"⟩ ⟨"SeeSawHill$Guess", "greatestPart", "(LSeeSawHill$Hill;II)I"⟩ ∈ WALL := q_of (m_sel (List.mem_of_getElem? (i := 21) rfl)) rfl
theorem qs_22 : Cond.selects "SeeSawHill" ⟨"SeeSawHill", "isSafe", "(III)Z"⟩ ⟨"SeeSawHill", "isSafe", "(III)Z"⟩ ∈ WALL := q_of (m_sel (List.mem_of_getElem? (i := 22) rfl)) rfl
theorem qs_23 : Cond.selects "SeeSawHill" ⟨"SeeSawHill", "lookAhead", "(II)V"⟩ ⟨"SeeSawHill", "lookAhead", "(II)V"⟩ ∈ WALL := q_of (m_sel (List.mem_of_getElem? (i := 23) rfl)) rfl
theorem qs_24 : Cond.selects "SeeSawHill" ⟨"SeeSawHill", "tryWeeks", "(II)V"⟩ ⟨"SeeSawHill", "tryWeeks", "(II)V"⟩ ∈ WALL := q_of (m_sel (List.mem_of_getElem? (i := 24) rfl)) rfl
theorem qs_25 : Cond.selects "SeeSawHillModel" ⟨"SeeSawHillModel", "readAll", "(Z)I"⟩ ⟨"SeeSawHillModel", "readAll", "(Z)I"⟩ ∈ WALL := q_of (m_sel (List.mem_of_getElem? (i := 25) rfl)) rfl
theorem qs_26 : Cond.selects "SeeSawHillModel" ⟨"SeeSawHillModel", "uses", "()V"⟩ ⟨"SeeSawHillModel", "uses", "()V"⟩ ∈ WALL := q_of (m_sel (List.mem_of_getElem? (i := 26) rfl)) rfl
theorem qs_27 : Cond.selects "SeeSawHillModel" ⟨"SeeSawHillModel", "blanks", "()V"⟩ ⟨"SeeSawHillModel", "blanks", "()V"⟩ ∈ WALL := q_of (m_sel (List.mem_of_getElem? (i := 27) rfl)) rfl
theorem qs_28 : Cond.selects "SeeSawHillModel" ⟨"SeeSawHillModel", "isAt", "(II)Z"⟩ ⟨"SeeSawHillModel", "isAt", "(II)Z"⟩ ∈ WALL := q_of (m_sel (List.mem_of_getElem? (i := 28) rfl)) rfl
theorem qs_29 : Cond.selects "SeeSawHillModel" ⟨"SeeSawHillModel", "readLine", "(ZI)Z"⟩ ⟨"SeeSawHillModel", "readLine", "(ZI)Z"⟩ ∈ WALL := q_of (m_sel (List.mem_of_getElem? (i := 29) rfl)) rfl
theorem qs_3 : Cond.selects "SeeSawHill$Hill" ⟨"SeeSawHill$Hill", "payRents", "(LSeeSawHill$Law;I)V"⟩ ⟨"SeeSawHill$Hill", "payRents", "(LSeeSawHill$Law;I)V"⟩ ∈ WALL := q_of (m_sel (List.mem_of_getElem? (i := 3) rfl)) rfl
theorem qs_30 : Cond.selects "SeeSawHillModel" ⟨"SeeSawHillModel", "letters", "()V"⟩ ⟨"SeeSawHillModel", "letters", "()V"⟩ ∈ WALL := q_of (m_sel (List.mem_of_getElem? (i := 30) rfl)) rfl
theorem qs_31 : Cond.selects "SeeSawHillModel" ⟨"SeeSawHillModel", "readHillLine", "()Z"⟩ ⟨"SeeSawHillModel", "readHillLine", "()Z"⟩ ∈ WALL := q_of (m_sel (List.mem_of_getElem? (i := 31) rfl)) rfl
theorem qs_32 : Cond.selects "SeeSawHillModel" ⟨"SeeSawHillModel", "isWord", "(Ljava/lang/String;)Z"⟩ ⟨"SeeSawHillModel", "isWord", "(Ljava/lang/String;)Z"⟩ ∈ WALL := q_of (m_sel (List.mem_of_getElem? (i := 32) rfl)) rfl
theorem qs_33 : Cond.selects "SeeSawHillModel" ⟨"SeeSawHillModel", "readPlank", "()Z"⟩ ⟨"SeeSawHillModel", "readPlank", "()Z"⟩ ∈ WALL := q_of (m_sel (List.mem_of_getElem? (i := 33) rfl)) rfl
theorem qs_34 : Cond.selects "SeeSawHillModel" ⟨"SeeSawHillModel", "planks", "()I"⟩ ⟨"SeeSawHillModel", "planks", "()I"⟩ ∈ WALL := q_of (m_sel (List.mem_of_getElem? (i := 34) rfl)) rfl
theorem qs_35 : Cond.selects "SeeSawHillModel" ⟨"SeeSawHillModel", "number", "(II)I"⟩ ⟨"SeeSawHillModel", "number", "(II)I"⟩ ∈ WALL := q_of (m_sel (List.mem_of_getElem? (i := 35) rfl)) rfl
theorem qs_36 : Cond.selects "SeeSawHillModel" ⟨"SeeSawHillModel", "passes", "(Ljava/lang/String;)Z"⟩ ⟨"SeeSawHillModel", "passes", "(Ljava/lang/String;)Z"⟩ ∈ WALL := q_of (m_sel (List.mem_of_getElem? (i := 36) rfl)) rfl
theorem qs_37 : Cond.selects "SeeSawHillModel" ⟨"SeeSawHillModel", "readHouse", "(II)Z"⟩ ⟨"SeeSawHillModel", "readHouse", "(II)Z"⟩ ∈ WALL := q_of (m_sel (List.mem_of_getElem? (i := 37) rfl)) rfl
theorem qs_38 : Cond.selects "SeeSawHillModel" ⟨"SeeSawHillModel", "houses", "()I"⟩ ⟨"SeeSawHillModel", "houses", "()I"⟩ ∈ WALL := q_of (m_sel (List.mem_of_getElem? (i := 38) rfl)) rfl
theorem qs_39 : Cond.selects "SeeSawHillModel" ⟨"SeeSawHillModel", "readNumber", "(III)Z"⟩ ⟨"SeeSawHillModel", "readNumber", "(III)Z"⟩ ∈ WALL := q_of (m_sel (List.mem_of_getElem? (i := 39) rfl)) rfl
theorem qs_4 : Cond.selects "SeeSawHill" ⟨"SeeSawHill", "useTapeUp", "()I"⟩ ⟨"SeeSawHill", "useTapeUp", "()I"⟩ ∈ WALL := q_of (m_sel (List.mem_of_getElem? (i := 4) rfl)) rfl
theorem qs_40 : Cond.selects "SeeSawHillModel" ⟨"SeeSawHillModel", "readThing", "()Z"⟩ ⟨"SeeSawHillModel", "readThing", "()Z"⟩ ∈ WALL := q_of (m_sel (List.mem_of_getElem? (i := 40) rfl)) rfl
theorem qs_41 : Cond.selects "SeeSawHillModel" ⟨"SeeSawHillModel", "things", "()I"⟩ ⟨"SeeSawHillModel", "things", "()I"⟩ ∈ WALL := q_of (m_sel (List.mem_of_getElem? (i := 41) rfl)) rfl
theorem qs_42 : Cond.selects "SeeSawHillModel" ⟨"SeeSawHillModel", "after", "(Ljava/lang/String;II)I"⟩ ⟨"SeeSawHillModel", "after", "(Ljava/lang/String;II)I"⟩ ∈ WALL := q_of (m_sel (List.mem_of_getElem? (i := 42) rfl)) rfl
theorem qs_43 : Cond.selects "SeeSawHillModel" ⟨"SeeSawHillModel", "readLawLine", "(I)Z"⟩ ⟨"SeeSawHillModel", "readLawLine", "(I)Z"⟩ ∈ WALL := q_of (m_sel (List.mem_of_getElem? (i := 43) rfl)) rfl
theorem qs_44 : Cond.selects "SeeSawHillModel" ⟨"SeeSawHillModel", "readCond", "()Z"⟩ ⟨"SeeSawHillModel", "readCond", "()Z"⟩ ∈ WALL := q_of (m_sel (List.mem_of_getElem? (i := 44) rfl)) rfl
theorem qs_45 : Cond.selects "SeeSawHillModel" ⟨"SeeSawHillModel", "readAllOf", "()Z"⟩ ⟨"SeeSawHillModel", "readAllOf", "()Z"⟩ ∈ WALL := q_of (m_sel (List.mem_of_getElem? (i := 45) rfl)) rfl
theorem qs_46 : Cond.selects "SeeSawHillModel" ⟨"SeeSawHillModel", "readAtom", "()Z"⟩ ⟨"SeeSawHillModel", "readAtom", "()Z"⟩ ∈ WALL := q_of (m_sel (List.mem_of_getElem? (i := 46) rfl)) rfl
theorem qs_47 : Cond.selects "SeeSawHillModel" ⟨"SeeSawHillModel", "sign", "(I)Z"⟩ ⟨"SeeSawHillModel", "sign", "(I)Z"⟩ ∈ WALL := q_of (m_sel (List.mem_of_getElem? (i := 47) rfl)) rfl
theorem qs_48 : Cond.selects "SeeSawHillModel" ⟨"SeeSawHillModel", "emits", "(II)V"⟩ ⟨"SeeSawHillModel", "emits", "(II)V"⟩ ∈ WALL := q_of (m_sel (List.mem_of_getElem? (i := 48) rfl)) rfl
theorem qs_49 : Cond.selects "SeeSawHillModel" ⟨"SeeSawHillModel", "readTag", "()Z"⟩ ⟨"SeeSawHillModel", "readTag", "()Z"⟩ ∈ WALL := q_of (m_sel (List.mem_of_getElem? (i := 49) rfl)) rfl
theorem qs_5 : Cond.selects "SeeSawHill$Tokens" ⟨"SeeSawHill$Tokens", "addFrom", "([BII)I"⟩ ⟨"SeeSawHill$Tokens", "addFrom", "([BII)I"⟩ ∈ WALL := q_of (m_sel (List.mem_of_getElem? (i := 5) rfl)) rfl
theorem qs_50 : Cond.selects "SeeSawHillModel" ⟨"SeeSawHillModel", "readSum", "()Z"⟩ ⟨"SeeSawHillModel", "readSum", "()Z"⟩ ∈ WALL := q_of (m_sel (List.mem_of_getElem? (i := 50) rfl)) rfl
theorem qs_51 : Cond.selects "SeeSawHillModel" ⟨"SeeSawHillModel", "readPart", "()Z"⟩ ⟨"SeeSawHillModel", "readPart", "()Z"⟩ ∈ WALL := q_of (m_sel (List.mem_of_getElem? (i := 51) rfl)) rfl
theorem qs_52 : Cond.selects "SeeSawHillModel" ⟨"SeeSawHillModel", "throwsIf", "(ZI)Z"⟩ ⟨"SeeSawHillModel", "throwsIf", "(ZI)Z"⟩ ∈ WALL := q_of (m_sel (List.mem_of_getElem? (i := 52) rfl)) rfl
theorem qs_53 : Cond.selects "SeeSawHillModel" ⟨"SeeSawHillModel", "noPlank", "(I)Z"⟩ ⟨"SeeSawHillModel", "noPlank", "(I)Z"⟩ ∈ WALL := q_of (m_sel (List.mem_of_getElem? (i := 53) rfl)) rfl
theorem qs_54 : Cond.selects "SeeSawHillModel" ⟨"SeeSawHillModel", "tiltOf", "(I)I"⟩ ⟨"SeeSawHillModel", "tiltOf", "(I)I"⟩ ∈ WALL := q_of (m_sel (List.mem_of_getElem? (i := 54) rfl)) rfl
theorem qs_55 : Cond.selects "SeeSawHillModel" ⟨"SeeSawHillModel", "isPropped", "(I)Z"⟩ ⟨"SeeSawHillModel", "isPropped", "(I)Z"⟩ ∈ WALL := q_of (m_sel (List.mem_of_getElem? (i := 55) rfl)) rfl
theorem qs_56 : Cond.selects "SeeSawHillModel" ⟨"SeeSawHillModel", "ofPlank", "(II)I"⟩ ⟨"SeeSawHillModel", "ofPlank", "(II)I"⟩ ∈ WALL := q_of (m_sel (List.mem_of_getElem? (i := 56) rfl)) rfl
theorem qs_57 : Cond.selects "SeeSawHillModel" ⟨"SeeSawHillModel", "loadOf", "(I)I"⟩ ⟨"SeeSawHillModel", "loadOf", "(I)I"⟩ ∈ WALL := q_of (m_sel (List.mem_of_getElem? (i := 57) rfl)) rfl
theorem qs_58 : Cond.selects "SeeSawHillModel" ⟨"SeeSawHillModel", "thingsIn", "(I)I"⟩ ⟨"SeeSawHillModel", "thingsIn", "(I)I"⟩ ∈ WALL := q_of (m_sel (List.mem_of_getElem? (i := 58) rfl)) rfl
theorem qs_59 : Cond.selects "SeeSawHillModel" ⟨"SeeSawHillModel", "ofThing", "(II)I"⟩ ⟨"SeeSawHillModel", "ofThing", "(II)I"⟩ ∈ WALL := q_of (m_sel (List.mem_of_getElem? (i := 59) rfl)) rfl
theorem qs_6 : Cond.selects "SeeSawHill$Tokens" ⟨"SeeSawHill$Tokens", "add", "(III)V"⟩ ⟨"SeeSawHill$Tokens", "add", "(III)V"⟩ ∈ WALL := q_of (m_sel (List.mem_of_getElem? (i := 6) rfl)) rfl
theorem qs_60 : Cond.selects "SeeSawHillModel" ⟨"SeeSawHillModel", "weightOf", "(I)I"⟩ ⟨"SeeSawHillModel", "weightOf", "(I)I"⟩ ∈ WALL := q_of (m_sel (List.mem_of_getElem? (i := 60) rfl)) rfl
theorem qs_61 : Cond.selects "SeeSawHillModel" ⟨"SeeSawHillModel", "of", "(II)I"⟩ ⟨"SeeSawHillModel", "of", "(II)I"⟩ ∈ WALL := q_of (m_sel (List.mem_of_getElem? (i := 61) rfl)) rfl
theorem qs_62 : Cond.selects "SeeSawHillModel" ⟨"SeeSawHillModel", "tiltBy", "(I)I"⟩ ⟨"SeeSawHillModel", "tiltBy", "(I)I"⟩ ∈ WALL := q_of (m_sel (List.mem_of_getElem? (i := 62) rfl)) rfl
theorem qs_63 : Cond.selects "SeeSawHillModel" ⟨"SeeSawHillModel", "isLevel", "(I)Z"⟩ ⟨"SeeSawHillModel", "isLevel", "(I)Z"⟩ ∈ WALL := q_of (m_sel (List.mem_of_getElem? (i := 63) rfl)) rfl
theorem qs_64 : Cond.selects "SeeSawHillModel" ⟨"SeeSawHillModel", "isBroken", "(I)Z"⟩ ⟨"SeeSawHillModel", "isBroken", "(I)Z"⟩ ∈ WALL := q_of (m_sel (List.mem_of_getElem? (i := 64) rfl)) rfl
theorem qs_65 : Cond.selects "SeeSawHillModel" ⟨"SeeSawHillModel", "agesBy", "(I)I"⟩ ⟨"SeeSawHillModel", "agesBy", "(I)I"⟩ ∈ WALL := q_of (m_sel (List.mem_of_getElem? (i := 65) rfl)) rfl
theorem qs_66 : Cond.selects "SeeSawHillModel" ⟨"SeeSawHillModel", "sumOf", "(II)I"⟩ ⟨"SeeSawHillModel", "sumOf", "(II)I"⟩ ∈ WALL := q_of (m_sel (List.mem_of_getElem? (i := 66) rfl)) rfl
theorem qs_67 : Cond.selects "SeeSawHillModel" ⟨"SeeSawHillModel", "holdsLine", "(II)Z"⟩ ⟨"SeeSawHillModel", "holdsLine", "(II)Z"⟩ ∈ WALL := q_of (m_sel (List.mem_of_getElem? (i := 67) rfl)) rfl
theorem qs_68 : Cond.selects "SeeSawHillModel" ⟨"SeeSawHillModel", "factOf", "(III)I"⟩ ⟨"SeeSawHillModel", "factOf", "(III)I"⟩ ∈ WALL := q_of (m_sel (List.mem_of_getElem? (i := 68) rfl)) rfl
theorem qs_69 : Cond.selects "SeeSawHillModel" ⟨"SeeSawHillModel", "heightOf", "(I)I"⟩ ⟨"SeeSawHillModel", "heightOf", "(I)I"⟩ ∈ WALL := q_of (m_sel (List.mem_of_getElem? (i := 69) rfl)) rfl
theorem qs_7 : Cond.selects "SeeSawHill$HillReader" ⟨"SeeSawHill$HillReader", "readPlank", "()Z"⟩ ⟨"SeeSawHill$HillReader", "readPlank", "()Z"⟩ ∈ WALL := q_of (m_sel (List.mem_of_getElem? (i := 7) rfl)) rfl
theorem qs_70 : Cond.selects "SeeSawHillModel" ⟨"SeeSawHillModel", "noHouse", "(I)Z"⟩ ⟨"SeeSawHillModel", "noHouse", "(I)Z"⟩ ∈ WALL := q_of (m_sel (List.mem_of_getElem? (i := 70) rfl)) rfl
theorem qs_71 : Cond.selects "SeeSawHillModel" ⟨"SeeSawHillModel", "paysBy", "(I)I"⟩ ⟨"SeeSawHillModel", "paysBy", "(I)I"⟩ ∈ WALL := q_of (m_sel (List.mem_of_getElem? (i := 71) rfl)) rfl
theorem qs_72 : Cond.selects "SeeSawHillModel" ⟨"SeeSawHillModel", "luresBy", "(I)I"⟩ ⟨"SeeSawHillModel", "luresBy", "(I)I"⟩ ∈ WALL := q_of (m_sel (List.mem_of_getElem? (i := 72) rfl)) rfl
theorem qs_73 : Cond.selects "SeeSawHillModel" ⟨"SeeSawHillModel", "worthOf", "(I)I"⟩ ⟨"SeeSawHillModel", "worthOf", "(I)I"⟩ ∈ WALL := q_of (m_sel (List.mem_of_getElem? (i := 73) rfl)) rfl
theorem qs_74 : Cond.selects "SeeSawHillModel" ⟨"SeeSawHillModel", "shareOf", "(I)I"⟩ ⟨"SeeSawHillModel", "shareOf", "(I)I"⟩ ∈ WALL := q_of (m_sel (List.mem_of_getElem? (i := 74) rfl)) rfl
theorem qs_75 : Cond.selects "SeeSawHillModel" ⟨"SeeSawHillModel", "lowOf", "(I)I"⟩ ⟨"SeeSawHillModel", "lowOf", "(I)I"⟩ ∈ WALL := q_of (m_sel (List.mem_of_getElem? (i := 75) rfl)) rfl
theorem qs_76 : Cond.selects "SeeSawHillModel" ⟨"SeeSawHillModel", "corkOf", "(I)I"⟩ ⟨"SeeSawHillModel", "corkOf", "(I)I"⟩ ∈ WALL := q_of (m_sel (List.mem_of_getElem? (i := 76) rfl)) rfl
theorem qs_77 : Cond.selects "SeeSawHillModel" ⟨"SeeSawHillModel", "noThing", "(I)Z"⟩ ⟨"SeeSawHillModel", "noThing", "(I)Z"⟩ ∈ WALL := q_of (m_sel (List.mem_of_getElem? (i := 77) rfl)) rfl
theorem qs_78 : Cond.selects "SeeSawHillModel" ⟨"SeeSawHillModel", "isGone", "(I)Z"⟩ ⟨"SeeSawHillModel", "isGone", "(I)Z"⟩ ∈ WALL := q_of (m_sel (List.mem_of_getElem? (i := 78) rfl)) rfl
theorem qs_79 : Cond.selects "SeeSawHillModel" ⟨"SeeSawHillModel", "remembers", "()V"⟩ ⟨"SeeSawHillModel", "remembers", "()V"⟩ ∈ WALL := q_of (m_sel (List.mem_of_getElem? (i := 79) rfl)) rfl
theorem qs_8 : Cond.selects "SeeSawHill$HillReader" ⟨"SeeSawHill$HillReader", "readThing", "()Z"⟩ ⟨"SeeSawHill$HillReader", "readThing", "()Z"⟩ ∈ WALL := q_of (m_sel (List.mem_of_getElem? (i := 8) rfl)) rfl
theorem qs_80 : Cond.selects "SeeSawHillModel" ⟨"SeeSawHillModel", "tells", "(IIII)V"⟩ ⟨"SeeSawHillModel", "tells", "(IIII)V"⟩ ∈ WALL := q_of (m_sel (List.mem_of_getElem? (i := 80) rfl)) rfl
theorem qs_81 : Cond.selects "SeeSawHillModel" ⟨"SeeSawHillModel", "luredTo", "(I)I"⟩ ⟨"SeeSawHillModel", "luredTo", "(I)I"⟩ ∈ WALL := q_of (m_sel (List.mem_of_getElem? (i := 81) rfl)) rfl
theorem qs_82 : Cond.selects "SeeSawHillModel" ⟨"SeeSawHillModel", "keepsAll", "()V"⟩ ⟨"SeeSawHillModel", "keepsAll", "()V"⟩ ∈ WALL := q_of (m_sel (List.mem_of_getElem? (i := 82) rfl)) rfl
theorem qs_83 : Cond.selects "SeeSawHillModel" ⟨"SeeSawHillModel", "steals", "(I)I"⟩ ⟨"SeeSawHillModel", "steals", "(I)I"⟩ ∈ WALL := q_of (m_sel (List.mem_of_getElem? (i := 83) rfl)) rfl
theorem qs_84 : Cond.selects "SeeSawHillModel" ⟨"SeeSawHillModel", "dearestIn", "(I)I"⟩ ⟨"SeeSawHillModel", "dearestIn", "(I)I"⟩ ∈ WALL := q_of (m_sel (List.mem_of_getElem? (i := 84) rfl)) rfl
theorem qs_85 : Cond.selects "SeeSawHillModel" ⟨"SeeSawHillModel", "bringsBack", "()V"⟩ ⟨"SeeSawHillModel", "bringsBack", "()V"⟩ ∈ WALL := q_of (m_sel (List.mem_of_getElem? (i := 85) rfl)) rfl
theorem qs_86 : Cond.selects "SeeSawHillModel" ⟨"SeeSawHillModel", "worstOf", "(II)I"⟩ ⟨"SeeSawHillModel", "worstOf", "(II)I"⟩ ∈ WALL := q_of (m_sel (List.mem_of_getElem? (i := 86) rfl)) rfl
theorem qs_87 : Cond.selects "SeeSawHillModel" ⟨"SeeSawHillModel", "goneOnes", "()I"⟩ ⟨"SeeSawHillModel", "goneOnes", "()I"⟩ ∈ WALL := q_of (m_sel (List.mem_of_getElem? (i := 87) rfl)) rfl
theorem qs_88 : Cond.selects "SeeSawHillModel" ⟨"SeeSawHillModel", "oneWeek", "(Z)V"⟩ ⟨"SeeSawHillModel", "oneWeek", "(Z)V"⟩ ∈ WALL := q_of (m_sel (List.mem_of_getElem? (i := 88) rfl)) rfl
theorem qs_89 : Cond.selects "SeeSawHillModel" ⟨"SeeSawHillModel", "snowsAndSteals", "(Z)V"⟩ ⟨"SeeSawHillModel", "snowsAndSteals", "(Z)V"⟩ ∈ WALL := q_of (m_sel (List.mem_of_getElem? (i := 89) rfl)) rfl
theorem qs_9 : Cond.selects "SeeSawHill$HillReader" ⟨"SeeSawHill$HillReader", "readOfHouse", "(I)Z"⟩ ⟨"SeeSawHill$HillReader", "readOfHouse", "(I)Z"⟩ ∈ WALL := q_of (m_sel (List.mem_of_getElem? (i := 9) rfl)) rfl
theorem qs_90 : Cond.selects "SeeSawHillModel" ⟨"SeeSawHillModel", "drawn", "(I)I"⟩ ⟨"SeeSawHillModel", "drawn", "(I)I"⟩ ∈ WALL := q_of (m_sel (List.mem_of_getElem? (i := 90) rfl)) rfl
theorem qs_91 : Cond.selects "SeeSawHillModel" ⟨"SeeSawHillModel", "ages", "(I)V"⟩ ⟨"SeeSawHillModel", "ages", "(I)V"⟩ ∈ WALL := q_of (m_sel (List.mem_of_getElem? (i := 91) rfl)) rfl
theorem qs_92 : Cond.selects "SeeSawHillModel" ⟨"SeeSawHillModel", "goesAhead", "(I)V"⟩ ⟨"SeeSawHillModel", "goesAhead", "(I)V"⟩ ∈ WALL := q_of (m_sel (List.mem_of_getElem? (i := 92) rfl)) rfl
theorem qs_93 : Cond.selects "SeeSawHillModel" ⟨"SeeSawHillModel", "isPoor", "()Z"⟩ ⟨"SeeSawHillModel", "isPoor", "()Z"⟩ ∈ WALL := q_of (m_sel (List.mem_of_getElem? (i := 93) rfl)) rfl
theorem qs_94 : Cond.selects "SeeSawHillModel" ⟨"SeeSawHillModel", "breaksIn", "(I)I"⟩ ⟨"SeeSawHillModel", "breaksIn", "(I)I"⟩ ∈ WALL := q_of (m_sel (List.mem_of_getElem? (i := 94) rfl)) rfl
theorem qs_95 : Cond.selects "SeeSawHillModel" ⟨"SeeSawHillModel", "moreBehind", "(II)I"⟩ ⟨"SeeSawHillModel", "moreBehind", "(II)I"⟩ ∈ WALL := q_of (m_sel (List.mem_of_getElem? (i := 95) rfl)) rfl
theorem qs_96 : Cond.selects "SeeSawHillModel" ⟨"SeeSawHillModel", "thingsOf", "(I)I"⟩ ⟨"SeeSawHillModel", "thingsOf", "(I)I"⟩ ∈ WALL := q_of (m_sel (List.mem_of_getElem? (i := 96) rfl)) rfl
theorem qs_97 : Cond.selects "SeeSawHillModel" ⟨"SeeSawHillModel", "carriedTo", "(IIZ)I"⟩ ⟨"SeeSawHillModel", "carriedTo", "(IIZ)I"⟩ ∈ WALL := q_of (m_sel (List.mem_of_getElem? (i := 97) rfl)) rfl
theorem qs_98 : Cond.selects "SeeSawHillModel" ⟨"SeeSawHillModel", "laysDiffer", "(I)V"⟩ ⟨"SeeSawHillModel", "laysDiffer", "(I)V"⟩ ∈ WALL := q_of (m_sel (List.mem_of_getElem? (i := 98) rfl)) rfl
theorem qs_99 : Cond.selects "SeeSawHillModel" ⟨"SeeSawHillModel", "differBy", "(III)I"⟩ ⟨"SeeSawHillModel", "differBy", "(III)I"⟩ ∈ WALL := q_of (m_sel (List.mem_of_getElem? (i := 99) rfl)) rfl
