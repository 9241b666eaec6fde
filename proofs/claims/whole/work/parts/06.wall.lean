section WALLS
/-- the tables' words that a callee may be given: every method's words are its own code's and these -/
def WALL : List Cond := lw_tbl.filter goodWord
theorem tl {w c : Cond} (h : w ∈ WALL) : w ∈ c :: WALL := List.mem_cons_of_mem _ h
theorem q_of {w : Cond} (h : w ∈ lw_tbl) (g : goodWord w = true) : w ∈ WALL := List.mem_filter.mpr ⟨h, g⟩
theorem m_sel {w : Cond} (h : w ∈ k2_sels lw_privs) : w ∈ lw_tbl := List.mem_append_left _ h
theorem m_tb {w : Cond} (h : w ∈ tables_1) : w ∈ lw_tbl := List.mem_append_right _ h
theorem m_t1 {w : Cond} (h : w ∈ tables_1_1) : w ∈ lw_tbl := m_tb (List.mem_append_left _ h)
theorem m_t2 {w : Cond} (h : w ∈ tables_1_2) : w ∈ lw_tbl := m_tb (List.mem_append_right _ (List.mem_append_left _ h))
theorem m_t3 {w : Cond} (h : w ∈ tables_1_3) : w ∈ lw_tbl := m_tb (List.mem_append_right _ (List.mem_append_right _ (List.mem_append_left _ h)))
theorem m_t4 {w : Cond} (h : w ∈ tables_1_4) : w ∈ lw_tbl := m_tb (List.mem_append_right _ (List.mem_append_right _ (List.mem_append_right _ (List.mem_append_left _ h))))
theorem m_t5 {w : Cond} (h : w ∈ tables_1_5) : w ∈ lw_tbl := m_tb (List.mem_append_right _ (List.mem_append_right _ (List.mem_append_right _ (List.mem_append_right _ (List.mem_append_left _ h)))))
theorem m_t6 {w : Cond} (h : w ∈ tables_1_6) : w ∈ lw_tbl := m_tb (List.mem_append_right _ (List.mem_append_right _ (List.mem_append_right _ (List.mem_append_right _ (List.mem_append_right _ (List.mem_append_left _ h))))))
theorem m_t7 {w : Cond} (h : w ∈ tables_1_7) : w ∈ lw_tbl := m_tb (List.mem_append_right _ (List.mem_append_right _ (List.mem_append_right _ (List.mem_append_right _ (List.mem_append_right _ (List.mem_append_right _ (List.mem_append_left _ h)))))))
theorem m_t8 {w : Cond} (h : w ∈ tables_1_8) : w ∈ lw_tbl := m_tb (List.mem_append_right _ (List.mem_append_right _ (List.mem_append_right _ (List.mem_append_right _ (List.mem_append_right _ (List.mem_append_right _ (List.mem_append_right _ (List.mem_append_left _ h))))))))
theorem m_t9 {w : Cond} (h : w ∈ tables_1_9) : w ∈ lw_tbl := m_tb (List.mem_append_right _ (List.mem_append_right _ (List.mem_append_right _ (List.mem_append_right _ (List.mem_append_right _ (List.mem_append_right _ (List.mem_append_right _ (List.mem_append_right _ h))))))))
theorem g_wall {c w : Cond} (h : w ∈ WALL) : w ∈ c :: WALL ∧ ((w.onTables && w.keeps) = true ∨ ∃ ty, w = .arrayClass ty) := ⟨tl h, good_of_word (List.mem_filter.mp h).2⟩
theorem g_all {c : Cond} {ws : List Cond} (h : ∀ w ∈ ws, w ∈ WALL) : GoodIn (c :: WALL) ws := fun w hw => g_wall (h w hw)
theorem gV {c : Cond} {own C : String} {idx ml : Nat} {y : MethodName} {cc : ByteArray} {ret : Option FieldType} (h1 : Cond.methodLink own idx y ∈ WALL) (h2 : Cond.instanceMethod y ∈ WALL) (h3 : Cond.selects C y y ∈ WALL) (h4 : Cond.initialized C ∈ WALL) (h5 : Cond.code y cc ml ret ∈ WALL) : GoodIn (c :: WALL) (wsV own idx C y (Cond.code y cc ml ret :: WALL)) := by
  refine g_all fun w hw => ?_
  simp only [wsV, List.cons_append, List.nil_append, List.mem_cons] at hw
  rcases hw with rfl | rfl | rfl | rfl | rfl | hw <;> assumption
theorem gS {c : Cond} {own : String} {idx ml : Nat} {y : MethodName} {cc : ByteArray} {ret : Option FieldType} (h1 : Cond.methodLink own idx y ∈ WALL) (h2 : Cond.static y ∈ WALL) (h4 : Cond.initialized y.cls ∈ WALL) (h5 : Cond.code y cc ml ret ∈ WALL) : GoodIn (c :: WALL) (va_wsS own idx y (Cond.code y cc ml ret :: WALL)) := by
  refine g_all fun w hw => ?_
  simp only [va_wsS, List.cons_append, List.nil_append, List.mem_cons] at hw
  rcases hw with rfl | rfl | rfl | rfl | hw <;> assumption
theorem gU {c : Cond} {own C owner : String} {idx ml : Nat} {x y : MethodName} {cc : ByteArray} {ret : Option FieldType} (h1 : Cond.methodLink own idx x ∈ WALL) (h2 : Cond.sameMethod x.cls owner x.name x.desc ∈ WALL) (h3 : Cond.selects C x y ∈ WALL) (h4 : Cond.instanceMethod y ∈ WALL) (h5 : Cond.initialized y.cls ∈ WALL) (h6 : Cond.code y cc ml ret ∈ WALL) : GoodIn (c :: WALL) (va_wsU own idx C owner x y (Cond.code y cc ml ret :: WALL)) := by
  refine g_all fun w hw => ?_
  simp only [va_wsU, List.cons_append, List.nil_append, List.mem_cons] at hw
  rcases hw with rfl | rfl | rfl | rfl | rfl | rfl | hw <;> assumption
end WALLS
theorem iW0_X1 : ∀ j : Nat, j < 2 → u_lay RX1 TX1 j ∈ WALL := by
  intro j hj
  match j, hj with
  | 0, _ => exact q_of (m_t1 (List.mem_of_getElem? (i := 201) rfl)) rfl
  | 1, _ => exact q_of (m_t1 (List.mem_of_getElem? (i := 203) rfl)) rfl
  | j + 2, h => exact absurd h (by omega)
theorem iW_X1 {c : Cond} : ∀ w ∈ u_ws RX1 TX1 2, w ∈ c :: WALL := by
  intro w hw
  obtain ⟨j, hj, rfl⟩ := List.mem_map.mp hw
  exact tl (iW0_X1 j (List.mem_range.mp hj))
theorem iW0_X2 : ∀ j : Nat, j < 4 → u_lay RX2 TX2 j ∈ WALL := by
  intro j hj
  match j, hj with
  | 0, _ => exact q_of (m_t2 (List.mem_of_getElem? (i := 21) rfl)) rfl
  | 1, _ => exact q_of (m_t2 (List.mem_of_getElem? (i := 23) rfl)) rfl
  | 2, _ => exact q_of (m_t2 (List.mem_of_getElem? (i := 25) rfl)) rfl
  | 3, _ => exact q_of (m_t2 (List.mem_of_getElem? (i := 27) rfl)) rfl
  | j + 4, h => exact absurd h (by omega)
theorem iW_X2 {c : Cond} : ∀ w ∈ u_ws RX2 TX2 4, w ∈ c :: WALL := by
  intro w hw
  obtain ⟨j, hj, rfl⟩ := List.mem_map.mp hw
  exact tl (iW0_X2 j (List.mem_range.mp hj))
theorem iW0_X3 : ∀ j : Nat, j < 20 → u_lay RX3 TX3 j ∈ WALL := by
  intro j hj
  match j, hj with
  | 0, _ => exact q_of (m_t1 (List.mem_of_getElem? (i := 121) rfl)) rfl
  | 1, _ => exact q_of (m_t1 (List.mem_of_getElem? (i := 123) rfl)) rfl
  | 2, _ => exact q_of (m_t1 (List.mem_of_getElem? (i := 125) rfl)) rfl
  | 3, _ => exact q_of (m_t1 (List.mem_of_getElem? (i := 127) rfl)) rfl
  | 4, _ => exact q_of (m_t1 (List.mem_of_getElem? (i := 129) rfl)) rfl
  | 5, _ => exact q_of (m_t1 (List.mem_of_getElem? (i := 131) rfl)) rfl
  | 6, _ => exact q_of (m_t1 (List.mem_of_getElem? (i := 133) rfl)) rfl
  | 7, _ => exact q_of (m_t1 (List.mem_of_getElem? (i := 135) rfl)) rfl
  | 8, _ => exact q_of (m_t1 (List.mem_of_getElem? (i := 137) rfl)) rfl
  | 9, _ => exact q_of (m_t1 (List.mem_of_getElem? (i := 139) rfl)) rfl
  | 10, _ => exact q_of (m_t1 (List.mem_of_getElem? (i := 141) rfl)) rfl
  | 11, _ => exact q_of (m_t1 (List.mem_of_getElem? (i := 143) rfl)) rfl
  | 12, _ => exact q_of (m_t1 (List.mem_of_getElem? (i := 145) rfl)) rfl
  | 13, _ => exact q_of (m_t1 (List.mem_of_getElem? (i := 147) rfl)) rfl
  | 14, _ => exact q_of (m_t1 (List.mem_of_getElem? (i := 149) rfl)) rfl
  | 15, _ => exact q_of (m_t1 (List.mem_of_getElem? (i := 151) rfl)) rfl
  | 16, _ => exact q_of (m_t1 (List.mem_of_getElem? (i := 153) rfl)) rfl
  | 17, _ => exact q_of (m_t1 (List.mem_of_getElem? (i := 155) rfl)) rfl
  | 18, _ => exact q_of (m_t1 (List.mem_of_getElem? (i := 157) rfl)) rfl
  | 19, _ => exact q_of (m_t1 (List.mem_of_getElem? (i := 159) rfl)) rfl
  | j + 20, h => exact absurd h (by omega)
theorem iW_X3 {c : Cond} : ∀ w ∈ u_ws RX3 TX3 20, w ∈ c :: WALL := by
  intro w hw
  obtain ⟨j, hj, rfl⟩ := List.mem_map.mp hw
  exact tl (iW0_X3 j (List.mem_range.mp hj))
theorem iW0_X4 : ∀ j : Nat, j < 4 → u_lay RX4 TX4 j ∈ WALL := by
  intro j hj
  match j, hj with
  | 0, _ => exact q_of (m_t1 (List.mem_of_getElem? (i := 229) rfl)) rfl
  | 1, _ => exact q_of (m_t1 (List.mem_of_getElem? (i := 231) rfl)) rfl
  | 2, _ => exact q_of (m_t1 (List.mem_of_getElem? (i := 233) rfl)) rfl
  | 3, _ => exact q_of (m_t1 (List.mem_of_getElem? (i := 227) rfl)) rfl
  | j + 4, h => exact absurd h (by omega)
theorem iW_X4 {c : Cond} : ∀ w ∈ u_ws RX4 TX4 4, w ∈ c :: WALL := by
  intro w hw
  obtain ⟨j, hj, rfl⟩ := List.mem_map.mp hw
  exact tl (iW0_X4 j (List.mem_range.mp hj))
theorem iW0_X5 : ∀ j : Nat, j < 7 → u_lay RX5 TX5 j ∈ WALL := by
  intro j hj
  match j, hj with
  | 0, _ => exact q_of (m_t1 (List.mem_of_getElem? (i := 177) rfl)) rfl
  | 1, _ => exact q_of (m_t1 (List.mem_of_getElem? (i := 179) rfl)) rfl
  | 2, _ => exact q_of (m_t1 (List.mem_of_getElem? (i := 181) rfl)) rfl
  | 3, _ => exact q_of (m_t1 (List.mem_of_getElem? (i := 183) rfl)) rfl
  | 4, _ => exact q_of (m_t1 (List.mem_of_getElem? (i := 185) rfl)) rfl
  | 5, _ => exact q_of (m_t1 (List.mem_of_getElem? (i := 187) rfl)) rfl
  | 6, _ => exact q_of (m_t1 (List.mem_of_getElem? (i := 189) rfl)) rfl
  | j + 7, h => exact absurd h (by omega)
theorem iW_X5 {c : Cond} : ∀ w ∈ u_ws RX5 TX5 7, w ∈ c :: WALL := by
  intro w hw
  obtain ⟨j, hj, rfl⟩ := List.mem_map.mp hw
  exact tl (iW0_X5 j (List.mem_range.mp hj))
theorem iW0_X6 : ∀ j : Nat, j < 4 → u_lay RX6 TX6 j ∈ WALL := by
  intro j hj
  match j, hj with
  | 0, _ => exact q_of (m_t2 (List.mem_of_getElem? (i := 5) rfl)) rfl
  | 1, _ => exact q_of (m_t2 (List.mem_of_getElem? (i := 6) rfl)) rfl
  | 2, _ => exact q_of (m_t2 (List.mem_of_getElem? (i := 7) rfl)) rfl
  | 3, _ => exact q_of (m_t2 (List.mem_of_getElem? (i := 3) rfl)) rfl
  | j + 4, h => exact absurd h (by omega)
theorem iW_X6 {c : Cond} : ∀ w ∈ u_ws RX6 TX6 4, w ∈ c :: WALL := by
  intro w hw
  obtain ⟨j, hj, rfl⟩ := List.mem_map.mp hw
  exact tl (iW0_X6 j (List.mem_range.mp hj))
theorem iW0_X8 : ∀ j : Nat, j < 4 → u_lay RX8 TX8 j ∈ WALL := by
  intro j hj
  match j, hj with
  | 0, _ => exact q_of (m_t2 (List.mem_of_getElem? (i := 47) rfl)) rfl
  | 1, _ => exact q_of (m_t2 (List.mem_of_getElem? (i := 49) rfl)) rfl
  | 2, _ => exact q_of (m_t2 (List.mem_of_getElem? (i := 51) rfl)) rfl
  | 3, _ => exact q_of (m_t2 (List.mem_of_getElem? (i := 53) rfl)) rfl
  | j + 4, h => exact absurd h (by omega)
theorem iW_X8 {c : Cond} : ∀ w ∈ u_ws RX8 TX8 4, w ∈ c :: WALL := by
  intro w hw
  obtain ⟨j, hj, rfl⟩ := List.mem_map.mp hw
  exact tl (iW0_X8 j (List.mem_range.mp hj))
theorem iW0_X10 : ∀ j : Nat, j < 4 → u_lay RX10 TX10 j ∈ WALL := by
  intro j hj
  match j, hj with
  | 0, _ => exact q_of (m_t1 (List.mem_of_getElem? (i := 49) rfl)) rfl
  | 1, _ => exact q_of (m_t1 (List.mem_of_getElem? (i := 51) rfl)) rfl
  | 2, _ => exact q_of (m_t1 (List.mem_of_getElem? (i := 53) rfl)) rfl
  | 3, _ => exact q_of (m_t1 (List.mem_of_getElem? (i := 55) rfl)) rfl
  | j + 4, h => exact absurd h (by omega)
theorem iW_X10 {c : Cond} : ∀ w ∈ u_ws RX10 TX10 4, w ∈ c :: WALL := by
  intro w hw
  obtain ⟨j, hj, rfl⟩ := List.mem_map.mp hw
  exact tl (iW0_X10 j (List.mem_range.mp hj))
theorem iW0_X11 : ∀ j : Nat, j < 20 → u_lay RX11 TX11 j ∈ WALL := by
  intro j hj
  match j, hj with
  | 0, _ => exact q_of (m_t2 (List.mem_of_getElem? (i := 76) rfl)) rfl
  | 1, _ => exact q_of (m_t2 (List.mem_of_getElem? (i := 78) rfl)) rfl
  | 2, _ => exact q_of (m_t2 (List.mem_of_getElem? (i := 80) rfl)) rfl
  | 3, _ => exact q_of (m_t2 (List.mem_of_getElem? (i := 82) rfl)) rfl
  | 4, _ => exact q_of (m_t2 (List.mem_of_getElem? (i := 84) rfl)) rfl
  | 5, _ => exact q_of (m_t2 (List.mem_of_getElem? (i := 86) rfl)) rfl
  | 6, _ => exact q_of (m_t2 (List.mem_of_getElem? (i := 88) rfl)) rfl
  | 7, _ => exact q_of (m_t2 (List.mem_of_getElem? (i := 90) rfl)) rfl
  | 8, _ => exact q_of (m_t2 (List.mem_of_getElem? (i := 92) rfl)) rfl
  | 9, _ => exact q_of (m_t2 (List.mem_of_getElem? (i := 94) rfl)) rfl
  | 10, _ => exact q_of (m_t2 (List.mem_of_getElem? (i := 96) rfl)) rfl
  | 11, _ => exact q_of (m_t2 (List.mem_of_getElem? (i := 98) rfl)) rfl
  | 12, _ => exact q_of (m_t2 (List.mem_of_getElem? (i := 100) rfl)) rfl
  | 13, _ => exact q_of (m_t2 (List.mem_of_getElem? (i := 102) rfl)) rfl
  | 14, _ => exact q_of (m_t2 (List.mem_of_getElem? (i := 104) rfl)) rfl
  | 15, _ => exact q_of (m_t2 (List.mem_of_getElem? (i := 106) rfl)) rfl
  | 16, _ => exact q_of (m_t2 (List.mem_of_getElem? (i := 108) rfl)) rfl
  | 17, _ => exact q_of (m_t2 (List.mem_of_getElem? (i := 110) rfl)) rfl
  | 18, _ => exact q_of (m_t2 (List.mem_of_getElem? (i := 112) rfl)) rfl
  | 19, _ => exact q_of (m_t2 (List.mem_of_getElem? (i := 114) rfl)) rfl
  | j + 20, h => exact absurd h (by omega)
theorem iW_X11 {c : Cond} : ∀ w ∈ u_ws RX11 TX11 20, w ∈ c :: WALL := by
  intro w hw
  obtain ⟨j, hj, rfl⟩ := List.mem_map.mp hw
  exact tl (iW0_X11 j (List.mem_range.mp hj))
theorem iW0_X12 : ∀ j : Nat, j < 20 → u_lay RX12 TX12 j ∈ WALL := by
  intro j hj
  match j, hj with
  | 0, _ => exact q_of (m_t6 (List.mem_of_getElem? (i := 88) rfl)) rfl
  | 1, _ => exact q_of (m_t6 (List.mem_of_getElem? (i := 90) rfl)) rfl
  | 2, _ => exact q_of (m_t6 (List.mem_of_getElem? (i := 92) rfl)) rfl
  | 3, _ => exact q_of (m_t6 (List.mem_of_getElem? (i := 94) rfl)) rfl
  | 4, _ => exact q_of (m_t6 (List.mem_of_getElem? (i := 96) rfl)) rfl
  | 5, _ => exact q_of (m_t6 (List.mem_of_getElem? (i := 98) rfl)) rfl
  | 6, _ => exact q_of (m_t6 (List.mem_of_getElem? (i := 100) rfl)) rfl
  | 7, _ => exact q_of (m_t6 (List.mem_of_getElem? (i := 102) rfl)) rfl
  | 8, _ => exact q_of (m_t6 (List.mem_of_getElem? (i := 104) rfl)) rfl
  | 9, _ => exact q_of (m_t6 (List.mem_of_getElem? (i := 106) rfl)) rfl
  | 10, _ => exact q_of (m_t6 (List.mem_of_getElem? (i := 108) rfl)) rfl
  | 11, _ => exact q_of (m_t6 (List.mem_of_getElem? (i := 110) rfl)) rfl
  | 12, _ => exact q_of (m_t6 (List.mem_of_getElem? (i := 112) rfl)) rfl
  | 13, _ => exact q_of (m_t6 (List.mem_of_getElem? (i := 114) rfl)) rfl
  | 14, _ => exact q_of (m_t6 (List.mem_of_getElem? (i := 116) rfl)) rfl
  | 15, _ => exact q_of (m_t6 (List.mem_of_getElem? (i := 118) rfl)) rfl
  | 16, _ => exact q_of (m_t6 (List.mem_of_getElem? (i := 120) rfl)) rfl
  | 17, _ => exact q_of (m_t6 (List.mem_of_getElem? (i := 122) rfl)) rfl
  | 18, _ => exact q_of (m_t6 (List.mem_of_getElem? (i := 124) rfl)) rfl
  | 19, _ => exact q_of (m_t6 (List.mem_of_getElem? (i := 126) rfl)) rfl
  | j + 20, h => exact absurd h (by omega)
theorem iW_X12 {c : Cond} : ∀ w ∈ u_ws RX12 TX12 20, w ∈ c :: WALL := by
  intro w hw
  obtain ⟨j, hj, rfl⟩ := List.mem_map.mp hw
  exact tl (iW0_X12 j (List.mem_range.mp hj))
theorem q_math_max : Cond.code Lib.Math.max.name Lib.Math.max.code 2 (some .int) ∈ WALL := q_of (m_t2 (List.mem_of_getElem? (i := 174) (by decide +kernel))) (by decide +kernel)
theorem q_math_min : Cond.code Lib.Math.min.name Lib.Math.min.code 2 (some .int) ∈ WALL := q_of (m_t2 (List.mem_of_getElem? (i := 171) (by decide +kernel))) (by decide +kernel)
theorem q_math_abs : Cond.code Lib.Math.abs.name Lib.Math.abs.code 1 (some .int) ∈ WALL := q_of (m_t5 (List.mem_of_getElem? (i := 79) (by decide +kernel))) (by decide +kernel)
