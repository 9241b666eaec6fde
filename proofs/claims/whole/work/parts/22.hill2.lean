abbrev wX3_copyFrom : List Cond := Cond.code yX3_copyFrom cX3_copyFrom 3 none :: WALL
def m_X3_copyFrom (n : Nat) (v0 : St) (v1 : St) : Option (St) :=
nm (su v0 0 0 (v1 0 0)) (fun u1 =>
nm (su u1 1 0 (v1 1 0)) (fun u2 =>
nm (su u2 2 0 (v1 2 0)) (fun u3 =>
nm (su u3 3 0 (v1 3 0)) (fun u4 =>
nm (su u4 4 0 (v1 4 0)) (fun u5 =>
nm (su u5 5 0 (v1 5 0)) (fun u6 =>
nm (su u6 6 0 (v1 6 0)) (fun u7 =>
nm (su u7 7 0 (v1 7 0)) (fun u8 =>
nm (su u8 8 0 (v1 8 0)) (fun u9 =>
bd (lp (fun (rc20 : Int32 × St → Option (St)) (x20l : Int32 × St) =>
(if 5 ≤ x20l.1 then
some x20l.2
else
(if ix x20l.1 5 then (if ix x20l.1 5 then nm (su x20l.2 11 (x20l.1).toNatClampNeg (zb (v1 11 (x20l.1).toNatClampNeg))) (fun u23 =>
(if ix x20l.1 5 then (if ix x20l.1 5 then nm (su u23 12 (x20l.1).toNatClampNeg (zb (v1 12 (x20l.1).toNatClampNeg))) (fun u26 =>
rc20 ((x20l.1 + 1), u26)) else none) else none)) else none) else none))) n (0, u9)) (fun (t10 : St) =>
nm (sA t10 9 (va_cpy (v1 9) (t10 9) 0 0 5)) (fun u11 =>
nm (sA u11 10 (va_cpy (v1 10) (u11 10) 0 0 5)) (fun u12 =>
nm (sA u12 13 (va_cpy (v1 13) (u12 13) 0 0 10)) (fun u13 =>
nm (sA u13 14 (va_cpy (v1 14) (u13 14) 0 0 10)) (fun u14 =>
nm (sA u14 15 (va_cpy (v1 15) (u14 15) 0 0 10)) (fun u15 =>
nm (sA u15 16 (va_cpy (v1 16) (u15 16) 0 0 10)) (fun u16 =>
nm (sA u16 17 (va_cpy (v1 17) (u16 17) 0 0 10)) (fun u17 =>
nm (sA u17 18 (va_cpy (v1 18) (u17 18) 0 0 10)) (fun u18 =>
nm (sA u18 19 (va_cpy (v1 19) (u18 19) 0 0 10)) (fun u19 =>
some u19)))))))))))))))))))
set_option maxHeartbeats 4000000 in
set_option maxRecDepth 100000 in
theorem c_X3_copyFrom (l : Launch) (D : va_G) (y : Nat → ClassId) (ek : EK) (n : Nat) (a0 : Nat → Nat) (a1 : Nat → Nat) (v0 : St) (v1 : St) (res : St) (hf : m_X3_copyFrom n v0 v1 = some res) : CV l yX3_copyFrom wX3_copyFrom { frames := 1, cells := 0, slots := 0, locals := 60 } D y ek [.ref (a0 0), .ref (a1 0)] [bX3 y a0 v0, bX3 y a1 v1] [bX3 y a0 res, bX3 y a1 v1] 0 0 := by
  unfold m_X3_copyFrom at hf
  refine cv_of (cc := cX3_copyFrom) (maxL := 3) (by decide) rfl rfl (Nat.le_of_ble_eq_true rfl) ?_
  intro p e s m below meth c Q A F hret
  refine a_lv (lv' := [(0, .ref (a0 0)), (1, .ref (a1 0))]) rfl ?_
  refine a_aloadn (pc := 0) (j := 0) F dX3_copyFrom_0 rfl rfl ?_
  refine a_aloadn (pc := 1) (j := 1) F dX3_copyFrom_1 rfl rfl ?_
  refine a_get (pc := 2) (kb := 1) (j := 0) (f := 0) F iW_X3 rfl rfl rfl (by decide) (tl q1_66) (fun _ h => h) rfl dX3_copyFrom_2 ?_
  obtain ⟨u1, eu1, hf⟩ := nm_some hf
  refine a_put (pc := 5) (kb := 0) (j := 0) (f := 0) (ty := .int) (bs' := [bX3 y a0 u1, bX3 y a1 v1]) F iW_X3 rfl rfl rfl (by decide) (tl q1_66) (fun _ h => h) tyX3 tyX3_ok nmX3 rfl rfl rfl rfl (Nat.le_of_ble_eq_true rfl) (by rw [eu1]; rfl) dX3_copyFrom_5 ?_
  refine a_aloadn (pc := 8) (j := 0) F dX3_copyFrom_8 rfl rfl ?_
  refine a_aloadn (pc := 9) (j := 1) F dX3_copyFrom_9 rfl rfl ?_
  refine a_get (pc := 10) (kb := 1) (j := 0) (f := 1) F iW_X3 rfl rfl rfl (by decide) (tl q1_69) (fun _ h => h) rfl dX3_copyFrom_10 ?_
  obtain ⟨u2, eu2, hf⟩ := nm_some hf
  refine a_put (pc := 13) (kb := 0) (j := 0) (f := 1) (ty := .int) (bs' := [bX3 y a0 u2, bX3 y a1 v1]) F iW_X3 rfl rfl rfl (by decide) (tl q1_69) (fun _ h => h) tyX3 tyX3_ok nmX3 rfl rfl rfl rfl (Nat.le_of_ble_eq_true rfl) (by rw [eu2]; rfl) dX3_copyFrom_13 ?_
  refine a_aloadn (pc := 16) (j := 0) F dX3_copyFrom_16 rfl rfl ?_
  refine a_aloadn (pc := 17) (j := 1) F dX3_copyFrom_17 rfl rfl ?_
  refine a_get (pc := 18) (kb := 1) (j := 0) (f := 2) F iW_X3 rfl rfl rfl (by decide) (tl q1_73) (fun _ h => h) rfl dX3_copyFrom_18 ?_
  obtain ⟨u3, eu3, hf⟩ := nm_some hf
  refine a_put (pc := 21) (kb := 0) (j := 0) (f := 2) (ty := .int) (bs' := [bX3 y a0 u3, bX3 y a1 v1]) F iW_X3 rfl rfl rfl (by decide) (tl q1_73) (fun _ h => h) tyX3 tyX3_ok nmX3 rfl rfl rfl rfl (Nat.le_of_ble_eq_true rfl) (by rw [eu3]; rfl) dX3_copyFrom_21 ?_
  refine a_aloadn (pc := 24) (j := 0) F dX3_copyFrom_24 rfl rfl ?_
  refine a_aloadn (pc := 25) (j := 1) F dX3_copyFrom_25 rfl rfl ?_
  refine a_get (pc := 26) (kb := 1) (j := 0) (f := 3) F iW_X3 rfl rfl rfl (by decide) (tl q1_76) (fun _ h => h) rfl dX3_copyFrom_26 ?_
  obtain ⟨u4, eu4, hf⟩ := nm_some hf
  refine a_put (pc := 29) (kb := 0) (j := 0) (f := 3) (ty := .int) (bs' := [bX3 y a0 u4, bX3 y a1 v1]) F iW_X3 rfl rfl rfl (by decide) (tl q1_76) (fun _ h => h) tyX3 tyX3_ok nmX3 rfl rfl rfl rfl (Nat.le_of_ble_eq_true rfl) (by rw [eu4]; rfl) dX3_copyFrom_29 ?_
  refine a_aloadn (pc := 32) (j := 0) F dX3_copyFrom_32 rfl rfl ?_
  refine a_aloadn (pc := 33) (j := 1) F dX3_copyFrom_33 rfl rfl ?_
  refine a_get (pc := 34) (kb := 1) (j := 0) (f := 4) F iW_X3 rfl rfl rfl (by decide) (tl q1_80) (fun _ h => h) rfl dX3_copyFrom_34 ?_
  obtain ⟨u5, eu5, hf⟩ := nm_some hf
  refine a_put (pc := 37) (kb := 0) (j := 0) (f := 4) (ty := .int) (bs' := [bX3 y a0 u5, bX3 y a1 v1]) F iW_X3 rfl rfl rfl (by decide) (tl q1_80) (fun _ h => h) tyX3 tyX3_ok nmX3 rfl rfl rfl rfl (Nat.le_of_ble_eq_true rfl) (by rw [eu5]; rfl) dX3_copyFrom_37 ?_
  refine a_aloadn (pc := 40) (j := 0) F dX3_copyFrom_40 rfl rfl ?_
  refine a_aloadn (pc := 41) (j := 1) F dX3_copyFrom_41 rfl rfl ?_
  refine a_get (pc := 42) (kb := 1) (j := 0) (f := 5) F iW_X3 rfl rfl rfl (by decide) (tl q1_83) (fun _ h => h) rfl dX3_copyFrom_42 ?_
  obtain ⟨u6, eu6, hf⟩ := nm_some hf
  refine a_put (pc := 45) (kb := 0) (j := 0) (f := 5) (ty := .int) (bs' := [bX3 y a0 u6, bX3 y a1 v1]) F iW_X3 rfl rfl rfl (by decide) (tl q1_83) (fun _ h => h) tyX3 tyX3_ok nmX3 rfl rfl rfl rfl (Nat.le_of_ble_eq_true rfl) (by rw [eu6]; rfl) dX3_copyFrom_45 ?_
  refine a_aloadn (pc := 48) (j := 0) F dX3_copyFrom_48 rfl rfl ?_
  refine a_aloadn (pc := 49) (j := 1) F dX3_copyFrom_49 rfl rfl ?_
  refine a_get (pc := 50) (kb := 1) (j := 0) (f := 6) F iW_X3 rfl rfl rfl (by decide) (tl q1_86) (fun _ h => h) rfl dX3_copyFrom_50 ?_
  obtain ⟨u7, eu7, hf⟩ := nm_some hf
  refine a_put (pc := 53) (kb := 0) (j := 0) (f := 6) (ty := .int) (bs' := [bX3 y a0 u7, bX3 y a1 v1]) F iW_X3 rfl rfl rfl (by decide) (tl q1_86) (fun _ h => h) tyX3 tyX3_ok nmX3 rfl rfl rfl rfl (Nat.le_of_ble_eq_true rfl) (by rw [eu7]; rfl) dX3_copyFrom_53 ?_
  refine a_aloadn (pc := 56) (j := 0) F dX3_copyFrom_56 rfl rfl ?_
  refine a_aloadn (pc := 57) (j := 1) F dX3_copyFrom_57 rfl rfl ?_
  refine a_get (pc := 58) (kb := 1) (j := 0) (f := 7) F iW_X3 rfl rfl rfl (by decide) (tl q1_89) (fun _ h => h) rfl dX3_copyFrom_58 ?_
  obtain ⟨u8, eu8, hf⟩ := nm_some hf
  refine a_put (pc := 61) (kb := 0) (j := 0) (f := 7) (ty := .int) (bs' := [bX3 y a0 u8, bX3 y a1 v1]) F iW_X3 rfl rfl rfl (by decide) (tl q1_89) (fun _ h => h) tyX3 tyX3_ok nmX3 rfl rfl rfl rfl (Nat.le_of_ble_eq_true rfl) (by rw [eu8]; rfl) dX3_copyFrom_61 ?_
  refine a_aloadn (pc := 64) (j := 0) F dX3_copyFrom_64 rfl rfl ?_
  refine a_aloadn (pc := 65) (j := 1) F dX3_copyFrom_65 rfl rfl ?_
  refine a_get (pc := 66) (kb := 1) (j := 0) (f := 8) F iW_X3 rfl rfl rfl (by decide) (tl q1_91) (fun _ h => h) rfl dX3_copyFrom_66 ?_
  obtain ⟨u9, eu9, hf⟩ := nm_some hf
  refine a_put (pc := 69) (kb := 0) (j := 0) (f := 8) (ty := .int) (bs' := [bX3 y a0 u9, bX3 y a1 v1]) F iW_X3 rfl rfl rfl (by decide) (tl q1_91) (fun _ h => h) tyX3 tyX3_ok nmX3 rfl rfl rfl rfl (Nat.le_of_ble_eq_true rfl) (by rw [eu9]; rfl) dX3_copyFrom_69 ?_
  refine a_iconst (pc := 72) F dX3_copyFrom_72 kc_0 ?_
  refine a_istoren (pc := 73) (lv' := [(0, .ref (a0 0)), (1, .ref (a1 0)), (2, .int 0)]) F [1, 2, 0] dX3_copyFrom_73 rfl (by decide) rfl ?_
  refine a_join 109 (fun (t10 : St) => [(0, .ref (a0 0)), (1, .ref (a1 0))]) (fun (t10 : St) => []) (fun (t10 : St) => [bX3 y a0 t10, bX3 y a1 v1]) hf (fun t10 hf => ?_) (fun t10 hf J10 => ?_)
  · try dsimp only at hf ⊢
    refine a_aloadn (pc := 109) (j := 1) F dX3_copyFrom_109 rfl rfl ?_
    refine a_get (pc := 110) (kb := 1) (j := 0) (f := 9) F iW_X3 rfl rfl rfl (by decide) (tl q1_93) (fun _ h => h) rfl dX3_copyFrom_110 ?_
    refine a_iconst (pc := 113) F dX3_copyFrom_113 kc_0 ?_
    refine a_aloadn (pc := 114) (j := 0) F dX3_copyFrom_114 rfl rfl ?_
    refine a_get (pc := 115) (kb := 0) (j := 0) (f := 9) F iW_X3 rfl rfl rfl (by decide) (tl q1_93) (fun _ h => h) rfl dX3_copyFrom_115 ?_
    refine a_iconst (pc := 118) F dX3_copyFrom_118 kc_0 ?_
    refine a_iconst (pc := 119) F dX3_copyFrom_119 kc_5 ?_
    obtain ⟨u11, eu11, hf⟩ := nm_some hf
    refine a_copy (pc := 120) (kb := 1) (j := 1) (kb1 := 0) (j1 := 1) (ks := 0) (kd := 0) (kn := 5) (bs' := [bX3 y a0 u11, bX3 y a1 v1]) F (tl q2_145) (tl q2_147) (tl q2_146) (tl q1_16) rfl rfl rfl rfl (by decide) (by decide) (by decide) (by decide) (by decide) (by decide) (Nat.le_of_ble_eq_true rfl) (Nat.le_of_ble_eq_true rfl) (Nat.le_of_ble_eq_true rfl) (Nat.le_of_ble_eq_true rfl) (by rw [eu11]; rfl) dX3_copyFrom_120 ?_
    refine a_aloadn (pc := 123) (j := 1) F dX3_copyFrom_123 rfl rfl ?_
    refine a_get (pc := 124) (kb := 1) (j := 0) (f := 10) F iW_X3 rfl rfl rfl (by decide) (tl q1_95) (fun _ h => h) rfl dX3_copyFrom_124 ?_
    refine a_iconst (pc := 127) F dX3_copyFrom_127 kc_0 ?_
    refine a_aloadn (pc := 128) (j := 0) F dX3_copyFrom_128 rfl rfl ?_
    refine a_get (pc := 129) (kb := 0) (j := 0) (f := 10) F iW_X3 rfl rfl rfl (by decide) (tl q1_95) (fun _ h => h) rfl dX3_copyFrom_129 ?_
    refine a_iconst (pc := 132) F dX3_copyFrom_132 kc_0 ?_
    refine a_iconst (pc := 133) F dX3_copyFrom_133 kc_5 ?_
    obtain ⟨u12, eu12, hf⟩ := nm_some hf
    refine a_copy (pc := 134) (kb := 1) (j := 2) (kb1 := 0) (j1 := 2) (ks := 0) (kd := 0) (kn := 5) (bs' := [bX3 y a0 u12, bX3 y a1 v1]) F (tl q2_145) (tl q2_147) (tl q2_146) (tl q1_16) rfl rfl rfl rfl (by decide) (by decide) (by decide) (by decide) (by decide) (by decide) (Nat.le_of_ble_eq_true rfl) (Nat.le_of_ble_eq_true rfl) (Nat.le_of_ble_eq_true rfl) (Nat.le_of_ble_eq_true rfl) (by rw [eu12]; rfl) dX3_copyFrom_134 ?_
    refine a_aloadn (pc := 137) (j := 1) F dX3_copyFrom_137 rfl rfl ?_
    refine a_get (pc := 138) (kb := 1) (j := 0) (f := 13) F iW_X3 rfl rfl rfl (by decide) (tl q1_101) (fun _ h => h) rfl dX3_copyFrom_138 ?_
    refine a_iconst (pc := 141) F dX3_copyFrom_141 kc_0 ?_
    refine a_aloadn (pc := 142) (j := 0) F dX3_copyFrom_142 rfl rfl ?_
    refine a_get (pc := 143) (kb := 0) (j := 0) (f := 13) F iW_X3 rfl rfl rfl (by decide) (tl q1_101) (fun _ h => h) rfl dX3_copyFrom_143 ?_
    refine a_iconst (pc := 146) F dX3_copyFrom_146 kc_0 ?_
    refine a_bipush (pc := 147) F dX3_copyFrom_147 kb_10 ?_
    obtain ⟨u13, eu13, hf⟩ := nm_some hf
    refine a_copy (pc := 149) (kb := 1) (j := 5) (kb1 := 0) (j1 := 5) (ks := 0) (kd := 0) (kn := 10) (bs' := [bX3 y a0 u13, bX3 y a1 v1]) F (tl q2_145) (tl q2_147) (tl q2_146) (tl q1_16) rfl rfl rfl rfl (by decide) (by decide) (by decide) (by decide) (by decide) (by decide) (Nat.le_of_ble_eq_true rfl) (Nat.le_of_ble_eq_true rfl) (Nat.le_of_ble_eq_true rfl) (Nat.le_of_ble_eq_true rfl) (by rw [eu13]; rfl) dX3_copyFrom_149 ?_
    refine a_aloadn (pc := 152) (j := 1) F dX3_copyFrom_152 rfl rfl ?_
    refine a_get (pc := 153) (kb := 1) (j := 0) (f := 14) F iW_X3 rfl rfl rfl (by decide) (tl q1_104) (fun _ h => h) rfl dX3_copyFrom_153 ?_
    refine a_iconst (pc := 156) F dX3_copyFrom_156 kc_0 ?_
    refine a_aloadn (pc := 157) (j := 0) F dX3_copyFrom_157 rfl rfl ?_
    refine a_get (pc := 158) (kb := 0) (j := 0) (f := 14) F iW_X3 rfl rfl rfl (by decide) (tl q1_104) (fun _ h => h) rfl dX3_copyFrom_158 ?_
    refine a_iconst (pc := 161) F dX3_copyFrom_161 kc_0 ?_
    refine a_bipush (pc := 162) F dX3_copyFrom_162 kb_10 ?_
    obtain ⟨u14, eu14, hf⟩ := nm_some hf
    refine a_copy (pc := 164) (kb := 1) (j := 6) (kb1 := 0) (j1 := 6) (ks := 0) (kd := 0) (kn := 10) (bs' := [bX3 y a0 u14, bX3 y a1 v1]) F (tl q2_145) (tl q2_147) (tl q2_146) (tl q1_16) rfl rfl rfl rfl (by decide) (by decide) (by decide) (by decide) (by decide) (by decide) (Nat.le_of_ble_eq_true rfl) (Nat.le_of_ble_eq_true rfl) (Nat.le_of_ble_eq_true rfl) (Nat.le_of_ble_eq_true rfl) (by rw [eu14]; rfl) dX3_copyFrom_164 ?_
    refine a_aloadn (pc := 167) (j := 1) F dX3_copyFrom_167 rfl rfl ?_
    refine a_get (pc := 168) (kb := 1) (j := 0) (f := 15) F iW_X3 rfl rfl rfl (by decide) (tl q1_107) (fun _ h => h) rfl dX3_copyFrom_168 ?_
    refine a_iconst (pc := 171) F dX3_copyFrom_171 kc_0 ?_
    refine a_aloadn (pc := 172) (j := 0) F dX3_copyFrom_172 rfl rfl ?_
    refine a_get (pc := 173) (kb := 0) (j := 0) (f := 15) F iW_X3 rfl rfl rfl (by decide) (tl q1_107) (fun _ h => h) rfl dX3_copyFrom_173 ?_
    refine a_iconst (pc := 176) F dX3_copyFrom_176 kc_0 ?_
    refine a_bipush (pc := 177) F dX3_copyFrom_177 kb_10 ?_
    obtain ⟨u15, eu15, hf⟩ := nm_some hf
    refine a_copy (pc := 179) (kb := 1) (j := 7) (kb1 := 0) (j1 := 7) (ks := 0) (kd := 0) (kn := 10) (bs' := [bX3 y a0 u15, bX3 y a1 v1]) F (tl q2_145) (tl q2_147) (tl q2_146) (tl q1_16) rfl rfl rfl rfl (by decide) (by decide) (by decide) (by decide) (by decide) (by decide) (Nat.le_of_ble_eq_true rfl) (Nat.le_of_ble_eq_true rfl) (Nat.le_of_ble_eq_true rfl) (Nat.le_of_ble_eq_true rfl) (by rw [eu15]; rfl) dX3_copyFrom_179 ?_
    refine a_aloadn (pc := 182) (j := 1) F dX3_copyFrom_182 rfl rfl ?_
    refine a_get (pc := 183) (kb := 1) (j := 0) (f := 16) F iW_X3 rfl rfl rfl (by decide) (tl q1_110) (fun _ h => h) rfl dX3_copyFrom_183 ?_
    refine a_iconst (pc := 186) F dX3_copyFrom_186 kc_0 ?_
    refine a_aloadn (pc := 187) (j := 0) F dX3_copyFrom_187 rfl rfl ?_
    refine a_get (pc := 188) (kb := 0) (j := 0) (f := 16) F iW_X3 rfl rfl rfl (by decide) (tl q1_110) (fun _ h => h) rfl dX3_copyFrom_188 ?_
    refine a_iconst (pc := 191) F dX3_copyFrom_191 kc_0 ?_
    refine a_bipush (pc := 192) F dX3_copyFrom_192 kb_10 ?_
    obtain ⟨u16, eu16, hf⟩ := nm_some hf
    refine a_copy (pc := 194) (kb := 1) (j := 8) (kb1 := 0) (j1 := 8) (ks := 0) (kd := 0) (kn := 10) (bs' := [bX3 y a0 u16, bX3 y a1 v1]) F (tl q2_145) (tl q2_147) (tl q2_146) (tl q1_16) rfl rfl rfl rfl (by decide) (by decide) (by decide) (by decide) (by decide) (by decide) (Nat.le_of_ble_eq_true rfl) (Nat.le_of_ble_eq_true rfl) (Nat.le_of_ble_eq_true rfl) (Nat.le_of_ble_eq_true rfl) (by rw [eu16]; rfl) dX3_copyFrom_194 ?_
    refine a_aloadn (pc := 197) (j := 1) F dX3_copyFrom_197 rfl rfl ?_
    refine a_get (pc := 198) (kb := 1) (j := 0) (f := 17) F iW_X3 rfl rfl rfl (by decide) (tl q1_112) (fun _ h => h) rfl dX3_copyFrom_198 ?_
    refine a_iconst (pc := 201) F dX3_copyFrom_201 kc_0 ?_
    refine a_aloadn (pc := 202) (j := 0) F dX3_copyFrom_202 rfl rfl ?_
    refine a_get (pc := 203) (kb := 0) (j := 0) (f := 17) F iW_X3 rfl rfl rfl (by decide) (tl q1_112) (fun _ h => h) rfl dX3_copyFrom_203 ?_
    refine a_iconst (pc := 206) F dX3_copyFrom_206 kc_0 ?_
    refine a_bipush (pc := 207) F dX3_copyFrom_207 kb_10 ?_
    obtain ⟨u17, eu17, hf⟩ := nm_some hf
    refine a_copy (pc := 209) (kb := 1) (j := 9) (kb1 := 0) (j1 := 9) (ks := 0) (kd := 0) (kn := 10) (bs' := [bX3 y a0 u17, bX3 y a1 v1]) F (tl q2_145) (tl q2_147) (tl q2_146) (tl q1_16) rfl rfl rfl rfl (by decide) (by decide) (by decide) (by decide) (by decide) (by decide) (Nat.le_of_ble_eq_true rfl) (Nat.le_of_ble_eq_true rfl) (Nat.le_of_ble_eq_true rfl) (Nat.le_of_ble_eq_true rfl) (by rw [eu17]; rfl) dX3_copyFrom_209 ?_
    refine a_aloadn (pc := 212) (j := 1) F dX3_copyFrom_212 rfl rfl ?_
    refine a_get (pc := 213) (kb := 1) (j := 0) (f := 18) F iW_X3 rfl rfl rfl (by decide) (tl q1_115) (fun _ h => h) rfl dX3_copyFrom_213 ?_
    refine a_iconst (pc := 216) F dX3_copyFrom_216 kc_0 ?_
    refine a_aloadn (pc := 217) (j := 0) F dX3_copyFrom_217 rfl rfl ?_
    refine a_get (pc := 218) (kb := 0) (j := 0) (f := 18) F iW_X3 rfl rfl rfl (by decide) (tl q1_115) (fun _ h => h) rfl dX3_copyFrom_218 ?_
    refine a_iconst (pc := 221) F dX3_copyFrom_221 kc_0 ?_
    refine a_bipush (pc := 222) F dX3_copyFrom_222 kb_10 ?_
    obtain ⟨u18, eu18, hf⟩ := nm_some hf
    refine a_copy (pc := 224) (kb := 1) (j := 10) (kb1 := 0) (j1 := 10) (ks := 0) (kd := 0) (kn := 10) (bs' := [bX3 y a0 u18, bX3 y a1 v1]) F (tl q2_145) (tl q2_147) (tl q2_146) (tl q1_16) rfl rfl rfl rfl (by decide) (by decide) (by decide) (by decide) (by decide) (by decide) (Nat.le_of_ble_eq_true rfl) (Nat.le_of_ble_eq_true rfl) (Nat.le_of_ble_eq_true rfl) (Nat.le_of_ble_eq_true rfl) (by rw [eu18]; rfl) dX3_copyFrom_224 ?_
    refine a_aloadn (pc := 227) (j := 1) F dX3_copyFrom_227 rfl rfl ?_
    refine a_get (pc := 228) (kb := 1) (j := 0) (f := 19) F iW_X3 rfl rfl rfl (by decide) (tl q1_119) (fun _ h => h) rfl dX3_copyFrom_228 ?_
    refine a_iconst (pc := 231) F dX3_copyFrom_231 kc_0 ?_
    refine a_aloadn (pc := 232) (j := 0) F dX3_copyFrom_232 rfl rfl ?_
    refine a_get (pc := 233) (kb := 0) (j := 0) (f := 19) F iW_X3 rfl rfl rfl (by decide) (tl q1_119) (fun _ h => h) rfl dX3_copyFrom_233 ?_
    refine a_iconst (pc := 236) F dX3_copyFrom_236 kc_0 ?_
    refine a_bipush (pc := 237) F dX3_copyFrom_237 kb_10 ?_
    obtain ⟨u19, eu19, hf⟩ := nm_some hf
    refine a_copy (pc := 239) (kb := 1) (j := 11) (kb1 := 0) (j1 := 11) (ks := 0) (kd := 0) (kn := 10) (bs' := [bX3 y a0 u19, bX3 y a1 v1]) F (tl q2_145) (tl q2_147) (tl q2_146) (tl q1_16) rfl rfl rfl rfl (by decide) (by decide) (by decide) (by decide) (by decide) (by decide) (Nat.le_of_ble_eq_true rfl) (Nat.le_of_ble_eq_true rfl) (Nat.le_of_ble_eq_true rfl) (Nat.le_of_ble_eq_true rfl) (by rw [eu19]; rfl) dX3_copyFrom_239 ?_
    obtain rfl := Option.some.inj hf
    exact hret _ _ _ _ (Nat.zero_le _) (Nat.zero_le _) dX3_copyFrom_242
  · refine a_loop 74 (fun (x20l : Int32 × St) => [(0, .ref (a0 0)), (1, .ref (a1 0)), (2, .int x20l.1)]) (fun (x20l : Int32 × St) => [bX3 y a0 x20l.2, bX3 y a1 v1]) (fun rc20 x20l ih20 hf => ?_) hf rfl rfl
    try dsimp only at hf ⊢
    refine a_iloadn (pc := 74) (j := 2) F dX3_copyFrom_74 rfl rfl ?_
    refine a_iconst (pc := 75) F dX3_copyFrom_75 kc_5 ?_
    refine a_icmp_ge (pc := 76) (tgt := 109) F dX3_copyFrom_76 (by decide) (fun h => ?_) (fun h => ?_)
    · replace hf := it_pos h hf
      refine a_sub [0, 1] rfl ?_
      obtain rfl := Option.some.inj hf
      exact J10
    · replace hf := it_neg h hf
      refine a_aloadn (pc := 79) (j := 0) F dX3_copyFrom_79 rfl rfl ?_
      refine a_get (pc := 80) (kb := 0) (j := 0) (f := 11) F iW_X3 rfl rfl rfl (by decide) (tl q1_97) (fun _ h => h) rfl dX3_copyFrom_80 ?_
      refine a_iloadn (pc := 83) (j := 2) F dX3_copyFrom_83 rfl rfl ?_
      refine a_aloadn (pc := 84) (j := 1) F dX3_copyFrom_84 rfl rfl ?_
      refine a_get (pc := 85) (kb := 1) (j := 0) (f := 11) F iW_X3 rfl rfl rfl (by decide) (tl q1_97) (fun _ h => h) rfl dX3_copyFrom_85 ?_
      refine a_iloadn (pc := 88) (j := 2) F dX3_copyFrom_88 rfl rfl ?_
      obtain ⟨h21, hf⟩ := gd_some hf
      refine a_zald (pc := 89) (kb := 1) (j := 3) F rfl rfl h21 dX3_copyFrom_89 ?_
      obtain ⟨h22, hf⟩ := gd_some hf
      obtain ⟨u23, eu23, hf⟩ := nm_some hf
      refine a_zast (pc := 90) (kb := 0) (j := 3) (bs' := [bX3 y a0 u23, bX3 y a1 v1]) F rfl rfl h22 (by rw [eu23]; rfl) dX3_copyFrom_90 ?_
      refine a_aloadn (pc := 91) (j := 0) F dX3_copyFrom_91 rfl rfl ?_
      refine a_get (pc := 92) (kb := 0) (j := 0) (f := 12) F iW_X3 rfl rfl rfl (by decide) (tl q1_99) (fun _ h => h) rfl dX3_copyFrom_92 ?_
      refine a_iloadn (pc := 95) (j := 2) F dX3_copyFrom_95 rfl rfl ?_
      refine a_aloadn (pc := 96) (j := 1) F dX3_copyFrom_96 rfl rfl ?_
      refine a_get (pc := 97) (kb := 1) (j := 0) (f := 12) F iW_X3 rfl rfl rfl (by decide) (tl q1_99) (fun _ h => h) rfl dX3_copyFrom_97 ?_
      refine a_iloadn (pc := 100) (j := 2) F dX3_copyFrom_100 rfl rfl ?_
      obtain ⟨h24, hf⟩ := gd_some hf
      refine a_zald (pc := 101) (kb := 1) (j := 4) F rfl rfl h24 dX3_copyFrom_101 ?_
      obtain ⟨h25, hf⟩ := gd_some hf
      obtain ⟨u26, eu26, hf⟩ := nm_some hf
      refine a_zast (pc := 102) (kb := 0) (j := 4) (bs' := [bX3 y a0 u26, bX3 y a1 v1]) F rfl rfl h25 (by rw [eu26]; rfl) dX3_copyFrom_102 ?_
      refine a_iinc (pc := 103) (j := 2) (v := (x20l.1 + 1)) (lv' := [(0, .ref (a0 0)), (1, .ref (a1 0)), (2, .int (x20l.1 + 1))]) F [1, 2, 0] dX3_copyFrom_103 rfl ki_1 (by decide) rfl ?_
      refine a_goto (pc := 106) (tgt := 74) F dX3_copyFrom_106 (by decide) ?_
      exact ih20 ((x20l.1 + 1), u26) hf

abbrev wX3_addPlank : List Cond := Cond.code yX3_addPlank cX3_addPlank 4 none :: WALL
def m_X3_addPlank (n : Nat) (v0 : St) (x1 : Int32) (x2 : Int32) : Option (St) :=
(if (v0 0 0) < 5 then
(if ix (v0 0 0) 5 then nm (su v0 9 ((v0 0 0)).toNatClampNeg x1) (fun u2 =>
(if ix (u2 0 0) 5 then nm (su u2 10 ((u2 0 0)).toNatClampNeg x2) (fun u4 =>
(if ix (u4 0 0) 5 then nm (su u4 11 ((u4 0 0)).toNatClampNeg (zb 0)) (fun u6 =>
(if ix (u6 0 0) 5 then nm (su u6 12 ((u6 0 0)).toNatClampNeg (zb 0)) (fun u8 =>
nm (2 * (u8 0 0)) (fun x3_9 =>
bd (lp (fun (rc12 : Int32 × St → Option (St)) (x12l : Int32 × St) =>
(if ((2 * (x12l.2 0 0)) + 2) ≤ x12l.1 then
some x12l.2
else
(if ix x12l.1 10 then nm (su x12l.2 13 (x12l.1).toNatClampNeg 100) (fun u14 =>
(if ix x12l.1 10 then nm (su u14 14 (x12l.1).toNatClampNeg 0) (fun u16 =>
rc12 ((x12l.1 + 1), u16)) else none)) else none))) n (x3_9, u8)) (fun (t10 : St) =>
nm (su t10 0 0 ((t10 0 0) + 1)) (fun u11 =>
some u11)))) else none)) else none)) else none)) else none)
else
some v0)
set_option maxHeartbeats 4000000 in
set_option maxRecDepth 100000 in
theorem c_X3_addPlank (l : Launch) (D : va_G) (y : Nat → ClassId) (ek : EK) (n : Nat) (a0 : Nat → Nat) (v0 : St) (x1 : Int32) (x2 : Int32) (res : St) (hf : m_X3_addPlank n v0 x1 x2 = some res) : CV l yX3_addPlank wX3_addPlank { frames := 0, cells := 0, slots := 0, locals := 0 } D y ek [.ref (a0 0), .int x1, .int x2] [bX3 y a0 v0] [bX3 y a0 res] 0 0 := by
  unfold m_X3_addPlank at hf
  refine cv_of (cc := cX3_addPlank) (maxL := 4) (by decide) rfl rfl (Nat.le_of_ble_eq_true rfl) ?_
  intro p e s m below meth c Q A F hret
  refine a_lv (lv' := [(0, .ref (a0 0)), (1, .int x1), (2, .int x2)]) rfl ?_
  refine a_aloadn (pc := 0) (j := 0) F dX3_addPlank_0 rfl rfl ?_
  refine a_get (pc := 1) (kb := 0) (j := 0) (f := 0) F iW_X3 rfl rfl rfl (by decide) (tl q1_66) (fun _ h => h) rfl dX3_addPlank_1 ?_
  refine a_iconst (pc := 4) F dX3_addPlank_4 kc_5 ?_
  refine a_icmp_lt (pc := 5) (tgt := 9) F dX3_addPlank_5 (by decide) (fun h => ?_) (fun h => ?_)
  · replace hf := it_pos h hf
    refine a_aloadn (pc := 9) (j := 0) F dX3_addPlank_9 rfl rfl ?_
    refine a_get (pc := 10) (kb := 0) (j := 0) (f := 9) F iW_X3 rfl rfl rfl (by decide) (tl q1_93) (fun _ h => h) rfl dX3_addPlank_10 ?_
    refine a_aloadn (pc := 13) (j := 0) F dX3_addPlank_13 rfl rfl ?_
    refine a_get (pc := 14) (kb := 0) (j := 0) (f := 0) F iW_X3 rfl rfl rfl (by decide) (tl q1_66) (fun _ h => h) rfl dX3_addPlank_14 ?_
    refine a_iloadn (pc := 17) (j := 1) F dX3_addPlank_17 rfl rfl ?_
    obtain ⟨h1, hf⟩ := gd_some hf
    obtain ⟨u2, eu2, hf⟩ := nm_some hf
    refine a_iast (pc := 18) (kb := 0) (j := 1) (bs' := [bX3 y a0 u2]) F rfl rfl h1 (by rw [eu2]; rfl) dX3_addPlank_18 ?_
    refine a_aloadn (pc := 19) (j := 0) F dX3_addPlank_19 rfl rfl ?_
    refine a_get (pc := 20) (kb := 0) (j := 0) (f := 10) F iW_X3 rfl rfl rfl (by decide) (tl q1_95) (fun _ h => h) rfl dX3_addPlank_20 ?_
    refine a_aloadn (pc := 23) (j := 0) F dX3_addPlank_23 rfl rfl ?_
    refine a_get (pc := 24) (kb := 0) (j := 0) (f := 0) F iW_X3 rfl rfl rfl (by decide) (tl q1_66) (fun _ h => h) rfl dX3_addPlank_24 ?_
    refine a_iloadn (pc := 27) (j := 2) F dX3_addPlank_27 rfl rfl ?_
    obtain ⟨h3, hf⟩ := gd_some hf
    obtain ⟨u4, eu4, hf⟩ := nm_some hf
    refine a_iast (pc := 28) (kb := 0) (j := 2) (bs' := [bX3 y a0 u4]) F rfl rfl h3 (by rw [eu4]; rfl) dX3_addPlank_28 ?_
    refine a_aloadn (pc := 29) (j := 0) F dX3_addPlank_29 rfl rfl ?_
    refine a_get (pc := 30) (kb := 0) (j := 0) (f := 11) F iW_X3 rfl rfl rfl (by decide) (tl q1_97) (fun _ h => h) rfl dX3_addPlank_30 ?_
    refine a_aloadn (pc := 33) (j := 0) F dX3_addPlank_33 rfl rfl ?_
    refine a_get (pc := 34) (kb := 0) (j := 0) (f := 0) F iW_X3 rfl rfl rfl (by decide) (tl q1_66) (fun _ h => h) rfl dX3_addPlank_34 ?_
    refine a_iconst (pc := 37) F dX3_addPlank_37 kc_0 ?_
    obtain ⟨h5, hf⟩ := gd_some hf
    obtain ⟨u6, eu6, hf⟩ := nm_some hf
    refine a_zast (pc := 38) (kb := 0) (j := 3) (bs' := [bX3 y a0 u6]) F rfl rfl h5 (by rw [eu6]; rfl) dX3_addPlank_38 ?_
    refine a_aloadn (pc := 39) (j := 0) F dX3_addPlank_39 rfl rfl ?_
    refine a_get (pc := 40) (kb := 0) (j := 0) (f := 12) F iW_X3 rfl rfl rfl (by decide) (tl q1_99) (fun _ h => h) rfl dX3_addPlank_40 ?_
    refine a_aloadn (pc := 43) (j := 0) F dX3_addPlank_43 rfl rfl ?_
    refine a_get (pc := 44) (kb := 0) (j := 0) (f := 0) F iW_X3 rfl rfl rfl (by decide) (tl q1_66) (fun _ h => h) rfl dX3_addPlank_44 ?_
    refine a_iconst (pc := 47) F dX3_addPlank_47 kc_0 ?_
    obtain ⟨h7, hf⟩ := gd_some hf
    obtain ⟨u8, eu8, hf⟩ := nm_some hf
    refine a_zast (pc := 48) (kb := 0) (j := 4) (bs' := [bX3 y a0 u8]) F rfl rfl h7 (by rw [eu8]; rfl) dX3_addPlank_48 ?_
    refine a_iconst (pc := 49) F dX3_addPlank_49 kc_2 ?_
    refine a_aloadn (pc := 50) (j := 0) F dX3_addPlank_50 rfl rfl ?_
    refine a_get (pc := 51) (kb := 0) (j := 0) (f := 0) F iW_X3 rfl rfl rfl (by decide) (tl q1_66) (fun _ h => h) rfl dX3_addPlank_51 ?_
    refine a_imul (pc := 54) F dX3_addPlank_54 ?_
    obtain ⟨x3_9, ex3_9, hf⟩ := nm_some hf
    refine a_nmi ex3_9 ?_
    refine a_istoren (pc := 55) (lv' := [(0, .ref (a0 0)), (1, .int x1), (2, .int x2), (3, .int x3_9)]) F [1, 2, 3, 0] dX3_addPlank_55 rfl (by decide) rfl ?_
    refine a_join 89 (fun (t10 : St) => [(0, .ref (a0 0))]) (fun (t10 : St) => []) (fun (t10 : St) => [bX3 y a0 t10]) hf (fun t10 hf => ?_) (fun t10 hf J10 => ?_)
    · try dsimp only at hf ⊢
      refine a_aloadn (pc := 89) (j := 0) F dX3_addPlank_89 rfl rfl ?_
      refine a_dup (pc := 90) F dX3_addPlank_90 rfl ?_
      refine a_get (pc := 91) (kb := 0) (j := 0) (f := 0) F iW_X3 rfl rfl rfl (by decide) (tl q1_66) (fun _ h => h) rfl dX3_addPlank_91 ?_
      refine a_iconst (pc := 94) F dX3_addPlank_94 kc_1 ?_
      refine a_iadd (pc := 95) F dX3_addPlank_95 ?_
      obtain ⟨u11, eu11, hf⟩ := nm_some hf
      refine a_put (pc := 96) (kb := 0) (j := 0) (f := 0) (ty := .int) (bs' := [bX3 y a0 u11]) F iW_X3 rfl rfl rfl (by decide) (tl q1_66) (fun _ h => h) tyX3 tyX3_ok nmX3 rfl rfl rfl rfl (Nat.le_of_ble_eq_true rfl) (by rw [eu11]; rfl) dX3_addPlank_96 ?_
      obtain rfl := Option.some.inj hf
      exact hret _ _ _ _ (Nat.zero_le _) (Nat.zero_le _) dX3_addPlank_99
    · refine a_sub [0, 3] rfl ?_
      refine a_loop 56 (fun (x12l : Int32 × St) => [(0, .ref (a0 0)), (3, .int x12l.1)]) (fun (x12l : Int32 × St) => [bX3 y a0 x12l.2]) (fun rc12 x12l ih12 hf => ?_) hf rfl rfl
      try dsimp only at hf ⊢
      refine a_iloadn (pc := 56) (j := 1) F dX3_addPlank_56 rfl rfl ?_
      refine a_iconst (pc := 57) F dX3_addPlank_57 kc_2 ?_
      refine a_aloadn (pc := 58) (j := 0) F dX3_addPlank_58 rfl rfl ?_
      refine a_get (pc := 59) (kb := 0) (j := 0) (f := 0) F iW_X3 rfl rfl rfl (by decide) (tl q1_66) (fun _ h => h) rfl dX3_addPlank_59 ?_
      refine a_imul (pc := 62) F dX3_addPlank_62 ?_
      refine a_iconst (pc := 63) F dX3_addPlank_63 kc_2 ?_
      refine a_iadd (pc := 64) F dX3_addPlank_64 ?_
      refine a_icmp_ge (pc := 65) (tgt := 89) F dX3_addPlank_65 (by decide) (fun h => ?_) (fun h => ?_)
      · replace hf := it_pos h hf
        refine a_sub [0] rfl ?_
        obtain rfl := Option.some.inj hf
        exact J10
      · replace hf := it_neg h hf
        refine a_aloadn (pc := 68) (j := 0) F dX3_addPlank_68 rfl rfl ?_
        refine a_get (pc := 69) (kb := 0) (j := 0) (f := 13) F iW_X3 rfl rfl rfl (by decide) (tl q1_101) (fun _ h => h) rfl dX3_addPlank_69 ?_
        refine a_iloadn (pc := 72) (j := 1) F dX3_addPlank_72 rfl rfl ?_
        refine a_bipush (pc := 73) F dX3_addPlank_73 kb_100 ?_
        obtain ⟨h13, hf⟩ := gd_some hf
        obtain ⟨u14, eu14, hf⟩ := nm_some hf
        refine a_iast (pc := 75) (kb := 0) (j := 5) (bs' := [bX3 y a0 u14]) F rfl rfl h13 (by rw [eu14]; rfl) dX3_addPlank_75 ?_
        refine a_aloadn (pc := 76) (j := 0) F dX3_addPlank_76 rfl rfl ?_
        refine a_get (pc := 77) (kb := 0) (j := 0) (f := 14) F iW_X3 rfl rfl rfl (by decide) (tl q1_104) (fun _ h => h) rfl dX3_addPlank_77 ?_
        refine a_iloadn (pc := 80) (j := 1) F dX3_addPlank_80 rfl rfl ?_
        refine a_iconst (pc := 81) F dX3_addPlank_81 kc_0 ?_
        obtain ⟨h15, hf⟩ := gd_some hf
        obtain ⟨u16, eu16, hf⟩ := nm_some hf
        refine a_iast (pc := 82) (kb := 0) (j := 6) (bs' := [bX3 y a0 u16]) F rfl rfl h15 (by rw [eu16]; rfl) dX3_addPlank_82 ?_
        refine a_iinc (pc := 83) (j := 1) (v := (x12l.1 + 1)) (lv' := [(0, .ref (a0 0)), (3, .int (x12l.1 + 1))]) F [1, 0] dX3_addPlank_83 rfl ki_1 (by decide) rfl ?_
        refine a_goto (pc := 86) (tgt := 56) F dX3_addPlank_86 (by decide) ?_
        exact ih12 ((x12l.1 + 1), u16) hf
  · replace hf := it_neg h hf
    obtain rfl := Option.some.inj hf
    exact hret _ _ _ _ (Nat.zero_le _) (Nat.zero_le _) dX3_addPlank_8

abbrev wX3_addThing : List Cond := Cond.code yX3_addThing cX3_addThing 4 none :: WALL
def m_X3_addThing (n : Nat) (v0 : St) (x1 : Int32) (x2 : Int32) (x3 : Int32) : Option (St) :=
(if (v0 1 0) < 10 then
(if ix (v0 1 0) 10 then nm (su v0 15 ((v0 1 0)).toNatClampNeg x1) (fun u2 =>
(if ix (u2 1 0) 10 then nm (su u2 16 ((u2 1 0)).toNatClampNeg x2) (fun u4 =>
(if ix (u4 1 0) 10 then nm (su u4 17 ((u4 1 0)).toNatClampNeg x3) (fun u6 =>
nm (su u6 1 0 ((u6 1 0) + 1)) (fun u7 =>
some u7)) else none)) else none)) else none)
else
some v0)
set_option maxHeartbeats 4000000 in
set_option maxRecDepth 100000 in
theorem c_X3_addThing (l : Launch) (D : va_G) (y : Nat → ClassId) (ek : EK) (n : Nat) (a0 : Nat → Nat) (v0 : St) (x1 : Int32) (x2 : Int32) (x3 : Int32) (res : St) (hf : m_X3_addThing n v0 x1 x2 x3 = some res) : CV l yX3_addThing wX3_addThing { frames := 0, cells := 0, slots := 0, locals := 0 } D y ek [.ref (a0 0), .int x1, .int x2, .int x3] [bX3 y a0 v0] [bX3 y a0 res] 0 0 := by
  unfold m_X3_addThing at hf
  refine cv_of (cc := cX3_addThing) (maxL := 4) (by decide) rfl rfl (Nat.le_of_ble_eq_true rfl) ?_
  intro p e s m below meth c Q A F hret
  refine a_lv (lv' := [(0, .ref (a0 0)), (1, .int x1), (2, .int x2), (3, .int x3)]) rfl ?_
  refine a_aloadn (pc := 0) (j := 0) F dX3_addThing_0 rfl rfl ?_
  refine a_get (pc := 1) (kb := 0) (j := 0) (f := 1) F iW_X3 rfl rfl rfl (by decide) (tl q1_69) (fun _ h => h) rfl dX3_addThing_1 ?_
  refine a_bipush (pc := 4) F dX3_addThing_4 kb_10 ?_
  refine a_icmp_lt (pc := 6) (tgt := 10) F dX3_addThing_6 (by decide) (fun h => ?_) (fun h => ?_)
  · replace hf := it_pos h hf
    refine a_aloadn (pc := 10) (j := 0) F dX3_addThing_10 rfl rfl ?_
    refine a_get (pc := 11) (kb := 0) (j := 0) (f := 15) F iW_X3 rfl rfl rfl (by decide) (tl q1_107) (fun _ h => h) rfl dX3_addThing_11 ?_
    refine a_aloadn (pc := 14) (j := 0) F dX3_addThing_14 rfl rfl ?_
    refine a_get (pc := 15) (kb := 0) (j := 0) (f := 1) F iW_X3 rfl rfl rfl (by decide) (tl q1_69) (fun _ h => h) rfl dX3_addThing_15 ?_
    refine a_iloadn (pc := 18) (j := 1) F dX3_addThing_18 rfl rfl ?_
    obtain ⟨h1, hf⟩ := gd_some hf
    obtain ⟨u2, eu2, hf⟩ := nm_some hf
    refine a_iast (pc := 19) (kb := 0) (j := 7) (bs' := [bX3 y a0 u2]) F rfl rfl h1 (by rw [eu2]; rfl) dX3_addThing_19 ?_
    refine a_aloadn (pc := 20) (j := 0) F dX3_addThing_20 rfl rfl ?_
    refine a_get (pc := 21) (kb := 0) (j := 0) (f := 16) F iW_X3 rfl rfl rfl (by decide) (tl q1_110) (fun _ h => h) rfl dX3_addThing_21 ?_
    refine a_aloadn (pc := 24) (j := 0) F dX3_addThing_24 rfl rfl ?_
    refine a_get (pc := 25) (kb := 0) (j := 0) (f := 1) F iW_X3 rfl rfl rfl (by decide) (tl q1_69) (fun _ h => h) rfl dX3_addThing_25 ?_
    refine a_iloadn (pc := 28) (j := 2) F dX3_addThing_28 rfl rfl ?_
    obtain ⟨h3, hf⟩ := gd_some hf
    obtain ⟨u4, eu4, hf⟩ := nm_some hf
    refine a_iast (pc := 29) (kb := 0) (j := 8) (bs' := [bX3 y a0 u4]) F rfl rfl h3 (by rw [eu4]; rfl) dX3_addThing_29 ?_
    refine a_aloadn (pc := 30) (j := 0) F dX3_addThing_30 rfl rfl ?_
    refine a_get (pc := 31) (kb := 0) (j := 0) (f := 17) F iW_X3 rfl rfl rfl (by decide) (tl q1_112) (fun _ h => h) rfl dX3_addThing_31 ?_
    refine a_aloadn (pc := 34) (j := 0) F dX3_addThing_34 rfl rfl ?_
    refine a_get (pc := 35) (kb := 0) (j := 0) (f := 1) F iW_X3 rfl rfl rfl (by decide) (tl q1_69) (fun _ h => h) rfl dX3_addThing_35 ?_
    refine a_iloadn (pc := 38) (j := 3) F dX3_addThing_38 rfl rfl ?_
    obtain ⟨h5, hf⟩ := gd_some hf
    obtain ⟨u6, eu6, hf⟩ := nm_some hf
    refine a_iast (pc := 39) (kb := 0) (j := 9) (bs' := [bX3 y a0 u6]) F rfl rfl h5 (by rw [eu6]; rfl) dX3_addThing_39 ?_
    refine a_aloadn (pc := 40) (j := 0) F dX3_addThing_40 rfl rfl ?_
    refine a_dup (pc := 41) F dX3_addThing_41 rfl ?_
    refine a_get (pc := 42) (kb := 0) (j := 0) (f := 1) F iW_X3 rfl rfl rfl (by decide) (tl q1_69) (fun _ h => h) rfl dX3_addThing_42 ?_
    refine a_iconst (pc := 45) F dX3_addThing_45 kc_1 ?_
    refine a_iadd (pc := 46) F dX3_addThing_46 ?_
    obtain ⟨u7, eu7, hf⟩ := nm_some hf
    refine a_put (pc := 47) (kb := 0) (j := 0) (f := 1) (ty := .int) (bs' := [bX3 y a0 u7]) F iW_X3 rfl rfl rfl (by decide) (tl q1_69) (fun _ h => h) tyX3 tyX3_ok nmX3 rfl rfl rfl rfl (Nat.le_of_ble_eq_true rfl) (by rw [eu7]; rfl) dX3_addThing_47 ?_
    obtain rfl := Option.some.inj hf
    exact hret _ _ _ _ (Nat.zero_le _) (Nat.zero_le _) dX3_addThing_50
  · replace hf := it_neg h hf
    obtain rfl := Option.some.inj hf
    exact hret _ _ _ _ (Nat.zero_le _) (Nat.zero_le _) dX3_addThing_9

abbrev wX3_isLevel : List Cond := Cond.code yX3_isLevel cX3_isLevel 2 (some .boolean) :: WALL
def m_X3_isLevel (n : Nat) (v0 : St) (x1 : Int32) : Option (Int32) :=
(if ix (2 * x1) 10 then (if (v0 19 ((2 * x1)).toNatClampNeg) = 5 then
some 1
else
some 0) else none)
set_option maxHeartbeats 4000000 in
set_option maxRecDepth 100000 in
theorem c_X3_isLevel (l : Launch) (D : va_G) (y : Nat → ClassId) (ek : EK) (n : Nat) (a0 : Nat → Nat) (v0 : St) (x1 : Int32) (res : Int32) (hf : m_X3_isLevel n v0 x1 = some res) : CI l yX3_isLevel wX3_isLevel { frames := 0, cells := 0, slots := 0, locals := 0 } D y ek [.ref (a0 0), .int x1] [bX3 y a0 v0] (res) [bX3 y a0 v0] 0 0 := by
  unfold m_X3_isLevel at hf
  refine ci_of (cc := cX3_isLevel) (maxL := 2) (by decide) rfl rfl (Nat.le_of_ble_eq_true rfl) ?_
  intro p e s m below meth c Q A F hret
  refine a_lv (lv' := [(0, .ref (a0 0)), (1, .int x1)]) rfl ?_
  refine a_aloadn (pc := 0) (j := 0) F dX3_isLevel_0 rfl rfl ?_
  refine a_get (pc := 1) (kb := 0) (j := 0) (f := 19) F iW_X3 rfl rfl rfl (by decide) (tl q1_119) (fun _ h => h) rfl dX3_isLevel_1 ?_
  refine a_iconst (pc := 4) F dX3_isLevel_4 kc_2 ?_
  refine a_iloadn (pc := 5) (j := 1) F dX3_isLevel_5 rfl rfl ?_
  refine a_imul (pc := 6) F dX3_isLevel_6 ?_
  obtain ⟨h1, hf⟩ := gd_some hf
  refine a_iald (pc := 7) (kb := 0) (j := 11) F rfl rfl h1 dX3_isLevel_7 ?_
  refine a_iconst (pc := 8) F dX3_isLevel_8 kc_5 ?_
  refine a_icmp_ne (pc := 9) (tgt := 16) F dX3_isLevel_9 (by decide) (fun h => ?_) (fun h => ?_)
  · replace hf := it_neg h hf
    refine a_iconst (pc := 16) F dX3_isLevel_16 kc_0 ?_
    obtain rfl := Option.some.inj hf
    exact hret _ _ _ _ (Nat.zero_le _) (Nat.zero_le _) (z_nar (Or.inl rfl)) dX3_isLevel_17
  · replace hf := it_pos h hf
    refine a_iconst (pc := 12) F dX3_isLevel_12 kc_1 ?_
    refine a_goto (pc := 13) (tgt := 17) F dX3_isLevel_13 (by decide) ?_
    obtain rfl := Option.some.inj hf
    exact hret _ _ _ _ (Nat.zero_le _) (Nat.zero_le _) (z_nar (Or.inr rfl)) dX3_isLevel_17

abbrev wX3_bearsMore : List Cond := Cond.code yX3_bearsMore cX3_bearsMore 2 (some .int) :: WALL
def m_X3_bearsMore (n : Nat) (v0 : St) (x1 : Int32) : Option (Int32) :=
(if ix x1 5 then (if ix x1 5 then (if ix (2 * x1) 10 then (if ix ((2 * x1) + 1) 10 then some ((((v0 9 (x1).toNatClampNeg) - (v0 10 (x1).toNatClampNeg)) - (v0 18 ((2 * x1)).toNatClampNeg)) - (v0 18 (((2 * x1) + 1)).toNatClampNeg)) else none) else none) else none) else none)
set_option maxHeartbeats 4000000 in
set_option maxRecDepth 100000 in
theorem c_X3_bearsMore (l : Launch) (D : va_G) (y : Nat → ClassId) (ek : EK) (n : Nat) (a0 : Nat → Nat) (v0 : St) (x1 : Int32) (res : Int32) (hf : m_X3_bearsMore n v0 x1 = some res) : CI l yX3_bearsMore wX3_bearsMore { frames := 0, cells := 0, slots := 0, locals := 0 } D y ek [.ref (a0 0), .int x1] [bX3 y a0 v0] (res) [bX3 y a0 v0] 0 0 := by
  unfold m_X3_bearsMore at hf
  refine ci_of (cc := cX3_bearsMore) (maxL := 2) (by decide) rfl rfl (Nat.le_of_ble_eq_true rfl) ?_
  intro p e s m below meth c Q A F hret
  refine a_lv (lv' := [(0, .ref (a0 0)), (1, .int x1)]) rfl ?_
  refine a_aloadn (pc := 0) (j := 0) F dX3_bearsMore_0 rfl rfl ?_
  refine a_get (pc := 1) (kb := 0) (j := 0) (f := 9) F iW_X3 rfl rfl rfl (by decide) (tl q1_93) (fun _ h => h) rfl dX3_bearsMore_1 ?_
  refine a_iloadn (pc := 4) (j := 1) F dX3_bearsMore_4 rfl rfl ?_
  obtain ⟨h1, hf⟩ := gd_some hf
  refine a_iald (pc := 5) (kb := 0) (j := 1) F rfl rfl h1 dX3_bearsMore_5 ?_
  refine a_aloadn (pc := 6) (j := 0) F dX3_bearsMore_6 rfl rfl ?_
  refine a_get (pc := 7) (kb := 0) (j := 0) (f := 10) F iW_X3 rfl rfl rfl (by decide) (tl q1_95) (fun _ h => h) rfl dX3_bearsMore_7 ?_
  refine a_iloadn (pc := 10) (j := 1) F dX3_bearsMore_10 rfl rfl ?_
  obtain ⟨h2, hf⟩ := gd_some hf
  refine a_iald (pc := 11) (kb := 0) (j := 2) F rfl rfl h2 dX3_bearsMore_11 ?_
  refine a_isub (pc := 12) F dX3_bearsMore_12 ?_
  refine a_aloadn (pc := 13) (j := 0) F dX3_bearsMore_13 rfl rfl ?_
  refine a_get (pc := 14) (kb := 0) (j := 0) (f := 18) F iW_X3 rfl rfl rfl (by decide) (tl q1_115) (fun _ h => h) rfl dX3_bearsMore_14 ?_
  refine a_iconst (pc := 17) F dX3_bearsMore_17 kc_2 ?_
  refine a_iloadn (pc := 18) (j := 1) F dX3_bearsMore_18 rfl rfl ?_
  refine a_imul (pc := 19) F dX3_bearsMore_19 ?_
  obtain ⟨h3, hf⟩ := gd_some hf
  refine a_iald (pc := 20) (kb := 0) (j := 10) F rfl rfl h3 dX3_bearsMore_20 ?_
  refine a_isub (pc := 21) F dX3_bearsMore_21 ?_
  refine a_aloadn (pc := 22) (j := 0) F dX3_bearsMore_22 rfl rfl ?_
  refine a_get (pc := 23) (kb := 0) (j := 0) (f := 18) F iW_X3 rfl rfl rfl (by decide) (tl q1_115) (fun _ h => h) rfl dX3_bearsMore_23 ?_
  refine a_iconst (pc := 26) F dX3_bearsMore_26 kc_2 ?_
  refine a_iloadn (pc := 27) (j := 1) F dX3_bearsMore_27 rfl rfl ?_
  refine a_imul (pc := 28) F dX3_bearsMore_28 ?_
  refine a_iconst (pc := 29) F dX3_bearsMore_29 kc_1 ?_
  refine a_iadd (pc := 30) F dX3_bearsMore_30 ?_
  obtain ⟨h4, hf⟩ := gd_some hf
  refine a_iald (pc := 31) (kb := 0) (j := 10) F rfl rfl h4 dX3_bearsMore_31 ?_
  refine a_isub (pc := 32) F dX3_bearsMore_32 ?_
  obtain rfl := Option.some.inj hf
  exact hret _ _ _ _ (Nat.zero_le _) (Nat.zero_le _) rfl dX3_bearsMore_33

abbrev wX3_fact : List Cond := Cond.code yX3_fact cX3_fact 3 (some .int) :: WALL
def m_X3_fact (n : Nat) (v0 : St) (x1 : Int32) (x2 : Int32) : Option (Int32) :=
(if x1 = 302 then
(if ix x2 10 then some (v0 14 (x2).toNatClampNeg) else none)
else
(if x1 = 303 then
some (v0 7 0)
else
(if x1 = 304 then
some (v0 7 0)
else
(if x1 = 305 then
some (v0 7 0)
else
(if x1 = 306 then
some (v0 7 0)
else
(if x1 = 307 then
some (v0 7 0)
else
(if x1 = 308 then
some (v0 7 0)
else
(if x1 = 309 then
some (v0 7 0)
else
(if x1 = 310 then
some (v0 7 0)
else
(if x1 = 311 then
some (v0 7 0)
else
(if x1 = 312 then
some (v0 7 0)
else
(if x1 = 313 then
some (v0 7 0)
else
(if x1 = 314 then
some (v0 7 0)
else
(if x1 = 315 then
some (v0 7 0)
else
(if x1 = 316 then
some (v0 7 0)
else
(if x1 = 317 then
some (v0 7 0)
else
(if x1 = 318 then
(if ix x2 10 then (if (v0 19 (x2).toNatClampNeg) ≤ 5 then
some 0
else
some 1) else none)
else
(if x1 = 319 then
(if ix x2 10 then (if (v0 19 (x2).toNatClampNeg) = 5 then
some 1
else
some 0) else none)
else
(if x1 = 320 then
some x2
else
(if x1 = 321 then
(if ix x2 10 then some (v0 19 (x2).toNatClampNeg) else none)
else
(if x1 = 322 then
(if ix x2 10 then some (v0 18 (x2).toNatClampNeg) else none)
else
(if x1 = 323 then
(if ix (x2 / 2) 5 then some (v0 10 ((x2 / 2)).toNatClampNeg) else none)
else
some (v0 7 0)))))))))))))))))))))))
set_option maxHeartbeats 4000000 in
set_option maxRecDepth 100000 in
theorem c_X3_fact (l : Launch) (D : va_G) (y : Nat → ClassId) (ek : EK) (n : Nat) (a0 : Nat → Nat) (v0 : St) (x1 : Int32) (x2 : Int32) (res : Int32) (hf : m_X3_fact n v0 x1 x2 = some res) : CI l yX3_fact wX3_fact { frames := 0, cells := 0, slots := 0, locals := 0 } D y ek [.ref (a0 0), .int x1, .int x2] [bX3 y a0 v0] (res) [bX3 y a0 v0] 0 0 := by
  unfold m_X3_fact at hf
  refine ci_of (cc := cX3_fact) (maxL := 3) (by decide) rfl rfl (Nat.le_of_ble_eq_true rfl) ?_
  intro p e s m below meth c Q A F hret
  refine a_lv (lv' := [(0, .ref (a0 0)), (1, .int x1), (2, .int x2)]) rfl ?_
  refine a_iloadn (pc := 0) (j := 1) F dX3_fact_0 rfl rfl ?_
  by_cases h302 : x1 = 302
  · replace hf := it_pos h302 hf
    refine a_tin (pc := 1) (tgt := 152) (k := 302) F dX3_fact_1 (by rw [h302]; decide) (by decide) (by decide) rfl (by decide) ?_
    refine a_aloadn (pc := 152) (j := 0) F dX3_fact_152 rfl rfl ?_
    refine a_get (pc := 153) (kb := 0) (j := 0) (f := 14) F iW_X3 rfl rfl rfl (by decide) (tl q1_104) (fun _ h => h) rfl dX3_fact_153 ?_
    refine a_iloadn (pc := 156) (j := 2) F dX3_fact_156 rfl rfl ?_
    obtain ⟨h1, hf⟩ := gd_some hf
    refine a_iald (pc := 157) (kb := 0) (j := 6) F rfl rfl h1 dX3_fact_157 ?_
    obtain rfl := Option.some.inj hf
    exact hret _ _ _ _ (Nat.zero_le _) (Nat.zero_le _) rfl dX3_fact_158
  replace hf := it_neg h302 hf
  by_cases h303 : x1 = 303
  · replace hf := it_pos h303 hf
    refine a_tin (pc := 1) (tgt := 168) (k := 303) F dX3_fact_1 (by rw [h303]; decide) (by decide) (by decide) rfl (by decide) ?_
    refine a_aloadn (pc := 168) (j := 0) F dX3_fact_168 rfl rfl ?_
    refine a_get (pc := 169) (kb := 0) (j := 0) (f := 7) F iW_X3 rfl rfl rfl (by decide) (tl q1_89) (fun _ h => h) rfl dX3_fact_169 ?_
    obtain rfl := Option.some.inj hf
    exact hret _ _ _ _ (Nat.zero_le _) (Nat.zero_le _) rfl dX3_fact_172
  replace hf := it_neg h303 hf
  by_cases h304 : x1 = 304
  · replace hf := it_pos h304 hf
    refine a_tin (pc := 1) (tgt := 168) (k := 304) F dX3_fact_1 (by rw [h304]; decide) (by decide) (by decide) rfl (by decide) ?_
    refine a_aloadn (pc := 168) (j := 0) F dX3_fact_168 rfl rfl ?_
    refine a_get (pc := 169) (kb := 0) (j := 0) (f := 7) F iW_X3 rfl rfl rfl (by decide) (tl q1_89) (fun _ h => h) rfl dX3_fact_169 ?_
    obtain rfl := Option.some.inj hf
    exact hret _ _ _ _ (Nat.zero_le _) (Nat.zero_le _) rfl dX3_fact_172
  replace hf := it_neg h304 hf
  by_cases h305 : x1 = 305
  · replace hf := it_pos h305 hf
    refine a_tin (pc := 1) (tgt := 168) (k := 305) F dX3_fact_1 (by rw [h305]; decide) (by decide) (by decide) rfl (by decide) ?_
    refine a_aloadn (pc := 168) (j := 0) F dX3_fact_168 rfl rfl ?_
    refine a_get (pc := 169) (kb := 0) (j := 0) (f := 7) F iW_X3 rfl rfl rfl (by decide) (tl q1_89) (fun _ h => h) rfl dX3_fact_169 ?_
    obtain rfl := Option.some.inj hf
    exact hret _ _ _ _ (Nat.zero_le _) (Nat.zero_le _) rfl dX3_fact_172
  replace hf := it_neg h305 hf
  by_cases h306 : x1 = 306
  · replace hf := it_pos h306 hf
    refine a_tin (pc := 1) (tgt := 168) (k := 306) F dX3_fact_1 (by rw [h306]; decide) (by decide) (by decide) rfl (by decide) ?_
    refine a_aloadn (pc := 168) (j := 0) F dX3_fact_168 rfl rfl ?_
    refine a_get (pc := 169) (kb := 0) (j := 0) (f := 7) F iW_X3 rfl rfl rfl (by decide) (tl q1_89) (fun _ h => h) rfl dX3_fact_169 ?_
    obtain rfl := Option.some.inj hf
    exact hret _ _ _ _ (Nat.zero_le _) (Nat.zero_le _) rfl dX3_fact_172
  replace hf := it_neg h306 hf
  by_cases h307 : x1 = 307
  · replace hf := it_pos h307 hf
    refine a_tin (pc := 1) (tgt := 168) (k := 307) F dX3_fact_1 (by rw [h307]; decide) (by decide) (by decide) rfl (by decide) ?_
    refine a_aloadn (pc := 168) (j := 0) F dX3_fact_168 rfl rfl ?_
    refine a_get (pc := 169) (kb := 0) (j := 0) (f := 7) F iW_X3 rfl rfl rfl (by decide) (tl q1_89) (fun _ h => h) rfl dX3_fact_169 ?_
    obtain rfl := Option.some.inj hf
    exact hret _ _ _ _ (Nat.zero_le _) (Nat.zero_le _) rfl dX3_fact_172
  replace hf := it_neg h307 hf
  by_cases h308 : x1 = 308
  · replace hf := it_pos h308 hf
    refine a_tin (pc := 1) (tgt := 168) (k := 308) F dX3_fact_1 (by rw [h308]; decide) (by decide) (by decide) rfl (by decide) ?_
    refine a_aloadn (pc := 168) (j := 0) F dX3_fact_168 rfl rfl ?_
    refine a_get (pc := 169) (kb := 0) (j := 0) (f := 7) F iW_X3 rfl rfl rfl (by decide) (tl q1_89) (fun _ h => h) rfl dX3_fact_169 ?_
    obtain rfl := Option.some.inj hf
    exact hret _ _ _ _ (Nat.zero_le _) (Nat.zero_le _) rfl dX3_fact_172
  replace hf := it_neg h308 hf
  by_cases h309 : x1 = 309
  · replace hf := it_pos h309 hf
    refine a_tin (pc := 1) (tgt := 168) (k := 309) F dX3_fact_1 (by rw [h309]; decide) (by decide) (by decide) rfl (by decide) ?_
    refine a_aloadn (pc := 168) (j := 0) F dX3_fact_168 rfl rfl ?_
    refine a_get (pc := 169) (kb := 0) (j := 0) (f := 7) F iW_X3 rfl rfl rfl (by decide) (tl q1_89) (fun _ h => h) rfl dX3_fact_169 ?_
    obtain rfl := Option.some.inj hf
    exact hret _ _ _ _ (Nat.zero_le _) (Nat.zero_le _) rfl dX3_fact_172
  replace hf := it_neg h309 hf
  by_cases h310 : x1 = 310
  · replace hf := it_pos h310 hf
    refine a_tin (pc := 1) (tgt := 168) (k := 310) F dX3_fact_1 (by rw [h310]; decide) (by decide) (by decide) rfl (by decide) ?_
    refine a_aloadn (pc := 168) (j := 0) F dX3_fact_168 rfl rfl ?_
    refine a_get (pc := 169) (kb := 0) (j := 0) (f := 7) F iW_X3 rfl rfl rfl (by decide) (tl q1_89) (fun _ h => h) rfl dX3_fact_169 ?_
    obtain rfl := Option.some.inj hf
    exact hret _ _ _ _ (Nat.zero_le _) (Nat.zero_le _) rfl dX3_fact_172
  replace hf := it_neg h310 hf
  by_cases h311 : x1 = 311
  · replace hf := it_pos h311 hf
    refine a_tin (pc := 1) (tgt := 168) (k := 311) F dX3_fact_1 (by rw [h311]; decide) (by decide) (by decide) rfl (by decide) ?_
    refine a_aloadn (pc := 168) (j := 0) F dX3_fact_168 rfl rfl ?_
    refine a_get (pc := 169) (kb := 0) (j := 0) (f := 7) F iW_X3 rfl rfl rfl (by decide) (tl q1_89) (fun _ h => h) rfl dX3_fact_169 ?_
    obtain rfl := Option.some.inj hf
    exact hret _ _ _ _ (Nat.zero_le _) (Nat.zero_le _) rfl dX3_fact_172
  replace hf := it_neg h311 hf
  by_cases h312 : x1 = 312
  · replace hf := it_pos h312 hf
    refine a_tin (pc := 1) (tgt := 168) (k := 312) F dX3_fact_1 (by rw [h312]; decide) (by decide) (by decide) rfl (by decide) ?_
    refine a_aloadn (pc := 168) (j := 0) F dX3_fact_168 rfl rfl ?_
    refine a_get (pc := 169) (kb := 0) (j := 0) (f := 7) F iW_X3 rfl rfl rfl (by decide) (tl q1_89) (fun _ h => h) rfl dX3_fact_169 ?_
    obtain rfl := Option.some.inj hf
    exact hret _ _ _ _ (Nat.zero_le _) (Nat.zero_le _) rfl dX3_fact_172
  replace hf := it_neg h312 hf
  by_cases h313 : x1 = 313
  · replace hf := it_pos h313 hf
    refine a_tin (pc := 1) (tgt := 168) (k := 313) F dX3_fact_1 (by rw [h313]; decide) (by decide) (by decide) rfl (by decide) ?_
    refine a_aloadn (pc := 168) (j := 0) F dX3_fact_168 rfl rfl ?_
    refine a_get (pc := 169) (kb := 0) (j := 0) (f := 7) F iW_X3 rfl rfl rfl (by decide) (tl q1_89) (fun _ h => h) rfl dX3_fact_169 ?_
    obtain rfl := Option.some.inj hf
    exact hret _ _ _ _ (Nat.zero_le _) (Nat.zero_le _) rfl dX3_fact_172
  replace hf := it_neg h313 hf
  by_cases h314 : x1 = 314
  · replace hf := it_pos h314 hf
    refine a_tin (pc := 1) (tgt := 168) (k := 314) F dX3_fact_1 (by rw [h314]; decide) (by decide) (by decide) rfl (by decide) ?_
    refine a_aloadn (pc := 168) (j := 0) F dX3_fact_168 rfl rfl ?_
    refine a_get (pc := 169) (kb := 0) (j := 0) (f := 7) F iW_X3 rfl rfl rfl (by decide) (tl q1_89) (fun _ h => h) rfl dX3_fact_169 ?_
    obtain rfl := Option.some.inj hf
    exact hret _ _ _ _ (Nat.zero_le _) (Nat.zero_le _) rfl dX3_fact_172
  replace hf := it_neg h314 hf
  by_cases h315 : x1 = 315
  · replace hf := it_pos h315 hf
    refine a_tin (pc := 1) (tgt := 168) (k := 315) F dX3_fact_1 (by rw [h315]; decide) (by decide) (by decide) rfl (by decide) ?_
    refine a_aloadn (pc := 168) (j := 0) F dX3_fact_168 rfl rfl ?_
    refine a_get (pc := 169) (kb := 0) (j := 0) (f := 7) F iW_X3 rfl rfl rfl (by decide) (tl q1_89) (fun _ h => h) rfl dX3_fact_169 ?_
    obtain rfl := Option.some.inj hf
    exact hret _ _ _ _ (Nat.zero_le _) (Nat.zero_le _) rfl dX3_fact_172
  replace hf := it_neg h315 hf
  by_cases h316 : x1 = 316
  · replace hf := it_pos h316 hf
    refine a_tin (pc := 1) (tgt := 168) (k := 316) F dX3_fact_1 (by rw [h316]; decide) (by decide) (by decide) rfl (by decide) ?_
    refine a_aloadn (pc := 168) (j := 0) F dX3_fact_168 rfl rfl ?_
    refine a_get (pc := 169) (kb := 0) (j := 0) (f := 7) F iW_X3 rfl rfl rfl (by decide) (tl q1_89) (fun _ h => h) rfl dX3_fact_169 ?_
    obtain rfl := Option.some.inj hf
    exact hret _ _ _ _ (Nat.zero_le _) (Nat.zero_le _) rfl dX3_fact_172
  replace hf := it_neg h316 hf
  by_cases h317 : x1 = 317
  · replace hf := it_pos h317 hf
    refine a_tin (pc := 1) (tgt := 168) (k := 317) F dX3_fact_1 (by rw [h317]; decide) (by decide) (by decide) rfl (by decide) ?_
    refine a_aloadn (pc := 168) (j := 0) F dX3_fact_168 rfl rfl ?_
    refine a_get (pc := 169) (kb := 0) (j := 0) (f := 7) F iW_X3 rfl rfl rfl (by decide) (tl q1_89) (fun _ h => h) rfl dX3_fact_169 ?_
    obtain rfl := Option.some.inj hf
    exact hret _ _ _ _ (Nat.zero_le _) (Nat.zero_le _) rfl dX3_fact_172
  replace hf := it_neg h317 hf
  by_cases h318 : x1 = 318
  · replace hf := it_pos h318 hf
    refine a_tin (pc := 1) (tgt := 104) (k := 318) F dX3_fact_1 (by rw [h318]; decide) (by decide) (by decide) rfl (by decide) ?_
    refine a_aloadn (pc := 104) (j := 0) F dX3_fact_104 rfl rfl ?_
    refine a_get (pc := 105) (kb := 0) (j := 0) (f := 19) F iW_X3 rfl rfl rfl (by decide) (tl q1_119) (fun _ h => h) rfl dX3_fact_105 ?_
    refine a_iloadn (pc := 108) (j := 2) F dX3_fact_108 rfl rfl ?_
    obtain ⟨h2, hf⟩ := gd_some hf
    refine a_iald (pc := 109) (kb := 0) (j := 11) F rfl rfl h2 dX3_fact_109 ?_
    refine a_iconst (pc := 110) F dX3_fact_110 kc_5 ?_
    refine a_icmp_le (pc := 111) (tgt := 118) F dX3_fact_111 (by decide) (fun h => ?_) (fun h => ?_)
    · replace hf := it_pos h hf
      refine a_iconst (pc := 118) F dX3_fact_118 kc_0 ?_
      obtain rfl := Option.some.inj hf
      exact hret _ _ _ _ (Nat.zero_le _) (Nat.zero_le _) rfl dX3_fact_119
    · replace hf := it_neg h hf
      refine a_iconst (pc := 114) F dX3_fact_114 kc_1 ?_
      refine a_goto (pc := 115) (tgt := 119) F dX3_fact_115 (by decide) ?_
      obtain rfl := Option.some.inj hf
      exact hret _ _ _ _ (Nat.zero_le _) (Nat.zero_le _) rfl dX3_fact_119
  replace hf := it_neg h318 hf
  by_cases h319 : x1 = 319
  · replace hf := it_pos h319 hf
    refine a_tin (pc := 1) (tgt := 120) (k := 319) F dX3_fact_1 (by rw [h319]; decide) (by decide) (by decide) rfl (by decide) ?_
    refine a_aloadn (pc := 120) (j := 0) F dX3_fact_120 rfl rfl ?_
    refine a_get (pc := 121) (kb := 0) (j := 0) (f := 19) F iW_X3 rfl rfl rfl (by decide) (tl q1_119) (fun _ h => h) rfl dX3_fact_121 ?_
    refine a_iloadn (pc := 124) (j := 2) F dX3_fact_124 rfl rfl ?_
    obtain ⟨h3, hf⟩ := gd_some hf
    refine a_iald (pc := 125) (kb := 0) (j := 11) F rfl rfl h3 dX3_fact_125 ?_
    refine a_iconst (pc := 126) F dX3_fact_126 kc_5 ?_
    refine a_icmp_ne (pc := 127) (tgt := 134) F dX3_fact_127 (by decide) (fun h => ?_) (fun h => ?_)
    · replace hf := it_neg h hf
      refine a_iconst (pc := 134) F dX3_fact_134 kc_0 ?_
      obtain rfl := Option.some.inj hf
      exact hret _ _ _ _ (Nat.zero_le _) (Nat.zero_le _) rfl dX3_fact_135
    · replace hf := it_pos h hf
      refine a_iconst (pc := 130) F dX3_fact_130 kc_1 ?_
      refine a_goto (pc := 131) (tgt := 135) F dX3_fact_131 (by decide) ?_
      obtain rfl := Option.some.inj hf
      exact hret _ _ _ _ (Nat.zero_le _) (Nat.zero_le _) rfl dX3_fact_135
  replace hf := it_neg h319 hf
  by_cases h320 : x1 = 320
  · replace hf := it_pos h320 hf
    refine a_tin (pc := 1) (tgt := 136) (k := 320) F dX3_fact_1 (by rw [h320]; decide) (by decide) (by decide) rfl (by decide) ?_
    refine a_iloadn (pc := 136) (j := 2) F dX3_fact_136 rfl rfl ?_
    obtain rfl := Option.some.inj hf
    exact hret _ _ _ _ (Nat.zero_le _) (Nat.zero_le _) rfl dX3_fact_137
  replace hf := it_neg h320 hf
  by_cases h321 : x1 = 321
  · replace hf := it_pos h321 hf
    refine a_tin (pc := 1) (tgt := 138) (k := 321) F dX3_fact_1 (by rw [h321]; decide) (by decide) (by decide) rfl (by decide) ?_
    refine a_aloadn (pc := 138) (j := 0) F dX3_fact_138 rfl rfl ?_
    refine a_get (pc := 139) (kb := 0) (j := 0) (f := 19) F iW_X3 rfl rfl rfl (by decide) (tl q1_119) (fun _ h => h) rfl dX3_fact_139 ?_
    refine a_iloadn (pc := 142) (j := 2) F dX3_fact_142 rfl rfl ?_
    obtain ⟨h4, hf⟩ := gd_some hf
    refine a_iald (pc := 143) (kb := 0) (j := 11) F rfl rfl h4 dX3_fact_143 ?_
    obtain rfl := Option.some.inj hf
    exact hret _ _ _ _ (Nat.zero_le _) (Nat.zero_le _) rfl dX3_fact_144
  replace hf := it_neg h321 hf
  by_cases h322 : x1 = 322
  · replace hf := it_pos h322 hf
    refine a_tin (pc := 1) (tgt := 145) (k := 322) F dX3_fact_1 (by rw [h322]; decide) (by decide) (by decide) rfl (by decide) ?_
    refine a_aloadn (pc := 145) (j := 0) F dX3_fact_145 rfl rfl ?_
    refine a_get (pc := 146) (kb := 0) (j := 0) (f := 18) F iW_X3 rfl rfl rfl (by decide) (tl q1_115) (fun _ h => h) rfl dX3_fact_146 ?_
    refine a_iloadn (pc := 149) (j := 2) F dX3_fact_149 rfl rfl ?_
    obtain ⟨h5, hf⟩ := gd_some hf
    refine a_iald (pc := 150) (kb := 0) (j := 10) F rfl rfl h5 dX3_fact_150 ?_
    obtain rfl := Option.some.inj hf
    exact hret _ _ _ _ (Nat.zero_le _) (Nat.zero_le _) rfl dX3_fact_151
  replace hf := it_neg h322 hf
  by_cases h323 : x1 = 323
  · replace hf := it_pos h323 hf
    refine a_tin (pc := 1) (tgt := 159) (k := 323) F dX3_fact_1 (by rw [h323]; decide) (by decide) (by decide) rfl (by decide) ?_
    refine a_aloadn (pc := 159) (j := 0) F dX3_fact_159 rfl rfl ?_
    refine a_get (pc := 160) (kb := 0) (j := 0) (f := 10) F iW_X3 rfl rfl rfl (by decide) (tl q1_95) (fun _ h => h) rfl dX3_fact_160 ?_
    refine a_iloadn (pc := 163) (j := 2) F dX3_fact_163 rfl rfl ?_
    refine a_iconst (pc := 164) F dX3_fact_164 kc_2 ?_
    refine a_idiv (pc := 165) F dX3_fact_165 (by decide) ?_
    obtain ⟨h6, hf⟩ := gd_some hf
    refine a_iald (pc := 166) (kb := 0) (j := 2) F rfl rfl h6 dX3_fact_166 ?_
    obtain rfl := Option.some.inj hf
    exact hret _ _ _ _ (Nat.zero_le _) (Nat.zero_le _) rfl dX3_fact_167
  replace hf := it_neg h323 hf
  refine a_tout (pc := 1) (tgt := 168) F dX3_fact_1 (by have := sw_ne 302 h302 (by decide); have := sw_ne 303 h303 (by decide); have := sw_ne 304 h304 (by decide); have := sw_ne 305 h305 (by decide); have := sw_ne 306 h306 (by decide); have := sw_ne 307 h307 (by decide); have := sw_ne 308 h308 (by decide); have := sw_ne 309 h309 (by decide); have := sw_ne 310 h310 (by decide); have := sw_ne 311 h311 (by decide); have := sw_ne 312 h312 (by decide); have := sw_ne 313 h313 (by decide); have := sw_ne 314 h314 (by decide); have := sw_ne 315 h315 (by decide); have := sw_ne 316 h316 (by decide); have := sw_ne 317 h317 (by decide); have := sw_ne 318 h318 (by decide); have := sw_ne 319 h319 (by decide); have := sw_ne 320 h320 (by decide); have := sw_ne 321 h321 (by decide); have := sw_ne 322 h322 (by decide); have := sw_ne 323 h323 (by decide); omega) (by decide) ?_
  refine a_aloadn (pc := 168) (j := 0) F dX3_fact_168 rfl rfl ?_
  refine a_get (pc := 169) (kb := 0) (j := 0) (f := 7) F iW_X3 rfl rfl rfl (by decide) (tl q1_89) (fun _ h => h) rfl dX3_fact_169 ?_
  obtain rfl := Option.some.inj hf
  exact hret _ _ _ _ (Nat.zero_le _) (Nat.zero_le _) rfl dX3_fact_172

abbrev wX3_goneThings : List Cond := Cond.code yX3_goneThings cX3_goneThings 1 (some .int) :: WALL
def m_X3_goneThings (n : Nat) (v0 : St) : Option (Int32) :=
bd (m_X3_thingsIn n v0 (-1)) (fun t1 =>
some t1)
set_option maxHeartbeats 4000000 in
set_option maxRecDepth 100000 in
theorem c_X3_goneThings (l : Launch) (D : va_G) (y : Nat → ClassId) (ek : EK) (n : Nat) (a0 : Nat → Nat) (v0 : St) (res : Int32) (hf : m_X3_goneThings n v0 = some res) : CI l yX3_goneThings wX3_goneThings { frames := 1, cells := 0, slots := 0, locals := 23 } D y ek [.ref (a0 0)] [bX3 y a0 v0] (res) [bX3 y a0 v0] 0 0 := by
  unfold m_X3_goneThings at hf
  refine ci_of (cc := cX3_goneThings) (maxL := 1) (by decide) rfl rfl (Nat.le_of_ble_eq_true rfl) ?_
  intro p e s m below meth c Q A F hret
  refine a_lv (lv' := [(0, .ref (a0 0))]) rfl ?_
  refine a_aloadn (pc := 0) (j := 0) F dX3_goneThings_0 rfl rfl ?_
  refine a_iconst (pc := 1) F dX3_goneThings_1 kc_m1 ?_
  obtain ⟨t1, ht1, hf⟩ := bd_some hf
  refine a_callV (pc := 2) (bs' := [bX3 y a0 v0]) (kb := 0) (j := 0) F [0] (c_X3_thingsIn l D y ek n a0 _ _ _ ht1) (cwV 1 F.1.2.2.2.2 (gV q3_85 q3_86 q3_87 q1_3 q3_88) rfl rfl rfl (by decide +kernel) ⟨Nat.le_of_ble_eq_true rfl, Nat.le_of_ble_eq_true rfl⟩) rfl rfl rfl rfl (by decide) rfl rfl rfl rfl rfl rfl (Nat.le_of_ble_eq_true rfl) ⟨Nat.zero_le _, Nat.zero_le _⟩ dX3_goneThings_2 ?_
  obtain rfl := Option.some.inj hf
  exact hret _ _ _ _ (Nat.zero_le _) (Nat.zero_le _) rfl dX3_goneThings_5

abbrev wX3_worthIn : List Cond := Cond.code yX3_worthIn cX3_worthIn 4 (some .int) :: WALL
def m_X3_worthIn (n : Nat) (v0 : St) (x1 : Int32) : Option (Int32) :=
lp (fun (rc1 : Int32 × Int32 → Option (Int32)) (x1l : Int32 × Int32) =>
(if (v0 1 0) ≤ x1l.2 then
some x1l.1
else
(if ix x1l.2 10 then bd ((if (v0 17 (x1l.2).toNatClampNeg) = x1 then
(if ix x1l.2 10 then nm (x1l.1 + (v0 16 (x1l.2).toNatClampNeg)) (fun x2_5 =>
some x2_5) else none)
else
some x1l.1)) (fun (t3 : Int32) =>
rc1 (t3, (x1l.2 + 1))) else none))) n (0, 0)
set_option maxHeartbeats 4000000 in
set_option maxRecDepth 100000 in
theorem c_X3_worthIn (l : Launch) (D : va_G) (y : Nat → ClassId) (ek : EK) (n : Nat) (a0 : Nat → Nat) (v0 : St) (x1 : Int32) (res : Int32) (hf : m_X3_worthIn n v0 x1 = some res) : CI l yX3_worthIn wX3_worthIn { frames := 0, cells := 0, slots := 0, locals := 0 } D y ek [.ref (a0 0), .int x1] [bX3 y a0 v0] (res) [bX3 y a0 v0] 0 0 := by
  unfold m_X3_worthIn at hf
  refine ci_of (cc := cX3_worthIn) (maxL := 4) (by decide) rfl rfl (Nat.le_of_ble_eq_true rfl) ?_
  intro p e s m below meth c Q A F hret
  refine a_lv (lv' := [(0, .ref (a0 0)), (1, .int x1)]) rfl ?_
  refine a_iconst (pc := 0) F dX3_worthIn_0 kc_0 ?_
  refine a_istoren (pc := 1) (lv' := [(0, .ref (a0 0)), (1, .int x1), (2, .int 0)]) F [1, 2, 0] dX3_worthIn_1 rfl (by decide) rfl ?_
  refine a_iconst (pc := 2) F dX3_worthIn_2 kc_0 ?_
  refine a_istoren (pc := 3) (lv' := [(0, .ref (a0 0)), (1, .int x1), (2, .int 0), (3, .int 0)]) F [1, 2, 3, 0] dX3_worthIn_3 rfl (by decide) rfl ?_
  refine a_loop 4 (fun (x1l : Int32 × Int32) => [(0, .ref (a0 0)), (1, .int x1), (2, .int x1l.1), (3, .int x1l.2)]) (fun (x1l : Int32 × Int32) => [bX3 y a0 v0]) (fun rc1 x1l ih1 hf => ?_) hf rfl rfl
  try dsimp only at hf ⊢
  refine a_iloadn (pc := 4) (j := 3) F dX3_worthIn_4 rfl rfl ?_
  refine a_aloadn (pc := 5) (j := 0) F dX3_worthIn_5 rfl rfl ?_
  refine a_get (pc := 6) (kb := 0) (j := 0) (f := 1) F iW_X3 rfl rfl rfl (by decide) (tl q1_69) (fun _ h => h) rfl dX3_worthIn_6 ?_
  refine a_icmp_ge (pc := 9) (tgt := 37) F dX3_worthIn_9 (by decide) (fun h => ?_) (fun h => ?_)
  · replace hf := it_pos h hf
    refine a_iloadn (pc := 37) (j := 2) F dX3_worthIn_37 rfl rfl ?_
    obtain rfl := Option.some.inj hf
    exact hret _ _ _ _ (Nat.zero_le _) (Nat.zero_le _) rfl dX3_worthIn_38
  · replace hf := it_neg h hf
    refine a_aloadn (pc := 12) (j := 0) F dX3_worthIn_12 rfl rfl ?_
    refine a_get (pc := 13) (kb := 0) (j := 0) (f := 17) F iW_X3 rfl rfl rfl (by decide) (tl q1_112) (fun _ h => h) rfl dX3_worthIn_13 ?_
    refine a_iloadn (pc := 16) (j := 3) F dX3_worthIn_16 rfl rfl ?_
    obtain ⟨h2, hf⟩ := gd_some hf
    refine a_iald (pc := 17) (kb := 0) (j := 9) F rfl rfl h2 dX3_worthIn_17 ?_
    refine a_iloadn (pc := 18) (j := 1) F dX3_worthIn_18 rfl rfl ?_
    refine a_join 31 (fun (t3 : Int32) => [(0, .ref (a0 0)), (1, .int x1), (2, .int t3), (3, .int x1l.2)]) (fun (t3 : Int32) => []) (fun (t3 : Int32) => [bX3 y a0 v0]) hf (fun t3 hf => ?_) (fun t3 hf J3 => ?_)
    · try dsimp only at hf ⊢
      refine a_iinc (pc := 31) (j := 3) (v := (x1l.2 + 1)) (lv' := [(0, .ref (a0 0)), (1, .int x1), (2, .int t3), (3, .int (x1l.2 + 1))]) F [1, 2, 3, 0] dX3_worthIn_31 rfl ki_1 (by decide) rfl ?_
      refine a_goto (pc := 34) (tgt := 4) F dX3_worthIn_34 (by decide) ?_
      exact ih1 (t3, (x1l.2 + 1)) hf
    · refine a_icmp_ne (pc := 19) (tgt := 31) F dX3_worthIn_19 (by decide) (fun h => ?_) (fun h => ?_)
      · replace hf := it_neg h hf
        obtain rfl := Option.some.inj hf
        exact J3
      · replace hf := it_pos h hf
        refine a_iloadn (pc := 22) (j := 2) F dX3_worthIn_22 rfl rfl ?_
        refine a_aloadn (pc := 23) (j := 0) F dX3_worthIn_23 rfl rfl ?_
        refine a_get (pc := 24) (kb := 0) (j := 0) (f := 16) F iW_X3 rfl rfl rfl (by decide) (tl q1_110) (fun _ h => h) rfl dX3_worthIn_24 ?_
        refine a_iloadn (pc := 27) (j := 3) F dX3_worthIn_27 rfl rfl ?_
        obtain ⟨h4, hf⟩ := gd_some hf
        refine a_iald (pc := 28) (kb := 0) (j := 8) F rfl rfl h4 dX3_worthIn_28 ?_
        refine a_iadd (pc := 29) F dX3_worthIn_29 ?_
        obtain ⟨x2_5, ex2_5, hf⟩ := nm_some hf
        refine a_nmi ex2_5 ?_
        refine a_istoren (pc := 30) (lv' := [(0, .ref (a0 0)), (1, .int x1), (2, .int x2_5), (3, .int x1l.2)]) F [1, 2, 0, 3] dX3_worthIn_30 rfl (by decide) rfl ?_
        obtain rfl := Option.some.inj hf
        exact J3

abbrev wX3_weightOf : List Cond := Cond.code yX3_weightOf cX3_weightOf 4 (some .int) :: WALL
def m_X3_weightOf (n : Nat) (v0 : St) (x1 : Int32) : Option (Int32) :=
lp (fun (rc1 : Int32 × Int32 → Option (Int32)) (x1l : Int32 × Int32) =>
(if (v0 1 0) ≤ x1l.2 then
some x1l.1
else
bd ((if ((x_shr x1 x1l.2) &&& 1) = 0 then
some x1l.1
else
(if ix x1l.2 10 then nm (x1l.1 + (v0 15 (x1l.2).toNatClampNeg)) (fun x2_4 =>
some x2_4) else none))) (fun (t2 : Int32) =>
rc1 (t2, (x1l.2 + 1))))) n (0, 0)
set_option maxHeartbeats 4000000 in
set_option maxRecDepth 100000 in
theorem c_X3_weightOf (l : Launch) (D : va_G) (y : Nat → ClassId) (ek : EK) (n : Nat) (a0 : Nat → Nat) (v0 : St) (x1 : Int32) (res : Int32) (hf : m_X3_weightOf n v0 x1 = some res) : CI l yX3_weightOf wX3_weightOf { frames := 0, cells := 0, slots := 0, locals := 0 } D y ek [.ref (a0 0), .int x1] [bX3 y a0 v0] (res) [bX3 y a0 v0] 0 0 := by
  unfold m_X3_weightOf at hf
  refine ci_of (cc := cX3_weightOf) (maxL := 4) (by decide) rfl rfl (Nat.le_of_ble_eq_true rfl) ?_
  intro p e s m below meth c Q A F hret
  refine a_lv (lv' := [(0, .ref (a0 0)), (1, .int x1)]) rfl ?_
  refine a_iconst (pc := 0) F dX3_weightOf_0 kc_0 ?_
  refine a_istoren (pc := 1) (lv' := [(0, .ref (a0 0)), (1, .int x1), (2, .int 0)]) F [1, 2, 0] dX3_weightOf_1 rfl (by decide) rfl ?_
  refine a_iconst (pc := 2) F dX3_weightOf_2 kc_0 ?_
  refine a_istoren (pc := 3) (lv' := [(0, .ref (a0 0)), (1, .int x1), (2, .int 0), (3, .int 0)]) F [1, 2, 3, 0] dX3_weightOf_3 rfl (by decide) rfl ?_
  refine a_loop 4 (fun (x1l : Int32 × Int32) => [(0, .ref (a0 0)), (1, .int x1), (2, .int x1l.1), (3, .int x1l.2)]) (fun (x1l : Int32 × Int32) => [bX3 y a0 v0]) (fun rc1 x1l ih1 hf => ?_) hf rfl rfl
  try dsimp only at hf ⊢
  refine a_iloadn (pc := 4) (j := 3) F dX3_weightOf_4 rfl rfl ?_
  refine a_aloadn (pc := 5) (j := 0) F dX3_weightOf_5 rfl rfl ?_
  refine a_get (pc := 6) (kb := 0) (j := 0) (f := 1) F iW_X3 rfl rfl rfl (by decide) (tl q1_69) (fun _ h => h) rfl dX3_weightOf_6 ?_
  refine a_icmp_ge (pc := 9) (tgt := 35) F dX3_weightOf_9 (by decide) (fun h => ?_) (fun h => ?_)
  · replace hf := it_pos h hf
    refine a_iloadn (pc := 35) (j := 2) F dX3_weightOf_35 rfl rfl ?_
    obtain rfl := Option.some.inj hf
    exact hret _ _ _ _ (Nat.zero_le _) (Nat.zero_le _) rfl dX3_weightOf_36
  · replace hf := it_neg h hf
    refine a_iloadn (pc := 12) (j := 1) F dX3_weightOf_12 rfl rfl ?_
    refine a_iloadn (pc := 13) (j := 3) F dX3_weightOf_13 rfl rfl ?_
    refine a_ishr (pc := 14) F dX3_weightOf_14 ?_
    refine a_iconst (pc := 15) F dX3_weightOf_15 kc_1 ?_
    refine a_iand (pc := 16) F dX3_weightOf_16 ?_
    refine a_join 29 (fun (t2 : Int32) => [(0, .ref (a0 0)), (1, .int x1), (2, .int t2), (3, .int x1l.2)]) (fun (t2 : Int32) => []) (fun (t2 : Int32) => [bX3 y a0 v0]) hf (fun t2 hf => ?_) (fun t2 hf J2 => ?_)
    · try dsimp only at hf ⊢
      refine a_iinc (pc := 29) (j := 3) (v := (x1l.2 + 1)) (lv' := [(0, .ref (a0 0)), (1, .int x1), (2, .int t2), (3, .int (x1l.2 + 1))]) F [1, 2, 3, 0] dX3_weightOf_29 rfl ki_1 (by decide) rfl ?_
      refine a_goto (pc := 32) (tgt := 4) F dX3_weightOf_32 (by decide) ?_
      exact ih1 (t2, (x1l.2 + 1)) hf
    · refine a_if_eq (pc := 17) (tgt := 29) F dX3_weightOf_17 (by decide) (fun h => ?_) (fun h => ?_)
      · replace hf := it_pos h hf
        obtain rfl := Option.some.inj hf
        exact J2
      · replace hf := it_neg h hf
        refine a_iloadn (pc := 20) (j := 2) F dX3_weightOf_20 rfl rfl ?_
        refine a_aloadn (pc := 21) (j := 0) F dX3_weightOf_21 rfl rfl ?_
        refine a_get (pc := 22) (kb := 0) (j := 0) (f := 15) F iW_X3 rfl rfl rfl (by decide) (tl q1_107) (fun _ h => h) rfl dX3_weightOf_22 ?_
        refine a_iloadn (pc := 25) (j := 3) F dX3_weightOf_25 rfl rfl ?_
        obtain ⟨h3, hf⟩ := gd_some hf
        refine a_iald (pc := 26) (kb := 0) (j := 7) F rfl rfl h3 dX3_weightOf_26 ?_
        refine a_iadd (pc := 27) F dX3_weightOf_27 ?_
        obtain ⟨x2_4, ex2_4, hf⟩ := nm_some hf
        refine a_nmi ex2_4 ?_
        refine a_istoren (pc := 28) (lv' := [(0, .ref (a0 0)), (1, .int x1), (2, .int x2_4), (3, .int x1l.2)]) F [1, 2, 0, 3] dX3_weightOf_28 rfl (by decide) rfl ?_
        obtain rfl := Option.some.inj hf
        exact J2

abbrev wX3_brokenPlanks : List Cond := Cond.code yX3_brokenPlanks cX3_brokenPlanks 3 (some .int) :: WALL
def m_X3_brokenPlanks (n : Nat) (v0 : St) : Option (Int32) :=
lp (fun (rc1 : Int32 × Int32 → Option (Int32)) (x1l : Int32 × Int32) =>
(if (v0 0 0) ≤ x1l.2 then
some x1l.1
else
(if ix x1l.2 5 then bd ((if (v0 12 (x1l.2).toNatClampNeg) = 0 then
some x1l.1
else
nm (x1l.1 ||| (x_shl 1 x1l.2)) (fun x1_4 =>
some x1_4))) (fun (t3 : Int32) =>
rc1 (t3, (x1l.2 + 1))) else none))) n (0, 0)
set_option maxHeartbeats 4000000 in
set_option maxRecDepth 100000 in
theorem c_X3_brokenPlanks (l : Launch) (D : va_G) (y : Nat → ClassId) (ek : EK) (n : Nat) (a0 : Nat → Nat) (v0 : St) (res : Int32) (hf : m_X3_brokenPlanks n v0 = some res) : CI l yX3_brokenPlanks wX3_brokenPlanks { frames := 0, cells := 0, slots := 0, locals := 0 } D y ek [.ref (a0 0)] [bX3 y a0 v0] (res) [bX3 y a0 v0] 0 0 := by
  unfold m_X3_brokenPlanks at hf
  refine ci_of (cc := cX3_brokenPlanks) (maxL := 3) (by decide) rfl rfl (Nat.le_of_ble_eq_true rfl) ?_
  intro p e s m below meth c Q A F hret
  refine a_lv (lv' := [(0, .ref (a0 0))]) rfl ?_
  refine a_iconst (pc := 0) F dX3_brokenPlanks_0 kc_0 ?_
  refine a_istoren (pc := 1) (lv' := [(0, .ref (a0 0)), (1, .int 0)]) F [1, 0] dX3_brokenPlanks_1 rfl (by decide) rfl ?_
  refine a_iconst (pc := 2) F dX3_brokenPlanks_2 kc_0 ?_
  refine a_istoren (pc := 3) (lv' := [(0, .ref (a0 0)), (1, .int 0), (2, .int 0)]) F [1, 2, 0] dX3_brokenPlanks_3 rfl (by decide) rfl ?_
  refine a_loop 4 (fun (x1l : Int32 × Int32) => [(0, .ref (a0 0)), (1, .int x1l.1), (2, .int x1l.2)]) (fun (x1l : Int32 × Int32) => [bX3 y a0 v0]) (fun rc1 x1l ih1 hf => ?_) hf rfl rfl
  try dsimp only at hf ⊢
  refine a_iloadn (pc := 4) (j := 2) F dX3_brokenPlanks_4 rfl rfl ?_
  refine a_aloadn (pc := 5) (j := 0) F dX3_brokenPlanks_5 rfl rfl ?_
  refine a_get (pc := 6) (kb := 0) (j := 0) (f := 0) F iW_X3 rfl rfl rfl (by decide) (tl q1_66) (fun _ h => h) rfl dX3_brokenPlanks_6 ?_
  refine a_icmp_ge (pc := 9) (tgt := 33) F dX3_brokenPlanks_9 (by decide) (fun h => ?_) (fun h => ?_)
  · replace hf := it_pos h hf
    refine a_iloadn (pc := 33) (j := 1) F dX3_brokenPlanks_33 rfl rfl ?_
    obtain rfl := Option.some.inj hf
    exact hret _ _ _ _ (Nat.zero_le _) (Nat.zero_le _) rfl dX3_brokenPlanks_34
  · replace hf := it_neg h hf
    refine a_aloadn (pc := 12) (j := 0) F dX3_brokenPlanks_12 rfl rfl ?_
    refine a_get (pc := 13) (kb := 0) (j := 0) (f := 12) F iW_X3 rfl rfl rfl (by decide) (tl q1_99) (fun _ h => h) rfl dX3_brokenPlanks_13 ?_
    refine a_iloadn (pc := 16) (j := 2) F dX3_brokenPlanks_16 rfl rfl ?_
    obtain ⟨h2, hf⟩ := gd_some hf
    refine a_zald (pc := 17) (kb := 0) (j := 4) F rfl rfl h2 dX3_brokenPlanks_17 ?_
    refine a_join 27 (fun (t3 : Int32) => [(0, .ref (a0 0)), (1, .int t3), (2, .int x1l.2)]) (fun (t3 : Int32) => []) (fun (t3 : Int32) => [bX3 y a0 v0]) hf (fun t3 hf => ?_) (fun t3 hf J3 => ?_)
    · try dsimp only at hf ⊢
      refine a_iinc (pc := 27) (j := 2) (v := (x1l.2 + 1)) (lv' := [(0, .ref (a0 0)), (1, .int t3), (2, .int (x1l.2 + 1))]) F [1, 2, 0] dX3_brokenPlanks_27 rfl ki_1 (by decide) rfl ?_
      refine a_goto (pc := 30) (tgt := 4) F dX3_brokenPlanks_30 (by decide) ?_
      exact ih1 (t3, (x1l.2 + 1)) hf
    · refine a_if_eq (pc := 18) (tgt := 27) F dX3_brokenPlanks_18 (by decide) (fun h => ?_) (fun h => ?_)
      · replace hf := it_pos h hf
        obtain rfl := Option.some.inj hf
        exact J3
      · replace hf := it_neg h hf
        refine a_iloadn (pc := 21) (j := 1) F dX3_brokenPlanks_21 rfl rfl ?_
        refine a_iconst (pc := 22) F dX3_brokenPlanks_22 kc_1 ?_
        refine a_iloadn (pc := 23) (j := 2) F dX3_brokenPlanks_23 rfl rfl ?_
        refine a_ishl (pc := 24) F dX3_brokenPlanks_24 ?_
        refine a_ior (pc := 25) F dX3_brokenPlanks_25 ?_
        obtain ⟨x1_4, ex1_4, hf⟩ := nm_some hf
        refine a_nmi ex1_4 ?_
        refine a_istoren (pc := 26) (lv' := [(0, .ref (a0 0)), (1, .int x1_4), (2, .int x1l.2)]) F [1, 0, 2] dX3_brokenPlanks_26 rfl (by decide) rfl ?_
        obtain rfl := Option.some.inj hf
        exact J3

abbrev wX3_purseSum : List Cond := Cond.code yX3_purseSum cX3_purseSum 3 (some .int) :: WALL
def m_X3_purseSum (n : Nat) (v0 : St) : Option (Int32) :=
lp (fun (rc1 : Int32 × Int32 → Option (Int32)) (x1l : Int32 × Int32) =>
bd (m_X3_houses n v0) (fun t2 =>
(if t2 ≤ x1l.2 then
some x1l.1
else
(if ix x1l.2 10 then nm (x1l.1 + (v0 13 (x1l.2).toNatClampNeg)) (fun x1_4 =>
rc1 (x1_4, (x1l.2 + 1))) else none)))) n (0, 0)
set_option maxHeartbeats 4000000 in
set_option maxRecDepth 100000 in
theorem c_X3_purseSum (l : Launch) (D : va_G) (y : Nat → ClassId) (ek : EK) (n : Nat) (a0 : Nat → Nat) (v0 : St) (res : Int32) (hf : m_X3_purseSum n v0 = some res) : CI l yX3_purseSum wX3_purseSum { frames := 1, cells := 0, slots := 0, locals := 20 } D y ek [.ref (a0 0)] [bX3 y a0 v0] (res) [bX3 y a0 v0] 0 0 := by
  unfold m_X3_purseSum at hf
  refine ci_of (cc := cX3_purseSum) (maxL := 3) (by decide) rfl rfl (Nat.le_of_ble_eq_true rfl) ?_
  intro p e s m below meth c Q A F hret
  refine a_lv (lv' := [(0, .ref (a0 0))]) rfl ?_
  refine a_iconst (pc := 0) F dX3_purseSum_0 kc_0 ?_
  refine a_istoren (pc := 1) (lv' := [(0, .ref (a0 0)), (1, .int 0)]) F [1, 0] dX3_purseSum_1 rfl (by decide) rfl ?_
  refine a_iconst (pc := 2) F dX3_purseSum_2 kc_0 ?_
  refine a_istoren (pc := 3) (lv' := [(0, .ref (a0 0)), (1, .int 0), (2, .int 0)]) F [1, 2, 0] dX3_purseSum_3 rfl (by decide) rfl ?_
  refine a_loop 4 (fun (x1l : Int32 × Int32) => [(0, .ref (a0 0)), (1, .int x1l.1), (2, .int x1l.2)]) (fun (x1l : Int32 × Int32) => [bX3 y a0 v0]) (fun rc1 x1l ih1 hf => ?_) hf rfl rfl
  try dsimp only at hf ⊢
  refine a_iloadn (pc := 4) (j := 2) F dX3_purseSum_4 rfl rfl ?_
  refine a_aloadn (pc := 5) (j := 0) F dX3_purseSum_5 rfl rfl ?_
  obtain ⟨t2, ht2, hf⟩ := bd_some hf
  refine a_callV (pc := 6) (bs' := [bX3 y a0 v0]) (kb := 0) (j := 0) F [0] (c_X3_houses l D y ek n a0 _ _ ht2) (cwV 0 F.1.2.2.2.2 (gV q2_157 q2_158 q2_159 q1_3 q2_160) rfl rfl rfl (by decide +kernel) ⟨Nat.le_of_ble_eq_true rfl, Nat.le_of_ble_eq_true rfl⟩) rfl rfl rfl rfl (by decide) rfl rfl rfl rfl rfl rfl (Nat.le_of_ble_eq_true rfl) ⟨Nat.zero_le _, Nat.zero_le _⟩ dX3_purseSum_6 ?_
  refine a_icmp_ge (pc := 9) (tgt := 27) F dX3_purseSum_9 (by decide) (fun h => ?_) (fun h => ?_)
  · replace hf := it_pos h hf
    refine a_iloadn (pc := 27) (j := 1) F dX3_purseSum_27 rfl rfl ?_
    obtain rfl := Option.some.inj hf
    exact hret _ _ _ _ (Nat.zero_le _) (Nat.zero_le _) rfl dX3_purseSum_28
  · replace hf := it_neg h hf
    refine a_iloadn (pc := 12) (j := 1) F dX3_purseSum_12 rfl rfl ?_
    refine a_aloadn (pc := 13) (j := 0) F dX3_purseSum_13 rfl rfl ?_
    refine a_get (pc := 14) (kb := 0) (j := 0) (f := 13) F iW_X3 rfl rfl rfl (by decide) (tl q1_101) (fun _ h => h) rfl dX3_purseSum_14 ?_
    refine a_iloadn (pc := 17) (j := 2) F dX3_purseSum_17 rfl rfl ?_
    obtain ⟨h3, hf⟩ := gd_some hf
    refine a_iald (pc := 18) (kb := 0) (j := 5) F rfl rfl h3 dX3_purseSum_18 ?_
    refine a_iadd (pc := 19) F dX3_purseSum_19 ?_
    obtain ⟨x1_4, ex1_4, hf⟩ := nm_some hf
    refine a_nmi ex1_4 ?_
    refine a_istoren (pc := 20) (lv' := [(0, .ref (a0 0)), (1, .int x1_4), (2, .int x1l.2)]) F [1, 0, 2] dX3_purseSum_20 rfl (by decide) rfl ?_
    refine a_iinc (pc := 21) (j := 2) (v := (x1l.2 + 1)) (lv' := [(0, .ref (a0 0)), (1, .int x1_4), (2, .int (x1l.2 + 1))]) F [1, 2, 0] dX3_purseSum_21 rfl ki_1 (by decide) rfl ?_
    refine a_goto (pc := 24) (tgt := 4) F dX3_purseSum_24 (by decide) ?_
    exact ih1 (x1_4, (x1l.2 + 1)) hf

abbrev wX3_hasEmptyPurse : List Cond := Cond.code yX3_hasEmptyPurse cX3_hasEmptyPurse 2 (some .boolean) :: WALL
def m_X3_hasEmptyPurse (n : Nat) (v0 : St) : Option (Int32) :=
lp (fun (rc1 : Int32 → Option (Int32)) (x1l : Int32) =>
bd (m_X3_houses n v0) (fun t2 =>
(if t2 ≤ x1l then
some 0
else
(if ix x1l 10 then (if (v0 13 (x1l).toNatClampNeg) = 0 then
some 1
else
rc1 (x1l + 1)) else none)))) n 0
set_option maxHeartbeats 4000000 in
set_option maxRecDepth 100000 in
theorem c_X3_hasEmptyPurse (l : Launch) (D : va_G) (y : Nat → ClassId) (ek : EK) (n : Nat) (a0 : Nat → Nat) (v0 : St) (res : Int32) (hf : m_X3_hasEmptyPurse n v0 = some res) : CI l yX3_hasEmptyPurse wX3_hasEmptyPurse { frames := 1, cells := 0, slots := 0, locals := 20 } D y ek [.ref (a0 0)] [bX3 y a0 v0] (res) [bX3 y a0 v0] 0 0 := by
  unfold m_X3_hasEmptyPurse at hf
  refine ci_of (cc := cX3_hasEmptyPurse) (maxL := 2) (by decide) rfl rfl (Nat.le_of_ble_eq_true rfl) ?_
  intro p e s m below meth c Q A F hret
  refine a_lv (lv' := [(0, .ref (a0 0))]) rfl ?_
  refine a_iconst (pc := 0) F dX3_hasEmptyPurse_0 kc_0 ?_
  refine a_istoren (pc := 1) (lv' := [(0, .ref (a0 0)), (1, .int 0)]) F [1, 0] dX3_hasEmptyPurse_1 rfl (by decide) rfl ?_
  refine a_loop 2 (fun (x1l : Int32) => [(0, .ref (a0 0)), (1, .int x1l)]) (fun (x1l : Int32) => [bX3 y a0 v0]) (fun rc1 x1l ih1 hf => ?_) hf rfl rfl
  try dsimp only at hf ⊢
  refine a_iloadn (pc := 2) (j := 1) F dX3_hasEmptyPurse_2 rfl rfl ?_
  refine a_aloadn (pc := 3) (j := 0) F dX3_hasEmptyPurse_3 rfl rfl ?_
  obtain ⟨t2, ht2, hf⟩ := bd_some hf
  refine a_callV (pc := 4) (bs' := [bX3 y a0 v0]) (kb := 0) (j := 0) F [0] (c_X3_houses l D y ek n a0 _ _ ht2) (cwV 0 F.1.2.2.2.2 (gV q2_157 q2_158 q2_159 q1_3 q2_160) rfl rfl rfl (by decide +kernel) ⟨Nat.le_of_ble_eq_true rfl, Nat.le_of_ble_eq_true rfl⟩) rfl rfl rfl rfl (by decide) rfl rfl rfl rfl rfl rfl (Nat.le_of_ble_eq_true rfl) ⟨Nat.zero_le _, Nat.zero_le _⟩ dX3_hasEmptyPurse_4 ?_
  refine a_icmp_ge (pc := 7) (tgt := 27) F dX3_hasEmptyPurse_7 (by decide) (fun h => ?_) (fun h => ?_)
  · replace hf := it_pos h hf
    refine a_iconst (pc := 27) F dX3_hasEmptyPurse_27 kc_0 ?_
    obtain rfl := Option.some.inj hf
    exact hret _ _ _ _ (Nat.zero_le _) (Nat.zero_le _) (z_nar (Or.inl rfl)) dX3_hasEmptyPurse_28
  · replace hf := it_neg h hf
    refine a_aloadn (pc := 10) (j := 0) F dX3_hasEmptyPurse_10 rfl rfl ?_
    refine a_get (pc := 11) (kb := 0) (j := 0) (f := 13) F iW_X3 rfl rfl rfl (by decide) (tl q1_101) (fun _ h => h) rfl dX3_hasEmptyPurse_11 ?_
    refine a_iloadn (pc := 14) (j := 1) F dX3_hasEmptyPurse_14 rfl rfl ?_
    obtain ⟨h3, hf⟩ := gd_some hf
    refine a_iald (pc := 15) (kb := 0) (j := 5) F rfl rfl h3 dX3_hasEmptyPurse_15 ?_
    refine a_if_ne (pc := 16) (tgt := 21) F dX3_hasEmptyPurse_16 (by decide) (fun h => ?_) (fun h => ?_)
    · replace hf := it_neg h hf
      refine a_iinc (pc := 21) (j := 1) (v := (x1l + 1)) (lv' := [(0, .ref (a0 0)), (1, .int (x1l + 1))]) F [1, 0] dX3_hasEmptyPurse_21 rfl ki_1 (by decide) rfl ?_
      refine a_goto (pc := 24) (tgt := 2) F dX3_hasEmptyPurse_24 (by decide) ?_
      exact ih1 (x1l + 1) hf
    · replace hf := it_pos h hf
      refine a_iconst (pc := 19) F dX3_hasEmptyPurse_19 kc_1 ?_
      obtain rfl := Option.some.inj hf
      exact hret _ _ _ _ (Nat.zero_le _) (Nat.zero_le _) (z_nar (Or.inr rfl)) dX3_hasEmptyPurse_20

abbrev wX3_shareOf : List Cond := Cond.code yX3_shareOf cX3_shareOf 4 (some .int) :: WALL
def m_X3_shareOf (n : Nat) (v0 : St) (x1 : Int32) : Option (Int32) :=
bd (lp (fun (rc4 : Int32 × Int32 → Option (Int32)) (x4l : Int32 × Int32) =>
bd (m_X3_houses n v0) (fun t5 =>
(if t5 ≤ x4l.2 then
some x4l.1
else
(if ix x4l.2 10 then nm (x4l.1 + (x_max 0 (5 - (v0 19 (x4l.2).toNatClampNeg)))) (fun x2_7 =>
rc4 (x2_7, (x4l.2 + 1))) else none)))) n (0, 0)) (fun (t1 : Int32) =>
(if t1 ≤ 0 then
some 0
else
(if ix x1 10 then (if ¬ t1 = 0 then some ((100 * (x_max 0 (5 - (v0 19 (x1).toNatClampNeg)))) / t1) else none) else none)))
set_option maxHeartbeats 4000000 in
set_option maxRecDepth 100000 in
theorem c_X3_shareOf (l : Launch) (D : va_G) (y : Nat → ClassId) (ek : EK) (n : Nat) (a0 : Nat → Nat) (v0 : St) (x1 : Int32) (res : Int32) (hf : m_X3_shareOf n v0 x1 = some res) : CI l yX3_shareOf wX3_shareOf { frames := 1, cells := 0, slots := 0, locals := 20 } D y ek [.ref (a0 0), .int x1] [bX3 y a0 v0] (res) [bX3 y a0 v0] 0 0 := by
  unfold m_X3_shareOf at hf
  refine ci_of (cc := cX3_shareOf) (maxL := 4) (by decide) rfl rfl (Nat.le_of_ble_eq_true rfl) ?_
  intro p e s m below meth c Q A F hret
  refine a_lv (lv' := [(0, .ref (a0 0)), (1, .int x1)]) rfl ?_
  refine a_iconst (pc := 0) F dX3_shareOf_0 kc_0 ?_
  refine a_istoren (pc := 1) (lv' := [(0, .ref (a0 0)), (1, .int x1), (2, .int 0)]) F [1, 2, 0] dX3_shareOf_1 rfl (by decide) rfl ?_
  refine a_iconst (pc := 2) F dX3_shareOf_2 kc_0 ?_
  refine a_istoren (pc := 3) (lv' := [(0, .ref (a0 0)), (1, .int x1), (2, .int 0), (3, .int 0)]) F [1, 2, 3, 0] dX3_shareOf_3 rfl (by decide) rfl ?_
  refine a_join 33 (fun (t1 : Int32) => [(0, .ref (a0 0)), (1, .int x1), (2, .int t1)]) (fun (t1 : Int32) => []) (fun (t1 : Int32) => [bX3 y a0 v0]) hf (fun t1 hf => ?_) (fun t1 hf J1 => ?_)
  · try dsimp only at hf ⊢
    refine a_iloadn (pc := 33) (j := 2) F dX3_shareOf_33 rfl rfl ?_
    refine a_if_le (pc := 34) (tgt := 57) F dX3_shareOf_34 (by decide) (fun h => ?_) (fun h => ?_)
    · replace hf := it_pos h hf
      refine a_iconst (pc := 57) F dX3_shareOf_57 kc_0 ?_
      obtain rfl := Option.some.inj hf
      exact hret _ _ _ _ (Nat.zero_le _) (Nat.zero_le _) rfl dX3_shareOf_58
    · replace hf := it_neg h hf
      refine a_bipush (pc := 37) F dX3_shareOf_37 kb_100 ?_
      refine a_iconst (pc := 39) F dX3_shareOf_39 kc_0 ?_
      refine a_iconst (pc := 40) F dX3_shareOf_40 kc_5 ?_
      refine a_aloadn (pc := 41) (j := 0) F dX3_shareOf_41 rfl rfl ?_
      refine a_get (pc := 42) (kb := 0) (j := 0) (f := 19) F iW_X3 rfl rfl rfl (by decide) (tl q1_119) (fun _ h => h) rfl dX3_shareOf_42 ?_
      refine a_iloadn (pc := 45) (j := 1) F dX3_shareOf_45 rfl rfl ?_
      obtain ⟨h2, hf⟩ := gd_some hf
      refine a_iald (pc := 46) (kb := 0) (j := 11) F rfl rfl h2 dX3_shareOf_46 ?_
      refine a_isub (pc := 47) F dX3_shareOf_47 ?_
      refine a_mmax (pc := 48) F (tl q2_172) (tl q2_173) (tl q1_22) (tl q_math_max) (Nat.le_of_ble_eq_true rfl) (Nat.le_of_ble_eq_true rfl) (Nat.zero_le _) (Nat.zero_le _) dX3_shareOf_48 ?_
      refine a_imul (pc := 51) F dX3_shareOf_51 ?_
      refine a_iloadn (pc := 52) (j := 2) F dX3_shareOf_52 rfl rfl ?_
      obtain ⟨h3, hf⟩ := gd_some hf
      refine a_idiv (pc := 53) F dX3_shareOf_53 h3 ?_
      refine a_goto (pc := 54) (tgt := 58) F dX3_shareOf_54 (by decide) ?_
      obtain rfl := Option.some.inj hf
      exact hret _ _ _ _ (Nat.zero_le _) (Nat.zero_le _) rfl dX3_shareOf_58
  · refine a_loop 4 (fun (x4l : Int32 × Int32) => [(0, .ref (a0 0)), (1, .int x1), (2, .int x4l.1), (3, .int x4l.2)]) (fun (x4l : Int32 × Int32) => [bX3 y a0 v0]) (fun rc4 x4l ih4 hf => ?_) hf rfl rfl
    try dsimp only at hf ⊢
    refine a_iloadn (pc := 4) (j := 3) F dX3_shareOf_4 rfl rfl ?_
    refine a_aloadn (pc := 5) (j := 0) F dX3_shareOf_5 rfl rfl ?_
    obtain ⟨t5, ht5, hf⟩ := bd_some hf
    refine a_callV (pc := 6) (bs' := [bX3 y a0 v0]) (kb := 0) (j := 0) F [0] (c_X3_houses l D y ek n a0 _ _ ht5) (cwV 0 F.1.2.2.2.2 (gV q2_157 q2_158 q2_159 q1_3 q2_160) rfl rfl rfl (by decide +kernel) ⟨Nat.le_of_ble_eq_true rfl, Nat.le_of_ble_eq_true rfl⟩) rfl rfl rfl rfl (by decide) rfl rfl rfl rfl rfl rfl (Nat.le_of_ble_eq_true rfl) ⟨Nat.zero_le _, Nat.zero_le _⟩ dX3_shareOf_6 ?_
    refine a_icmp_ge (pc := 9) (tgt := 33) F dX3_shareOf_9 (by decide) (fun h => ?_) (fun h => ?_)
    · replace hf := it_pos h hf
      refine a_sub [0, 1, 2] rfl ?_
      obtain rfl := Option.some.inj hf
      exact J1
    · replace hf := it_neg h hf
      refine a_iloadn (pc := 12) (j := 2) F dX3_shareOf_12 rfl rfl ?_
      refine a_iconst (pc := 13) F dX3_shareOf_13 kc_0 ?_
      refine a_iconst (pc := 14) F dX3_shareOf_14 kc_5 ?_
      refine a_aloadn (pc := 15) (j := 0) F dX3_shareOf_15 rfl rfl ?_
      refine a_get (pc := 16) (kb := 0) (j := 0) (f := 19) F iW_X3 rfl rfl rfl (by decide) (tl q1_119) (fun _ h => h) rfl dX3_shareOf_16 ?_
      refine a_iloadn (pc := 19) (j := 3) F dX3_shareOf_19 rfl rfl ?_
      obtain ⟨h6, hf⟩ := gd_some hf
      refine a_iald (pc := 20) (kb := 0) (j := 11) F rfl rfl h6 dX3_shareOf_20 ?_
      refine a_isub (pc := 21) F dX3_shareOf_21 ?_
      refine a_mmax (pc := 22) F (tl q2_172) (tl q2_173) (tl q1_22) (tl q_math_max) (Nat.le_of_ble_eq_true rfl) (Nat.le_of_ble_eq_true rfl) (Nat.zero_le _) (Nat.zero_le _) dX3_shareOf_22 ?_
      refine a_iadd (pc := 25) F dX3_shareOf_25 ?_
      obtain ⟨x2_7, ex2_7, hf⟩ := nm_some hf
      refine a_nmi ex2_7 ?_
      refine a_istoren (pc := 26) (lv' := [(0, .ref (a0 0)), (1, .int x1), (2, .int x2_7), (3, .int x4l.2)]) F [1, 2, 0, 3] dX3_shareOf_26 rfl (by decide) rfl ?_
      refine a_iinc (pc := 27) (j := 3) (v := (x4l.2 + 1)) (lv' := [(0, .ref (a0 0)), (1, .int x1), (2, .int x2_7), (3, .int (x4l.2 + 1))]) F [1, 2, 3, 0] dX3_shareOf_27 rfl ki_1 (by decide) rfl ?_
      refine a_goto (pc := 30) (tgt := 4) F dX3_shareOf_30 (by decide) ?_
      exact ih4 (x2_7, (x4l.2 + 1)) hf

abbrev wX3_corkOf : List Cond := Cond.code yX3_corkOf cX3_corkOf 4 (some .int) :: WALL
def m_X3_corkOf (n : Nat) (v0 : St) (x1 : Int32) : Option (Int32) :=
nm (x1 / 2) (fun x2_1 =>
(if ix x2_1 5 then (if (v0 12 (x2_1).toNatClampNeg) = 0 then
bd ((if (x_rem x1 2) = 0 then
some (x1 + 1)
else
some (x1 - 1))) (fun (t3 : Int32) =>
(if ix x2_1 5 then (if (v0 11 (x2_1).toNatClampNeg) = 0 then
(if ix t3 10 then bd (m_X3_leaning n v0 (v0 2 0) (v0 18 (t3).toNatClampNeg)) (fun t6 =>
some (5 + t6)) else none)
else
some 5) else none))
else
some 0) else none))
set_option maxHeartbeats 4000000 in
set_option maxRecDepth 100000 in
theorem c_X3_corkOf (l : Launch) (D : va_G) (y : Nat → ClassId) (ek : EK) (n : Nat) (a0 : Nat → Nat) (v0 : St) (x1 : Int32) (res : Int32) (hf : m_X3_corkOf n v0 x1 = some res) : CI l yX3_corkOf wX3_corkOf { frames := 2, cells := 0, slots := 0, locals := 39 } D y ek [.ref (a0 0), .int x1] [bX3 y a0 v0] (res) [bX3 y a0 v0] 0 0 := by
  unfold m_X3_corkOf at hf
  refine ci_of (cc := cX3_corkOf) (maxL := 4) (by decide) rfl rfl (Nat.le_of_ble_eq_true rfl) ?_
  intro p e s m below meth c Q A F hret
  refine a_lv (lv' := [(0, .ref (a0 0)), (1, .int x1)]) rfl ?_
  refine a_iloadn (pc := 0) (j := 1) F dX3_corkOf_0 rfl rfl ?_
  refine a_iconst (pc := 1) F dX3_corkOf_1 kc_2 ?_
  refine a_idiv (pc := 2) F dX3_corkOf_2 (by decide) ?_
  obtain ⟨x2_1, ex2_1, hf⟩ := nm_some hf
  refine a_nmi ex2_1 ?_
  refine a_istoren (pc := 3) (lv' := [(0, .ref (a0 0)), (1, .int x1), (2, .int x2_1)]) F [1, 2, 0] dX3_corkOf_3 rfl (by decide) rfl ?_
  refine a_aloadn (pc := 4) (j := 0) F dX3_corkOf_4 rfl rfl ?_
  refine a_get (pc := 5) (kb := 0) (j := 0) (f := 12) F iW_X3 rfl rfl rfl (by decide) (tl q1_99) (fun _ h => h) rfl dX3_corkOf_5 ?_
  refine a_iloadn (pc := 8) (j := 2) F dX3_corkOf_8 rfl rfl ?_
  obtain ⟨h2, hf⟩ := gd_some hf
  refine a_zald (pc := 9) (kb := 0) (j := 4) F rfl rfl h2 dX3_corkOf_9 ?_
  refine a_if_eq (pc := 10) (tgt := 15) F dX3_corkOf_10 (by decide) (fun h => ?_) (fun h => ?_)
  · replace hf := it_pos h hf
    refine a_iloadn (pc := 15) (j := 1) F dX3_corkOf_15 rfl rfl ?_
    refine a_iconst (pc := 16) F dX3_corkOf_16 kc_2 ?_
    refine a_irem (pc := 17) F dX3_corkOf_17 (by decide) ?_
    refine a_join 30 (fun (t3 : Int32) => [(0, .ref (a0 0)), (2, .int x2_1)]) (fun (t3 : Int32) => [.int t3]) (fun (t3 : Int32) => [bX3 y a0 v0]) hf (fun t3 hf => ?_) (fun t3 hf J3 => ?_)
    · try dsimp only at hf ⊢
      refine a_istoren (pc := 30) (lv' := [(0, .ref (a0 0)), (2, .int x2_1), (3, .int t3)]) F [1, 2, 0] dX3_corkOf_30 rfl (by decide) rfl ?_
      refine a_aloadn (pc := 31) (j := 0) F dX3_corkOf_31 rfl rfl ?_
      refine a_get (pc := 32) (kb := 0) (j := 0) (f := 11) F iW_X3 rfl rfl rfl (by decide) (tl q1_97) (fun _ h => h) rfl dX3_corkOf_32 ?_
      refine a_iloadn (pc := 35) (j := 1) F dX3_corkOf_35 rfl rfl ?_
      obtain ⟨h4, hf⟩ := gd_some hf
      refine a_zald (pc := 36) (kb := 0) (j := 3) F rfl rfl h4 dX3_corkOf_36 ?_
      refine a_if_eq (pc := 37) (tgt := 44) F dX3_corkOf_37 (by decide) (fun h => ?_) (fun h => ?_)
      · replace hf := it_pos h hf
        refine a_iconst (pc := 44) F dX3_corkOf_44 kc_5 ?_
        refine a_aloadn (pc := 45) (j := 0) F dX3_corkOf_45 rfl rfl ?_
        refine a_aloadn (pc := 46) (j := 0) F dX3_corkOf_46 rfl rfl ?_
        refine a_get (pc := 47) (kb := 0) (j := 0) (f := 2) F iW_X3 rfl rfl rfl (by decide) (tl q1_73) (fun _ h => h) rfl dX3_corkOf_47 ?_
        refine a_aloadn (pc := 50) (j := 0) F dX3_corkOf_50 rfl rfl ?_
        refine a_get (pc := 51) (kb := 0) (j := 0) (f := 18) F iW_X3 rfl rfl rfl (by decide) (tl q1_115) (fun _ h => h) rfl dX3_corkOf_51 ?_
        refine a_iloadn (pc := 54) (j := 2) F dX3_corkOf_54 rfl rfl ?_
        obtain ⟨h5, hf⟩ := gd_some hf
        refine a_iald (pc := 55) (kb := 0) (j := 10) F rfl rfl h5 dX3_corkOf_55 ?_
        obtain ⟨t6, ht6, hf⟩ := bd_some hf
        refine a_callV (pc := 56) (bs' := [bX3 y a0 v0]) (kb := 0) (j := 0) F [0] (c_X3_leaning l D y ek n a0 _ _ _ _ ht6) (cwV 2 F.1.2.2.2.2 (gV q2_165 q2_166 q2_167 q1_3 q2_168) rfl rfl rfl (by decide +kernel) ⟨Nat.le_of_ble_eq_true rfl, Nat.le_of_ble_eq_true rfl⟩) rfl rfl rfl rfl (by decide) rfl rfl rfl rfl rfl rfl (Nat.le_of_ble_eq_true rfl) ⟨Nat.zero_le _, Nat.zero_le _⟩ dX3_corkOf_56 ?_
        refine a_iadd (pc := 59) F dX3_corkOf_59 ?_
        obtain rfl := Option.some.inj hf
        exact hret _ _ _ _ (Nat.zero_le _) (Nat.zero_le _) rfl dX3_corkOf_60
      · replace hf := it_neg h hf
        refine a_iconst (pc := 40) F dX3_corkOf_40 kc_5 ?_
        refine a_goto (pc := 41) (tgt := 60) F dX3_corkOf_41 (by decide) ?_
        obtain rfl := Option.some.inj hf
        exact hret _ _ _ _ (Nat.zero_le _) (Nat.zero_le _) rfl dX3_corkOf_60
    · refine a_if_ne (pc := 18) (tgt := 27) F dX3_corkOf_18 (by decide) (fun h => ?_) (fun h => ?_)
      · replace hf := it_neg h hf
        refine a_iloadn (pc := 27) (j := 1) F dX3_corkOf_27 rfl rfl ?_
        refine a_iconst (pc := 28) F dX3_corkOf_28 kc_1 ?_
        refine a_isub (pc := 29) F dX3_corkOf_29 ?_
        refine a_sub [0, 2] rfl ?_
        obtain rfl := Option.some.inj hf
        exact J3
      · replace hf := it_pos h hf
        refine a_iloadn (pc := 21) (j := 1) F dX3_corkOf_21 rfl rfl ?_
        refine a_iconst (pc := 22) F dX3_corkOf_22 kc_1 ?_
        refine a_iadd (pc := 23) F dX3_corkOf_23 ?_
        refine a_goto (pc := 24) (tgt := 30) F dX3_corkOf_24 (by decide) ?_
        refine a_sub [0, 2] rfl ?_
        obtain rfl := Option.some.inj hf
        exact J3
  · replace hf := it_neg h hf
    refine a_iconst (pc := 13) F dX3_corkOf_13 kc_0 ?_
    obtain rfl := Option.some.inj hf
    exact hret _ _ _ _ (Nat.zero_le _) (Nat.zero_le _) rfl dX3_corkOf_14

abbrev wX3_draw : List Cond := Cond.code yX3_draw cX3_draw 1 (some .int) :: WALL
def m_X3_draw (n : Nat) (v0 : St) : Option (Int32 × St) :=
nm (su v0 8 0 ((1103515245 * (v0 8 0)) + 12345)) (fun u1 =>
some (((x_ushr (u1 8 0) 16) &&& 32767), u1))
set_option maxHeartbeats 4000000 in
set_option maxRecDepth 100000 in
theorem c_X3_draw (l : Launch) (D : va_G) (y : Nat → ClassId) (ek : EK) (n : Nat) (a0 : Nat → Nat) (v0 : St) (res : Int32 × St) (hf : m_X3_draw n v0 = some res) : CI l yX3_draw wX3_draw { frames := 0, cells := 0, slots := 0, locals := 0 } D y ek [.ref (a0 0)] [bX3 y a0 v0] (res.1) [bX3 y a0 res.2] 0 0 := by
  unfold m_X3_draw at hf
  refine ci_of (cc := cX3_draw) (maxL := 1) (by decide) rfl rfl (Nat.le_of_ble_eq_true rfl) ?_
  intro p e s m below meth c Q A F hret
  refine a_lv (lv' := [(0, .ref (a0 0))]) rfl ?_
  refine a_aloadn (pc := 0) (j := 0) F dX3_draw_0 rfl rfl ?_
  refine a_ldc (pc := 1) (v := 1103515245) F (tl q5_59) dX3_draw_1 ?_
  refine a_aloadn (pc := 3) (j := 0) F dX3_draw_3 rfl rfl ?_
  refine a_get (pc := 4) (kb := 0) (j := 0) (f := 8) F iW_X3 rfl rfl rfl (by decide) (tl q1_91) (fun _ h => h) rfl dX3_draw_4 ?_
  refine a_imul (pc := 7) F dX3_draw_7 ?_
  refine a_sipush (pc := 8) F dX3_draw_8 ks_12345 ?_
  refine a_iadd (pc := 11) F dX3_draw_11 ?_
  obtain ⟨u1, eu1, hf⟩ := nm_some hf
  refine a_put (pc := 12) (kb := 0) (j := 0) (f := 8) (ty := .int) (bs' := [bX3 y a0 u1]) F iW_X3 rfl rfl rfl (by decide) (tl q1_91) (fun _ h => h) tyX3 tyX3_ok nmX3 rfl rfl rfl rfl (Nat.le_of_ble_eq_true rfl) (by rw [eu1]; rfl) dX3_draw_12 ?_
  refine a_aloadn (pc := 15) (j := 0) F dX3_draw_15 rfl rfl ?_
  refine a_get (pc := 16) (kb := 0) (j := 0) (f := 8) F iW_X3 rfl rfl rfl (by decide) (tl q1_91) (fun _ h => h) rfl dX3_draw_16 ?_
  refine a_bipush (pc := 19) F dX3_draw_19 kb_16 ?_
  refine a_iushr (pc := 21) F dX3_draw_21 ?_
  refine a_sipush (pc := 22) F dX3_draw_22 ks_32767 ?_
  refine a_iand (pc := 25) F dX3_draw_25 ?_
  obtain rfl := Option.some.inj hf
  exact hret _ _ _ _ (Nat.zero_le _) (Nat.zero_le _) rfl dX3_draw_26

abbrev wX3_turnWeek : List Cond := Cond.code yX3_turnWeek cX3_turnWeek 1 none :: WALL
def m_X3_turnWeek (n : Nat) (v0 : St) : Option (St) :=
nm (su v0 7 0 (x_min 9999 ((v0 7 0) + 1))) (fun u1 =>
bd (m_X3_weigh n u1) (fun t2 =>
some t2))
set_option maxHeartbeats 4000000 in
set_option maxRecDepth 100000 in
theorem c_X3_turnWeek (l : Launch) (D : va_G) (y : Nat → ClassId) (ek : EK) (n : Nat) (a0 : Nat → Nat) (v0 : St) (res : St) (hf : m_X3_turnWeek n v0 = some res) : CV l yX3_turnWeek wX3_turnWeek { frames := 4, cells := 0, slots := 0, locals := 82 } D y ek [.ref (a0 0)] [bX3 y a0 v0] [bX3 y a0 res] 0 0 := by
  unfold m_X3_turnWeek at hf
  refine cv_of (cc := cX3_turnWeek) (maxL := 1) (by decide) rfl rfl (Nat.le_of_ble_eq_true rfl) ?_
  intro p e s m below meth c Q A F hret
  refine a_lv (lv' := [(0, .ref (a0 0))]) rfl ?_
  refine a_aloadn (pc := 0) (j := 0) F dX3_turnWeek_0 rfl rfl ?_
  refine a_sipush (pc := 1) F dX3_turnWeek_1 ks_9999 ?_
  refine a_aloadn (pc := 4) (j := 0) F dX3_turnWeek_4 rfl rfl ?_
  refine a_get (pc := 5) (kb := 0) (j := 0) (f := 7) F iW_X3 rfl rfl rfl (by decide) (tl q1_89) (fun _ h => h) rfl dX3_turnWeek_5 ?_
  refine a_iconst (pc := 8) F dX3_turnWeek_8 kc_1 ?_
  refine a_iadd (pc := 9) F dX3_turnWeek_9 ?_
  refine a_mmin (pc := 10) F (tl q2_169) (tl q2_170) (tl q1_22) (tl q_math_min) (Nat.le_of_ble_eq_true rfl) (Nat.le_of_ble_eq_true rfl) (Nat.zero_le _) (Nat.zero_le _) dX3_turnWeek_10 ?_
  obtain ⟨u1, eu1, hf⟩ := nm_some hf
  refine a_put (pc := 13) (kb := 0) (j := 0) (f := 7) (ty := .int) (bs' := [bX3 y a0 u1]) F iW_X3 rfl rfl rfl (by decide) (tl q1_89) (fun _ h => h) tyX3 tyX3_ok nmX3 rfl rfl rfl rfl (Nat.le_of_ble_eq_true rfl) (by rw [eu1]; rfl) dX3_turnWeek_13 ?_
  refine a_aloadn (pc := 16) (j := 0) F dX3_turnWeek_16 rfl rfl ?_
  obtain ⟨t2, ht2, hf⟩ := bd_some hf
  refine a_callVv (pc := 17) (bs' := [bX3 y a0 t2]) (kb := 0) (j := 0) F [0] (c_X3_weigh l D y ek n a0 _ _ ht2) (cwV 0 F.1.2.2.2.2 (gV q2_232 q2_154 q2_155 q1_3 q2_156) rfl rfl rfl (by decide +kernel) ⟨Nat.le_of_ble_eq_true rfl, Nat.le_of_ble_eq_true rfl⟩) rfl rfl rfl rfl (by decide) rfl rfl rfl rfl rfl rfl (Nat.le_of_ble_eq_true rfl) ⟨Nat.zero_le _, Nat.zero_le _⟩ dX3_turnWeek_17 ?_
  obtain rfl := Option.some.inj hf
  exact hret _ _ _ _ (Nat.zero_le _) (Nat.zero_le _) dX3_turnWeek_20

abbrev wX3_dearestIn : List Cond := Cond.code yX3_dearestIn cX3_dearestIn 5 (some .int) :: WALL
def m_X3_dearestIn (n : Nat) (v0 : St) (x1 : Int32) : Option (Int32) :=
lp (fun (rc1 : Int32 × Int32 × Int32 → Option (Int32)) (x1l : Int32 × Int32 × Int32) =>
(if (v0 1 0) ≤ x1l.2.2 then
some x1l.1
else
bd ((if x1 = (-1) then
some (x1l.1, x1l.2.1)
else
(if ix x1l.2.2 10 then (if (v0 17 (x1l.2.2).toNatClampNeg) = x1 then
(if ix x1l.2.2 10 then (if (v0 16 (x1l.2.2).toNatClampNeg) ≤ x1l.2.1 then
some (x1l.1, x1l.2.1)
else
(if ix x1l.2.2 10 then nm (v0 16 (x1l.2.2).toNatClampNeg) (fun x3_6 =>
some (x1l.2.2, x3_6)) else none)) else none)
else
some (x1l.1, x1l.2.1)) else none))) (fun (t2 : Int32 × Int32) =>
rc1 (t2.1, t2.2, (x1l.2.2 + 1))))) n ((-1), (-1), 0)
set_option maxHeartbeats 4000000 in
set_option maxRecDepth 100000 in
theorem c_X3_dearestIn (l : Launch) (D : va_G) (y : Nat → ClassId) (ek : EK) (n : Nat) (a0 : Nat → Nat) (v0 : St) (x1 : Int32) (res : Int32) (hf : m_X3_dearestIn n v0 x1 = some res) : CI l yX3_dearestIn wX3_dearestIn { frames := 0, cells := 0, slots := 0, locals := 0 } D y ek [.ref (a0 0), .int x1] [bX3 y a0 v0] (res) [bX3 y a0 v0] 0 0 := by
  unfold m_X3_dearestIn at hf
  refine ci_of (cc := cX3_dearestIn) (maxL := 5) (by decide) rfl rfl (Nat.le_of_ble_eq_true rfl) ?_
  intro p e s m below meth c Q A F hret
  refine a_lv (lv' := [(0, .ref (a0 0)), (1, .int x1)]) rfl ?_
  refine a_iconst (pc := 0) F dX3_dearestIn_0 kc_m1 ?_
  refine a_istoren (pc := 1) (lv' := [(0, .ref (a0 0)), (1, .int x1), (2, .int (-1))]) F [1, 2, 0] dX3_dearestIn_1 rfl (by decide) rfl ?_
  refine a_iconst (pc := 2) F dX3_dearestIn_2 kc_m1 ?_
  refine a_istoren (pc := 3) (lv' := [(0, .ref (a0 0)), (1, .int x1), (2, .int (-1)), (3, .int (-1))]) F [1, 2, 3, 0] dX3_dearestIn_3 rfl (by decide) rfl ?_
  refine a_iconst (pc := 4) F dX3_dearestIn_4 kc_0 ?_
  refine a_istore (pc := 5) (lv' := [(0, .ref (a0 0)), (1, .int x1), (2, .int (-1)), (3, .int (-1)), (4, .int 0)]) F [1, 2, 3, 4, 0] dX3_dearestIn_5 (by decide) rfl ?_
  refine a_loop 7 (fun (x1l : Int32 × Int32 × Int32) => [(0, .ref (a0 0)), (1, .int x1), (2, .int x1l.1), (3, .int x1l.2.1), (4, .int x1l.2.2)]) (fun (x1l : Int32 × Int32 × Int32) => [bX3 y a0 v0]) (fun rc1 x1l ih1 hf => ?_) hf rfl rfl
  try dsimp only at hf ⊢
  refine a_iload (pc := 7) (j := 4) F dX3_dearestIn_7 rfl ?_
  refine a_aloadn (pc := 9) (j := 0) F dX3_dearestIn_9 rfl rfl ?_
  refine a_get (pc := 10) (kb := 0) (j := 0) (f := 1) F iW_X3 rfl rfl rfl (by decide) (tl q1_69) (fun _ h => h) rfl dX3_dearestIn_10 ?_
  refine a_icmp_ge (pc := 13) (tgt := 60) F dX3_dearestIn_13 (by decide) (fun h => ?_) (fun h => ?_)
  · replace hf := it_pos h hf
    refine a_iloadn (pc := 60) (j := 2) F dX3_dearestIn_60 rfl rfl ?_
    obtain rfl := Option.some.inj hf
    exact hret _ _ _ _ (Nat.zero_le _) (Nat.zero_le _) rfl dX3_dearestIn_61
  · replace hf := it_neg h hf
    refine a_iloadn (pc := 16) (j := 1) F dX3_dearestIn_16 rfl rfl ?_
    refine a_iconst (pc := 17) F dX3_dearestIn_17 kc_m1 ?_
    refine a_join 54 (fun (t2 : Int32 × Int32) => [(0, .ref (a0 0)), (1, .int x1), (2, .int t2.1), (3, .int t2.2), (4, .int x1l.2.2)]) (fun (t2 : Int32 × Int32) => []) (fun (t2 : Int32 × Int32) => [bX3 y a0 v0]) hf (fun t2 hf => ?_) (fun t2 hf J2 => ?_)
    · try dsimp only at hf ⊢
      refine a_iinc (pc := 54) (j := 4) (v := (x1l.2.2 + 1)) (lv' := [(0, .ref (a0 0)), (1, .int x1), (2, .int t2.1), (3, .int t2.2), (4, .int (x1l.2.2 + 1))]) F [1, 2, 3, 4, 0] dX3_dearestIn_54 rfl ki_1 (by decide) rfl ?_
      refine a_goto (pc := 57) (tgt := 7) F dX3_dearestIn_57 (by decide) ?_
      exact ih1 (t2.1, t2.2, (x1l.2.2 + 1)) hf
    · refine a_icmp_eq (pc := 18) (tgt := 54) F dX3_dearestIn_18 (by decide) (fun h => ?_) (fun h => ?_)
      · replace hf := it_pos h hf
        obtain rfl := Option.some.inj hf
        exact J2
      · replace hf := it_neg h hf
        refine a_aloadn (pc := 21) (j := 0) F dX3_dearestIn_21 rfl rfl ?_
        refine a_get (pc := 22) (kb := 0) (j := 0) (f := 17) F iW_X3 rfl rfl rfl (by decide) (tl q1_112) (fun _ h => h) rfl dX3_dearestIn_22 ?_
        refine a_iload (pc := 25) (j := 4) F dX3_dearestIn_25 rfl ?_
        obtain ⟨h3, hf⟩ := gd_some hf
        refine a_iald (pc := 27) (kb := 0) (j := 9) F rfl rfl h3 dX3_dearestIn_27 ?_
        refine a_iloadn (pc := 28) (j := 1) F dX3_dearestIn_28 rfl rfl ?_
        refine a_icmp_ne (pc := 29) (tgt := 54) F dX3_dearestIn_29 (by decide) (fun h => ?_) (fun h => ?_)
        · replace hf := it_neg h hf
          obtain rfl := Option.some.inj hf
          exact J2
        · replace hf := it_pos h hf
          refine a_aloadn (pc := 32) (j := 0) F dX3_dearestIn_32 rfl rfl ?_
          refine a_get (pc := 33) (kb := 0) (j := 0) (f := 16) F iW_X3 rfl rfl rfl (by decide) (tl q1_110) (fun _ h => h) rfl dX3_dearestIn_33 ?_
          refine a_iload (pc := 36) (j := 4) F dX3_dearestIn_36 rfl ?_
          obtain ⟨h4, hf⟩ := gd_some hf
          refine a_iald (pc := 38) (kb := 0) (j := 8) F rfl rfl h4 dX3_dearestIn_38 ?_
          refine a_iloadn (pc := 39) (j := 3) F dX3_dearestIn_39 rfl rfl ?_
          refine a_icmp_le (pc := 40) (tgt := 54) F dX3_dearestIn_40 (by decide) (fun h => ?_) (fun h => ?_)
          · replace hf := it_pos h hf
            obtain rfl := Option.some.inj hf
            exact J2
          · replace hf := it_neg h hf
            refine a_iload (pc := 43) (j := 4) F dX3_dearestIn_43 rfl ?_
            refine a_istoren (pc := 45) (lv' := [(0, .ref (a0 0)), (1, .int x1), (2, .int x1l.2.2), (3, .int x1l.2.1), (4, .int x1l.2.2)]) F [1, 2, 0, 3, 4] dX3_dearestIn_45 rfl (by decide) rfl ?_
            refine a_aloadn (pc := 46) (j := 0) F dX3_dearestIn_46 rfl rfl ?_
            refine a_get (pc := 47) (kb := 0) (j := 0) (f := 16) F iW_X3 rfl rfl rfl (by decide) (tl q1_110) (fun _ h => h) rfl dX3_dearestIn_47 ?_
            refine a_iload (pc := 50) (j := 4) F dX3_dearestIn_50 rfl ?_
            obtain ⟨h5, hf⟩ := gd_some hf
            refine a_iald (pc := 52) (kb := 0) (j := 8) F rfl rfl h5 dX3_dearestIn_52 ?_
            obtain ⟨x3_6, ex3_6, hf⟩ := nm_some hf
            refine a_nmi ex3_6 ?_
            refine a_istoren (pc := 53) (lv' := [(0, .ref (a0 0)), (1, .int x1), (2, .int x1l.2.2), (3, .int x3_6), (4, .int x1l.2.2)]) F [1, 2, 3, 0, 4] dX3_dearestIn_53 rfl (by decide) rfl ?_
            obtain rfl := Option.some.inj hf
            exact J2
