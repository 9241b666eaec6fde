abbrev wX1_copyFrom : List Cond := Cond.code yX1_copyFrom cX1_copyFrom 2 none :: WALL
def m_X1_copyFrom (n : Nat) (v0 : St) (v1 : St) : Option (St) :=
nm (su v0 0 0 (v1 0 0)) (fun u1 =>
nm (sA u1 1 (va_cpy (v1 1) (u1 1) 0 0 300)) (fun u2 =>
some u2))
set_option maxHeartbeats 4000000 in
set_option maxRecDepth 100000 in
theorem c_X1_copyFrom (l : Launch) (D : va_G) (y : Nat → ClassId) (ek : EK) (n : Nat) (a0 : Nat → Nat) (a1 : Nat → Nat) (v0 : St) (v1 : St) (res : St) (hf : m_X1_copyFrom n v0 v1 = some res) : CV l yX1_copyFrom wX1_copyFrom { frames := 1, cells := 0, slots := 0, locals := 60 } D y ek [.ref (a0 0), .ref (a1 0)] [bX1 y a0 v0, bX1 y a1 v1] [bX1 y a0 res, bX1 y a1 v1] 0 0 := by
  unfold m_X1_copyFrom at hf
  refine cv_of (cc := cX1_copyFrom) (maxL := 2) (by decide) rfl rfl (Nat.le_of_ble_eq_true rfl) ?_
  intro p e s m below meth c Q A F hret
  refine a_lv (lv' := [(0, .ref (a0 0)), (1, .ref (a1 0))]) rfl ?_
  refine a_aloadn (pc := 0) (j := 0) F dX1_copyFrom_0 rfl rfl ?_
  refine a_aloadn (pc := 1) (j := 1) F dX1_copyFrom_1 rfl rfl ?_
  refine a_get (pc := 2) (kb := 1) (j := 0) (f := 0) F iW_X1 rfl rfl rfl (by decide) (tl q1_198) (fun _ h => h) rfl dX1_copyFrom_2 ?_
  obtain ⟨u1, eu1, hf⟩ := nm_some hf
  refine a_put (pc := 5) (kb := 0) (j := 0) (f := 0) (ty := .int) (bs' := [bX1 y a0 u1, bX1 y a1 v1]) F iW_X1 rfl rfl rfl (by decide) (tl q1_198) (fun _ h => h) tyX1 tyX1_ok nmX1 rfl rfl rfl rfl (Nat.le_of_ble_eq_true rfl) (by rw [eu1]; rfl) dX1_copyFrom_5 ?_
  refine a_aloadn (pc := 8) (j := 1) F dX1_copyFrom_8 rfl rfl ?_
  refine a_get (pc := 9) (kb := 1) (j := 0) (f := 1) F iW_X1 rfl rfl rfl (by decide) (tl q1_200) (fun _ h => h) rfl dX1_copyFrom_9 ?_
  refine a_iconst (pc := 12) F dX1_copyFrom_12 kc_0 ?_
  refine a_aloadn (pc := 13) (j := 0) F dX1_copyFrom_13 rfl rfl ?_
  refine a_get (pc := 14) (kb := 0) (j := 0) (f := 1) F iW_X1 rfl rfl rfl (by decide) (tl q1_200) (fun _ h => h) rfl dX1_copyFrom_14 ?_
  refine a_iconst (pc := 17) F dX1_copyFrom_17 kc_0 ?_
  refine a_sipush (pc := 18) F dX1_copyFrom_18 ks_300 ?_
  obtain ⟨u2, eu2, hf⟩ := nm_some hf
  refine a_copy (pc := 21) (kb := 1) (j := 1) (kb1 := 0) (j1 := 1) (ks := 0) (kd := 0) (kn := 300) (bs' := [bX1 y a0 u2, bX1 y a1 v1]) F (tl q2_152) (tl q2_147) (tl q2_146) (tl q1_16) rfl rfl rfl rfl (by decide) (by decide) (by decide) (by decide) (by decide) (by decide) (Nat.le_of_ble_eq_true rfl) (Nat.le_of_ble_eq_true rfl) (Nat.le_of_ble_eq_true rfl) (Nat.le_of_ble_eq_true rfl) (by rw [eu2]; rfl) dX1_copyFrom_21 ?_
  obtain rfl := Option.some.inj hf
  exact hret _ _ _ _ (Nat.zero_le _) (Nat.zero_le _) dX1_copyFrom_24

abbrev wX1_addRow : List Cond := Cond.code yX1_addRow cX1_addRow 6 none :: WALL
def m_X1_addRow (n : Nat) (v0 : St) (x1 : Int32) (x2 : Int32) (x3 : Int32) (x4 : Int32) : Option (St) :=
bd ((if (v0 0 0) < 60 then
some v0
else
nm (sA v0 1 (va_cpy (v0 1) (v0 1) 5 0 295)) (fun u15 =>
nm (su u15 0 0 59) (fun u16 =>
some u16)))) (fun (t1 : St) =>
nm ((t1 0 0) * 5) (fun x5_2 =>
(if ix x5_2 300 then nm (su t1 1 (x5_2).toNatClampNeg x1) (fun u4 =>
(if ix (x5_2 + 1) 300 then nm (su u4 1 ((x5_2 + 1)).toNatClampNeg x2) (fun u6 =>
(if ix (x5_2 + 2) 300 then nm (su u6 1 ((x5_2 + 2)).toNatClampNeg x3) (fun u8 =>
(if ix (x5_2 + 3) 300 then nm (su u8 1 ((x5_2 + 3)).toNatClampNeg x4) (fun u10 =>
bd ((if x4 = (-1) then
some 1
else
some 0)) (fun (t11 : Int32) =>
(if ix (x5_2 + 4) 300 then nm (su u10 1 ((x5_2 + 4)).toNatClampNeg t11) (fun u13 =>
nm (su u13 0 0 ((u13 0 0) + 1)) (fun u14 =>
some u14)) else none))) else none)) else none)) else none)) else none)))
set_option maxHeartbeats 4000000 in
set_option maxRecDepth 100000 in
theorem c_X1_addRow (l : Launch) (D : va_G) (y : Nat → ClassId) (ek : EK) (n : Nat) (a0 : Nat → Nat) (v0 : St) (x1 : Int32) (x2 : Int32) (x3 : Int32) (x4 : Int32) (res : St) (hf : m_X1_addRow n v0 x1 x2 x3 x4 = some res) : CV l yX1_addRow wX1_addRow { frames := 1, cells := 0, slots := 0, locals := 60 } D y ek [.ref (a0 0), .int x1, .int x2, .int x3, .int x4] [bX1 y a0 v0] [bX1 y a0 res] 0 0 := by
  unfold m_X1_addRow at hf
  refine cv_of (cc := cX1_addRow) (maxL := 6) (by decide) rfl rfl (Nat.le_of_ble_eq_true rfl) ?_
  intro p e s m below meth c Q A F hret
  refine a_lv (lv' := [(0, .ref (a0 0)), (1, .int x1), (2, .int x2), (3, .int x3), (4, .int x4)]) rfl ?_
  refine a_aloadn (pc := 0) (j := 0) F dX1_addRow_0 rfl rfl ?_
  refine a_get (pc := 1) (kb := 0) (j := 0) (f := 0) F iW_X1 rfl rfl rfl (by decide) (tl q1_198) (fun _ h => h) rfl dX1_addRow_1 ?_
  refine a_bipush (pc := 4) F dX1_addRow_4 kb_60 ?_
  refine a_join 31 (fun (t1 : St) => [(0, .ref (a0 0)), (1, .int x1), (2, .int x2), (3, .int x3), (4, .int x4)]) (fun (t1 : St) => []) (fun (t1 : St) => [bX1 y a0 t1]) hf (fun t1 hf => ?_) (fun t1 hf J1 => ?_)
  · try dsimp only at hf ⊢
    refine a_aloadn (pc := 31) (j := 0) F dX1_addRow_31 rfl rfl ?_
    refine a_get (pc := 32) (kb := 0) (j := 0) (f := 0) F iW_X1 rfl rfl rfl (by decide) (tl q1_198) (fun _ h => h) rfl dX1_addRow_32 ?_
    refine a_iconst (pc := 35) F dX1_addRow_35 kc_5 ?_
    refine a_imul (pc := 36) F dX1_addRow_36 ?_
    obtain ⟨x5_2, ex5_2, hf⟩ := nm_some hf
    refine a_nmi ex5_2 ?_
    refine a_istore (pc := 37) (lv' := [(0, .ref (a0 0)), (1, .int x1), (2, .int x2), (3, .int x3), (4, .int x4), (5, .int x5_2)]) F [1, 2, 3, 4, 5, 0] dX1_addRow_37 (by decide) rfl ?_
    refine a_aloadn (pc := 39) (j := 0) F dX1_addRow_39 rfl rfl ?_
    refine a_get (pc := 40) (kb := 0) (j := 0) (f := 1) F iW_X1 rfl rfl rfl (by decide) (tl q1_200) (fun _ h => h) rfl dX1_addRow_40 ?_
    refine a_iload (pc := 43) (j := 5) F dX1_addRow_43 rfl ?_
    refine a_iloadn (pc := 45) (j := 1) F dX1_addRow_45 rfl rfl ?_
    obtain ⟨h3, hf⟩ := gd_some hf
    obtain ⟨u4, eu4, hf⟩ := nm_some hf
    refine a_iast (pc := 46) (kb := 0) (j := 1) (bs' := [bX1 y a0 u4]) F rfl rfl h3 (by rw [eu4]; rfl) dX1_addRow_46 ?_
    refine a_aloadn (pc := 47) (j := 0) F dX1_addRow_47 rfl rfl ?_
    refine a_get (pc := 48) (kb := 0) (j := 0) (f := 1) F iW_X1 rfl rfl rfl (by decide) (tl q1_200) (fun _ h => h) rfl dX1_addRow_48 ?_
    refine a_iload (pc := 51) (j := 5) F dX1_addRow_51 rfl ?_
    refine a_iconst (pc := 53) F dX1_addRow_53 kc_1 ?_
    refine a_iadd (pc := 54) F dX1_addRow_54 ?_
    refine a_iloadn (pc := 55) (j := 2) F dX1_addRow_55 rfl rfl ?_
    obtain ⟨h5, hf⟩ := gd_some hf
    obtain ⟨u6, eu6, hf⟩ := nm_some hf
    refine a_iast (pc := 56) (kb := 0) (j := 1) (bs' := [bX1 y a0 u6]) F rfl rfl h5 (by rw [eu6]; rfl) dX1_addRow_56 ?_
    refine a_aloadn (pc := 57) (j := 0) F dX1_addRow_57 rfl rfl ?_
    refine a_get (pc := 58) (kb := 0) (j := 0) (f := 1) F iW_X1 rfl rfl rfl (by decide) (tl q1_200) (fun _ h => h) rfl dX1_addRow_58 ?_
    refine a_iload (pc := 61) (j := 5) F dX1_addRow_61 rfl ?_
    refine a_iconst (pc := 63) F dX1_addRow_63 kc_2 ?_
    refine a_iadd (pc := 64) F dX1_addRow_64 ?_
    refine a_iloadn (pc := 65) (j := 3) F dX1_addRow_65 rfl rfl ?_
    obtain ⟨h7, hf⟩ := gd_some hf
    obtain ⟨u8, eu8, hf⟩ := nm_some hf
    refine a_iast (pc := 66) (kb := 0) (j := 1) (bs' := [bX1 y a0 u8]) F rfl rfl h7 (by rw [eu8]; rfl) dX1_addRow_66 ?_
    refine a_aloadn (pc := 67) (j := 0) F dX1_addRow_67 rfl rfl ?_
    refine a_get (pc := 68) (kb := 0) (j := 0) (f := 1) F iW_X1 rfl rfl rfl (by decide) (tl q1_200) (fun _ h => h) rfl dX1_addRow_68 ?_
    refine a_iload (pc := 71) (j := 5) F dX1_addRow_71 rfl ?_
    refine a_iconst (pc := 73) F dX1_addRow_73 kc_3 ?_
    refine a_iadd (pc := 74) F dX1_addRow_74 ?_
    refine a_iload (pc := 75) (j := 4) F dX1_addRow_75 rfl ?_
    obtain ⟨h9, hf⟩ := gd_some hf
    obtain ⟨u10, eu10, hf⟩ := nm_some hf
    refine a_iast (pc := 77) (kb := 0) (j := 1) (bs' := [bX1 y a0 u10]) F rfl rfl h9 (by rw [eu10]; rfl) dX1_addRow_77 ?_
    refine a_aloadn (pc := 78) (j := 0) F dX1_addRow_78 rfl rfl ?_
    refine a_get (pc := 79) (kb := 0) (j := 0) (f := 1) F iW_X1 rfl rfl rfl (by decide) (tl q1_200) (fun _ h => h) rfl dX1_addRow_79 ?_
    refine a_iload (pc := 82) (j := 5) F dX1_addRow_82 rfl ?_
    refine a_iconst (pc := 84) F dX1_addRow_84 kc_4 ?_
    refine a_iadd (pc := 85) F dX1_addRow_85 ?_
    refine a_iload (pc := 86) (j := 4) F dX1_addRow_86 rfl ?_
    refine a_iconst (pc := 88) F dX1_addRow_88 kc_m1 ?_
    refine a_join 97 (fun (t11 : Int32) => [(0, .ref (a0 0))]) (fun (t11 : Int32) => [.int t11, .int (x5_2 + 4), .ref (a0 2)]) (fun (t11 : Int32) => [bX1 y a0 u10]) hf (fun t11 hf => ?_) (fun t11 hf J11 => ?_)
    · try dsimp only at hf ⊢
      obtain ⟨h12, hf⟩ := gd_some hf
      obtain ⟨u13, eu13, hf⟩ := nm_some hf
      refine a_iast (pc := 97) (kb := 0) (j := 1) (bs' := [bX1 y a0 u13]) F rfl rfl h12 (by rw [eu13]; rfl) dX1_addRow_97 ?_
      refine a_aloadn (pc := 98) (j := 0) F dX1_addRow_98 rfl rfl ?_
      refine a_dup (pc := 99) F dX1_addRow_99 rfl ?_
      refine a_get (pc := 100) (kb := 0) (j := 0) (f := 0) F iW_X1 rfl rfl rfl (by decide) (tl q1_198) (fun _ h => h) rfl dX1_addRow_100 ?_
      refine a_iconst (pc := 103) F dX1_addRow_103 kc_1 ?_
      refine a_iadd (pc := 104) F dX1_addRow_104 ?_
      obtain ⟨u14, eu14, hf⟩ := nm_some hf
      refine a_put (pc := 105) (kb := 0) (j := 0) (f := 0) (ty := .int) (bs' := [bX1 y a0 u14]) F iW_X1 rfl rfl rfl (by decide) (tl q1_198) (fun _ h => h) tyX1 tyX1_ok nmX1 rfl rfl rfl rfl (Nat.le_of_ble_eq_true rfl) (by rw [eu14]; rfl) dX1_addRow_105 ?_
      obtain rfl := Option.some.inj hf
      exact hret _ _ _ _ (Nat.zero_le _) (Nat.zero_le _) dX1_addRow_108
    · refine a_icmp_ne (pc := 89) (tgt := 96) F dX1_addRow_89 (by decide) (fun h => ?_) (fun h => ?_)
      · replace hf := it_neg h hf
        refine a_iconst (pc := 96) F dX1_addRow_96 kc_0 ?_
        refine a_sub [0] rfl ?_
        obtain rfl := Option.some.inj hf
        exact J11
      · replace hf := it_pos h hf
        refine a_iconst (pc := 92) F dX1_addRow_92 kc_1 ?_
        refine a_goto (pc := 93) (tgt := 97) F dX1_addRow_93 (by decide) ?_
        refine a_sub [0] rfl ?_
        obtain rfl := Option.some.inj hf
        exact J11
  · refine a_icmp_lt (pc := 6) (tgt := 31) F dX1_addRow_6 (by decide) (fun h => ?_) (fun h => ?_)
    · replace hf := it_pos h hf
      obtain rfl := Option.some.inj hf
      exact J1
    · replace hf := it_neg h hf
      refine a_aloadn (pc := 9) (j := 0) F dX1_addRow_9 rfl rfl ?_
      refine a_get (pc := 10) (kb := 0) (j := 0) (f := 1) F iW_X1 rfl rfl rfl (by decide) (tl q1_200) (fun _ h => h) rfl dX1_addRow_10 ?_
      refine a_iconst (pc := 13) F dX1_addRow_13 kc_5 ?_
      refine a_aloadn (pc := 14) (j := 0) F dX1_addRow_14 rfl rfl ?_
      refine a_get (pc := 15) (kb := 0) (j := 0) (f := 1) F iW_X1 rfl rfl rfl (by decide) (tl q1_200) (fun _ h => h) rfl dX1_addRow_15 ?_
      refine a_iconst (pc := 18) F dX1_addRow_18 kc_0 ?_
      refine a_sipush (pc := 19) F dX1_addRow_19 ks_295 ?_
      obtain ⟨u15, eu15, hf⟩ := nm_some hf
      refine a_copy (pc := 22) (kb := 0) (j := 1) (kb1 := 0) (j1 := 1) (ks := 5) (kd := 0) (kn := 295) (bs' := [bX1 y a0 u15]) F (tl q2_152) (tl q2_147) (tl q2_146) (tl q1_16) rfl rfl rfl rfl (by decide) (by decide) (by decide) (by decide) (by decide) (by decide) (Nat.le_of_ble_eq_true rfl) (Nat.le_of_ble_eq_true rfl) (Nat.le_of_ble_eq_true rfl) (Nat.le_of_ble_eq_true rfl) (by rw [eu15]; rfl) dX1_addRow_22 ?_
      refine a_aloadn (pc := 25) (j := 0) F dX1_addRow_25 rfl rfl ?_
      refine a_bipush (pc := 26) F dX1_addRow_26 kb_59 ?_
      obtain ⟨u16, eu16, hf⟩ := nm_some hf
      refine a_put (pc := 28) (kb := 0) (j := 0) (f := 0) (ty := .int) (bs' := [bX1 y a0 u16]) F iW_X1 rfl rfl rfl (by decide) (tl q1_198) (fun _ h => h) tyX1 tyX1_ok nmX1 rfl rfl rfl rfl (Nat.le_of_ble_eq_true rfl) (by rw [eu16]; rfl) dX1_addRow_28 ?_
      obtain rfl := Option.some.inj hf
      exact J1

abbrev wX1_cell : List Cond := Cond.code yX1_cell cX1_cell 3 (some .int) :: WALL
def m_X1_cell (n : Nat) (v0 : St) (x1 : Int32) (x2 : Int32) : Option (Int32) :=
(if x1 < 0 then
some (-2)
else
(if (v0 0 0) ≤ x1 then
some (-2)
else
(if x2 < 0 then
some (-2)
else
(if x2 < 5 then
(if ix (((((v0 0 0) - 1) - x1) * 5) + x2) 300 then some (v0 1 ((((((v0 0 0) - 1) - x1) * 5) + x2)).toNatClampNeg) else none)
else
some (-2)))))
set_option maxHeartbeats 4000000 in
set_option maxRecDepth 100000 in
theorem c_X1_cell (l : Launch) (D : va_G) (y : Nat → ClassId) (ek : EK) (n : Nat) (a0 : Nat → Nat) (v0 : St) (x1 : Int32) (x2 : Int32) (res : Int32) (hf : m_X1_cell n v0 x1 x2 = some res) : CI l yX1_cell wX1_cell { frames := 0, cells := 0, slots := 0, locals := 0 } D y ek [.ref (a0 0), .int x1, .int x2] [bX1 y a0 v0] (res) [bX1 y a0 v0] 0 0 := by
  unfold m_X1_cell at hf
  refine ci_of (cc := cX1_cell) (maxL := 3) (by decide) rfl rfl (Nat.le_of_ble_eq_true rfl) ?_
  intro p e s m below meth c Q A F hret
  refine a_lv (lv' := [(0, .ref (a0 0)), (1, .int x1), (2, .int x2)]) rfl ?_
  refine a_iloadn (pc := 0) (j := 1) F dX1_cell_0 rfl rfl ?_
  refine a_if_lt (pc := 1) (tgt := 21) F dX1_cell_1 (by decide) (fun h => ?_) (fun h => ?_)
  · replace hf := it_pos h hf
    refine a_bipush (pc := 21) F dX1_cell_21 kb_m2 ?_
    obtain rfl := Option.some.inj hf
    exact hret _ _ _ _ (Nat.zero_le _) (Nat.zero_le _) rfl dX1_cell_23
  · replace hf := it_neg h hf
    refine a_iloadn (pc := 4) (j := 1) F dX1_cell_4 rfl rfl ?_
    refine a_aloadn (pc := 5) (j := 0) F dX1_cell_5 rfl rfl ?_
    refine a_get (pc := 6) (kb := 0) (j := 0) (f := 0) F iW_X1 rfl rfl rfl (by decide) (tl q1_198) (fun _ h => h) rfl dX1_cell_6 ?_
    refine a_icmp_ge (pc := 9) (tgt := 21) F dX1_cell_9 (by decide) (fun h => ?_) (fun h => ?_)
    · replace hf := it_pos h hf
      refine a_bipush (pc := 21) F dX1_cell_21 kb_m2 ?_
      obtain rfl := Option.some.inj hf
      exact hret _ _ _ _ (Nat.zero_le _) (Nat.zero_le _) rfl dX1_cell_23
    · replace hf := it_neg h hf
      refine a_iloadn (pc := 12) (j := 2) F dX1_cell_12 rfl rfl ?_
      refine a_if_lt (pc := 13) (tgt := 21) F dX1_cell_13 (by decide) (fun h => ?_) (fun h => ?_)
      · replace hf := it_pos h hf
        refine a_bipush (pc := 21) F dX1_cell_21 kb_m2 ?_
        obtain rfl := Option.some.inj hf
        exact hret _ _ _ _ (Nat.zero_le _) (Nat.zero_le _) rfl dX1_cell_23
      · replace hf := it_neg h hf
        refine a_iloadn (pc := 16) (j := 2) F dX1_cell_16 rfl rfl ?_
        refine a_iconst (pc := 17) F dX1_cell_17 kc_5 ?_
        refine a_icmp_lt (pc := 18) (tgt := 24) F dX1_cell_18 (by decide) (fun h => ?_) (fun h => ?_)
        · replace hf := it_pos h hf
          refine a_aloadn (pc := 24) (j := 0) F dX1_cell_24 rfl rfl ?_
          refine a_get (pc := 25) (kb := 0) (j := 0) (f := 1) F iW_X1 rfl rfl rfl (by decide) (tl q1_200) (fun _ h => h) rfl dX1_cell_25 ?_
          refine a_aloadn (pc := 28) (j := 0) F dX1_cell_28 rfl rfl ?_
          refine a_get (pc := 29) (kb := 0) (j := 0) (f := 0) F iW_X1 rfl rfl rfl (by decide) (tl q1_198) (fun _ h => h) rfl dX1_cell_29 ?_
          refine a_iconst (pc := 32) F dX1_cell_32 kc_1 ?_
          refine a_isub (pc := 33) F dX1_cell_33 ?_
          refine a_iloadn (pc := 34) (j := 1) F dX1_cell_34 rfl rfl ?_
          refine a_isub (pc := 35) F dX1_cell_35 ?_
          refine a_iconst (pc := 36) F dX1_cell_36 kc_5 ?_
          refine a_imul (pc := 37) F dX1_cell_37 ?_
          refine a_iloadn (pc := 38) (j := 2) F dX1_cell_38 rfl rfl ?_
          refine a_iadd (pc := 39) F dX1_cell_39 ?_
          obtain ⟨h1, hf⟩ := gd_some hf
          refine a_iald (pc := 40) (kb := 0) (j := 1) F rfl rfl h1 dX1_cell_40 ?_
          obtain rfl := Option.some.inj hf
          exact hret _ _ _ _ (Nat.zero_le _) (Nat.zero_le _) rfl dX1_cell_41
        · replace hf := it_neg h hf
          refine a_bipush (pc := 21) F dX1_cell_21 kb_m2 ?_
          obtain rfl := Option.some.inj hf
          exact hret _ _ _ _ (Nat.zero_le _) (Nat.zero_le _) rfl dX1_cell_23

abbrev wX1_rowsOf : List Cond := Cond.code yX1_rowsOf cX1_rowsOf 4 (some .int) :: WALL
def m_X1_rowsOf (n : Nat) (v0 : St) (x1 : Int32) : Option (Int32) :=
lp (fun (rc1 : Int32 × Int32 → Option (Int32)) (x1l : Int32 × Int32) =>
(if (v0 0 0) ≤ x1l.2 then
some x1l.1
else
bd (m_X1_cell n v0 x1l.2 1) (fun t2 =>
bd ((if t2 = x1 then
some (x1l.1 + 1)
else
some x1l.1)) (fun (t3 : Int32) =>
rc1 (t3, (x1l.2 + 1)))))) n (0, 0)
set_option maxHeartbeats 4000000 in
set_option maxRecDepth 100000 in
theorem c_X1_rowsOf (l : Launch) (D : va_G) (y : Nat → ClassId) (ek : EK) (n : Nat) (a0 : Nat → Nat) (v0 : St) (x1 : Int32) (res : Int32) (hf : m_X1_rowsOf n v0 x1 = some res) : CI l yX1_rowsOf wX1_rowsOf { frames := 1, cells := 0, slots := 0, locals := 22 } D y ek [.ref (a0 0), .int x1] [bX1 y a0 v0] (res) [bX1 y a0 v0] 0 0 := by
  unfold m_X1_rowsOf at hf
  refine ci_of (cc := cX1_rowsOf) (maxL := 4) (by decide) rfl rfl (Nat.le_of_ble_eq_true rfl) ?_
  intro p e s m below meth c Q A F hret
  refine a_lv (lv' := [(0, .ref (a0 0)), (1, .int x1)]) rfl ?_
  refine a_iconst (pc := 0) F dX1_rowsOf_0 kc_0 ?_
  refine a_istoren (pc := 1) (lv' := [(0, .ref (a0 0)), (1, .int x1), (2, .int 0)]) F [1, 2, 0] dX1_rowsOf_1 rfl (by decide) rfl ?_
  refine a_iconst (pc := 2) F dX1_rowsOf_2 kc_0 ?_
  refine a_istoren (pc := 3) (lv' := [(0, .ref (a0 0)), (1, .int x1), (2, .int 0), (3, .int 0)]) F [1, 2, 3, 0] dX1_rowsOf_3 rfl (by decide) rfl ?_
  refine a_loop 4 (fun (x1l : Int32 × Int32) => [(0, .ref (a0 0)), (1, .int x1), (2, .int x1l.1), (3, .int x1l.2)]) (fun (x1l : Int32 × Int32) => [bX1 y a0 v0]) (fun rc1 x1l ih1 hf => ?_) hf rfl rfl
  try dsimp only at hf ⊢
  refine a_iloadn (pc := 4) (j := 3) F dX1_rowsOf_4 rfl rfl ?_
  refine a_aloadn (pc := 5) (j := 0) F dX1_rowsOf_5 rfl rfl ?_
  refine a_get (pc := 6) (kb := 0) (j := 0) (f := 0) F iW_X1 rfl rfl rfl (by decide) (tl q1_198) (fun _ h => h) rfl dX1_rowsOf_6 ?_
  refine a_icmp_ge (pc := 9) (tgt := 31) F dX1_rowsOf_9 (by decide) (fun h => ?_) (fun h => ?_)
  · replace hf := it_pos h hf
    refine a_iloadn (pc := 31) (j := 2) F dX1_rowsOf_31 rfl rfl ?_
    obtain rfl := Option.some.inj hf
    exact hret _ _ _ _ (Nat.zero_le _) (Nat.zero_le _) rfl dX1_rowsOf_32
  · replace hf := it_neg h hf
    refine a_aloadn (pc := 12) (j := 0) F dX1_rowsOf_12 rfl rfl ?_
    refine a_iloadn (pc := 13) (j := 3) F dX1_rowsOf_13 rfl rfl ?_
    refine a_iconst (pc := 14) F dX1_rowsOf_14 kc_1 ?_
    obtain ⟨t2, ht2, hf⟩ := bd_some hf
    refine a_callV (pc := 15) (bs' := [bX1 y a0 v0]) (kb := 0) (j := 0) F [0] (c_X1_cell l D y ek n a0 _ _ _ _ ht2) (cwV 2 F.1.2.2.2.2 (gV q6_42 q6_43 q6_44 q1_5 q6_45) rfl rfl rfl (by decide +kernel) ⟨Nat.le_of_ble_eq_true rfl, Nat.le_of_ble_eq_true rfl⟩) rfl rfl rfl rfl (by decide) rfl rfl rfl rfl rfl rfl (Nat.le_of_ble_eq_true rfl) ⟨Nat.zero_le _, Nat.zero_le _⟩ dX1_rowsOf_15 ?_
    refine a_iloadn (pc := 18) (j := 1) F dX1_rowsOf_18 rfl rfl ?_
    refine a_join 25 (fun (t3 : Int32) => [(0, .ref (a0 0)), (1, .int x1), (2, .int t3), (3, .int x1l.2)]) (fun (t3 : Int32) => []) (fun (t3 : Int32) => [bX1 y a0 v0]) hf (fun t3 hf => ?_) (fun t3 hf J3 => ?_)
    · try dsimp only at hf ⊢
      refine a_iinc (pc := 25) (j := 3) (v := (x1l.2 + 1)) (lv' := [(0, .ref (a0 0)), (1, .int x1), (2, .int t3), (3, .int (x1l.2 + 1))]) F [1, 2, 3, 0] dX1_rowsOf_25 rfl ki_1 (by decide) rfl ?_
      refine a_goto (pc := 28) (tgt := 4) F dX1_rowsOf_28 (by decide) ?_
      exact ih1 (t3, (x1l.2 + 1)) hf
    · refine a_icmp_ne (pc := 19) (tgt := 25) F dX1_rowsOf_19 (by decide) (fun h => ?_) (fun h => ?_)
      · replace hf := it_neg h hf
        obtain rfl := Option.some.inj hf
        exact J3
      · replace hf := it_pos h hf
        refine a_iinc (pc := 22) (j := 2) (v := (x1l.1 + 1)) (lv' := [(0, .ref (a0 0)), (1, .int x1), (2, .int (x1l.1 + 1)), (3, .int x1l.2)]) F [1, 2, 0, 3] dX1_rowsOf_22 rfl ki_1 (by decide) rfl ?_
        obtain rfl := Option.some.inj hf
        exact J3

abbrev wX1_latestWeekOf : List Cond := Cond.code yX1_latestWeekOf cX1_latestWeekOf 3 (some .int) :: WALL
def m_X1_latestWeekOf (n : Nat) (v0 : St) (x1 : Int32) : Option (Int32) :=
lp (fun (rc1 : Int32 → Option (Int32)) (x1l : Int32) =>
(if (v0 0 0) ≤ x1l then
some (-1)
else
bd (m_X1_cell n v0 x1l 1) (fun t2 =>
(if t2 = x1 then
bd (m_X1_cell n v0 x1l 0) (fun t3 =>
some t3)
else
rc1 (x1l + 1))))) n 0
set_option maxHeartbeats 4000000 in
set_option maxRecDepth 100000 in
theorem c_X1_latestWeekOf (l : Launch) (D : va_G) (y : Nat → ClassId) (ek : EK) (n : Nat) (a0 : Nat → Nat) (v0 : St) (x1 : Int32) (res : Int32) (hf : m_X1_latestWeekOf n v0 x1 = some res) : CI l yX1_latestWeekOf wX1_latestWeekOf { frames := 1, cells := 0, slots := 0, locals := 22 } D y ek [.ref (a0 0), .int x1] [bX1 y a0 v0] (res) [bX1 y a0 v0] 0 0 := by
  unfold m_X1_latestWeekOf at hf
  refine ci_of (cc := cX1_latestWeekOf) (maxL := 3) (by decide) rfl rfl (Nat.le_of_ble_eq_true rfl) ?_
  intro p e s m below meth c Q A F hret
  refine a_lv (lv' := [(0, .ref (a0 0)), (1, .int x1)]) rfl ?_
  refine a_iconst (pc := 0) F dX1_latestWeekOf_0 kc_0 ?_
  refine a_istoren (pc := 1) (lv' := [(0, .ref (a0 0)), (1, .int x1), (2, .int 0)]) F [1, 2, 0] dX1_latestWeekOf_1 rfl (by decide) rfl ?_
  refine a_loop 2 (fun (x1l : Int32) => [(0, .ref (a0 0)), (1, .int x1), (2, .int x1l)]) (fun (x1l : Int32) => [bX1 y a0 v0]) (fun rc1 x1l ih1 hf => ?_) hf rfl rfl
  try dsimp only at hf ⊢
  refine a_iloadn (pc := 2) (j := 2) F dX1_latestWeekOf_2 rfl rfl ?_
  refine a_aloadn (pc := 3) (j := 0) F dX1_latestWeekOf_3 rfl rfl ?_
  refine a_get (pc := 4) (kb := 0) (j := 0) (f := 0) F iW_X1 rfl rfl rfl (by decide) (tl q1_198) (fun _ h => h) rfl dX1_latestWeekOf_4 ?_
  refine a_icmp_ge (pc := 7) (tgt := 33) F dX1_latestWeekOf_7 (by decide) (fun h => ?_) (fun h => ?_)
  · replace hf := it_pos h hf
    refine a_iconst (pc := 33) F dX1_latestWeekOf_33 kc_m1 ?_
    obtain rfl := Option.some.inj hf
    exact hret _ _ _ _ (Nat.zero_le _) (Nat.zero_le _) rfl dX1_latestWeekOf_34
  · replace hf := it_neg h hf
    refine a_aloadn (pc := 10) (j := 0) F dX1_latestWeekOf_10 rfl rfl ?_
    refine a_iloadn (pc := 11) (j := 2) F dX1_latestWeekOf_11 rfl rfl ?_
    refine a_iconst (pc := 12) F dX1_latestWeekOf_12 kc_1 ?_
    obtain ⟨t2, ht2, hf⟩ := bd_some hf
    refine a_callV (pc := 13) (bs' := [bX1 y a0 v0]) (kb := 0) (j := 0) F [0] (c_X1_cell l D y ek n a0 _ _ _ _ ht2) (cwV 2 F.1.2.2.2.2 (gV q6_42 q6_43 q6_44 q1_5 q6_45) rfl rfl rfl (by decide +kernel) ⟨Nat.le_of_ble_eq_true rfl, Nat.le_of_ble_eq_true rfl⟩) rfl rfl rfl rfl (by decide) rfl rfl rfl rfl rfl rfl (Nat.le_of_ble_eq_true rfl) ⟨Nat.zero_le _, Nat.zero_le _⟩ dX1_latestWeekOf_13 ?_
    refine a_iloadn (pc := 16) (j := 1) F dX1_latestWeekOf_16 rfl rfl ?_
    refine a_icmp_ne (pc := 17) (tgt := 27) F dX1_latestWeekOf_17 (by decide) (fun h => ?_) (fun h => ?_)
    · replace hf := it_neg h hf
      refine a_iinc (pc := 27) (j := 2) (v := (x1l + 1)) (lv' := [(0, .ref (a0 0)), (1, .int x1), (2, .int (x1l + 1))]) F [1, 2, 0] dX1_latestWeekOf_27 rfl ki_1 (by decide) rfl ?_
      refine a_goto (pc := 30) (tgt := 2) F dX1_latestWeekOf_30 (by decide) ?_
      exact ih1 (x1l + 1) hf
    · replace hf := it_pos h hf
      refine a_aloadn (pc := 20) (j := 0) F dX1_latestWeekOf_20 rfl rfl ?_
      refine a_iloadn (pc := 21) (j := 2) F dX1_latestWeekOf_21 rfl rfl ?_
      refine a_iconst (pc := 22) F dX1_latestWeekOf_22 kc_0 ?_
      obtain ⟨t3, ht3, hf⟩ := bd_some hf
      refine a_callV (pc := 23) (bs' := [bX1 y a0 v0]) (kb := 0) (j := 0) F [0] (c_X1_cell l D y ek n a0 _ _ _ _ ht3) (cwV 2 F.1.2.2.2.2 (gV q6_42 q6_43 q6_44 q1_5 q6_45) rfl rfl rfl (by decide +kernel) ⟨Nat.le_of_ble_eq_true rfl, Nat.le_of_ble_eq_true rfl⟩) rfl rfl rfl rfl (by decide) rfl rfl rfl rfl rfl rfl (Nat.le_of_ble_eq_true rfl) ⟨Nat.zero_le _, Nat.zero_le _⟩ dX1_latestWeekOf_23 ?_
      obtain rfl := Option.some.inj hf
      exact hret _ _ _ _ (Nat.zero_le _) (Nat.zero_le _) rfl dX1_latestWeekOf_26
