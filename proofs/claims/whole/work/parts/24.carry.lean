abbrev wX0_shiftOf : List Cond := Cond.code yX0_shiftOf cX0_shiftOf 5 (some .int) :: WALL
def m_X0_shiftOf (n : Nat) (v0 : St) (x1 : Int32) (x2 : Int32) : Option (Int32) :=
lp (fun (rc1 : Int32 × Int32 → Option (Int32)) (x1l : Int32 × Int32) =>
(if (v0 1 0) ≤ x1l.2 then
some x1l.1
else
bd ((if ((x_shr x2 x1l.2) &&& 1) = 0 then
some x1l.1
else
(if ix x1l.2 10 then (if (v0 17 (x1l.2).toNatClampNeg) = (2 * x1) then
(if ix x1l.2 10 then nm (x1l.1 + (2 * (v0 15 (x1l.2).toNatClampNeg))) (fun x3_8 =>
some x3_8) else none)
else
(if ix x1l.2 10 then (if (v0 17 (x1l.2).toNatClampNeg) = ((2 * x1) + 1) then
(if ix x1l.2 10 then nm (x1l.1 - (2 * (v0 15 (x1l.2).toNatClampNeg))) (fun x3_6 =>
some x3_6) else none)
else
some x1l.1) else none)) else none))) (fun (t2 : Int32) =>
rc1 (t2, (x1l.2 + 1))))) n (0, 0)
set_option maxHeartbeats 4000000 in
set_option maxRecDepth 100000 in
theorem c_X0_shiftOf (l : Launch) (D : va_G) (y : Nat → ClassId) (ek : EK) (n : Nat) (a0 : Nat → Nat) (v0 : St) (x1 : Int32) (x2 : Int32) (res : Int32) (hf : m_X0_shiftOf n v0 x1 x2 = some res) : CI l yX0_shiftOf wX0_shiftOf { frames := 0, cells := 0, slots := 0, locals := 0 } D y ek [.ref (a0 0), .int x1, .int x2] [bX3 y a0 v0] (res) [bX3 y a0 v0] 0 0 := by
  unfold m_X0_shiftOf at hf
  refine ci_of (cc := cX0_shiftOf) (maxL := 5) (by decide) rfl rfl (Nat.le_of_ble_eq_true rfl) ?_
  intro p e s m below meth c Q A F hret
  refine a_lv (lv' := [(0, .ref (a0 0)), (1, .int x1), (2, .int x2)]) rfl ?_
  refine a_iconst (pc := 0) F dX0_shiftOf_0 kc_0 ?_
  refine a_istoren (pc := 1) (lv' := [(0, .ref (a0 0)), (1, .int x1), (2, .int x2), (3, .int 0)]) F [1, 2, 3, 0] dX0_shiftOf_1 rfl (by decide) rfl ?_
  refine a_iconst (pc := 2) F dX0_shiftOf_2 kc_0 ?_
  refine a_istore (pc := 3) (lv' := [(0, .ref (a0 0)), (1, .int x1), (2, .int x2), (3, .int 0), (4, .int 0)]) F [1, 2, 3, 4, 0] dX0_shiftOf_3 (by decide) rfl ?_
  refine a_loop 5 (fun (x1l : Int32 × Int32) => [(0, .ref (a0 0)), (1, .int x1), (2, .int x2), (3, .int x1l.1), (4, .int x1l.2)]) (fun (x1l : Int32 × Int32) => [bX3 y a0 v0]) (fun rc1 x1l ih1 hf => ?_) hf rfl rfl
  try dsimp only at hf ⊢
  refine a_iload (pc := 5) (j := 4) F dX0_shiftOf_5 rfl ?_
  refine a_aloadn (pc := 7) (j := 0) F dX0_shiftOf_7 rfl rfl ?_
  refine a_get (pc := 8) (kb := 0) (j := 0) (f := 1) F iW_X3 rfl rfl rfl (by decide) (tl q1_70) (fun _ h => h) rfl dX0_shiftOf_8 ?_
  refine a_icmp_ge (pc := 11) (tgt := 87) F dX0_shiftOf_11 (by decide) (fun h => ?_) (fun h => ?_)
  · replace hf := it_pos h hf
    refine a_iloadn (pc := 87) (j := 3) F dX0_shiftOf_87 rfl rfl ?_
    obtain rfl := Option.some.inj hf
    exact hret _ _ _ _ (Nat.zero_le _) (Nat.zero_le _) rfl dX0_shiftOf_88
  · replace hf := it_neg h hf
    refine a_iloadn (pc := 14) (j := 2) F dX0_shiftOf_14 rfl rfl ?_
    refine a_iload (pc := 15) (j := 4) F dX0_shiftOf_15 rfl ?_
    refine a_ishr (pc := 17) F dX0_shiftOf_17 ?_
    refine a_iconst (pc := 18) F dX0_shiftOf_18 kc_1 ?_
    refine a_iand (pc := 19) F dX0_shiftOf_19 ?_
    refine a_join 81 (fun (t2 : Int32) => [(0, .ref (a0 0)), (1, .int x1), (2, .int x2), (3, .int t2), (4, .int x1l.2)]) (fun (t2 : Int32) => []) (fun (t2 : Int32) => [bX3 y a0 v0]) hf (fun t2 hf => ?_) (fun t2 hf J2 => ?_)
    · try dsimp only at hf ⊢
      refine a_iinc (pc := 81) (j := 4) (v := (x1l.2 + 1)) (lv' := [(0, .ref (a0 0)), (1, .int x1), (2, .int x2), (3, .int t2), (4, .int (x1l.2 + 1))]) F [1, 2, 3, 4, 0] dX0_shiftOf_81 rfl ki_1 (by decide) rfl ?_
      refine a_goto (pc := 84) (tgt := 5) F dX0_shiftOf_84 (by decide) ?_
      exact ih1 (t2, (x1l.2 + 1)) hf
    · refine a_if_ne (pc := 20) (tgt := 26) F dX0_shiftOf_20 (by decide) (fun h => ?_) (fun h => ?_)
      · replace hf := it_neg h hf
        refine a_aloadn (pc := 26) (j := 0) F dX0_shiftOf_26 rfl rfl ?_
        refine a_get (pc := 27) (kb := 0) (j := 0) (f := 17) F iW_X3 rfl rfl rfl (by decide) (tl q1_113) (fun _ h => h) rfl dX0_shiftOf_27 ?_
        refine a_iload (pc := 30) (j := 4) F dX0_shiftOf_30 rfl ?_
        obtain ⟨h3, hf⟩ := gd_some hf
        refine a_iald (pc := 32) (kb := 0) (j := 9) F rfl rfl h3 dX0_shiftOf_32 ?_
        refine a_iconst (pc := 33) F dX0_shiftOf_33 kc_2 ?_
        refine a_iloadn (pc := 34) (j := 1) F dX0_shiftOf_34 rfl rfl ?_
        refine a_imul (pc := 35) F dX0_shiftOf_35 ?_
        refine a_icmp_ne (pc := 36) (tgt := 54) F dX0_shiftOf_36 (by decide) (fun h => ?_) (fun h => ?_)
        · replace hf := it_neg h hf
          refine a_aloadn (pc := 54) (j := 0) F dX0_shiftOf_54 rfl rfl ?_
          refine a_get (pc := 55) (kb := 0) (j := 0) (f := 17) F iW_X3 rfl rfl rfl (by decide) (tl q1_113) (fun _ h => h) rfl dX0_shiftOf_55 ?_
          refine a_iload (pc := 58) (j := 4) F dX0_shiftOf_58 rfl ?_
          obtain ⟨h4, hf⟩ := gd_some hf
          refine a_iald (pc := 60) (kb := 0) (j := 9) F rfl rfl h4 dX0_shiftOf_60 ?_
          refine a_iconst (pc := 61) F dX0_shiftOf_61 kc_2 ?_
          refine a_iloadn (pc := 62) (j := 1) F dX0_shiftOf_62 rfl rfl ?_
          refine a_imul (pc := 63) F dX0_shiftOf_63 ?_
          refine a_iconst (pc := 64) F dX0_shiftOf_64 kc_1 ?_
          refine a_iadd (pc := 65) F dX0_shiftOf_65 ?_
          refine a_icmp_ne (pc := 66) (tgt := 81) F dX0_shiftOf_66 (by decide) (fun h => ?_) (fun h => ?_)
          · replace hf := it_neg h hf
            obtain rfl := Option.some.inj hf
            exact J2
          · replace hf := it_pos h hf
            refine a_iloadn (pc := 69) (j := 3) F dX0_shiftOf_69 rfl rfl ?_
            refine a_iconst (pc := 70) F dX0_shiftOf_70 kc_2 ?_
            refine a_aloadn (pc := 71) (j := 0) F dX0_shiftOf_71 rfl rfl ?_
            refine a_get (pc := 72) (kb := 0) (j := 0) (f := 15) F iW_X3 rfl rfl rfl (by decide) (tl q1_108) (fun _ h => h) rfl dX0_shiftOf_72 ?_
            refine a_iload (pc := 75) (j := 4) F dX0_shiftOf_75 rfl ?_
            obtain ⟨h5, hf⟩ := gd_some hf
            refine a_iald (pc := 77) (kb := 0) (j := 7) F rfl rfl h5 dX0_shiftOf_77 ?_
            refine a_imul (pc := 78) F dX0_shiftOf_78 ?_
            refine a_isub (pc := 79) F dX0_shiftOf_79 ?_
            obtain ⟨x3_6, ex3_6, hf⟩ := nm_some hf
            refine a_nmi ex3_6 ?_
            refine a_istoren (pc := 80) (lv' := [(0, .ref (a0 0)), (1, .int x1), (2, .int x2), (3, .int x3_6), (4, .int x1l.2)]) F [1, 2, 3, 0, 4] dX0_shiftOf_80 rfl (by decide) rfl ?_
            obtain rfl := Option.some.inj hf
            exact J2
        · replace hf := it_pos h hf
          refine a_iloadn (pc := 39) (j := 3) F dX0_shiftOf_39 rfl rfl ?_
          refine a_iconst (pc := 40) F dX0_shiftOf_40 kc_2 ?_
          refine a_aloadn (pc := 41) (j := 0) F dX0_shiftOf_41 rfl rfl ?_
          refine a_get (pc := 42) (kb := 0) (j := 0) (f := 15) F iW_X3 rfl rfl rfl (by decide) (tl q1_108) (fun _ h => h) rfl dX0_shiftOf_42 ?_
          refine a_iload (pc := 45) (j := 4) F dX0_shiftOf_45 rfl ?_
          obtain ⟨h7, hf⟩ := gd_some hf
          refine a_iald (pc := 47) (kb := 0) (j := 7) F rfl rfl h7 dX0_shiftOf_47 ?_
          refine a_imul (pc := 48) F dX0_shiftOf_48 ?_
          refine a_iadd (pc := 49) F dX0_shiftOf_49 ?_
          obtain ⟨x3_8, ex3_8, hf⟩ := nm_some hf
          refine a_nmi ex3_8 ?_
          refine a_istoren (pc := 50) (lv' := [(0, .ref (a0 0)), (1, .int x1), (2, .int x2), (3, .int x3_8), (4, .int x1l.2)]) F [1, 2, 3, 0, 4] dX0_shiftOf_50 rfl (by decide) rfl ?_
          refine a_goto (pc := 51) (tgt := 81) F dX0_shiftOf_51 (by decide) ?_
          obtain rfl := Option.some.inj hf
          exact J2
      · replace hf := it_pos h hf
        refine a_goto (pc := 23) (tgt := 81) F dX0_shiftOf_23 (by decide) ?_
        obtain rfl := Option.some.inj hf
        exact J2

abbrev wX0_levelling : List Cond := Cond.code yX0_levelling cX0_levelling 7 (some .int) :: WALL
def m_X0_levelling (n : Nat) (v0 : St) (x1 : Int32) : Option (Int32) :=
(if ix ((2 * x1) + 1) 10 then (if ix (2 * x1) 10 then nm ((v0 18 (((2 * x1) + 1)).toNatClampNeg) - (v0 18 ((2 * x1)).toNatClampNeg)) (fun x2_3 =>
nm (x_abs x2_3) (fun x3_4 =>
lp (fun (rc5 : Int32 × Int32 × Int32 → Option (Int32)) (x5l : Int32 × Int32 × Int32) =>
(if (v0 1 0) ≤ x5l.2.2 then
some x5l.2.1
else
bd (m_X0_shiftOf n v0 x1 (x_shl 1 x5l.2.2)) (fun t6 =>
nm (x_abs (x2_3 + t6)) (fun x6_7 =>
bd ((if x5l.1 ≤ x6_7 then
some (x5l.1, x5l.2.1)
else
some (x6_7, x5l.2.2))) (fun (t8 : Int32 × Int32) =>
rc5 (t8.1, t8.2, (x5l.2.2 + 1))))))) n (x3_4, (-1), 0))) else none) else none)
set_option maxHeartbeats 4000000 in
set_option maxRecDepth 100000 in
theorem c_X0_levelling (l : Launch) (D : va_G) (y : Nat → ClassId) (ek : EK) (n : Nat) (a0 : Nat → Nat) (v0 : St) (x1 : Int32) (res : Int32) (hf : m_X0_levelling n v0 x1 = some res) : CI l yX0_levelling wX0_levelling { frames := 1, cells := 0, slots := 0, locals := 24 } D y ek [.ref (a0 0), .int x1] [bX3 y a0 v0] (res) [bX3 y a0 v0] 0 0 := by
  unfold m_X0_levelling at hf
  refine ci_of (cc := cX0_levelling) (maxL := 7) (by decide) rfl rfl (Nat.le_of_ble_eq_true rfl) ?_
  intro p e s m below meth c Q A F hret
  refine a_lv (lv' := [(0, .ref (a0 0)), (1, .int x1)]) rfl ?_
  refine a_aloadn (pc := 0) (j := 0) F dX0_levelling_0 rfl rfl ?_
  refine a_get (pc := 1) (kb := 0) (j := 0) (f := 18) F iW_X3 rfl rfl rfl (by decide) (tl q1_116) (fun _ h => h) rfl dX0_levelling_1 ?_
  refine a_iconst (pc := 4) F dX0_levelling_4 kc_2 ?_
  refine a_iloadn (pc := 5) (j := 1) F dX0_levelling_5 rfl rfl ?_
  refine a_imul (pc := 6) F dX0_levelling_6 ?_
  refine a_iconst (pc := 7) F dX0_levelling_7 kc_1 ?_
  refine a_iadd (pc := 8) F dX0_levelling_8 ?_
  obtain ⟨h1, hf⟩ := gd_some hf
  refine a_iald (pc := 9) (kb := 0) (j := 10) F rfl rfl h1 dX0_levelling_9 ?_
  refine a_aloadn (pc := 10) (j := 0) F dX0_levelling_10 rfl rfl ?_
  refine a_get (pc := 11) (kb := 0) (j := 0) (f := 18) F iW_X3 rfl rfl rfl (by decide) (tl q1_116) (fun _ h => h) rfl dX0_levelling_11 ?_
  refine a_iconst (pc := 14) F dX0_levelling_14 kc_2 ?_
  refine a_iloadn (pc := 15) (j := 1) F dX0_levelling_15 rfl rfl ?_
  refine a_imul (pc := 16) F dX0_levelling_16 ?_
  obtain ⟨h2, hf⟩ := gd_some hf
  refine a_iald (pc := 17) (kb := 0) (j := 10) F rfl rfl h2 dX0_levelling_17 ?_
  refine a_isub (pc := 18) F dX0_levelling_18 ?_
  obtain ⟨x2_3, ex2_3, hf⟩ := nm_some hf
  refine a_nmi ex2_3 ?_
  refine a_istoren (pc := 19) (lv' := [(0, .ref (a0 0)), (1, .int x1), (2, .int x2_3)]) F [1, 2, 0] dX0_levelling_19 rfl (by decide) rfl ?_
  refine a_iloadn (pc := 20) (j := 2) F dX0_levelling_20 rfl rfl ?_
  refine a_mabs (pc := 21) F (tl q5_77) (tl q5_78) (tl q1_22) (tl q_math_abs) (Nat.le_of_ble_eq_true rfl) (Nat.le_of_ble_eq_true rfl) (Nat.zero_le _) (Nat.zero_le _) dX0_levelling_21 ?_
  obtain ⟨x3_4, ex3_4, hf⟩ := nm_some hf
  refine a_nmi ex3_4 ?_
  refine a_istoren (pc := 24) (lv' := [(0, .ref (a0 0)), (1, .int x1), (2, .int x2_3), (3, .int x3_4)]) F [1, 2, 3, 0] dX0_levelling_24 rfl (by decide) rfl ?_
  refine a_iconst (pc := 25) F dX0_levelling_25 kc_m1 ?_
  refine a_istore (pc := 26) (lv' := [(0, .ref (a0 0)), (1, .int x1), (2, .int x2_3), (3, .int x3_4), (4, .int (-1))]) F [1, 2, 3, 4, 0] dX0_levelling_26 (by decide) rfl ?_
  refine a_iconst (pc := 28) F dX0_levelling_28 kc_0 ?_
  refine a_istore (pc := 29) (lv' := [(0, .ref (a0 0)), (1, .int x1), (2, .int x2_3), (3, .int x3_4), (4, .int (-1)), (5, .int 0)]) F [1, 2, 3, 4, 5, 0] dX0_levelling_29 (by decide) rfl ?_
  refine a_loop 31 (fun (x5l : Int32 × Int32 × Int32) => [(0, .ref (a0 0)), (1, .int x1), (2, .int x2_3), (3, .int x5l.1), (4, .int x5l.2.1), (5, .int x5l.2.2)]) (fun (x5l : Int32 × Int32 × Int32) => [bX3 y a0 v0]) (fun rc5 x5l ih5 hf => ?_) hf rfl rfl
  try dsimp only at hf ⊢
  refine a_iload (pc := 31) (j := 5) F dX0_levelling_31 rfl ?_
  refine a_aloadn (pc := 33) (j := 0) F dX0_levelling_33 rfl rfl ?_
  refine a_get (pc := 34) (kb := 0) (j := 0) (f := 1) F iW_X3 rfl rfl rfl (by decide) (tl q1_70) (fun _ h => h) rfl dX0_levelling_34 ?_
  refine a_icmp_ge (pc := 37) (tgt := 75) F dX0_levelling_37 (by decide) (fun h => ?_) (fun h => ?_)
  · replace hf := it_pos h hf
    refine a_iload (pc := 75) (j := 4) F dX0_levelling_75 rfl ?_
    obtain rfl := Option.some.inj hf
    exact hret _ _ _ _ (Nat.zero_le _) (Nat.zero_le _) rfl dX0_levelling_77
  · replace hf := it_neg h hf
    refine a_iloadn (pc := 40) (j := 2) F dX0_levelling_40 rfl rfl ?_
    refine a_aloadn (pc := 41) (j := 0) F dX0_levelling_41 rfl rfl ?_
    refine a_iloadn (pc := 42) (j := 1) F dX0_levelling_42 rfl rfl ?_
    refine a_iconst (pc := 43) F dX0_levelling_43 kc_1 ?_
    refine a_iload (pc := 44) (j := 5) F dX0_levelling_44 rfl ?_
    refine a_ishl (pc := 46) F dX0_levelling_46 ?_
    obtain ⟨t6, ht6, hf⟩ := bd_some hf
    refine a_callS (pc := 47) (bs' := [bX3 y a0 v0]) F [0] (c_X0_shiftOf l D y ek n a0 _ _ _ _ ht6) (va_cwS 3 F.1.2.2.2.2 (gS q5_80 q5_81 q1_27 q5_82) rfl rfl rfl (by decide +kernel) ⟨Nat.le_of_ble_eq_true rfl, Nat.le_of_ble_eq_true rfl⟩) (by decide) rfl rfl rfl rfl rfl rfl (Nat.le_of_ble_eq_true rfl) ⟨Nat.zero_le _, Nat.zero_le _⟩ dX0_levelling_47 ?_
    refine a_iadd (pc := 50) F dX0_levelling_50 ?_
    refine a_mabs (pc := 51) F (tl q5_77) (tl q5_78) (tl q1_22) (tl q_math_abs) (Nat.le_of_ble_eq_true rfl) (Nat.le_of_ble_eq_true rfl) (Nat.zero_le _) (Nat.zero_le _) dX0_levelling_51 ?_
    obtain ⟨x6_7, ex6_7, hf⟩ := nm_some hf
    refine a_nmi ex6_7 ?_
    refine a_istore (pc := 54) (lv' := [(0, .ref (a0 0)), (1, .int x1), (2, .int x2_3), (3, .int x5l.1), (4, .int x5l.2.1), (5, .int x5l.2.2), (6, .int x6_7)]) F [1, 2, 3, 4, 5, 6, 0] dX0_levelling_54 (by decide) rfl ?_
    refine a_iload (pc := 56) (j := 6) F dX0_levelling_56 rfl ?_
    refine a_iloadn (pc := 58) (j := 3) F dX0_levelling_58 rfl rfl ?_
    refine a_join 69 (fun (t8 : Int32 × Int32) => [(0, .ref (a0 0)), (1, .int x1), (2, .int x2_3), (3, .int t8.1), (4, .int t8.2), (5, .int x5l.2.2)]) (fun (t8 : Int32 × Int32) => []) (fun (t8 : Int32 × Int32) => [bX3 y a0 v0]) hf (fun t8 hf => ?_) (fun t8 hf J8 => ?_)
    · try dsimp only at hf ⊢
      refine a_iinc (pc := 69) (j := 5) (v := (x5l.2.2 + 1)) (lv' := [(0, .ref (a0 0)), (1, .int x1), (2, .int x2_3), (3, .int t8.1), (4, .int t8.2), (5, .int (x5l.2.2 + 1))]) F [1, 2, 3, 4, 5, 0] dX0_levelling_69 rfl ki_1 (by decide) rfl ?_
      refine a_goto (pc := 72) (tgt := 31) F dX0_levelling_72 (by decide) ?_
      exact ih5 (t8.1, t8.2, (x5l.2.2 + 1)) hf
    · refine a_icmp_ge (pc := 59) (tgt := 69) F dX0_levelling_59 (by decide) (fun h => ?_) (fun h => ?_)
      · replace hf := it_pos h hf
        refine a_sub [0, 1, 2, 3, 4, 5] rfl ?_
        obtain rfl := Option.some.inj hf
        exact J8
      · replace hf := it_neg h hf
        refine a_iload (pc := 62) (j := 5) F dX0_levelling_62 rfl ?_
        refine a_istore (pc := 64) (lv' := [(0, .ref (a0 0)), (1, .int x1), (2, .int x2_3), (3, .int x5l.1), (4, .int x5l.2.2), (5, .int x5l.2.2), (6, .int x6_7)]) F [1, 2, 3, 4, 0, 5, 6] dX0_levelling_64 (by decide) rfl ?_
        refine a_iload (pc := 66) (j := 6) F dX0_levelling_66 rfl ?_
        refine a_istoren (pc := 68) (lv' := [(0, .ref (a0 0)), (1, .int x1), (2, .int x2_3), (3, .int x6_7), (4, .int x5l.2.2), (5, .int x5l.2.2), (6, .int x6_7)]) F [1, 2, 3, 0, 4, 5, 6] dX0_levelling_68 rfl (by decide) rfl ?_
        refine a_sub [0, 1, 2, 3, 4, 5] rfl ?_
        obtain rfl := Option.some.inj hf
        exact J8

abbrev wX0_tiltWith : List Cond := Cond.code yX0_tiltWith cX0_tiltWith 4 (some .int) :: WALL
def m_X0_tiltWith (n : Nat) (v0 : St) (x1 : Int32) (x2 : Int32) (x3 : Int32) : Option (Int32) :=
(if ix (2 * x1) 10 then (if ix ((2 * x1) + 1) 10 then bd (m_X3_leaning n v0 ((v0 18 ((2 * x1)).toNatClampNeg) + (x2 * (v0 3 0))) ((v0 18 (((2 * x1) + 1)).toNatClampNeg) + (x3 * (v0 3 0)))) (fun t3 =>
some t3) else none) else none)
set_option maxHeartbeats 4000000 in
set_option maxRecDepth 100000 in
theorem c_X0_tiltWith (l : Launch) (D : va_G) (y : Nat → ClassId) (ek : EK) (n : Nat) (a0 : Nat → Nat) (v0 : St) (x1 : Int32) (x2 : Int32) (x3 : Int32) (res : Int32) (hf : m_X0_tiltWith n v0 x1 x2 x3 = some res) : CI l yX0_tiltWith wX0_tiltWith { frames := 2, cells := 0, slots := 0, locals := 39 } D y ek [.ref (a0 0), .int x1, .int x2, .int x3] [bX3 y a0 v0] (res) [bX3 y a0 v0] 0 0 := by
  unfold m_X0_tiltWith at hf
  refine ci_of (cc := cX0_tiltWith) (maxL := 4) (by decide) rfl rfl (Nat.le_of_ble_eq_true rfl) ?_
  intro p e s m below meth c Q A F hret
  refine a_lv (lv' := [(0, .ref (a0 0)), (1, .int x1), (2, .int x2), (3, .int x3)]) rfl ?_
  refine a_aloadn (pc := 0) (j := 0) F dX0_tiltWith_0 rfl rfl ?_
  refine a_aloadn (pc := 1) (j := 0) F dX0_tiltWith_1 rfl rfl ?_
  refine a_get (pc := 2) (kb := 0) (j := 0) (f := 18) F iW_X3 rfl rfl rfl (by decide) (tl q1_116) (fun _ h => h) rfl dX0_tiltWith_2 ?_
  refine a_iconst (pc := 5) F dX0_tiltWith_5 kc_2 ?_
  refine a_iloadn (pc := 6) (j := 1) F dX0_tiltWith_6 rfl rfl ?_
  refine a_imul (pc := 7) F dX0_tiltWith_7 ?_
  obtain ⟨h1, hf⟩ := gd_some hf
  refine a_iald (pc := 8) (kb := 0) (j := 10) F rfl rfl h1 dX0_tiltWith_8 ?_
  refine a_iloadn (pc := 9) (j := 2) F dX0_tiltWith_9 rfl rfl ?_
  refine a_aloadn (pc := 10) (j := 0) F dX0_tiltWith_10 rfl rfl ?_
  refine a_get (pc := 11) (kb := 0) (j := 0) (f := 3) F iW_X3 rfl rfl rfl (by decide) (tl q1_78) (fun _ h => h) rfl dX0_tiltWith_11 ?_
  refine a_imul (pc := 14) F dX0_tiltWith_14 ?_
  refine a_iadd (pc := 15) F dX0_tiltWith_15 ?_
  refine a_aloadn (pc := 16) (j := 0) F dX0_tiltWith_16 rfl rfl ?_
  refine a_get (pc := 17) (kb := 0) (j := 0) (f := 18) F iW_X3 rfl rfl rfl (by decide) (tl q1_116) (fun _ h => h) rfl dX0_tiltWith_17 ?_
  refine a_iconst (pc := 20) F dX0_tiltWith_20 kc_2 ?_
  refine a_iloadn (pc := 21) (j := 1) F dX0_tiltWith_21 rfl rfl ?_
  refine a_imul (pc := 22) F dX0_tiltWith_22 ?_
  refine a_iconst (pc := 23) F dX0_tiltWith_23 kc_1 ?_
  refine a_iadd (pc := 24) F dX0_tiltWith_24 ?_
  obtain ⟨h2, hf⟩ := gd_some hf
  refine a_iald (pc := 25) (kb := 0) (j := 10) F rfl rfl h2 dX0_tiltWith_25 ?_
  refine a_iloadn (pc := 26) (j := 3) F dX0_tiltWith_26 rfl rfl ?_
  refine a_aloadn (pc := 27) (j := 0) F dX0_tiltWith_27 rfl rfl ?_
  refine a_get (pc := 28) (kb := 0) (j := 0) (f := 3) F iW_X3 rfl rfl rfl (by decide) (tl q1_78) (fun _ h => h) rfl dX0_tiltWith_28 ?_
  refine a_imul (pc := 31) F dX0_tiltWith_31 ?_
  refine a_iadd (pc := 32) F dX0_tiltWith_32 ?_
  obtain ⟨t3, ht3, hf⟩ := bd_some hf
  refine a_callV (pc := 33) (bs' := [bX3 y a0 v0]) (kb := 0) (j := 0) F [0] (c_X3_leaning l D y ek n a0 _ _ _ _ ht3) (cwV 2 F.1.2.2.2.2 (gV q5_94 q2_166 q2_167 q1_3 q2_168) rfl rfl rfl (by decide +kernel) ⟨Nat.le_of_ble_eq_true rfl, Nat.le_of_ble_eq_true rfl⟩) rfl rfl rfl rfl (by decide) rfl rfl rfl rfl rfl rfl (Nat.le_of_ble_eq_true rfl) ⟨Nat.zero_le _, Nat.zero_le _⟩ dX0_tiltWith_33 ?_
  obtain rfl := Option.some.inj hf
  exact hret _ _ _ _ (Nat.zero_le _) (Nat.zero_le _) rfl dX0_tiltWith_36

abbrev wX0_isResting : List Cond := Cond.code yX0_isResting cX0_isResting 9 (some .boolean) :: WALL
def m_X0_isResting (n : Nat) (v0 : St) (x1 : Int32) (x2 : Int32) (x3 : Int32) : Option (Int32) :=
bd (m_X0_tiltWith n v0 x1 x2 x3) (fun t1 =>
nm (t1 - x2) (fun x4_2 =>
bd (m_X0_tiltWith n v0 x1 x2 x3) (fun t3 =>
nm ((-t3) - x3) (fun x5_4 =>
lp (fun (rc5 : Int32 → Option (Int32)) (x5l : Int32) =>
(if 3 ≤ x5l then
some 1
else
bd (m_X0_tiltWith n v0 x1 x5l x3) (fun t6 =>
bd ((if (t6 - x5l) ≤ x4_2 then
some 0
else
some 1)) (fun (t7 : Int32) =>
bd (m_X0_tiltWith n v0 x1 x2 x5l) (fun t8 =>
bd ((if ((-t8) - x5l) ≤ x5_4 then
some 0
else
some 1)) (fun (t9 : Int32) =>
(if t7 = 0 then
(if t9 = 0 then
rc5 (x5l + 1)
else
some 0)
else
some 0))))))) n 0))))
set_option maxHeartbeats 4000000 in
set_option maxRecDepth 100000 in
theorem c_X0_isResting (l : Launch) (D : va_G) (y : Nat → ClassId) (ek : EK) (n : Nat) (a0 : Nat → Nat) (v0 : St) (x1 : Int32) (x2 : Int32) (x3 : Int32) (res : Int32) (hf : m_X0_isResting n v0 x1 x2 x3 = some res) : CI l yX0_isResting wX0_isResting { frames := 3, cells := 0, slots := 0, locals := 62 } D y ek [.ref (a0 0), .int x1, .int x2, .int x3] [bX3 y a0 v0] (res) [bX3 y a0 v0] 0 0 := by
  unfold m_X0_isResting at hf
  refine ci_of (cc := cX0_isResting) (maxL := 9) (by decide) rfl rfl (Nat.le_of_ble_eq_true rfl) ?_
  intro p e s m below meth c Q A F hret
  refine a_lv (lv' := [(0, .ref (a0 0)), (1, .int x1), (2, .int x2), (3, .int x3)]) rfl ?_
  refine a_aloadn (pc := 0) (j := 0) F dX0_isResting_0 rfl rfl ?_
  refine a_iloadn (pc := 1) (j := 1) F dX0_isResting_1 rfl rfl ?_
  refine a_iloadn (pc := 2) (j := 2) F dX0_isResting_2 rfl rfl ?_
  refine a_iloadn (pc := 3) (j := 3) F dX0_isResting_3 rfl rfl ?_
  obtain ⟨t1, ht1, hf⟩ := bd_some hf
  refine a_callS (pc := 4) (bs' := [bX3 y a0 v0]) F [0] (c_X0_tiltWith l D y ek n a0 _ _ _ _ _ ht1) (va_cwS 4 F.1.2.2.2.2 (gS q5_209 q5_210 q1_27 q5_211) rfl rfl rfl (by decide +kernel) ⟨Nat.le_of_ble_eq_true rfl, Nat.le_of_ble_eq_true rfl⟩) (by decide) rfl rfl rfl rfl rfl rfl (Nat.le_of_ble_eq_true rfl) ⟨Nat.zero_le _, Nat.zero_le _⟩ dX0_isResting_4 ?_
  refine a_iloadn (pc := 7) (j := 2) F dX0_isResting_7 rfl rfl ?_
  refine a_isub (pc := 8) F dX0_isResting_8 ?_
  obtain ⟨x4_2, ex4_2, hf⟩ := nm_some hf
  refine a_nmi ex4_2 ?_
  refine a_istore (pc := 9) (lv' := [(0, .ref (a0 0)), (1, .int x1), (2, .int x2), (3, .int x3), (4, .int x4_2)]) F [1, 2, 3, 4, 0] dX0_isResting_9 (by decide) rfl ?_
  refine a_aloadn (pc := 11) (j := 0) F dX0_isResting_11 rfl rfl ?_
  refine a_iloadn (pc := 12) (j := 1) F dX0_isResting_12 rfl rfl ?_
  refine a_iloadn (pc := 13) (j := 2) F dX0_isResting_13 rfl rfl ?_
  refine a_iloadn (pc := 14) (j := 3) F dX0_isResting_14 rfl rfl ?_
  obtain ⟨t3, ht3, hf⟩ := bd_some hf
  refine a_callS (pc := 15) (bs' := [bX3 y a0 v0]) F [0] (c_X0_tiltWith l D y ek n a0 _ _ _ _ _ ht3) (va_cwS 4 F.1.2.2.2.2 (gS q5_209 q5_210 q1_27 q5_211) rfl rfl rfl (by decide +kernel) ⟨Nat.le_of_ble_eq_true rfl, Nat.le_of_ble_eq_true rfl⟩) (by decide) rfl rfl rfl rfl rfl rfl (Nat.le_of_ble_eq_true rfl) ⟨Nat.zero_le _, Nat.zero_le _⟩ dX0_isResting_15 ?_
  refine a_ineg (pc := 18) F dX0_isResting_18 ?_
  refine a_iloadn (pc := 19) (j := 3) F dX0_isResting_19 rfl rfl ?_
  refine a_isub (pc := 20) F dX0_isResting_20 ?_
  obtain ⟨x5_4, ex5_4, hf⟩ := nm_some hf
  refine a_nmi ex5_4 ?_
  refine a_istore (pc := 21) (lv' := [(0, .ref (a0 0)), (1, .int x1), (2, .int x2), (3, .int x3), (4, .int x4_2), (5, .int x5_4)]) F [1, 2, 3, 4, 5, 0] dX0_isResting_21 (by decide) rfl ?_
  refine a_iconst (pc := 23) F dX0_isResting_23 kc_0 ?_
  refine a_istore (pc := 24) (lv' := [(0, .ref (a0 0)), (1, .int x1), (2, .int x2), (3, .int x3), (4, .int x4_2), (5, .int x5_4), (6, .int 0)]) F [1, 2, 3, 4, 5, 6, 0] dX0_isResting_24 (by decide) rfl ?_
  refine a_loop 26 (fun (x5l : Int32) => [(0, .ref (a0 0)), (1, .int x1), (2, .int x2), (3, .int x3), (4, .int x4_2), (5, .int x5_4), (6, .int x5l)]) (fun (x5l : Int32) => [bX3 y a0 v0]) (fun rc5 x5l ih5 hf => ?_) hf rfl rfl
  try dsimp only at hf ⊢
  refine a_iload (pc := 26) (j := 6) F dX0_isResting_26 rfl ?_
  refine a_iconst (pc := 28) F dX0_isResting_28 kc_3 ?_
  refine a_icmp_ge (pc := 29) (tgt := 97) F dX0_isResting_29 (by decide) (fun h => ?_) (fun h => ?_)
  · replace hf := it_pos h hf
    refine a_iconst (pc := 97) F dX0_isResting_97 kc_1 ?_
    obtain rfl := Option.some.inj hf
    exact hret _ _ _ _ (Nat.zero_le _) (Nat.zero_le _) (z_nar (Or.inr rfl)) dX0_isResting_98
  · replace hf := it_neg h hf
    refine a_aloadn (pc := 32) (j := 0) F dX0_isResting_32 rfl rfl ?_
    refine a_iloadn (pc := 33) (j := 1) F dX0_isResting_33 rfl rfl ?_
    refine a_iload (pc := 34) (j := 6) F dX0_isResting_34 rfl ?_
    refine a_iloadn (pc := 36) (j := 3) F dX0_isResting_36 rfl rfl ?_
    obtain ⟨t6, ht6, hf⟩ := bd_some hf
    refine a_callS (pc := 37) (bs' := [bX3 y a0 v0]) F [0] (c_X0_tiltWith l D y ek n a0 _ _ _ _ _ ht6) (va_cwS 4 F.1.2.2.2.2 (gS q5_209 q5_210 q1_27 q5_211) rfl rfl rfl (by decide +kernel) ⟨Nat.le_of_ble_eq_true rfl, Nat.le_of_ble_eq_true rfl⟩) (by decide) rfl rfl rfl rfl rfl rfl (Nat.le_of_ble_eq_true rfl) ⟨Nat.zero_le _, Nat.zero_le _⟩ dX0_isResting_37 ?_
    refine a_iload (pc := 40) (j := 6) F dX0_isResting_40 rfl ?_
    refine a_isub (pc := 42) F dX0_isResting_42 ?_
    refine a_iload (pc := 43) (j := 4) F dX0_isResting_43 rfl ?_
    refine a_join 53 (fun (t7 : Int32) => [(0, .ref (a0 0)), (1, .int x1), (2, .int x2), (3, .int x3), (4, .int x4_2), (5, .int x5_4), (6, .int x5l)]) (fun (t7 : Int32) => [.int t7]) (fun (t7 : Int32) => [bX3 y a0 v0]) hf (fun t7 hf => ?_) (fun t7 hf J7 => ?_)
    · try dsimp only at hf ⊢
      refine a_istore (pc := 53) (lv' := [(0, .ref (a0 0)), (1, .int x1), (2, .int x2), (3, .int x3), (4, .int x4_2), (5, .int x5_4), (6, .int x5l), (7, .int t7)]) F [1, 2, 3, 4, 5, 6, 7, 0] dX0_isResting_53 (by decide) rfl ?_
      refine a_aloadn (pc := 55) (j := 0) F dX0_isResting_55 rfl rfl ?_
      refine a_iloadn (pc := 56) (j := 1) F dX0_isResting_56 rfl rfl ?_
      refine a_iloadn (pc := 57) (j := 2) F dX0_isResting_57 rfl rfl ?_
      refine a_iload (pc := 58) (j := 6) F dX0_isResting_58 rfl ?_
      obtain ⟨t8, ht8, hf⟩ := bd_some hf
      refine a_callS (pc := 60) (bs' := [bX3 y a0 v0]) F [0] (c_X0_tiltWith l D y ek n a0 _ _ _ _ _ ht8) (va_cwS 4 F.1.2.2.2.2 (gS q5_209 q5_210 q1_27 q5_211) rfl rfl rfl (by decide +kernel) ⟨Nat.le_of_ble_eq_true rfl, Nat.le_of_ble_eq_true rfl⟩) (by decide) rfl rfl rfl rfl rfl rfl (Nat.le_of_ble_eq_true rfl) ⟨Nat.zero_le _, Nat.zero_le _⟩ dX0_isResting_60 ?_
      refine a_ineg (pc := 63) F dX0_isResting_63 ?_
      refine a_iload (pc := 64) (j := 6) F dX0_isResting_64 rfl ?_
      refine a_isub (pc := 66) F dX0_isResting_66 ?_
      refine a_iload (pc := 67) (j := 5) F dX0_isResting_67 rfl ?_
      refine a_join 77 (fun (t9 : Int32) => [(0, .ref (a0 0)), (1, .int x1), (2, .int x2), (3, .int x3), (4, .int x4_2), (5, .int x5_4), (6, .int x5l), (7, .int t7)]) (fun (t9 : Int32) => [.int t9]) (fun (t9 : Int32) => [bX3 y a0 v0]) hf (fun t9 hf => ?_) (fun t9 hf J9 => ?_)
      · try dsimp only at hf ⊢
        refine a_istore (pc := 77) (lv' := [(0, .ref (a0 0)), (1, .int x1), (2, .int x2), (3, .int x3), (4, .int x4_2), (5, .int x5_4), (6, .int x5l), (7, .int t7), (8, .int t9)]) F [1, 2, 3, 4, 5, 6, 7, 8, 0] dX0_isResting_77 (by decide) rfl ?_
        refine a_iload (pc := 79) (j := 7) F dX0_isResting_79 rfl ?_
        refine a_if_ne (pc := 81) (tgt := 89) F dX0_isResting_81 (by decide) (fun h => ?_) (fun h => ?_)
        · replace hf := it_neg h hf
          refine a_iconst (pc := 89) F dX0_isResting_89 kc_0 ?_
          obtain rfl := Option.some.inj hf
          exact hret _ _ _ _ (Nat.zero_le _) (Nat.zero_le _) (z_nar (Or.inl rfl)) dX0_isResting_90
        · replace hf := it_pos h hf
          refine a_iload (pc := 84) (j := 8) F dX0_isResting_84 rfl ?_
          refine a_if_eq (pc := 86) (tgt := 91) F dX0_isResting_86 (by decide) (fun h => ?_) (fun h => ?_)
          · replace hf := it_pos h hf
            refine a_iinc (pc := 91) (j := 6) (v := (x5l + 1)) (lv' := [(0, .ref (a0 0)), (1, .int x1), (2, .int x2), (3, .int x3), (4, .int x4_2), (5, .int x5_4), (6, .int (x5l + 1)), (7, .int t7), (8, .int t9)]) F [1, 2, 3, 4, 5, 6, 0, 7, 8] dX0_isResting_91 rfl ki_1 (by decide) rfl ?_
            refine a_goto (pc := 94) (tgt := 26) F dX0_isResting_94 (by decide) ?_
            refine a_sub [0, 1, 2, 3, 4, 5, 6] rfl ?_
            exact ih5 (x5l + 1) hf
          · replace hf := it_neg h hf
            refine a_iconst (pc := 89) F dX0_isResting_89 kc_0 ?_
            obtain rfl := Option.some.inj hf
            exact hret _ _ _ _ (Nat.zero_le _) (Nat.zero_le _) (z_nar (Or.inl rfl)) dX0_isResting_90
      · refine a_icmp_le (pc := 69) (tgt := 76) F dX0_isResting_69 (by decide) (fun h => ?_) (fun h => ?_)
        · replace hf := it_pos h hf
          refine a_iconst (pc := 76) F dX0_isResting_76 kc_0 ?_
          obtain rfl := Option.some.inj hf
          exact J9
        · replace hf := it_neg h hf
          refine a_iconst (pc := 72) F dX0_isResting_72 kc_1 ?_
          refine a_goto (pc := 73) (tgt := 77) F dX0_isResting_73 (by decide) ?_
          obtain rfl := Option.some.inj hf
          exact J9
    · refine a_icmp_le (pc := 45) (tgt := 52) F dX0_isResting_45 (by decide) (fun h => ?_) (fun h => ?_)
      · replace hf := it_pos h hf
        refine a_iconst (pc := 52) F dX0_isResting_52 kc_0 ?_
        obtain rfl := Option.some.inj hf
        exact J7
      · replace hf := it_neg h hf
        refine a_iconst (pc := 48) F dX0_isResting_48 kc_1 ?_
        refine a_goto (pc := 49) (tgt := 53) F dX0_isResting_49 (by decide) ?_
        obtain rfl := Option.some.inj hf
        exact J7

abbrev wX0_restingChoices : List Cond := Cond.code yX0_restingChoices cX0_restingChoices 5 (some .int) :: WALL
def m_X0_restingChoices (n : Nat) (v0 : St) (x1 : Int32) : Option (Int32) :=
lp (fun (rc1 : Int32 × Int32 → Option (Int32)) (x1l : Int32 × Int32) =>
(if 3 ≤ x1l.2 then
some x1l.1
else
bd (lp (fun (rc3 : Int32 × Int32 → Option (Int32)) (x3l : Int32 × Int32) =>
(if 3 ≤ x3l.2 then
some x3l.1
else
bd (m_X0_isResting n v0 x1 x1l.2 x3l.2) (fun t4 =>
bd ((if t4 = 0 then
some x3l.1
else
nm (x3l.1 ||| (x_shl 1 ((3 * x1l.2) + x3l.2))) (fun x2_6 =>
some x2_6))) (fun (t5 : Int32) =>
rc3 (t5, (x3l.2 + 1)))))) n (x1l.1, 0)) (fun (t2 : Int32) =>
rc1 (t2, (x1l.2 + 1))))) n (0, 0)
set_option maxHeartbeats 4000000 in
set_option maxRecDepth 100000 in
theorem c_X0_restingChoices (l : Launch) (D : va_G) (y : Nat → ClassId) (ek : EK) (n : Nat) (a0 : Nat → Nat) (v0 : St) (x1 : Int32) (res : Int32) (hf : m_X0_restingChoices n v0 x1 = some res) : CI l yX0_restingChoices wX0_restingChoices { frames := 4, cells := 0, slots := 0, locals := 90 } D y ek [.ref (a0 0), .int x1] [bX3 y a0 v0] (res) [bX3 y a0 v0] 0 0 := by
  unfold m_X0_restingChoices at hf
  refine ci_of (cc := cX0_restingChoices) (maxL := 5) (by decide) rfl rfl (Nat.le_of_ble_eq_true rfl) ?_
  intro p e s m below meth c Q A F hret
  refine a_lv (lv' := [(0, .ref (a0 0)), (1, .int x1)]) rfl ?_
  refine a_iconst (pc := 0) F dX0_restingChoices_0 kc_0 ?_
  refine a_istoren (pc := 1) (lv' := [(0, .ref (a0 0)), (1, .int x1), (2, .int 0)]) F [1, 2, 0] dX0_restingChoices_1 rfl (by decide) rfl ?_
  refine a_iconst (pc := 2) F dX0_restingChoices_2 kc_0 ?_
  refine a_istoren (pc := 3) (lv' := [(0, .ref (a0 0)), (1, .int x1), (2, .int 0), (3, .int 0)]) F [1, 2, 3, 0] dX0_restingChoices_3 rfl (by decide) rfl ?_
  refine a_loop 4 (fun (x1l : Int32 × Int32) => [(0, .ref (a0 0)), (1, .int x1), (2, .int x1l.1), (3, .int x1l.2)]) (fun (x1l : Int32 × Int32) => [bX3 y a0 v0]) (fun rc1 x1l ih1 hf => ?_) hf rfl rfl
  try dsimp only at hf ⊢
  refine a_iloadn (pc := 4) (j := 3) F dX0_restingChoices_4 rfl rfl ?_
  refine a_iconst (pc := 5) F dX0_restingChoices_5 kc_3 ?_
  refine a_icmp_ge (pc := 6) (tgt := 52) F dX0_restingChoices_6 (by decide) (fun h => ?_) (fun h => ?_)
  · replace hf := it_pos h hf
    refine a_iloadn (pc := 52) (j := 2) F dX0_restingChoices_52 rfl rfl ?_
    obtain rfl := Option.some.inj hf
    exact hret _ _ _ _ (Nat.zero_le _) (Nat.zero_le _) rfl dX0_restingChoices_53
  · replace hf := it_neg h hf
    refine a_iconst (pc := 9) F dX0_restingChoices_9 kc_0 ?_
    refine a_istore (pc := 10) (lv' := [(0, .ref (a0 0)), (1, .int x1), (2, .int x1l.1), (3, .int x1l.2), (4, .int 0)]) F [1, 2, 3, 4, 0] dX0_restingChoices_10 (by decide) rfl ?_
    refine a_join 46 (fun (t2 : Int32) => [(0, .ref (a0 0)), (1, .int x1), (2, .int t2), (3, .int x1l.2)]) (fun (t2 : Int32) => []) (fun (t2 : Int32) => [bX3 y a0 v0]) hf (fun t2 hf => ?_) (fun t2 hf J2 => ?_)
    · try dsimp only at hf ⊢
      refine a_iinc (pc := 46) (j := 3) (v := (x1l.2 + 1)) (lv' := [(0, .ref (a0 0)), (1, .int x1), (2, .int t2), (3, .int (x1l.2 + 1))]) F [1, 2, 3, 0] dX0_restingChoices_46 rfl ki_1 (by decide) rfl ?_
      refine a_goto (pc := 49) (tgt := 4) F dX0_restingChoices_49 (by decide) ?_
      exact ih1 (t2, (x1l.2 + 1)) hf
    · refine a_loop 12 (fun (x3l : Int32 × Int32) => [(0, .ref (a0 0)), (1, .int x1), (2, .int x3l.1), (3, .int x1l.2), (4, .int x3l.2)]) (fun (x3l : Int32 × Int32) => [bX3 y a0 v0]) (fun rc3 x3l ih3 hf => ?_) hf rfl rfl
      try dsimp only at hf ⊢
      refine a_iload (pc := 12) (j := 4) F dX0_restingChoices_12 rfl ?_
      refine a_iconst (pc := 14) F dX0_restingChoices_14 kc_3 ?_
      refine a_icmp_ge (pc := 15) (tgt := 46) F dX0_restingChoices_15 (by decide) (fun h => ?_) (fun h => ?_)
      · replace hf := it_pos h hf
        refine a_sub [0, 1, 2, 3] rfl ?_
        obtain rfl := Option.some.inj hf
        exact J2
      · replace hf := it_neg h hf
        refine a_aloadn (pc := 18) (j := 0) F dX0_restingChoices_18 rfl rfl ?_
        refine a_iloadn (pc := 19) (j := 1) F dX0_restingChoices_19 rfl rfl ?_
        refine a_iloadn (pc := 20) (j := 3) F dX0_restingChoices_20 rfl rfl ?_
        refine a_iload (pc := 21) (j := 4) F dX0_restingChoices_21 rfl ?_
        obtain ⟨t4, ht4, hf⟩ := bd_some hf
        refine a_callS (pc := 23) (bs' := [bX3 y a0 v0]) F [0] (c_X0_isResting l D y ek n a0 _ _ _ _ _ ht4) (va_cwS 4 F.1.2.2.2.2 (gS q5_206 q5_207 q1_27 q5_208) rfl rfl rfl (by decide +kernel) ⟨Nat.le_of_ble_eq_true rfl, Nat.le_of_ble_eq_true rfl⟩) (by decide) rfl rfl rfl rfl rfl rfl (Nat.le_of_ble_eq_true rfl) ⟨Nat.zero_le _, Nat.zero_le _⟩ dX0_restingChoices_23 ?_
        refine a_join 40 (fun (t5 : Int32) => [(0, .ref (a0 0)), (1, .int x1), (2, .int t5), (3, .int x1l.2), (4, .int x3l.2)]) (fun (t5 : Int32) => []) (fun (t5 : Int32) => [bX3 y a0 v0]) hf (fun t5 hf => ?_) (fun t5 hf J5 => ?_)
        · try dsimp only at hf ⊢
          refine a_iinc (pc := 40) (j := 4) (v := (x3l.2 + 1)) (lv' := [(0, .ref (a0 0)), (1, .int x1), (2, .int t5), (3, .int x1l.2), (4, .int (x3l.2 + 1))]) F [1, 2, 3, 4, 0] dX0_restingChoices_40 rfl ki_1 (by decide) rfl ?_
          refine a_goto (pc := 43) (tgt := 12) F dX0_restingChoices_43 (by decide) ?_
          exact ih3 (t5, (x3l.2 + 1)) hf
        · refine a_if_eq (pc := 26) (tgt := 40) F dX0_restingChoices_26 (by decide) (fun h => ?_) (fun h => ?_)
          · replace hf := it_pos h hf
            obtain rfl := Option.some.inj hf
            exact J5
          · replace hf := it_neg h hf
            refine a_iloadn (pc := 29) (j := 2) F dX0_restingChoices_29 rfl rfl ?_
            refine a_iconst (pc := 30) F dX0_restingChoices_30 kc_1 ?_
            refine a_iconst (pc := 31) F dX0_restingChoices_31 kc_3 ?_
            refine a_iloadn (pc := 32) (j := 3) F dX0_restingChoices_32 rfl rfl ?_
            refine a_imul (pc := 33) F dX0_restingChoices_33 ?_
            refine a_iload (pc := 34) (j := 4) F dX0_restingChoices_34 rfl ?_
            refine a_iadd (pc := 36) F dX0_restingChoices_36 ?_
            refine a_ishl (pc := 37) F dX0_restingChoices_37 ?_
            refine a_ior (pc := 38) F dX0_restingChoices_38 ?_
            obtain ⟨x2_6, ex2_6, hf⟩ := nm_some hf
            refine a_nmi ex2_6 ?_
            refine a_istoren (pc := 39) (lv' := [(0, .ref (a0 0)), (1, .int x1), (2, .int x2_6), (3, .int x1l.2), (4, .int x3l.2)]) F [1, 2, 0, 3, 4] dX0_restingChoices_39 rfl (by decide) rfl ?_
            obtain rfl := Option.some.inj hf
            exact J5

abbrev wJ6_bitCount_0f7a4 : List Cond := Cond.code yJ6_bitCount_0f7a4 cJ6_bitCount_0f7a4 1 (some .int) :: WALL
def m_J6_bitCount_0f7a4 (n : Nat) (x0 : Int32) : Option (Int32) :=
nm (x0 - ((x_ushr x0 1) &&& 1431655765)) (fun x0_1 =>
nm ((x0_1 &&& 858993459) + ((x_ushr x0_1 2) &&& 858993459)) (fun x0_2 =>
nm ((x0_2 + (x_ushr x0_2 4)) &&& 252645135) (fun x0_3 =>
nm (x0_3 + (x_ushr x0_3 8)) (fun x0_4 =>
nm (x0_4 + (x_ushr x0_4 16)) (fun x0_5 =>
some (x0_5 &&& 63))))))
set_option maxHeartbeats 4000000 in
set_option maxRecDepth 100000 in
theorem c_J6_bitCount_0f7a4 (l : Launch) (D : va_G) (y : Nat → ClassId) (ek : EK) (n : Nat) (x0 : Int32) (res : Int32) (hf : m_J6_bitCount_0f7a4 n x0 = some res) : CI l yJ6_bitCount_0f7a4 wJ6_bitCount_0f7a4 { frames := 0, cells := 0, slots := 0, locals := 0 } D y ek [.int x0] [] (res) [] 0 0 := by
  unfold m_J6_bitCount_0f7a4 at hf
  refine ci_of (cc := cJ6_bitCount_0f7a4) (maxL := 1) (by decide) rfl rfl (Nat.le_of_ble_eq_true rfl) ?_
  intro p e s m below meth c Q A F hret
  refine a_lv (lv' := [(0, .int x0)]) rfl ?_
  refine a_iloadn (pc := 0) (j := 0) F dJ6_bitCount_0f7a4_0 rfl rfl ?_
  refine a_iloadn (pc := 1) (j := 0) F dJ6_bitCount_0f7a4_1 rfl rfl ?_
  refine a_iconst (pc := 2) F dJ6_bitCount_0f7a4_2 kc_1 ?_
  refine a_iushr (pc := 3) F dJ6_bitCount_0f7a4_3 ?_
  refine a_ldcw (pc := 4) (v := 1431655765) F (tl q5_102) dJ6_bitCount_0f7a4_4 ?_
  refine a_iand (pc := 7) F dJ6_bitCount_0f7a4_7 ?_
  refine a_isub (pc := 8) F dJ6_bitCount_0f7a4_8 ?_
  obtain ⟨x0_1, ex0_1, hf⟩ := nm_some hf
  refine a_nmi ex0_1 ?_
  refine a_istoren (pc := 9) (lv' := [(0, .int x0_1)]) F [0] dJ6_bitCount_0f7a4_9 rfl (by decide) rfl ?_
  refine a_iloadn (pc := 10) (j := 0) F dJ6_bitCount_0f7a4_10 rfl rfl ?_
  refine a_ldcw (pc := 11) (v := 858993459) F (tl q5_103) dJ6_bitCount_0f7a4_11 ?_
  refine a_iand (pc := 14) F dJ6_bitCount_0f7a4_14 ?_
  refine a_iloadn (pc := 15) (j := 0) F dJ6_bitCount_0f7a4_15 rfl rfl ?_
  refine a_iconst (pc := 16) F dJ6_bitCount_0f7a4_16 kc_2 ?_
  refine a_iushr (pc := 17) F dJ6_bitCount_0f7a4_17 ?_
  refine a_ldcw (pc := 18) (v := 858993459) F (tl q5_103) dJ6_bitCount_0f7a4_18 ?_
  refine a_iand (pc := 21) F dJ6_bitCount_0f7a4_21 ?_
  refine a_iadd (pc := 22) F dJ6_bitCount_0f7a4_22 ?_
  obtain ⟨x0_2, ex0_2, hf⟩ := nm_some hf
  refine a_nmi ex0_2 ?_
  refine a_istoren (pc := 23) (lv' := [(0, .int x0_2)]) F [0] dJ6_bitCount_0f7a4_23 rfl (by decide) rfl ?_
  refine a_iloadn (pc := 24) (j := 0) F dJ6_bitCount_0f7a4_24 rfl rfl ?_
  refine a_iloadn (pc := 25) (j := 0) F dJ6_bitCount_0f7a4_25 rfl rfl ?_
  refine a_iconst (pc := 26) F dJ6_bitCount_0f7a4_26 kc_4 ?_
  refine a_iushr (pc := 27) F dJ6_bitCount_0f7a4_27 ?_
  refine a_iadd (pc := 28) F dJ6_bitCount_0f7a4_28 ?_
  refine a_ldcw (pc := 29) (v := 252645135) F (tl q5_104) dJ6_bitCount_0f7a4_29 ?_
  refine a_iand (pc := 32) F dJ6_bitCount_0f7a4_32 ?_
  obtain ⟨x0_3, ex0_3, hf⟩ := nm_some hf
  refine a_nmi ex0_3 ?_
  refine a_istoren (pc := 33) (lv' := [(0, .int x0_3)]) F [0] dJ6_bitCount_0f7a4_33 rfl (by decide) rfl ?_
  refine a_iloadn (pc := 34) (j := 0) F dJ6_bitCount_0f7a4_34 rfl rfl ?_
  refine a_iloadn (pc := 35) (j := 0) F dJ6_bitCount_0f7a4_35 rfl rfl ?_
  refine a_bipush (pc := 36) F dJ6_bitCount_0f7a4_36 kb_8 ?_
  refine a_iushr (pc := 38) F dJ6_bitCount_0f7a4_38 ?_
  refine a_iadd (pc := 39) F dJ6_bitCount_0f7a4_39 ?_
  obtain ⟨x0_4, ex0_4, hf⟩ := nm_some hf
  refine a_nmi ex0_4 ?_
  refine a_istoren (pc := 40) (lv' := [(0, .int x0_4)]) F [0] dJ6_bitCount_0f7a4_40 rfl (by decide) rfl ?_
  refine a_iloadn (pc := 41) (j := 0) F dJ6_bitCount_0f7a4_41 rfl rfl ?_
  refine a_iloadn (pc := 42) (j := 0) F dJ6_bitCount_0f7a4_42 rfl rfl ?_
  refine a_bipush (pc := 43) F dJ6_bitCount_0f7a4_43 kb_16 ?_
  refine a_iushr (pc := 45) F dJ6_bitCount_0f7a4_45 ?_
  refine a_iadd (pc := 46) F dJ6_bitCount_0f7a4_46 ?_
  obtain ⟨x0_5, ex0_5, hf⟩ := nm_some hf
  refine a_nmi ex0_5 ?_
  refine a_istoren (pc := 47) (lv' := [(0, .int x0_5)]) F [0] dJ6_bitCount_0f7a4_47 rfl (by decide) rfl ?_
  refine a_iloadn (pc := 48) (j := 0) F dJ6_bitCount_0f7a4_48 rfl rfl ?_
  refine a_bipush (pc := 49) F dJ6_bitCount_0f7a4_49 kb_63 ?_
  refine a_iand (pc := 51) F dJ6_bitCount_0f7a4_51 ?_
  obtain rfl := Option.some.inj hf
  exact hret _ _ _ _ (Nat.zero_le _) (Nat.zero_le _) rfl dJ6_bitCount_0f7a4_52

abbrev wX0_leastSet : List Cond := Cond.code yX0_leastSet cX0_leastSet 11 (some .int) :: WALL
def m_X0_leastSet (n : Nat) (v0 : St) (x1 : Int32) (x2 : Int32) (x3 : Int32) : Option (Int32) :=
bd (m_X3_thingsIn n v0 (2 * x1)) (fun t1 =>
bd (m_X3_thingsIn n v0 ((2 * x1) + 1)) (fun t2 =>
nm (t1 ||| t2) (fun x4_3 =>
(if ix ((2 * x1) + 1) 10 then (if ix (2 * x1) 10 then nm ((v0 18 (((2 * x1) + 1)).toNatClampNeg) - (v0 18 ((2 * x1)).toNatClampNeg)) (fun x5_6 =>
lp (fun (rc7 : Int32 × Int32 × Int32 → Option (Int32)) (x7l : Int32 × Int32 × Int32) =>
(if x4_3 < x7l.2.2 then
some x7l.1
else
bd (jn (fun (t14 : Unit) =>
some 0) (fun (K14 : Unit → Option (Int32)) =>
(if (x7l.2.2 &&& x4_3) = x7l.2.2 then
bd (m_X0_shiftOf n v0 x1 x7l.2.2) (fun t15 =>
bd (m_X3_leaning n v0 0 (x5_6 + t15)) (fun t16 =>
(if t16 = x2 then
some 1
else
K14 ())))
else
K14 ()))) (fun (t8 : Int32) =>
bd ((if t8 = 0 then
some (x7l.1, x7l.2.1)
else
bd ((if x3 = 0 then
bd (m_J6_bitCount_0f7a4 n x7l.2.2) (fun t12 =>
some t12)
else
bd (m_X3_weightOf n v0 x7l.2.2) (fun t13 =>
some t13))) (fun (t10 : Int32) =>
jn (fun (t11 : Unit) =>
some (x7l.2.2, t10)) (fun (K11 : Unit → Option (Int32 × Int32)) =>
(if x7l.1 = (-1) then
K11 ()
else
(if x7l.2.1 ≤ t10 then
some (x7l.1, x7l.2.1)
else
K11 ())))))) (fun (t9 : Int32 × Int32) =>
rc7 (t9.1, t9.2, (x7l.2.2 + 1)))))) n ((-1), 0, 0)) else none) else none))))
set_option maxHeartbeats 4000000 in
set_option maxRecDepth 100000 in
theorem c_X0_leastSet (l : Launch) (D : va_G) (y : Nat → ClassId) (ek : EK) (n : Nat) (a0 : Nat → Nat) (v0 : St) (x1 : Int32) (x2 : Int32) (x3 : Int32) (res : Int32) (hf : m_X0_leastSet n v0 x1 x2 x3 = some res) : CI l yX0_leastSet wX0_leastSet { frames := 2, cells := 0, slots := 0, locals := 39 } D y ek [.ref (a0 0), .int x1, .int x2, .int x3] [bX3 y a0 v0] (res) [bX3 y a0 v0] 0 0 := by
  unfold m_X0_leastSet at hf
  refine ci_of (cc := cX0_leastSet) (maxL := 11) (by decide) rfl rfl (Nat.le_of_ble_eq_true rfl) ?_
  intro p e s m below meth c Q A F hret
  refine a_lv (lv' := [(0, .ref (a0 0)), (1, .int x1), (2, .int x2), (3, .int x3)]) rfl ?_
  refine a_aloadn (pc := 0) (j := 0) F dX0_leastSet_0 rfl rfl ?_
  refine a_iconst (pc := 1) F dX0_leastSet_1 kc_2 ?_
  refine a_iloadn (pc := 2) (j := 1) F dX0_leastSet_2 rfl rfl ?_
  refine a_imul (pc := 3) F dX0_leastSet_3 ?_
  obtain ⟨t1, ht1, hf⟩ := bd_some hf
  refine a_callV (pc := 4) (bs' := [bX3 y a0 v0]) (kb := 0) (j := 0) F [0] (c_X3_thingsIn l D y ek n a0 _ _ _ ht1) (cwV 1 F.1.2.2.2.2 (gV q5_93 q3_86 q3_87 q1_3 q3_88) rfl rfl rfl (by decide +kernel) ⟨Nat.le_of_ble_eq_true rfl, Nat.le_of_ble_eq_true rfl⟩) rfl rfl rfl rfl (by decide) rfl rfl rfl rfl rfl rfl (Nat.le_of_ble_eq_true rfl) ⟨Nat.zero_le _, Nat.zero_le _⟩ dX0_leastSet_4 ?_
  refine a_aloadn (pc := 7) (j := 0) F dX0_leastSet_7 rfl rfl ?_
  refine a_iconst (pc := 8) F dX0_leastSet_8 kc_2 ?_
  refine a_iloadn (pc := 9) (j := 1) F dX0_leastSet_9 rfl rfl ?_
  refine a_imul (pc := 10) F dX0_leastSet_10 ?_
  refine a_iconst (pc := 11) F dX0_leastSet_11 kc_1 ?_
  refine a_iadd (pc := 12) F dX0_leastSet_12 ?_
  obtain ⟨t2, ht2, hf⟩ := bd_some hf
  refine a_callV (pc := 13) (bs' := [bX3 y a0 v0]) (kb := 0) (j := 0) F [0] (c_X3_thingsIn l D y ek n a0 _ _ _ ht2) (cwV 1 F.1.2.2.2.2 (gV q5_93 q3_86 q3_87 q1_3 q3_88) rfl rfl rfl (by decide +kernel) ⟨Nat.le_of_ble_eq_true rfl, Nat.le_of_ble_eq_true rfl⟩) rfl rfl rfl rfl (by decide) rfl rfl rfl rfl rfl rfl (Nat.le_of_ble_eq_true rfl) ⟨Nat.zero_le _, Nat.zero_le _⟩ dX0_leastSet_13 ?_
  refine a_ior (pc := 16) F dX0_leastSet_16 ?_
  obtain ⟨x4_3, ex4_3, hf⟩ := nm_some hf
  refine a_nmi ex4_3 ?_
  refine a_istore (pc := 17) (lv' := [(0, .ref (a0 0)), (1, .int x1), (2, .int x2), (3, .int x3), (4, .int x4_3)]) F [1, 2, 3, 4, 0] dX0_leastSet_17 (by decide) rfl ?_
  refine a_aloadn (pc := 19) (j := 0) F dX0_leastSet_19 rfl rfl ?_
  refine a_get (pc := 20) (kb := 0) (j := 0) (f := 18) F iW_X3 rfl rfl rfl (by decide) (tl q1_116) (fun _ h => h) rfl dX0_leastSet_20 ?_
  refine a_iconst (pc := 23) F dX0_leastSet_23 kc_2 ?_
  refine a_iloadn (pc := 24) (j := 1) F dX0_leastSet_24 rfl rfl ?_
  refine a_imul (pc := 25) F dX0_leastSet_25 ?_
  refine a_iconst (pc := 26) F dX0_leastSet_26 kc_1 ?_
  refine a_iadd (pc := 27) F dX0_leastSet_27 ?_
  obtain ⟨h4, hf⟩ := gd_some hf
  refine a_iald (pc := 28) (kb := 0) (j := 10) F rfl rfl h4 dX0_leastSet_28 ?_
  refine a_aloadn (pc := 29) (j := 0) F dX0_leastSet_29 rfl rfl ?_
  refine a_get (pc := 30) (kb := 0) (j := 0) (f := 18) F iW_X3 rfl rfl rfl (by decide) (tl q1_116) (fun _ h => h) rfl dX0_leastSet_30 ?_
  refine a_iconst (pc := 33) F dX0_leastSet_33 kc_2 ?_
  refine a_iloadn (pc := 34) (j := 1) F dX0_leastSet_34 rfl rfl ?_
  refine a_imul (pc := 35) F dX0_leastSet_35 ?_
  obtain ⟨h5, hf⟩ := gd_some hf
  refine a_iald (pc := 36) (kb := 0) (j := 10) F rfl rfl h5 dX0_leastSet_36 ?_
  refine a_isub (pc := 37) F dX0_leastSet_37 ?_
  obtain ⟨x5_6, ex5_6, hf⟩ := nm_some hf
  refine a_nmi ex5_6 ?_
  refine a_istore (pc := 38) (lv' := [(0, .ref (a0 0)), (1, .int x1), (2, .int x2), (3, .int x3), (4, .int x4_3), (5, .int x5_6)]) F [1, 2, 3, 4, 5, 0] dX0_leastSet_38 (by decide) rfl ?_
  refine a_iconst (pc := 40) F dX0_leastSet_40 kc_m1 ?_
  refine a_istore (pc := 41) (lv' := [(0, .ref (a0 0)), (1, .int x1), (2, .int x2), (3, .int x3), (4, .int x4_3), (5, .int x5_6), (6, .int (-1))]) F [1, 2, 3, 4, 5, 6, 0] dX0_leastSet_41 (by decide) rfl ?_
  refine a_iconst (pc := 43) F dX0_leastSet_43 kc_0 ?_
  refine a_istore (pc := 44) (lv' := [(0, .ref (a0 0)), (1, .int x1), (2, .int x2), (3, .int x3), (4, .int x4_3), (5, .int x5_6), (6, .int (-1)), (7, .int 0)]) F [1, 2, 3, 4, 5, 6, 7, 0] dX0_leastSet_44 (by decide) rfl ?_
  refine a_iconst (pc := 46) F dX0_leastSet_46 kc_0 ?_
  refine a_istore (pc := 47) (lv' := [(0, .ref (a0 0)), (1, .int x1), (2, .int x2), (3, .int x3), (4, .int x4_3), (5, .int x5_6), (6, .int (-1)), (7, .int 0), (8, .int 0)]) F [1, 2, 3, 4, 5, 6, 7, 8, 0] dX0_leastSet_47 (by decide) rfl ?_
  refine a_loop 49 (fun (x7l : Int32 × Int32 × Int32) => [(0, .ref (a0 0)), (1, .int x1), (2, .int x2), (3, .int x3), (4, .int x4_3), (5, .int x5_6), (6, .int x7l.1), (7, .int x7l.2.1), (8, .int x7l.2.2)]) (fun (x7l : Int32 × Int32 × Int32) => [bX3 y a0 v0]) (fun rc7 x7l ih7 hf => ?_) hf rfl rfl
  try dsimp only at hf ⊢
  refine a_iload (pc := 49) (j := 8) F dX0_leastSet_49 rfl ?_
  refine a_iload (pc := 51) (j := 4) F dX0_leastSet_51 rfl ?_
  refine a_icmp_gt (pc := 53) (tgt := 147) F dX0_leastSet_53 (by decide) (fun h => ?_) (fun h => ?_)
  · replace hf := it_pos h hf
    refine a_iload (pc := 147) (j := 6) F dX0_leastSet_147 rfl ?_
    obtain rfl := Option.some.inj hf
    exact hret _ _ _ _ (Nat.zero_le _) (Nat.zero_le _) rfl dX0_leastSet_149
  · replace hf := it_neg h hf
    refine a_iload (pc := 56) (j := 8) F dX0_leastSet_56 rfl ?_
    refine a_iload (pc := 58) (j := 4) F dX0_leastSet_58 rfl ?_
    refine a_iand (pc := 60) F dX0_leastSet_60 ?_
    refine a_iload (pc := 61) (j := 8) F dX0_leastSet_61 rfl ?_
    refine a_join 90 (fun (t8 : Int32) => [(0, .ref (a0 0)), (1, .int x1), (2, .int x2), (3, .int x3), (4, .int x4_3), (5, .int x5_6), (6, .int x7l.1), (7, .int x7l.2.1), (8, .int x7l.2.2)]) (fun (t8 : Int32) => [.int t8]) (fun (t8 : Int32) => [bX3 y a0 v0]) hf (fun t8 hf => ?_) (fun t8 hf J8 => ?_)
    · try dsimp only at hf ⊢
      refine a_istore (pc := 90) (lv' := [(0, .ref (a0 0)), (1, .int x1), (2, .int x2), (3, .int x3), (4, .int x4_3), (5, .int x5_6), (6, .int x7l.1), (7, .int x7l.2.1), (8, .int x7l.2.2), (9, .int t8)]) F [1, 2, 3, 4, 5, 6, 7, 8, 9, 0] dX0_leastSet_90 (by decide) rfl ?_
      refine a_iload (pc := 92) (j := 9) F dX0_leastSet_92 rfl ?_
      refine a_join 141 (fun (t9 : Int32 × Int32) => [(0, .ref (a0 0)), (1, .int x1), (2, .int x2), (3, .int x3), (4, .int x4_3), (5, .int x5_6), (6, .int t9.1), (7, .int t9.2), (8, .int x7l.2.2)]) (fun (t9 : Int32 × Int32) => []) (fun (t9 : Int32 × Int32) => [bX3 y a0 v0]) hf (fun t9 hf => ?_) (fun t9 hf J9 => ?_)
      · try dsimp only at hf ⊢
        refine a_iinc (pc := 141) (j := 8) (v := (x7l.2.2 + 1)) (lv' := [(0, .ref (a0 0)), (1, .int x1), (2, .int x2), (3, .int x3), (4, .int x4_3), (5, .int x5_6), (6, .int t9.1), (7, .int t9.2), (8, .int (x7l.2.2 + 1))]) F [1, 2, 3, 4, 5, 6, 7, 8, 0] dX0_leastSet_141 rfl ki_1 (by decide) rfl ?_
        refine a_goto (pc := 144) (tgt := 49) F dX0_leastSet_144 (by decide) ?_
        exact ih7 (t9.1, t9.2, (x7l.2.2 + 1)) hf
      · refine a_if_ne (pc := 94) (tgt := 100) F dX0_leastSet_94 (by decide) (fun h => ?_) (fun h => ?_)
        · replace hf := it_neg h hf
          refine a_iloadn (pc := 100) (j := 3) F dX0_leastSet_100 rfl rfl ?_
          refine a_join 118 (fun (t10 : Int32) => [(0, .ref (a0 0)), (1, .int x1), (2, .int x2), (3, .int x3), (4, .int x4_3), (5, .int x5_6), (6, .int x7l.1), (7, .int x7l.2.1), (8, .int x7l.2.2)]) (fun (t10 : Int32) => [.int t10]) (fun (t10 : Int32) => [bX3 y a0 v0]) hf (fun t10 hf => ?_) (fun t10 hf J10 => ?_)
          · try dsimp only at hf ⊢
            refine a_istore (pc := 118) (lv' := [(0, .ref (a0 0)), (1, .int x1), (2, .int x2), (3, .int x3), (4, .int x4_3), (5, .int x5_6), (6, .int x7l.1), (7, .int x7l.2.1), (8, .int x7l.2.2), (10, .int t10)]) F [1, 2, 3, 4, 5, 6, 7, 8, 9, 0] dX0_leastSet_118 (by decide) rfl ?_
            refine a_iload (pc := 120) (j := 6) F dX0_leastSet_120 rfl ?_
            refine a_iconst (pc := 122) F dX0_leastSet_122 kc_m1 ?_
            refine a_jn 133 (fun (t11 : Unit) => [(0, .ref (a0 0)), (1, .int x1), (2, .int x2), (3, .int x3), (4, .int x4_3), (5, .int x5_6), (8, .int x7l.2.2), (10, .int t10)]) (fun (t11 : Unit) => []) (fun (t11 : Unit) => [bX3 y a0 v0]) hf (fun t11 hf => ?_) (fun K11 hK11 hf => ?_)
            · try dsimp only at hf ⊢
              refine a_iload (pc := 133) (j := 6) F dX0_leastSet_133 rfl ?_
              refine a_istore (pc := 135) (lv' := [(0, .ref (a0 0)), (1, .int x1), (2, .int x2), (3, .int x3), (4, .int x4_3), (5, .int x5_6), (6, .int x7l.2.2), (8, .int x7l.2.2), (10, .int t10)]) F [1, 2, 3, 4, 5, 6, 0, 7, 8] dX0_leastSet_135 (by decide) rfl ?_
              refine a_iload (pc := 137) (j := 8) F dX0_leastSet_137 rfl ?_
              refine a_istore (pc := 139) (lv' := [(0, .ref (a0 0)), (1, .int x1), (2, .int x2), (3, .int x3), (4, .int x4_3), (5, .int x5_6), (6, .int x7l.2.2), (7, .int t10), (8, .int x7l.2.2), (10, .int t10)]) F [1, 2, 3, 4, 5, 6, 7, 0, 8, 9] dX0_leastSet_139 (by decide) rfl ?_
              refine a_sub [0, 1, 2, 3, 4, 5, 6, 7, 8] rfl ?_
              obtain rfl := Option.some.inj hf
              exact J9
            · try dsimp only at hf
              refine a_icmp_eq (pc := 123) (tgt := 133) F dX0_leastSet_123 (by decide) (fun h => ?_) (fun h => ?_)
              · replace hf := it_pos h hf
                refine a_sub [0, 1, 2, 3, 4, 5, 8, 9] rfl ?_
                exact hK11 () hf
              · replace hf := it_neg h hf
                refine a_iload (pc := 126) (j := 9) F dX0_leastSet_126 rfl ?_
                refine a_iload (pc := 128) (j := 7) F dX0_leastSet_128 rfl ?_
                refine a_icmp_ge (pc := 130) (tgt := 141) F dX0_leastSet_130 (by decide) (fun h => ?_) (fun h => ?_)
                · replace hf := it_pos h hf
                  refine a_sub [0, 1, 2, 3, 4, 5, 6, 7, 8] rfl ?_
                  obtain rfl := Option.some.inj hf
                  exact J9
                · replace hf := it_neg h hf
                  refine a_sub [0, 1, 2, 3, 4, 5, 8, 9] rfl ?_
                  exact hK11 () hf
          · refine a_if_eq (pc := 101) (tgt := 113) F dX0_leastSet_101 (by decide) (fun h => ?_) (fun h => ?_)
            · replace hf := it_pos h hf
              refine a_iload (pc := 113) (j := 8) F dX0_leastSet_113 rfl ?_
              obtain ⟨t12, ht12, hf⟩ := bd_some hf
              refine a_callS (pc := 115) (bs' := [bX3 y a0 v0]) F [] (c_J6_bitCount_0f7a4 l D y ek n  _ _ ht12) (va_cwS 1 F.1.2.2.2.2 (gS q5_99 q5_100 q1_26 q5_101) rfl rfl rfl (by decide +kernel) ⟨Nat.le_of_ble_eq_true rfl, Nat.le_of_ble_eq_true rfl⟩) (by decide) rfl rfl rfl rfl rfl rfl (Nat.le_of_ble_eq_true rfl) ⟨Nat.zero_le _, Nat.zero_le _⟩ dX0_leastSet_115 ?_
              refine a_sub [0, 1, 2, 3, 4, 5, 6, 7, 8] rfl ?_
              obtain rfl := Option.some.inj hf
              exact J10
            · replace hf := it_neg h hf
              refine a_aloadn (pc := 104) (j := 0) F dX0_leastSet_104 rfl rfl ?_
              refine a_iload (pc := 105) (j := 8) F dX0_leastSet_105 rfl ?_
              obtain ⟨t13, ht13, hf⟩ := bd_some hf
              refine a_callV (pc := 107) (bs' := [bX3 y a0 v0]) (kb := 0) (j := 0) F [0] (c_X3_weightOf l D y ek n a0 _ _ _ ht13) (cwV 1 F.1.2.2.2.2 (gV q5_95 q5_96 q5_97 q1_3 q5_98) rfl rfl rfl (by decide +kernel) ⟨Nat.le_of_ble_eq_true rfl, Nat.le_of_ble_eq_true rfl⟩) rfl rfl rfl rfl (by decide) rfl rfl rfl rfl rfl rfl (Nat.le_of_ble_eq_true rfl) ⟨Nat.zero_le _, Nat.zero_le _⟩ dX0_leastSet_107 ?_
              refine a_goto (pc := 110) (tgt := 118) F dX0_leastSet_110 (by decide) ?_
              refine a_sub [0, 1, 2, 3, 4, 5, 6, 7, 8] rfl ?_
              obtain rfl := Option.some.inj hf
              exact J10
        · replace hf := it_pos h hf
          refine a_goto (pc := 97) (tgt := 141) F dX0_leastSet_97 (by decide) ?_
          refine a_sub [0, 1, 2, 3, 4, 5, 6, 7, 8] rfl ?_
          obtain rfl := Option.some.inj hf
          exact J9
    · refine a_jn 89 (fun (t14 : Unit) => [(0, .ref (a0 0)), (1, .int x1), (2, .int x2), (3, .int x3), (4, .int x4_3), (5, .int x5_6), (6, .int x7l.1), (7, .int x7l.2.1), (8, .int x7l.2.2)]) (fun (t14 : Unit) => []) (fun (t14 : Unit) => [bX3 y a0 v0]) hf (fun t14 hf => ?_) (fun K14 hK14 hf => ?_)
      · try dsimp only at hf ⊢
        refine a_iconst (pc := 89) F dX0_leastSet_89 kc_0 ?_
        obtain rfl := Option.some.inj hf
        exact J8
      · try dsimp only at hf
        refine a_icmp_ne (pc := 63) (tgt := 89) F dX0_leastSet_63 (by decide) (fun h => ?_) (fun h => ?_)
        · replace hf := it_neg h hf
          exact hK14 () hf
        · replace hf := it_pos h hf
          refine a_aloadn (pc := 66) (j := 0) F dX0_leastSet_66 rfl rfl ?_
          refine a_iconst (pc := 67) F dX0_leastSet_67 kc_0 ?_
          refine a_iload (pc := 68) (j := 5) F dX0_leastSet_68 rfl ?_
          refine a_aloadn (pc := 70) (j := 0) F dX0_leastSet_70 rfl rfl ?_
          refine a_iloadn (pc := 71) (j := 1) F dX0_leastSet_71 rfl rfl ?_
          refine a_iload (pc := 72) (j := 8) F dX0_leastSet_72 rfl ?_
          obtain ⟨t15, ht15, hf⟩ := bd_some hf
          refine a_callS (pc := 74) (bs' := [bX3 y a0 v0]) F [0] (c_X0_shiftOf l D y ek n a0 _ _ _ _ ht15) (va_cwS 3 F.1.2.2.2.2 (gS q5_80 q5_81 q1_27 q5_82) rfl rfl rfl (by decide +kernel) ⟨Nat.le_of_ble_eq_true rfl, Nat.le_of_ble_eq_true rfl⟩) (by decide) rfl rfl rfl rfl rfl rfl (Nat.le_of_ble_eq_true rfl) ⟨Nat.zero_le _, Nat.zero_le _⟩ dX0_leastSet_74 ?_
          refine a_iadd (pc := 77) F dX0_leastSet_77 ?_
          obtain ⟨t16, ht16, hf⟩ := bd_some hf
          refine a_callV (pc := 78) (bs' := [bX3 y a0 v0]) (kb := 0) (j := 0) F [0] (c_X3_leaning l D y ek n a0 _ _ _ _ ht16) (cwV 2 F.1.2.2.2.2 (gV q5_94 q2_166 q2_167 q1_3 q2_168) rfl rfl rfl (by decide +kernel) ⟨Nat.le_of_ble_eq_true rfl, Nat.le_of_ble_eq_true rfl⟩) rfl rfl rfl rfl (by decide) rfl rfl rfl rfl rfl rfl (Nat.le_of_ble_eq_true rfl) ⟨Nat.zero_le _, Nat.zero_le _⟩ dX0_leastSet_78 ?_
          refine a_iloadn (pc := 81) (j := 2) F dX0_leastSet_81 rfl rfl ?_
          refine a_icmp_ne (pc := 82) (tgt := 89) F dX0_leastSet_82 (by decide) (fun h => ?_) (fun h => ?_)
          · replace hf := it_neg h hf
            exact hK14 () hf
          · replace hf := it_pos h hf
            refine a_iconst (pc := 85) F dX0_leastSet_85 kc_1 ?_
            refine a_goto (pc := 86) (tgt := 90) F dX0_leastSet_86 (by decide) ?_
            obtain rfl := Option.some.inj hf
            exact J8
