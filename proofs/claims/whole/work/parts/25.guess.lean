abbrev wX2_isTold : List Cond := Cond.code yX2_isTold cX2_isTold 5 (some .boolean) :: WALL
def m_X2_isTold (n : Nat) (v0 : St) (x1 : Int32) : Option (Int32) :=
(if (x_rem x1 2) = 0 then
(if x1 ≤ 40 then
lp (fun (rc1 : Int32 → Option (Int32)) (x1l : Int32) =>
(if x1 ≤ (x1l + 1) then
some 1
else
(if ix x1l 400 then bd (jn (fun (t8 : Unit) =>
some 0) (fun (K8 : Unit → Option (Int32)) =>
(if (v0 0 (x1l).toNatClampNeg) < 0 then
K8 ()
else
(if ix x1l 400 then (if 20 < (v0 0 (x1l).toNatClampNeg) then
K8 ()
else
some 1) else none)))) (fun (t3 : Int32) =>
(if ix (x1l + 1) 400 then bd (jn (fun (t6 : Unit) =>
some 0) (fun (K6 : Unit → Option (Int32)) =>
(if (v0 0 ((x1l + 1)).toNatClampNeg) < 0 then
K6 ()
else
(if ix (x1l + 1) 400 then (if 10 < (v0 0 ((x1l + 1)).toNatClampNeg) then
K6 ()
else
some 1) else none)))) (fun (t5 : Int32) =>
(if t3 = 0 then
some 0
else
(if t5 = 0 then
some 0
else
rc1 (x1l + 2)))) else none)) else none))) n 0
else
some 0)
else
some 0)
set_option maxHeartbeats 4000000 in
set_option maxRecDepth 100000 in
theorem c_X2_isTold (l : Launch) (D : va_G) (y : Nat → ClassId) (ek : EK) (n : Nat) (a0 : Nat → Nat) (v0 : St) (x1 : Int32) (res : Int32) (hf : m_X2_isTold n v0 x1 = some res) : CI l yX2_isTold wX2_isTold { frames := 0, cells := 0, slots := 0, locals := 0 } D y ek [.ref (a0 0), .int x1] [bAB400 y a0 v0] (res) [bAB400 y a0 v0] 0 0 := by
  unfold m_X2_isTold at hf
  refine ci_of (cc := cX2_isTold) (maxL := 5) (by decide) rfl rfl (Nat.le_of_ble_eq_true rfl) ?_
  intro p e s m below meth c Q A F hret
  refine a_lv (lv' := [(0, .ref (a0 0)), (1, .int x1)]) rfl ?_
  refine a_iloadn (pc := 0) (j := 1) F dX2_isTold_0 rfl rfl ?_
  refine a_iconst (pc := 1) F dX2_isTold_1 kc_2 ?_
  refine a_irem (pc := 2) F dX2_isTold_2 (by decide) ?_
  refine a_if_ne (pc := 3) (tgt := 12) F dX2_isTold_3 (by decide) (fun h => ?_) (fun h => ?_)
  · replace hf := it_neg h hf
    refine a_iconst (pc := 12) F dX2_isTold_12 kc_0 ?_
    obtain rfl := Option.some.inj hf
    exact hret _ _ _ _ (Nat.zero_le _) (Nat.zero_le _) (z_nar (Or.inl rfl)) dX2_isTold_13
  · replace hf := it_pos h hf
    refine a_iloadn (pc := 6) (j := 1) F dX2_isTold_6 rfl rfl ?_
    refine a_bipush (pc := 7) F dX2_isTold_7 kb_40 ?_
    refine a_icmp_le (pc := 9) (tgt := 14) F dX2_isTold_9 (by decide) (fun h => ?_) (fun h => ?_)
    · replace hf := it_pos h hf
      refine a_iconst (pc := 14) F dX2_isTold_14 kc_0 ?_
      refine a_istoren (pc := 15) (lv' := [(0, .ref (a0 0)), (1, .int x1), (2, .int 0)]) F [1, 2, 0] dX2_isTold_15 rfl (by decide) rfl ?_
      refine a_loop 16 (fun (x1l : Int32) => [(0, .ref (a0 0)), (1, .int x1), (2, .int x1l)]) (fun (x1l : Int32) => [bAB400 y a0 v0]) (fun rc1 x1l ih1 hf => ?_) hf rfl rfl
      try dsimp only at hf ⊢
      refine a_iloadn (pc := 16) (j := 2) F dX2_isTold_16 rfl rfl ?_
      refine a_iconst (pc := 17) F dX2_isTold_17 kc_1 ?_
      refine a_iadd (pc := 18) F dX2_isTold_18 ?_
      refine a_iloadn (pc := 19) (j := 1) F dX2_isTold_19 rfl rfl ?_
      refine a_icmp_ge (pc := 20) (tgt := 85) F dX2_isTold_20 (by decide) (fun h => ?_) (fun h => ?_)
      · replace hf := it_pos h hf
        refine a_iconst (pc := 85) F dX2_isTold_85 kc_1 ?_
        obtain rfl := Option.some.inj hf
        exact hret _ _ _ _ (Nat.zero_le _) (Nat.zero_le _) (z_nar (Or.inr rfl)) dX2_isTold_86
      · replace hf := it_neg h hf
        refine a_aloadn (pc := 23) (j := 0) F dX2_isTold_23 rfl rfl ?_
        refine a_iloadn (pc := 24) (j := 2) F dX2_isTold_24 rfl rfl ?_
        obtain ⟨h2, hf⟩ := gd_some hf
        refine a_bald (pc := 25) (kb := 0) (j := 0) F rfl rfl h2 dX2_isTold_25 ?_
        refine a_join 42 (fun (t3 : Int32) => [(0, .ref (a0 0)), (1, .int x1), (2, .int x1l)]) (fun (t3 : Int32) => [.int t3]) (fun (t3 : Int32) => [bAB400 y a0 v0]) hf (fun t3 hf => ?_) (fun t3 hf J3 => ?_)
        · try dsimp only at hf ⊢
          refine a_istoren (pc := 42) (lv' := [(0, .ref (a0 0)), (1, .int x1), (2, .int x1l), (3, .int t3)]) F [1, 2, 3, 0] dX2_isTold_42 rfl (by decide) rfl ?_
          refine a_aloadn (pc := 43) (j := 0) F dX2_isTold_43 rfl rfl ?_
          refine a_iloadn (pc := 44) (j := 2) F dX2_isTold_44 rfl rfl ?_
          refine a_iconst (pc := 45) F dX2_isTold_45 kc_1 ?_
          refine a_iadd (pc := 46) F dX2_isTold_46 ?_
          obtain ⟨h4, hf⟩ := gd_some hf
          refine a_bald (pc := 47) (kb := 0) (j := 0) F rfl rfl h4 dX2_isTold_47 ?_
          refine a_join 66 (fun (t5 : Int32) => [(0, .ref (a0 0)), (1, .int x1), (2, .int x1l), (3, .int t3)]) (fun (t5 : Int32) => [.int t5]) (fun (t5 : Int32) => [bAB400 y a0 v0]) hf (fun t5 hf => ?_) (fun t5 hf J5 => ?_)
          · try dsimp only at hf ⊢
            refine a_istore (pc := 66) (lv' := [(0, .ref (a0 0)), (1, .int x1), (2, .int x1l), (3, .int t3), (4, .int t5)]) F [1, 2, 3, 4, 0] dX2_isTold_66 (by decide) rfl ?_
            refine a_iloadn (pc := 68) (j := 3) F dX2_isTold_68 rfl rfl ?_
            refine a_if_eq (pc := 69) (tgt := 77) F dX2_isTold_69 (by decide) (fun h => ?_) (fun h => ?_)
            · replace hf := it_pos h hf
              refine a_iconst (pc := 77) F dX2_isTold_77 kc_0 ?_
              obtain rfl := Option.some.inj hf
              exact hret _ _ _ _ (Nat.zero_le _) (Nat.zero_le _) (z_nar (Or.inl rfl)) dX2_isTold_78
            · replace hf := it_neg h hf
              refine a_iload (pc := 72) (j := 4) F dX2_isTold_72 rfl ?_
              refine a_if_ne (pc := 74) (tgt := 79) F dX2_isTold_74 (by decide) (fun h => ?_) (fun h => ?_)
              · replace hf := it_neg h hf
                refine a_iinc (pc := 79) (j := 2) (v := (x1l + 2)) (lv' := [(0, .ref (a0 0)), (1, .int x1), (2, .int (x1l + 2)), (3, .int t3), (4, .int t5)]) F [1, 2, 0, 3, 4] dX2_isTold_79 rfl ki_2 (by decide) rfl ?_
                refine a_goto (pc := 82) (tgt := 16) F dX2_isTold_82 (by decide) ?_
                refine a_sub [0, 1, 2] rfl ?_
                exact ih1 (x1l + 2) hf
              · replace hf := it_pos h hf
                refine a_iconst (pc := 77) F dX2_isTold_77 kc_0 ?_
                obtain rfl := Option.some.inj hf
                exact hret _ _ _ _ (Nat.zero_le _) (Nat.zero_le _) (z_nar (Or.inl rfl)) dX2_isTold_78
          · refine a_jn 65 (fun (t6 : Unit) => [(0, .ref (a0 0)), (1, .int x1), (2, .int x1l), (3, .int t3)]) (fun (t6 : Unit) => []) (fun (t6 : Unit) => [bAB400 y a0 v0]) hf (fun t6 hf => ?_) (fun K6 hK6 hf => ?_)
            · try dsimp only at hf ⊢
              refine a_iconst (pc := 65) F dX2_isTold_65 kc_0 ?_
              obtain rfl := Option.some.inj hf
              exact J5
            · try dsimp only at hf
              refine a_if_lt (pc := 48) (tgt := 65) F dX2_isTold_48 (by decide) (fun h => ?_) (fun h => ?_)
              · replace hf := it_pos h hf
                exact hK6 () hf
              · replace hf := it_neg h hf
                refine a_aloadn (pc := 51) (j := 0) F dX2_isTold_51 rfl rfl ?_
                refine a_iloadn (pc := 52) (j := 2) F dX2_isTold_52 rfl rfl ?_
                refine a_iconst (pc := 53) F dX2_isTold_53 kc_1 ?_
                refine a_iadd (pc := 54) F dX2_isTold_54 ?_
                obtain ⟨h7, hf⟩ := gd_some hf
                refine a_bald (pc := 55) (kb := 0) (j := 0) F rfl rfl h7 dX2_isTold_55 ?_
                refine a_bipush (pc := 56) F dX2_isTold_56 kb_10 ?_
                refine a_icmp_gt (pc := 58) (tgt := 65) F dX2_isTold_58 (by decide) (fun h => ?_) (fun h => ?_)
                · replace hf := it_pos h hf
                  exact hK6 () hf
                · replace hf := it_neg h hf
                  refine a_iconst (pc := 61) F dX2_isTold_61 kc_1 ?_
                  refine a_goto (pc := 62) (tgt := 66) F dX2_isTold_62 (by decide) ?_
                  obtain rfl := Option.some.inj hf
                  exact J5
        · refine a_jn 41 (fun (t8 : Unit) => [(0, .ref (a0 0)), (1, .int x1), (2, .int x1l)]) (fun (t8 : Unit) => []) (fun (t8 : Unit) => [bAB400 y a0 v0]) hf (fun t8 hf => ?_) (fun K8 hK8 hf => ?_)
          · try dsimp only at hf ⊢
            refine a_iconst (pc := 41) F dX2_isTold_41 kc_0 ?_
            obtain rfl := Option.some.inj hf
            exact J3
          · try dsimp only at hf
            refine a_if_lt (pc := 26) (tgt := 41) F dX2_isTold_26 (by decide) (fun h => ?_) (fun h => ?_)
            · replace hf := it_pos h hf
              exact hK8 () hf
            · replace hf := it_neg h hf
              refine a_aloadn (pc := 29) (j := 0) F dX2_isTold_29 rfl rfl ?_
              refine a_iloadn (pc := 30) (j := 2) F dX2_isTold_30 rfl rfl ?_
              obtain ⟨h9, hf⟩ := gd_some hf
              refine a_bald (pc := 31) (kb := 0) (j := 0) F rfl rfl h9 dX2_isTold_31 ?_
              refine a_bipush (pc := 32) F dX2_isTold_32 kb_20 ?_
              refine a_icmp_gt (pc := 34) (tgt := 41) F dX2_isTold_34 (by decide) (fun h => ?_) (fun h => ?_)
              · replace hf := it_pos h hf
                exact hK8 () hf
              · replace hf := it_neg h hf
                refine a_iconst (pc := 37) F dX2_isTold_37 kc_1 ?_
                refine a_goto (pc := 38) (tgt := 42) F dX2_isTold_38 (by decide) ?_
                obtain rfl := Option.some.inj hf
                exact J3
    · replace hf := it_neg h hf
      refine a_iconst (pc := 12) F dX2_isTold_12 kc_0 ?_
      obtain rfl := Option.some.inj hf
      exact hret _ _ _ _ (Nat.zero_le _) (Nat.zero_le _) (z_nar (Or.inl rfl)) dX2_isTold_13

abbrev wX2_heightWith : List Cond := Cond.code yX2_heightWith cX2_heightWith 5 (some .int) :: WALL
def m_X2_heightWith (n : Nat) (v0 : St) (x1 : Int32) (x2 : Int32) (x3 : Int32) : Option (Int32) :=
(if ix (2 * x1) 10 then nm (((v0 18 ((2 * x1)).toNatClampNeg) + x2) + (5 * x3)) (fun x4_2 =>
(if ix ((2 * x1) + 1) 10 then bd (m_X3_leaning n v0 x4_2 (v0 18 (((2 * x1) + 1)).toNatClampNeg)) (fun t4 =>
some (5 + t4)) else none)) else none)
set_option maxHeartbeats 4000000 in
set_option maxRecDepth 100000 in
theorem c_X2_heightWith (l : Launch) (D : va_G) (y : Nat → ClassId) (ek : EK) (n : Nat) (a0 : Nat → Nat) (v0 : St) (x1 : Int32) (x2 : Int32) (x3 : Int32) (res : Int32) (hf : m_X2_heightWith n v0 x1 x2 x3 = some res) : CI l yX2_heightWith wX2_heightWith { frames := 2, cells := 0, slots := 0, locals := 39 } D y ek [.ref (a0 0), .int x1, .int x2, .int x3] [bX3 y a0 v0] (res) [bX3 y a0 v0] 0 0 := by
  unfold m_X2_heightWith at hf
  refine ci_of (cc := cX2_heightWith) (maxL := 5) (by decide) rfl rfl (Nat.le_of_ble_eq_true rfl) ?_
  intro p e s m below meth c Q A F hret
  refine a_lv (lv' := [(0, .ref (a0 0)), (1, .int x1), (2, .int x2), (3, .int x3)]) rfl ?_
  refine a_aloadn (pc := 0) (j := 0) F dX2_heightWith_0 rfl rfl ?_
  refine a_get (pc := 1) (kb := 0) (j := 0) (f := 18) F iW_X3 rfl rfl rfl (by decide) (tl q1_117) (fun _ h => h) rfl dX2_heightWith_1 ?_
  refine a_iconst (pc := 4) F dX2_heightWith_4 kc_2 ?_
  refine a_iloadn (pc := 5) (j := 1) F dX2_heightWith_5 rfl rfl ?_
  refine a_imul (pc := 6) F dX2_heightWith_6 ?_
  obtain ⟨h1, hf⟩ := gd_some hf
  refine a_iald (pc := 7) (kb := 0) (j := 10) F rfl rfl h1 dX2_heightWith_7 ?_
  refine a_iloadn (pc := 8) (j := 2) F dX2_heightWith_8 rfl rfl ?_
  refine a_iadd (pc := 9) F dX2_heightWith_9 ?_
  refine a_iconst (pc := 10) F dX2_heightWith_10 kc_5 ?_
  refine a_iloadn (pc := 11) (j := 3) F dX2_heightWith_11 rfl rfl ?_
  refine a_imul (pc := 12) F dX2_heightWith_12 ?_
  refine a_iadd (pc := 13) F dX2_heightWith_13 ?_
  obtain ⟨x4_2, ex4_2, hf⟩ := nm_some hf
  refine a_nmi ex4_2 ?_
  refine a_istore (pc := 14) (lv' := [(0, .ref (a0 0)), (1, .int x1), (2, .int x2), (3, .int x3), (4, .int x4_2)]) F [1, 2, 3, 4, 0] dX2_heightWith_14 (by decide) rfl ?_
  refine a_iconst (pc := 16) F dX2_heightWith_16 kc_5 ?_
  refine a_aloadn (pc := 17) (j := 0) F dX2_heightWith_17 rfl rfl ?_
  refine a_iload (pc := 18) (j := 4) F dX2_heightWith_18 rfl ?_
  refine a_aloadn (pc := 20) (j := 0) F dX2_heightWith_20 rfl rfl ?_
  refine a_get (pc := 21) (kb := 0) (j := 0) (f := 18) F iW_X3 rfl rfl rfl (by decide) (tl q1_117) (fun _ h => h) rfl dX2_heightWith_21 ?_
  refine a_iconst (pc := 24) F dX2_heightWith_24 kc_2 ?_
  refine a_iloadn (pc := 25) (j := 1) F dX2_heightWith_25 rfl rfl ?_
  refine a_imul (pc := 26) F dX2_heightWith_26 ?_
  refine a_iconst (pc := 27) F dX2_heightWith_27 kc_1 ?_
  refine a_iadd (pc := 28) F dX2_heightWith_28 ?_
  obtain ⟨h3, hf⟩ := gd_some hf
  refine a_iald (pc := 29) (kb := 0) (j := 10) F rfl rfl h3 dX2_heightWith_29 ?_
  obtain ⟨t4, ht4, hf⟩ := bd_some hf
  refine a_callV (pc := 30) (bs' := [bX3 y a0 v0]) (kb := 0) (j := 0) F [0] (c_X3_leaning l D y ek n a0 _ _ _ _ ht4) (cwV 2 F.1.2.2.2.2 (gV q5_179 q2_166 q2_167 q1_3 q2_168) rfl rfl rfl (by decide +kernel) ⟨Nat.le_of_ble_eq_true rfl, Nat.le_of_ble_eq_true rfl⟩) rfl rfl rfl rfl (by decide) rfl rfl rfl rfl rfl rfl (Nat.le_of_ble_eq_true rfl) ⟨Nat.zero_le _, Nat.zero_le _⟩ dX2_heightWith_30 ?_
  refine a_iadd (pc := 33) F dX2_heightWith_33 ?_
  obtain rfl := Option.some.inj hf
  exact hret _ _ _ _ (Nat.zero_le _) (Nat.zero_le _) rfl dX2_heightWith_34

abbrev wX2_agrees : List Cond := Cond.code yX2_agrees cX2_agrees 6 (some .boolean) :: WALL
def m_X2_agrees (n : Nat) (v0 : St) (v1 : St) (x1 : Int32) (x2 : Int32) (x4 : Int32) : Option (Int32) :=
lp (fun (rc1 : Int32 → Option (Int32)) (x1l : Int32) =>
(if x4 ≤ (x1l + 1) then
some 1
else
(if ix x1l 400 then bd (m_X2_heightWith n v0 x1 x2 (v1 0 (x1l).toNatClampNeg)) (fun t3 =>
(if ix (x1l + 1) 400 then (if t3 = (v1 0 ((x1l + 1)).toNatClampNeg) then
rc1 (x1l + 2)
else
some 0) else none)) else none))) n 0
set_option maxHeartbeats 4000000 in
set_option maxRecDepth 100000 in
theorem c_X2_agrees (l : Launch) (D : va_G) (y : Nat → ClassId) (ek : EK) (n : Nat) (a0 : Nat → Nat) (a1 : Nat → Nat) (v0 : St) (v1 : St) (x1 : Int32) (x2 : Int32) (x4 : Int32) (res : Int32) (hf : m_X2_agrees n v0 v1 x1 x2 x4 = some res) : CI l yX2_agrees wX2_agrees { frames := 3, cells := 0, slots := 0, locals := 63 } D y ek [.ref (a0 0), .int x1, .int x2, .ref (a1 0), .int x4] [bX3 y a0 v0, bAB400 y a1 v1] (res) [bX3 y a0 v0, bAB400 y a1 v1] 0 0 := by
  unfold m_X2_agrees at hf
  refine ci_of (cc := cX2_agrees) (maxL := 6) (by decide) rfl rfl (Nat.le_of_ble_eq_true rfl) ?_
  intro p e s m below meth c Q A F hret
  refine a_lv (lv' := [(0, .ref (a0 0)), (1, .int x1), (2, .int x2), (3, .ref (a1 0)), (4, .int x4)]) rfl ?_
  refine a_iconst (pc := 0) F dX2_agrees_0 kc_0 ?_
  refine a_istore (pc := 1) (lv' := [(0, .ref (a0 0)), (1, .int x1), (2, .int x2), (3, .ref (a1 0)), (4, .int x4), (5, .int 0)]) F [1, 2, 3, 4, 5, 0] dX2_agrees_1 (by decide) rfl ?_
  refine a_loop 3 (fun (x1l : Int32) => [(0, .ref (a0 0)), (1, .int x1), (2, .int x2), (3, .ref (a1 0)), (4, .int x4), (5, .int x1l)]) (fun (x1l : Int32) => [bX3 y a0 v0, bAB400 y a1 v1]) (fun rc1 x1l ih1 hf => ?_) hf rfl rfl
  try dsimp only at hf ⊢
  refine a_iload (pc := 3) (j := 5) F dX2_agrees_3 rfl ?_
  refine a_iconst (pc := 5) F dX2_agrees_5 kc_1 ?_
  refine a_iadd (pc := 6) F dX2_agrees_6 ?_
  refine a_iload (pc := 7) (j := 4) F dX2_agrees_7 rfl ?_
  refine a_icmp_ge (pc := 9) (tgt := 39) F dX2_agrees_9 (by decide) (fun h => ?_) (fun h => ?_)
  · replace hf := it_pos h hf
    refine a_iconst (pc := 39) F dX2_agrees_39 kc_1 ?_
    obtain rfl := Option.some.inj hf
    exact hret _ _ _ _ (Nat.zero_le _) (Nat.zero_le _) (z_nar (Or.inr rfl)) dX2_agrees_40
  · replace hf := it_neg h hf
    refine a_aloadn (pc := 12) (j := 0) F dX2_agrees_12 rfl rfl ?_
    refine a_iloadn (pc := 13) (j := 1) F dX2_agrees_13 rfl rfl ?_
    refine a_iloadn (pc := 14) (j := 2) F dX2_agrees_14 rfl rfl ?_
    refine a_aloadn (pc := 15) (j := 3) F dX2_agrees_15 rfl rfl ?_
    refine a_iload (pc := 16) (j := 5) F dX2_agrees_16 rfl ?_
    obtain ⟨h2, hf⟩ := gd_some hf
    refine a_bald (pc := 18) (kb := 1) (j := 0) F rfl rfl h2 dX2_agrees_18 ?_
    obtain ⟨t3, ht3, hf⟩ := bd_some hf
    refine a_callS (pc := 19) (bs' := [bX3 y a0 v0, bAB400 y a1 v1]) F [0] (c_X2_heightWith l D y ek n a0 _ _ _ _ _ ht3) (va_cwS 4 F.1.2.2.2.2 (gS q5_176 q5_177 q1_9 q5_178) rfl rfl rfl (by decide +kernel) ⟨Nat.le_of_ble_eq_true rfl, Nat.le_of_ble_eq_true rfl⟩) (by decide) rfl rfl rfl rfl rfl rfl (Nat.le_of_ble_eq_true rfl) ⟨Nat.zero_le _, Nat.zero_le _⟩ dX2_agrees_19 ?_
    refine a_aloadn (pc := 22) (j := 3) F dX2_agrees_22 rfl rfl ?_
    refine a_iload (pc := 23) (j := 5) F dX2_agrees_23 rfl ?_
    refine a_iconst (pc := 25) F dX2_agrees_25 kc_1 ?_
    refine a_iadd (pc := 26) F dX2_agrees_26 ?_
    obtain ⟨h4, hf⟩ := gd_some hf
    refine a_bald (pc := 27) (kb := 1) (j := 0) F rfl rfl h4 dX2_agrees_27 ?_
    refine a_icmp_eq (pc := 28) (tgt := 33) F dX2_agrees_28 (by decide) (fun h => ?_) (fun h => ?_)
    · replace hf := it_pos h hf
      refine a_iinc (pc := 33) (j := 5) (v := (x1l + 2)) (lv' := [(0, .ref (a0 0)), (1, .int x1), (2, .int x2), (3, .ref (a1 0)), (4, .int x4), (5, .int (x1l + 2))]) F [1, 2, 3, 4, 5, 0] dX2_agrees_33 rfl ki_2 (by decide) rfl ?_
      refine a_goto (pc := 36) (tgt := 3) F dX2_agrees_36 (by decide) ?_
      exact ih1 (x1l + 2) hf
    · replace hf := it_neg h hf
      refine a_iconst (pc := 31) F dX2_agrees_31 kc_0 ?_
      obtain rfl := Option.some.inj hf
      exact hret _ _ _ _ (Nat.zero_le _) (Nat.zero_le _) (z_nar (Or.inl rfl)) dX2_agrees_32

abbrev wX2_search : List Cond := Cond.code yX2_search cX2_search 8 none :: WALL
def m_X2_search (n : Nat) (v0 : St) (v1 : St) (v2 : St) (x2 : Int32) (x4 : Int32) : Option (St) :=
bd (m_X3_goneThings n v1) (fun t1 =>
nm (su v0 0 0 0) (fun u2 =>
nm (su u2 1 0 t1) (fun u3 =>
bd (lp (fun (rc6 : Int32 × St → Option (St)) (x6l : Int32 × St) =>
(if t1 < x6l.1 then
some x6l.2
else
bd ((if (x6l.1 &&& t1) = x6l.1 then
bd (m_X3_weightOf n v1 x6l.1) (fun t8 =>
bd (m_X2_agrees n v1 v2 x2 t8 x4) (fun t9 =>
(if t9 = 0 then
some x6l.2
else
(if 1024 ≤ (x6l.2 0 0) then
some x6l.2
else
(if ix (x6l.2 0 0) 1024 then nm (su x6l.2 2 ((x6l.2 0 0)).toNatClampNeg t8) (fun u11 =>
nm (su u11 0 0 ((u11 0 0) + 1)) (fun u12 =>
nm (su u12 1 0 ((u12 1 0) &&& x6l.1)) (fun u13 =>
some u13))) else none)))))
else
some x6l.2)) (fun (t7 : St) =>
rc6 ((x6l.1 + 1), t7)))) n (0, u3)) (fun (t4 : St) =>
(if (t4 0 0) = 0 then
nm (su t4 1 0 0) (fun u5 =>
some u5)
else
some t4)))))
set_option maxHeartbeats 4000000 in
set_option maxRecDepth 100000 in
theorem c_X2_search (l : Launch) (D : va_G) (y : Nat → ClassId) (ek : EK) (n : Nat) (a0 : Nat → Nat) (a1 : Nat → Nat) (a2 : Nat → Nat) (v0 : St) (v1 : St) (v2 : St) (x2 : Int32) (x4 : Int32) (res : St) (hf : m_X2_search n v0 v1 v2 x2 x4 = some res) : CV l yX2_search wX2_search { frames := 4, cells := 0, slots := 0, locals := 88 } D y ek [.ref (a0 0), .ref (a1 0), .int x2, .ref (a2 0), .int x4] [bX2 y a0 v0, bX3 y a1 v1, bAB400 y a2 v2] [bX2 y a0 res, bX3 y a1 v1, bAB400 y a2 v2] 0 0 := by
  unfold m_X2_search at hf
  refine cv_of (cc := cX2_search) (maxL := 8) (by decide) rfl rfl (Nat.le_of_ble_eq_true rfl) ?_
  intro p e s m below meth c Q A F hret
  refine a_lv (lv' := [(0, .ref (a0 0)), (1, .ref (a1 0)), (2, .int x2), (3, .ref (a2 0)), (4, .int x4)]) rfl ?_
  refine a_aloadn (pc := 0) (j := 1) F dX2_search_0 rfl rfl ?_
  obtain ⟨t1, ht1, hf⟩ := bd_some hf
  refine a_callV (pc := 1) (bs' := [bX2 y a0 v0, bX3 y a1 v1, bAB400 y a2 v2]) (kb := 1) (j := 0) F [1] (c_X3_goneThings l D y ek n a1 _ _ ht1) (cwV 0 F.1.2.2.2.2 (gV q5_171 q3_82 q3_83 q1_3 q3_84) rfl rfl rfl (by decide +kernel) ⟨Nat.le_of_ble_eq_true rfl, Nat.le_of_ble_eq_true rfl⟩) rfl rfl rfl rfl (by decide) rfl rfl rfl rfl rfl rfl (Nat.le_of_ble_eq_true rfl) ⟨Nat.zero_le _, Nat.zero_le _⟩ dX2_search_1 ?_
  refine a_istore (pc := 4) (lv' := [(0, .ref (a0 0)), (1, .ref (a1 0)), (2, .int x2), (3, .ref (a2 0)), (4, .int x4), (5, .int t1)]) F [1, 2, 3, 4, 5, 0] dX2_search_4 (by decide) rfl ?_
  refine a_aloadn (pc := 6) (j := 0) F dX2_search_6 rfl rfl ?_
  refine a_iconst (pc := 7) F dX2_search_7 kc_0 ?_
  obtain ⟨u2, eu2, hf⟩ := nm_some hf
  refine a_put (pc := 8) (kb := 0) (j := 0) (f := 0) (ty := .int) (bs' := [bX2 y a0 u2, bX3 y a1 v1, bAB400 y a2 v2]) F iW_X2 rfl rfl rfl (by decide) (tl q2_15) (fun _ h => h) tyX2 tyX2_ok nmX2 rfl rfl rfl rfl (Nat.le_of_ble_eq_true rfl) (by rw [eu2]; rfl) dX2_search_8 ?_
  refine a_aloadn (pc := 11) (j := 0) F dX2_search_11 rfl rfl ?_
  refine a_iload (pc := 12) (j := 5) F dX2_search_12 rfl ?_
  obtain ⟨u3, eu3, hf⟩ := nm_some hf
  refine a_put (pc := 14) (kb := 0) (j := 0) (f := 1) (ty := .int) (bs' := [bX2 y a0 u3, bX3 y a1 v1, bAB400 y a2 v2]) F iW_X2 rfl rfl rfl (by decide) (tl q2_17) (fun _ h => h) tyX2 tyX2_ok nmX2 rfl rfl rfl rfl (Nat.le_of_ble_eq_true rfl) (by rw [eu3]; rfl) dX2_search_14 ?_
  refine a_iconst (pc := 17) F dX2_search_17 kc_0 ?_
  refine a_istore (pc := 18) (lv' := [(0, .ref (a0 0)), (1, .ref (a1 0)), (2, .int x2), (3, .ref (a2 0)), (4, .int x4), (5, .int t1), (6, .int 0)]) F [1, 2, 3, 4, 5, 6, 0] dX2_search_18 (by decide) rfl ?_
  refine a_join 109 (fun (t4 : St) => [(0, .ref (a0 0))]) (fun (t4 : St) => []) (fun (t4 : St) => [bX2 y a0 t4, bX3 y a1 v1, bAB400 y a2 v2]) hf (fun t4 hf => ?_) (fun t4 hf J4 => ?_)
  · try dsimp only at hf ⊢
    refine a_aloadn (pc := 109) (j := 0) F dX2_search_109 rfl rfl ?_
    refine a_get (pc := 110) (kb := 0) (j := 0) (f := 0) F iW_X2 rfl rfl rfl (by decide) (tl q2_15) (fun _ h => h) rfl dX2_search_110 ?_
    refine a_if_ne (pc := 113) (tgt := 121) F dX2_search_113 (by decide) (fun h => ?_) (fun h => ?_)
    · replace hf := it_neg h hf
      obtain rfl := Option.some.inj hf
      exact hret _ _ _ _ (Nat.zero_le _) (Nat.zero_le _) dX2_search_121
    · replace hf := it_pos h hf
      refine a_aloadn (pc := 116) (j := 0) F dX2_search_116 rfl rfl ?_
      refine a_iconst (pc := 117) F dX2_search_117 kc_0 ?_
      obtain ⟨u5, eu5, hf⟩ := nm_some hf
      refine a_put (pc := 118) (kb := 0) (j := 0) (f := 1) (ty := .int) (bs' := [bX2 y a0 u5, bX3 y a1 v1, bAB400 y a2 v2]) F iW_X2 rfl rfl rfl (by decide) (tl q2_17) (fun _ h => h) tyX2 tyX2_ok nmX2 rfl rfl rfl rfl (Nat.le_of_ble_eq_true rfl) (by rw [eu5]; rfl) dX2_search_118 ?_
      obtain rfl := Option.some.inj hf
      exact hret _ _ _ _ (Nat.zero_le _) (Nat.zero_le _) dX2_search_121
  · refine a_loop 20 (fun (x6l : Int32 × St) => [(0, .ref (a0 0)), (1, .ref (a1 0)), (2, .int x2), (3, .ref (a2 0)), (4, .int x4), (5, .int t1), (6, .int x6l.1)]) (fun (x6l : Int32 × St) => [bX2 y a0 x6l.2, bX3 y a1 v1, bAB400 y a2 v2]) (fun rc6 x6l ih6 hf => ?_) hf rfl rfl
    try dsimp only at hf ⊢
    refine a_iload (pc := 20) (j := 6) F dX2_search_20 rfl ?_
    refine a_iload (pc := 22) (j := 5) F dX2_search_22 rfl ?_
    refine a_icmp_gt (pc := 24) (tgt := 109) F dX2_search_24 (by decide) (fun h => ?_) (fun h => ?_)
    · replace hf := it_pos h hf
      refine a_sub [0] rfl ?_
      obtain rfl := Option.some.inj hf
      exact J4
    · replace hf := it_neg h hf
      refine a_iload (pc := 27) (j := 6) F dX2_search_27 rfl ?_
      refine a_iload (pc := 29) (j := 5) F dX2_search_29 rfl ?_
      refine a_iand (pc := 31) F dX2_search_31 ?_
      refine a_iload (pc := 32) (j := 6) F dX2_search_32 rfl ?_
      refine a_join 103 (fun (t7 : St) => [(0, .ref (a0 0)), (1, .ref (a1 0)), (2, .int x2), (3, .ref (a2 0)), (4, .int x4), (5, .int t1), (6, .int x6l.1)]) (fun (t7 : St) => []) (fun (t7 : St) => [bX2 y a0 t7, bX3 y a1 v1, bAB400 y a2 v2]) hf (fun t7 hf => ?_) (fun t7 hf J7 => ?_)
      · try dsimp only at hf ⊢
        refine a_iinc (pc := 103) (j := 6) (v := (x6l.1 + 1)) (lv' := [(0, .ref (a0 0)), (1, .ref (a1 0)), (2, .int x2), (3, .ref (a2 0)), (4, .int x4), (5, .int t1), (6, .int (x6l.1 + 1))]) F [1, 2, 3, 4, 5, 6, 0] dX2_search_103 rfl ki_1 (by decide) rfl ?_
        refine a_goto (pc := 106) (tgt := 20) F dX2_search_106 (by decide) ?_
        exact ih6 ((x6l.1 + 1), t7) hf
      · refine a_icmp_eq (pc := 34) (tgt := 40) F dX2_search_34 (by decide) (fun h => ?_) (fun h => ?_)
        · replace hf := it_pos h hf
          refine a_aloadn (pc := 40) (j := 1) F dX2_search_40 rfl rfl ?_
          refine a_iload (pc := 41) (j := 6) F dX2_search_41 rfl ?_
          obtain ⟨t8, ht8, hf⟩ := bd_some hf
          refine a_callV (pc := 43) (bs' := [bX2 y a0 x6l.2, bX3 y a1 v1, bAB400 y a2 v2]) (kb := 1) (j := 0) F [1] (c_X3_weightOf l D y ek n a1 _ _ _ ht8) (cwV 1 F.1.2.2.2.2 (gV q5_172 q5_96 q5_97 q1_3 q5_98) rfl rfl rfl (by decide +kernel) ⟨Nat.le_of_ble_eq_true rfl, Nat.le_of_ble_eq_true rfl⟩) rfl rfl rfl rfl (by decide) rfl rfl rfl rfl rfl rfl (Nat.le_of_ble_eq_true rfl) ⟨Nat.zero_le _, Nat.zero_le _⟩ dX2_search_43 ?_
          refine a_istore (pc := 46) (lv' := [(0, .ref (a0 0)), (1, .ref (a1 0)), (2, .int x2), (3, .ref (a2 0)), (4, .int x4), (5, .int t1), (6, .int x6l.1), (7, .int t8)]) F [1, 2, 3, 4, 5, 6, 7, 0] dX2_search_46 (by decide) rfl ?_
          refine a_aloadn (pc := 48) (j := 1) F dX2_search_48 rfl rfl ?_
          refine a_iloadn (pc := 49) (j := 2) F dX2_search_49 rfl rfl ?_
          refine a_iload (pc := 50) (j := 7) F dX2_search_50 rfl ?_
          refine a_aloadn (pc := 52) (j := 3) F dX2_search_52 rfl rfl ?_
          refine a_iload (pc := 53) (j := 4) F dX2_search_53 rfl ?_
          obtain ⟨t9, ht9, hf⟩ := bd_some hf
          refine a_callS (pc := 55) (bs' := [bX2 y a0 x6l.2, bX3 y a1 v1, bAB400 y a2 v2]) F [1, 2] (c_X2_agrees l D y ek n a1 a2 _ _ _ _ _ _ ht9) (va_cwS 5 F.1.2.2.2.2 (gS q5_173 q5_174 q1_9 q5_175) rfl rfl rfl (by decide +kernel) ⟨Nat.le_of_ble_eq_true rfl, Nat.le_of_ble_eq_true rfl⟩) (by decide) rfl rfl rfl rfl rfl rfl (Nat.le_of_ble_eq_true rfl) ⟨Nat.zero_le _, Nat.zero_le _⟩ dX2_search_55 ?_
          refine a_if_eq (pc := 58) (tgt := 103) F dX2_search_58 (by decide) (fun h => ?_) (fun h => ?_)
          · replace hf := it_pos h hf
            refine a_sub [0, 1, 2, 3, 4, 5, 6] rfl ?_
            obtain rfl := Option.some.inj hf
            exact J7
          · replace hf := it_neg h hf
            refine a_aloadn (pc := 61) (j := 0) F dX2_search_61 rfl rfl ?_
            refine a_get (pc := 62) (kb := 0) (j := 0) (f := 0) F iW_X2 rfl rfl rfl (by decide) (tl q2_15) (fun _ h => h) rfl dX2_search_62 ?_
            refine a_sipush (pc := 65) F dX2_search_65 ks_1024 ?_
            refine a_icmp_ge (pc := 68) (tgt := 103) F dX2_search_68 (by decide) (fun h => ?_) (fun h => ?_)
            · replace hf := it_pos h hf
              refine a_sub [0, 1, 2, 3, 4, 5, 6] rfl ?_
              obtain rfl := Option.some.inj hf
              exact J7
            · replace hf := it_neg h hf
              refine a_aloadn (pc := 71) (j := 0) F dX2_search_71 rfl rfl ?_
              refine a_get (pc := 72) (kb := 0) (j := 0) (f := 2) F iW_X2 rfl rfl rfl (by decide) (tl q2_19) (fun _ h => h) rfl dX2_search_72 ?_
              refine a_aloadn (pc := 75) (j := 0) F dX2_search_75 rfl rfl ?_
              refine a_get (pc := 76) (kb := 0) (j := 0) (f := 0) F iW_X2 rfl rfl rfl (by decide) (tl q2_15) (fun _ h => h) rfl dX2_search_76 ?_
              refine a_iload (pc := 79) (j := 7) F dX2_search_79 rfl ?_
              obtain ⟨h10, hf⟩ := gd_some hf
              obtain ⟨u11, eu11, hf⟩ := nm_some hf
              refine a_iast (pc := 81) (kb := 0) (j := 1) (bs' := [bX2 y a0 u11, bX3 y a1 v1, bAB400 y a2 v2]) F rfl rfl h10 (by rw [eu11]; rfl) dX2_search_81 ?_
              refine a_aloadn (pc := 82) (j := 0) F dX2_search_82 rfl rfl ?_
              refine a_dup (pc := 83) F dX2_search_83 rfl ?_
              refine a_get (pc := 84) (kb := 0) (j := 0) (f := 0) F iW_X2 rfl rfl rfl (by decide) (tl q2_15) (fun _ h => h) rfl dX2_search_84 ?_
              refine a_iconst (pc := 87) F dX2_search_87 kc_1 ?_
              refine a_iadd (pc := 88) F dX2_search_88 ?_
              obtain ⟨u12, eu12, hf⟩ := nm_some hf
              refine a_put (pc := 89) (kb := 0) (j := 0) (f := 0) (ty := .int) (bs' := [bX2 y a0 u12, bX3 y a1 v1, bAB400 y a2 v2]) F iW_X2 rfl rfl rfl (by decide) (tl q2_15) (fun _ h => h) tyX2 tyX2_ok nmX2 rfl rfl rfl rfl (Nat.le_of_ble_eq_true rfl) (by rw [eu12]; rfl) dX2_search_89 ?_
              refine a_aloadn (pc := 92) (j := 0) F dX2_search_92 rfl rfl ?_
              refine a_dup (pc := 93) F dX2_search_93 rfl ?_
              refine a_get (pc := 94) (kb := 0) (j := 0) (f := 1) F iW_X2 rfl rfl rfl (by decide) (tl q2_17) (fun _ h => h) rfl dX2_search_94 ?_
              refine a_iload (pc := 97) (j := 6) F dX2_search_97 rfl ?_
              refine a_iand (pc := 99) F dX2_search_99 ?_
              obtain ⟨u13, eu13, hf⟩ := nm_some hf
              refine a_put (pc := 100) (kb := 0) (j := 0) (f := 1) (ty := .int) (bs' := [bX2 y a0 u13, bX3 y a1 v1, bAB400 y a2 v2]) F iW_X2 rfl rfl rfl (by decide) (tl q2_17) (fun _ h => h) tyX2 tyX2_ok nmX2 rfl rfl rfl rfl (Nat.le_of_ble_eq_true rfl) (by rw [eu13]; rfl) dX2_search_100 ?_
              refine a_sub [0, 1, 2, 3, 4, 5, 6] rfl ?_
              obtain rfl := Option.some.inj hf
              exact J7
        · replace hf := it_neg h hf
          refine a_goto (pc := 37) (tgt := 103) F dX2_search_37 (by decide) ?_
          obtain rfl := Option.some.inj hf
          exact J7

abbrev wX2_greatestPart : List Cond := Cond.code yX2_greatestPart cX2_greatestPart 7 (some .int) :: WALL
def m_X2_greatestPart (n : Nat) (v0 : St) (v1 : St) (x2 : Int32) (x3 : Int32) : Option (Int32 × St) :=
bd (lp (fun (rc10 : Int32 × St → Option (St)) (x10l : Int32 × St) =>
(if 10 < x10l.1 then
some x10l.2
else
(if ix x10l.1 11 then nm (su x10l.2 3 (x10l.1).toNatClampNeg 0) (fun u12 =>
rc10 ((x10l.1 + 1), u12)) else none))) n (0, v0)) (fun (t1 : St) =>
lp (fun (rc2 : Int32 × Int32 × St → Option (Int32 × St)) (x2l : Int32 × Int32 × St) =>
(if (x2l.2.2 0 0) ≤ x2l.2.1 then
some (x2l.1, x2l.2.2)
else
(if ix x2l.2.1 1024 then bd (m_X2_heightWith n v1 x2 (x2l.2.2 2 (x2l.2.1).toNatClampNeg) x3) (fun t4 =>
(if ix t4 11 then (if ix t4 11 then nm (su x2l.2.2 3 (t4).toNatClampNeg ((x2l.2.2 3 (t4).toNatClampNeg) + 1)) (fun u7 =>
(if ix t4 11 then nm (x_max x2l.1 (u7 3 (t4).toNatClampNeg)) (fun x4_9 =>
rc2 (x4_9, (x2l.2.1 + 1), u7)) else none)) else none) else none)) else none))) n (0, 0, t1))
set_option maxHeartbeats 4000000 in
set_option maxRecDepth 100000 in
theorem c_X2_greatestPart (l : Launch) (D : va_G) (y : Nat → ClassId) (ek : EK) (n : Nat) (a0 : Nat → Nat) (a1 : Nat → Nat) (v0 : St) (v1 : St) (x2 : Int32) (x3 : Int32) (res : Int32 × St) (hf : m_X2_greatestPart n v0 v1 x2 x3 = some res) : CI l yX2_greatestPart wX2_greatestPart { frames := 3, cells := 0, slots := 0, locals := 63 } D y ek [.ref (a0 0), .ref (a1 0), .int x2, .int x3] [bX2 y a0 v0, bX3 y a1 v1] (res.1) [bX2 y a0 res.2, bX3 y a1 v1] 0 0 := by
  unfold m_X2_greatestPart at hf
  refine ci_of (cc := cX2_greatestPart) (maxL := 7) (by decide) rfl rfl (Nat.le_of_ble_eq_true rfl) ?_
  intro p e s m below meth c Q A F hret
  refine a_lv (lv' := [(0, .ref (a0 0)), (1, .ref (a1 0)), (2, .int x2), (3, .int x3)]) rfl ?_
  refine a_iconst (pc := 0) F dX2_greatestPart_0 kc_0 ?_
  refine a_istore (pc := 1) (lv' := [(0, .ref (a0 0)), (1, .ref (a1 0)), (2, .int x2), (3, .int x3), (4, .int 0)]) F [1, 2, 3, 4, 0] dX2_greatestPart_1 (by decide) rfl ?_
  refine a_join 24 (fun (t1 : St) => [(0, .ref (a0 0)), (1, .ref (a1 0)), (2, .int x2), (3, .int x3)]) (fun (t1 : St) => []) (fun (t1 : St) => [bX2 y a0 t1, bX3 y a1 v1]) hf (fun t1 hf => ?_) (fun t1 hf J1 => ?_)
  · try dsimp only at hf ⊢
    refine a_iconst (pc := 24) F dX2_greatestPart_24 kc_0 ?_
    refine a_istore (pc := 25) (lv' := [(0, .ref (a0 0)), (1, .ref (a1 0)), (2, .int x2), (3, .int x3), (4, .int 0)]) F [1, 2, 3, 4, 0] dX2_greatestPart_25 (by decide) rfl ?_
    refine a_iconst (pc := 27) F dX2_greatestPart_27 kc_0 ?_
    refine a_istore (pc := 28) (lv' := [(0, .ref (a0 0)), (1, .ref (a1 0)), (2, .int x2), (3, .int x3), (4, .int 0), (5, .int 0)]) F [1, 2, 3, 4, 5, 0] dX2_greatestPart_28 (by decide) rfl ?_
    refine a_loop 30 (fun (x2l : Int32 × Int32 × St) => [(0, .ref (a0 0)), (1, .ref (a1 0)), (2, .int x2), (3, .int x3), (4, .int x2l.1), (5, .int x2l.2.1)]) (fun (x2l : Int32 × Int32 × St) => [bX2 y a0 x2l.2.2, bX3 y a1 v1]) (fun rc2 x2l ih2 hf => ?_) hf rfl rfl
    try dsimp only at hf ⊢
    refine a_iload (pc := 30) (j := 5) F dX2_greatestPart_30 rfl ?_
    refine a_aloadn (pc := 32) (j := 0) F dX2_greatestPart_32 rfl rfl ?_
    refine a_get (pc := 33) (kb := 0) (j := 0) (f := 0) F iW_X2 rfl rfl rfl (by decide) (tl q2_15) (fun _ h => h) rfl dX2_greatestPart_33 ?_
    refine a_icmp_ge (pc := 36) (tgt := 85) F dX2_greatestPart_36 (by decide) (fun h => ?_) (fun h => ?_)
    · replace hf := it_pos h hf
      refine a_iload (pc := 85) (j := 4) F dX2_greatestPart_85 rfl ?_
      obtain rfl := Option.some.inj hf
      exact hret _ _ _ _ (Nat.zero_le _) (Nat.zero_le _) rfl dX2_greatestPart_87
    · replace hf := it_neg h hf
      refine a_aloadn (pc := 39) (j := 1) F dX2_greatestPart_39 rfl rfl ?_
      refine a_iloadn (pc := 40) (j := 2) F dX2_greatestPart_40 rfl rfl ?_
      refine a_aloadn (pc := 41) (j := 0) F dX2_greatestPart_41 rfl rfl ?_
      refine a_get (pc := 42) (kb := 0) (j := 0) (f := 2) F iW_X2 rfl rfl rfl (by decide) (tl q2_19) (fun _ h => h) rfl dX2_greatestPart_42 ?_
      refine a_iload (pc := 45) (j := 5) F dX2_greatestPart_45 rfl ?_
      obtain ⟨h3, hf⟩ := gd_some hf
      refine a_iald (pc := 47) (kb := 0) (j := 1) F rfl rfl h3 dX2_greatestPart_47 ?_
      refine a_iloadn (pc := 48) (j := 3) F dX2_greatestPart_48 rfl rfl ?_
      obtain ⟨t4, ht4, hf⟩ := bd_some hf
      refine a_callS (pc := 49) (bs' := [bX2 y a0 x2l.2.2, bX3 y a1 v1]) F [1] (c_X2_heightWith l D y ek n a1 _ _ _ _ _ ht4) (va_cwS 4 F.1.2.2.2.2 (gS q5_176 q5_177 q1_9 q5_178) rfl rfl rfl (by decide +kernel) ⟨Nat.le_of_ble_eq_true rfl, Nat.le_of_ble_eq_true rfl⟩) (by decide) rfl rfl rfl rfl rfl rfl (Nat.le_of_ble_eq_true rfl) ⟨Nat.zero_le _, Nat.zero_le _⟩ dX2_greatestPart_49 ?_
      refine a_istore (pc := 52) (lv' := [(0, .ref (a0 0)), (1, .ref (a1 0)), (2, .int x2), (3, .int x3), (4, .int x2l.1), (5, .int x2l.2.1), (6, .int t4)]) F [1, 2, 3, 4, 5, 6, 0] dX2_greatestPart_52 (by decide) rfl ?_
      refine a_aloadn (pc := 54) (j := 0) F dX2_greatestPart_54 rfl rfl ?_
      refine a_get (pc := 55) (kb := 0) (j := 0) (f := 3) F iW_X2 rfl rfl rfl (by decide) (tl q2_20) (fun _ h => h) rfl dX2_greatestPart_55 ?_
      refine a_iload (pc := 58) (j := 6) F dX2_greatestPart_58 rfl ?_
      refine a_dup2 (pc := 60) F dX2_greatestPart_60 rfl rfl ?_
      obtain ⟨h5, hf⟩ := gd_some hf
      refine a_iald (pc := 61) (kb := 0) (j := 2) F rfl rfl h5 dX2_greatestPart_61 ?_
      refine a_iconst (pc := 62) F dX2_greatestPart_62 kc_1 ?_
      refine a_iadd (pc := 63) F dX2_greatestPart_63 ?_
      obtain ⟨h6, hf⟩ := gd_some hf
      obtain ⟨u7, eu7, hf⟩ := nm_some hf
      refine a_iast (pc := 64) (kb := 0) (j := 2) (bs' := [bX2 y a0 u7, bX3 y a1 v1]) F rfl rfl h6 (by rw [eu7]; rfl) dX2_greatestPart_64 ?_
      refine a_iload (pc := 65) (j := 4) F dX2_greatestPart_65 rfl ?_
      refine a_aloadn (pc := 67) (j := 0) F dX2_greatestPart_67 rfl rfl ?_
      refine a_get (pc := 68) (kb := 0) (j := 0) (f := 3) F iW_X2 rfl rfl rfl (by decide) (tl q2_20) (fun _ h => h) rfl dX2_greatestPart_68 ?_
      refine a_iload (pc := 71) (j := 6) F dX2_greatestPart_71 rfl ?_
      obtain ⟨h8, hf⟩ := gd_some hf
      refine a_iald (pc := 73) (kb := 0) (j := 2) F rfl rfl h8 dX2_greatestPart_73 ?_
      refine a_mmax (pc := 74) F (tl q5_195) (tl q2_173) (tl q1_22) (tl q_math_max) (Nat.le_of_ble_eq_true rfl) (Nat.le_of_ble_eq_true rfl) (Nat.zero_le _) (Nat.zero_le _) dX2_greatestPart_74 ?_
      obtain ⟨x4_9, ex4_9, hf⟩ := nm_some hf
      refine a_nmi ex4_9 ?_
      refine a_istore (pc := 77) (lv' := [(0, .ref (a0 0)), (1, .ref (a1 0)), (2, .int x2), (3, .int x3), (4, .int x4_9), (5, .int x2l.2.1), (6, .int t4)]) F [1, 2, 3, 4, 0, 5, 6] dX2_greatestPart_77 (by decide) rfl ?_
      refine a_iinc (pc := 79) (j := 5) (v := (x2l.2.1 + 1)) (lv' := [(0, .ref (a0 0)), (1, .ref (a1 0)), (2, .int x2), (3, .int x3), (4, .int x4_9), (5, .int (x2l.2.1 + 1)), (6, .int t4)]) F [1, 2, 3, 4, 5, 0, 6] dX2_greatestPart_79 rfl ki_1 (by decide) rfl ?_
      refine a_goto (pc := 82) (tgt := 30) F dX2_greatestPart_82 (by decide) ?_
      refine a_sub [0, 1, 2, 3, 4, 5] rfl ?_
      exact ih2 (x4_9, (x2l.2.1 + 1), u7) hf
  · refine a_loop 3 (fun (x10l : Int32 × St) => [(0, .ref (a0 0)), (1, .ref (a1 0)), (2, .int x2), (3, .int x3), (4, .int x10l.1)]) (fun (x10l : Int32 × St) => [bX2 y a0 x10l.2, bX3 y a1 v1]) (fun rc10 x10l ih10 hf => ?_) hf rfl rfl
    try dsimp only at hf ⊢
    refine a_iload (pc := 3) (j := 4) F dX2_greatestPart_3 rfl ?_
    refine a_bipush (pc := 5) F dX2_greatestPart_5 kb_10 ?_
    refine a_icmp_gt (pc := 7) (tgt := 24) F dX2_greatestPart_7 (by decide) (fun h => ?_) (fun h => ?_)
    · replace hf := it_pos h hf
      refine a_sub [0, 1, 2, 3] rfl ?_
      obtain rfl := Option.some.inj hf
      exact J1
    · replace hf := it_neg h hf
      refine a_aloadn (pc := 10) (j := 0) F dX2_greatestPart_10 rfl rfl ?_
      refine a_get (pc := 11) (kb := 0) (j := 0) (f := 3) F iW_X2 rfl rfl rfl (by decide) (tl q2_20) (fun _ h => h) rfl dX2_greatestPart_11 ?_
      refine a_iload (pc := 14) (j := 4) F dX2_greatestPart_14 rfl ?_
      refine a_iconst (pc := 16) F dX2_greatestPart_16 kc_0 ?_
      obtain ⟨h11, hf⟩ := gd_some hf
      obtain ⟨u12, eu12, hf⟩ := nm_some hf
      refine a_iast (pc := 17) (kb := 0) (j := 2) (bs' := [bX2 y a0 u12, bX3 y a1 v1]) F rfl rfl h11 (by rw [eu12]; rfl) dX2_greatestPart_17 ?_
      refine a_iinc (pc := 18) (j := 4) (v := (x10l.1 + 1)) (lv' := [(0, .ref (a0 0)), (1, .ref (a1 0)), (2, .int x2), (3, .int x3), (4, .int (x10l.1 + 1))]) F [1, 2, 3, 4, 0] dX2_greatestPart_18 rfl ki_1 (by decide) rfl ?_
      refine a_goto (pc := 21) (tgt := 3) F dX2_greatestPart_21 (by decide) ?_
      exact ih10 ((x10l.1 + 1), u12) hf

abbrev wX2_bestAsk : List Cond := Cond.code yX2_bestAsk cX2_bestAsk 7 (some .int) :: WALL
def m_X2_bestAsk (n : Nat) (v0 : St) (v1 : St) (x2 : Int32) : Option (Int32 × St) :=
lp (fun (rc1 : Int32 × Int32 × Int32 × St → Option (Int32 × St)) (x1l : Int32 × Int32 × Int32 × St) =>
(if 20 < x1l.2.2.1 then
some (x1l.1, x1l.2.2.2)
else
bd (m_X2_greatestPart n x1l.2.2.2 v1 x2 x1l.2.2.1) (fun t2 =>
bd ((if x1l.2.1 ≤ t2.1 then
some (x1l.1, x1l.2.1)
else
some (x1l.2.2.1, t2.1))) (fun (t3 : Int32 × Int32) =>
rc1 (t3.1, t3.2, (x1l.2.2.1 + 1), t2.2))))) n ((-1), 1025, 0, v0)
set_option maxHeartbeats 4000000 in
set_option maxRecDepth 100000 in
theorem c_X2_bestAsk (l : Launch) (D : va_G) (y : Nat → ClassId) (ek : EK) (n : Nat) (a0 : Nat → Nat) (a1 : Nat → Nat) (v0 : St) (v1 : St) (x2 : Int32) (res : Int32 × St) (hf : m_X2_bestAsk n v0 v1 x2 = some res) : CI l yX2_bestAsk wX2_bestAsk { frames := 4, cells := 0, slots := 0, locals := 89 } D y ek [.ref (a0 0), .ref (a1 0), .int x2] [bX2 y a0 v0, bX3 y a1 v1] (res.1) [bX2 y a0 res.2, bX3 y a1 v1] 0 0 := by
  unfold m_X2_bestAsk at hf
  refine ci_of (cc := cX2_bestAsk) (maxL := 7) (by decide) rfl rfl (Nat.le_of_ble_eq_true rfl) ?_
  intro p e s m below meth c Q A F hret
  refine a_lv (lv' := [(0, .ref (a0 0)), (1, .ref (a1 0)), (2, .int x2)]) rfl ?_
  refine a_iconst (pc := 0) F dX2_bestAsk_0 kc_m1 ?_
  refine a_istoren (pc := 1) (lv' := [(0, .ref (a0 0)), (1, .ref (a1 0)), (2, .int x2), (3, .int (-1))]) F [1, 2, 3, 0] dX2_bestAsk_1 rfl (by decide) rfl ?_
  refine a_sipush (pc := 2) F dX2_bestAsk_2 ks_1025 ?_
  refine a_istore (pc := 5) (lv' := [(0, .ref (a0 0)), (1, .ref (a1 0)), (2, .int x2), (3, .int (-1)), (4, .int 1025)]) F [1, 2, 3, 4, 0] dX2_bestAsk_5 (by decide) rfl ?_
  refine a_iconst (pc := 7) F dX2_bestAsk_7 kc_0 ?_
  refine a_istore (pc := 8) (lv' := [(0, .ref (a0 0)), (1, .ref (a1 0)), (2, .int x2), (3, .int (-1)), (4, .int 1025), (5, .int 0)]) F [1, 2, 3, 4, 5, 0] dX2_bestAsk_8 (by decide) rfl ?_
  refine a_loop 10 (fun (x1l : Int32 × Int32 × Int32 × St) => [(0, .ref (a0 0)), (1, .ref (a1 0)), (2, .int x2), (3, .int x1l.1), (4, .int x1l.2.1), (5, .int x1l.2.2.1)]) (fun (x1l : Int32 × Int32 × Int32 × St) => [bX2 y a0 x1l.2.2.2, bX3 y a1 v1]) (fun rc1 x1l ih1 hf => ?_) hf rfl rfl
  try dsimp only at hf ⊢
  refine a_iload (pc := 10) (j := 5) F dX2_bestAsk_10 rfl ?_
  refine a_bipush (pc := 12) F dX2_bestAsk_12 kb_20 ?_
  refine a_icmp_gt (pc := 14) (tgt := 47) F dX2_bestAsk_14 (by decide) (fun h => ?_) (fun h => ?_)
  · replace hf := it_pos h hf
    refine a_iloadn (pc := 47) (j := 3) F dX2_bestAsk_47 rfl rfl ?_
    obtain rfl := Option.some.inj hf
    exact hret _ _ _ _ (Nat.zero_le _) (Nat.zero_le _) rfl dX2_bestAsk_48
  · replace hf := it_neg h hf
    refine a_aloadn (pc := 17) (j := 0) F dX2_bestAsk_17 rfl rfl ?_
    refine a_aloadn (pc := 18) (j := 1) F dX2_bestAsk_18 rfl rfl ?_
    refine a_iloadn (pc := 19) (j := 2) F dX2_bestAsk_19 rfl rfl ?_
    refine a_iload (pc := 20) (j := 5) F dX2_bestAsk_20 rfl ?_
    obtain ⟨t2, ht2, hf⟩ := bd_some hf
    refine a_callV (pc := 22) (bs' := [bX2 y a0 t2.2, bX3 y a1 v1]) (kb := 0) (j := 0) F [0, 1] (c_X2_greatestPart l D y ek n a0 a1 _ _ _ _ _ ht2) (cwV 3 F.1.2.2.2.2 (gV q5_191 q5_193 qs_21 q1_9 q5_194) rfl rfl rfl (by decide +kernel) ⟨Nat.le_of_ble_eq_true rfl, Nat.le_of_ble_eq_true rfl⟩) rfl rfl rfl rfl (by decide) rfl rfl rfl rfl rfl rfl (Nat.le_of_ble_eq_true rfl) ⟨Nat.zero_le _, Nat.zero_le _⟩ dX2_bestAsk_22 ?_
    refine a_istore (pc := 25) (lv' := [(0, .ref (a0 0)), (1, .ref (a1 0)), (2, .int x2), (3, .int x1l.1), (4, .int x1l.2.1), (5, .int x1l.2.2.1), (6, .int t2.1)]) F [1, 2, 3, 4, 5, 6, 0] dX2_bestAsk_25 (by decide) rfl ?_
    refine a_iload (pc := 27) (j := 6) F dX2_bestAsk_27 rfl ?_
    refine a_iload (pc := 29) (j := 4) F dX2_bestAsk_29 rfl ?_
    refine a_join 41 (fun (t3 : Int32 × Int32) => [(0, .ref (a0 0)), (1, .ref (a1 0)), (2, .int x2), (3, .int t3.1), (4, .int t3.2), (5, .int x1l.2.2.1)]) (fun (t3 : Int32 × Int32) => []) (fun (t3 : Int32 × Int32) => [bX2 y a0 t2.2, bX3 y a1 v1]) hf (fun t3 hf => ?_) (fun t3 hf J3 => ?_)
    · try dsimp only at hf ⊢
      refine a_iinc (pc := 41) (j := 5) (v := (x1l.2.2.1 + 1)) (lv' := [(0, .ref (a0 0)), (1, .ref (a1 0)), (2, .int x2), (3, .int t3.1), (4, .int t3.2), (5, .int (x1l.2.2.1 + 1))]) F [1, 2, 3, 4, 5, 0] dX2_bestAsk_41 rfl ki_1 (by decide) rfl ?_
      refine a_goto (pc := 44) (tgt := 10) F dX2_bestAsk_44 (by decide) ?_
      exact ih1 (t3.1, t3.2, (x1l.2.2.1 + 1), t2.2) hf
    · refine a_icmp_ge (pc := 31) (tgt := 41) F dX2_bestAsk_31 (by decide) (fun h => ?_) (fun h => ?_)
      · replace hf := it_pos h hf
        refine a_sub [0, 1, 2, 3, 4, 5] rfl ?_
        obtain rfl := Option.some.inj hf
        exact J3
      · replace hf := it_neg h hf
        refine a_iload (pc := 34) (j := 5) F dX2_bestAsk_34 rfl ?_
        refine a_istoren (pc := 36) (lv' := [(0, .ref (a0 0)), (1, .ref (a1 0)), (2, .int x2), (3, .int x1l.2.2.1), (4, .int x1l.2.1), (5, .int x1l.2.2.1), (6, .int t2.1)]) F [1, 2, 3, 0, 4, 5, 6] dX2_bestAsk_36 rfl (by decide) rfl ?_
        refine a_iload (pc := 37) (j := 6) F dX2_bestAsk_37 rfl ?_
        refine a_istore (pc := 39) (lv' := [(0, .ref (a0 0)), (1, .ref (a1 0)), (2, .int x2), (3, .int x1l.2.2.1), (4, .int t2.1), (5, .int x1l.2.2.1), (6, .int t2.1)]) F [1, 2, 3, 4, 0, 5, 6] dX2_bestAsk_39 (by decide) rfl ?_
        refine a_sub [0, 1, 2, 3, 4, 5] rfl ?_
        obtain rfl := Option.some.inj hf
        exact J3
